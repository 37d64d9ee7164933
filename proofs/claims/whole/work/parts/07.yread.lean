/-! ===== the reference: reading a word, mending it ===== -/
section YR
variable {fn fc ff : Int32} {L pw py : Nat → Int32} {B : Nat → Nat}
theorem dy_re1 {post : SY → Prop} {J : Int32 → (Nat → Int32) → (Nat → Int32) → (Nat → Int32) → (Nat → Int32) → Prop} {w : Nat → Int32} {x2 : Int32} (hL : ∀ j, L j = nI (B j)) (hB : ∀ j, B j < 2) {p i j : Nat} (hq : p + 8 + 3 * j + 3 ≤ 300) (hi : i < 7) (hj : j < 100) (h : J (nI (i + 1)) L (upd w i (nI (ds_rb B (p + 8 + 3 * j) 3 ^^^ ds_wh j))) pw py) : ∀ d b : Nat, b + d = 3 → wY_read_21 post J (nI p) x2 (nI i) (nI j) fn fc ff L w pw py (d + 1) (nI (ds_rb B (p + 8 + 3 * j) b)) (nI b) := by
  intro d
  induction d with
  | zero =>
    intro b hb
    have hb' : b = 3 := by omega
    subst hb'
    refine br_t (nI_le (a := 3) (Nat.le_refl _) (by omega)) (dy_scr hj ⟨vp_in_nI (by omega) (by omega), nm_r (e' := upd w i (nI (ds_rb B (p + 8 + 3 * j) 3 ^^^ ds_wh j))) ?_ (nm_r (nI_1 i) h)⟩)
    rw [nI_clamp (by omega), nx_xor]
  | succ d ih =>
    intro b hb
    have ep : ((nI p + 8) + (3 * nI j)) + nI b = nI (p + 8 + 3 * j + b) := by
      rw [show nI p + 8 = nI (p + 8) from nI_add p 8, show (3 : Int32) * nI j = nI (3 * j) from pk_mul 3 j, nI_add, nI_add]
    have hb2 := hB (p + 8 + 3 * j + b)
    have ev : ∀ x : Nat, B (p + 8 + 3 * j + b) = x → (2 * nI (ds_rb B (p + 8 + 3 * j) b)) + nI x = nI (ds_rb B (p + 8 + 3 * j) (b + 1)) := by
      intro x hx
      rw [show (2 : Int32) * nI (ds_rb B (p + 8 + 3 * j) b) = nI (2 * ds_rb B (p + 8 + 3 * j) b) from pk_mul 2 _, nI_add, ← hx, Nat.mul_comm]
      rfl
    refine br_f (nI_ge (b := 3) (by omega) (by omega)) ?_
    rw [ep, nI_clamp (by omega), hL]
    exact ⟨vp_in_nI (by omega) (by omega), pk_eq (B (p + 8 + 3 * j + b)) 0 (fun z => nm_r (ev 0 z) (nm_r (nI_1 b) (ih (b + 1) (by omega)))) (fun z => nm_r (ev 1 (by omega)) (nm_r (nI_1 b) (ih (b + 1) (by omega))))⟩
theorem dy_re2 {post : SY → Prop} (hL : ∀ j, L j = nI (B j)) (hB : ∀ j, B j < 2) {p f : Nat} (hp : p + 50 ≤ 300) (hf : f < 2) (h : ∀ w : Nat → Int32, (∀ i, i < 7 → w i = nI (ds_R B p f i)) → post (fn, fc, ff, L, w, pw, py)) : ∀ (d i : Nat) (w : Nat → Int32), i + d = 7 → (∀ k, k < i → w k = nI (ds_R B p f k)) → wY_read_2 post (nI p) (nI f) fn fc ff (d + 1) (nI i) L w pw py := by
  intro d
  induction d with
  | zero =>
    intro i w hi hw
    have hi' : i = 7 := by omega
    subst hi'
    exact br_t (nI_le (a := 7) (Nat.le_refl _) (by omega)) (h w hw)
  | succ d ih =>
    intro i w hi hw
    have e1 : (2 : Int32) * nI i + nI f = nI (2 * i + f) := by
      rw [show (2 : Int32) * nI i = nI (2 * i) from pk_mul 2 i, nI_add]
    refine br_f (nI_ge (b := 7) (by omega) (by omega)) (nm_r e1 ⟨4, dy_re1 hL hB (by omega) (by omega) (by omega) (ih (i + 1) _ (by omega) (fun k hk => ?_)) 3 0 rfl⟩)
    by_cases z : k = i
    · subst z; exact pk_us
    · rw [pk_un z]; exact hw k (by omega)
theorem dy_re {post : SY → Prop} {w : Nat → Int32} (hL : ∀ j, L j = nI (B j)) (hB : ∀ j, B j < 2) {p f : Nat} (hp : p + 50 ≤ 300) (hf : f < 2) (h : ∀ w : Nat → Int32, (∀ i, i < 7 → w i = nI (ds_R B p f i)) → post (fn, fc, ff, L, w, pw, py)) : wpY_read post (fn, fc, ff, L, w, pw, py) (nI p) (nI f) :=
  ⟨8, dy_re2 hL hB hp hf h 7 0 w rfl (fun k hk => absurd hk (Nat.not_lt_zero k))⟩
end YR
/-! one try: the words, their distance -/
def ds_un (f : Nat → Nat) (k x : Nat) : Nat → Nat := fun j => if j = k then x else f j
theorem ds_us {f : Nat → Nat} {k x : Nat} : ds_un f k x k = x := if_pos rfl
theorem ds_unn {f : Nat → Nat} {k x j : Nat} (h : j ≠ k) : ds_un f k x j = f j := if_neg h
def ds_ch (v : Nat → Nat) (i x k y : Nat) : Nat → Nat := ds_un (ds_un v i (v i ^^^ x)) k (ds_un v i (v i ^^^ x) k ^^^ y)
theorem ds_unI {w : Nat → Int32} {v : Nat → Nat} (k x : Nat) (hx : x < 8) (h : ∀ j, j < 7 → w j = nI (v j) ∧ v j < 8) : ∀ j, j < 7 → upd w k (nI x) j = nI (ds_un v k x j) ∧ ds_un v k x j < 8 := by
  intro j hj
  by_cases z : j = k
  · subst z; rw [pk_us, ds_us]; exact ⟨rfl, hx⟩
  · rw [pk_un z, ds_unn z]; exact h j hj
theorem ds_chk {v : Nat → Nat} {i x k y : Nat} (h : i ≠ k) : ds_ch v i x k y k = v k ^^^ y := by
  unfold ds_ch
  rw [ds_us, ds_unn (Ne.symm h)]
theorem ds_chi {v : Nat → Nat} {i x k y : Nat} (h : i ≠ k) : ds_ch v i x k y i = v i ^^^ x := by
  unfold ds_ch
  rw [ds_unn h, ds_us]
theorem ds_cho {v : Nat → Nat} {i x k y j : Nat} (h1 : j ≠ i) (h2 : j ≠ k) : ds_ch v i x k y j = v j := by
  unfold ds_ch
  rw [ds_unn h2, ds_unn h1]
theorem ds_xz {a x : Nat} : a ^^^ x = a ↔ x = 0 := by
  constructor
  · intro h
    have e := ds_xx a x
    rw [h, Nat.xor_self] at e
    exact e.symm
  · intro h
    rw [h, Nat.xor_zero]
theorem ds_dd (v : Nat → Nat) : ∀ m, ds_d v v m = 0
  | 0 => rfl
  | m + 1 => by
    show ds_d v v m + (if v m = v m then 0 else 1) = 0
    rw [ds_dd v m, if_pos rfl]
theorem ds_dun {v f : Nat → Nat} {k z : Nat} (hk : f k = v k) : ∀ m, ds_d v (ds_un f k z) m = ds_d v f m + (if k < m then (if z = v k then 0 else 1) else 0)
  | 0 => rfl
  | m + 1 => by
    show ds_d v (ds_un f k z) m + (if v m = ds_un f k z m then 0 else 1) = (ds_d v f m + (if v m = f m then 0 else 1)) + _
    rw [ds_dun hk m]
    by_cases h : m = k
    · subst h
      rw [ds_us, hk, if_neg (Nat.lt_irrefl m), if_pos (Nat.lt_succ_self m), if_pos rfl]
      by_cases y : z = v m
      · rw [if_pos y, if_pos y.symm]
      · rw [if_neg y, if_neg (fun q => y q.symm)]
    · rw [ds_unn h]
      by_cases y : k < m
      · rw [if_pos y, if_pos (show k < m + 1 by omega)]; omega
      · rw [if_neg y, if_neg (show ¬ k < m + 1 by omega)]; omega
theorem ds_dch {v : Nat → Nat} {i x k y : Nat} (hi : i < 7) (hk : k < 7) (h : i ≠ k) : ds_d v (ds_ch v i x k y) 7 = (if x = 0 then 0 else 1) + (if y = 0 then 0 else 1) := by
  unfold ds_ch
  rw [ds_dun (ds_unn (Ne.symm h)) 7, ds_dun rfl 7, ds_dd, if_pos hi, if_pos hk, ds_unn (Ne.symm h)]
  congr 1
  · by_cases z : x = 0
    · rw [if_pos z, if_pos (ds_xz.mpr z)]
    · rw [if_neg z, if_neg (fun q => z (ds_xz.mp q))]
  · by_cases z : y = 0
    · rw [if_pos z, if_pos (ds_xz.mpr z)]
    · rw [if_neg z, if_neg (fun q => z (ds_xz.mp q))]
