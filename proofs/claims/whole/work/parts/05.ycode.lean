/-! ===== the reference: products, powers, check sums, completing a word ===== -/
def dy_st (p q v k : Int32) : Int32 := if ((q >>> (k &&& 31)) &&& 1) = 1 then v ^^^ (p <<< (k &&& 31)) else v
def dy_rd (v d : Int32) : Int32 := if (v >>> ((d + 3) &&& 31)) = 1 then v ^^^ ((11 : Int32) <<< (d &&& 31)) else v
def dy_pr (p q : Int32) : Int32 := dy_rd (dy_rd (dy_rd (dy_st p q (dy_st p q (dy_st p q 0 0) 1) 2) 2) 1) 0 &&& 7
theorem dy_prT : ∀ p, p < 8 → ∀ q, q < 8 → dy_pr (nI p) (nI q) = nI (ds_pr p q) := by decide +kernel
section YC
variable {fn fc ff : Int32} {L w pw py : Nat → Int32}
theorem dy_st1 {post : Int32 → Prop} {p q v : Int32} {n : Nat} (k k' : Int32) (hk : ¬ 3 ≤ k) (e : k + 1 = k') (h : wY_product_5 post p q fn fc ff L w pw py n (dy_st p q v k) k') : wY_product_5 post p q fn fc ff L w pw py (n + 1) v k := by
  subst e
  unfold dy_st at h
  refine br_f hk (br_c (fun z => nm_e (nm_e ?_)) (fun z => nm_e ?_))
  · rwa [if_pos z] at h
  · rwa [if_neg z] at h
theorem dy_rd1 {post : Int32 → Prop} {v : Int32} {n : Nat} (k k' : Int32) (hk : ¬ k < 0) (e : k + (-1) = k') (h : wY_product_37 post fn fc ff L w pw py n (dy_rd v k) k') : wY_product_37 post fn fc ff L w pw py (n + 1) v k := by
  subst e
  unfold dy_rd at h
  refine br_f hk (br_c (fun z => nm_e (nm_e ?_)) (fun z => nm_e ?_))
  · rwa [if_pos z] at h
  · rwa [if_neg z] at h
theorem dy_prod {post : Int32 → Prop} {p q : Nat} (hp : p < 8) (hq : q < 8) (h : post (nI (ds_pr p q))) : wpY_product post (fn, fc, ff, L, w, pw, py) (nI p) (nI q) := by
  rw [← dy_prT p hp q hq] at h
  exact ⟨4, dy_st1 0 1 (by decide) (by decide) (dy_st1 1 2 (by decide) (by decide) (dy_st1 2 3 (by decide) (by decide) (br_t (by decide)
    ⟨4, dy_rd1 2 1 (by decide) (by decide) (dy_rd1 1 0 (by decide) (by decide) (dy_rd1 0 (-1) (by decide) (by decide) (br_t (by decide) h)))⟩)))⟩
theorem ds_pwS : ∀ i, i < 6 → ds_pr (ds_pw i) 2 = ds_pw (i + 1) := by decide +kernel
theorem dy_in1 {post : SY → Prop} (h : ∀ W : Nat → Int32, (∀ j, j < 7 → W j = nI (ds_pw j)) → post (fn, fc, ff, L, w, W, py)) : ∀ (d i v : Nat) (W : Nat → Int32), i + d = 7 → v < 8 → (i < 7 → v = ds_pw i) → (∀ j, j < i → W j = nI (ds_pw j)) → wY_init_46 post fn fc ff (d + 1) (nI v) (nI i) L w W py := by
  intro d
  induction d with
  | zero =>
    intro i v W hi _ _ hW
    have hi' : i = 7 := by omega
    subst hi'
    exact br_t (nI_le (a := 7) (Nat.le_refl _) (by omega)) (h W hW)
  | succ d ih =>
    intro i v W hi hv hvi hW
    refine br_f (nI_ge (b := 7) (by omega) (by omega)) ⟨vp_in_nI (by omega) (by omega), nm_r (e' := upd W i (nI v)) (by rw [nI_clamp (by omega)]) (dy_prod (q := 2) hv (by omega) (nm_r (nI_1 i) (ih (i + 1) _ _ (by omega) (ds_pr_lt _ _) (fun z => ?_) (fun j hj => ?_))))⟩
    · rw [hvi (by omega)]
      exact ds_pwS i (by omega)
    · by_cases z : j = i
      · subst z; rw [pk_us, hvi (by omega)]
      · rw [pk_un z]; exact hW j (by omega)
theorem ds_ps_lt (v : Nat → Nat) (k : Nat) : ∀ m, ds_ps v k m < 8
  | 0 => (by decide : 0 < 8)
  | m + 1 => ds_x8 (ds_ps_lt v k m) (ds_pr_lt _ _)
theorem dy_ic1 {post J : Int32 → Prop} {v : Nat → Nat} (hv : ∀ i, i < 7 → w i = nI (v i) ∧ v i < 8) (hp : ∀ i, i < 7 → pw i = nI (ds_pw i)) {k : Nat} (hk : k < 5) (hJ : ds_ps v k 7 = 0 → J (nI (k + 1))) (h0 : ds_ps v k 7 ≠ 0 → post 0) : ∀ d i : Nat, i + d = 7 → wY_isCode_11 post J (nI k) fn fc ff L w pw py (d + 1) (nI (ds_ps v k i)) (nI i) := by
  intro d
  induction d with
  | zero =>
    intro i hi
    have hi' : i = 7 := by omega
    subst hi'
    have hl := ds_ps_lt v k 7
    exact br_t (nI_le (a := 7) (Nat.le_refl _) (by omega)) (pk_eq (ds_ps v k 7) 0 (fun z => nm_r (nI_1 k) (hJ z)) h0)
  | succ d ih =>
    intro i hi
    have hm : k * i ≤ 5 * 7 := Nat.mul_le_mul (by omega) (by omega)
    have e1 : (nI k * nI i) - (nI k * nI i) / 7 * 7 = nI (k * i % 7) := by
      rw [pk_mul]
      exact pk_rem (d := 7) (by omega) (by omega) (by omega)
    have h7 : k * i % 7 < 7 := Nat.mod_lt _ (by decide)
    refine br_f (nI_ge (b := 7) (by omega) (by omega)) ⟨vp_in_nI (by omega) (by omega), by decide, ?_⟩
    rw [e1, nI_clamp (by omega), nI_clamp (by omega), (hv i (by omega)).1, hp _ h7]
    exact ⟨vp_in_nI h7 (by omega), dy_prod (hv i (by omega)).2 (ds_pw_lt _) (nm_r (nx_xor _ _) (nm_r (nI_1 i) (ih (i + 1) (by omega))))⟩
theorem dy_ic2 {post : Int32 → Prop} {v : Nat → Nat} (hv : ∀ i, i < 7 → w i = nI (v i) ∧ v i < 8) (hp : ∀ i, i < 7 → pw i = nI (ds_pw i)) (h1 : ds_isC v = true → post 1) (h0 : ds_isC v = false → post 0) : ∀ d k : Nat, k + d = 5 → 1 ≤ k → (∀ i, 1 ≤ i → i < k → ds_ps v i 7 = 0) → wY_isCode_2 post fn fc ff L w pw py (d + 1) (nI k) := by
  intro d
  induction d with
  | zero =>
    intro k hk _ hz
    have hk' : k = 5 := by omega
    subst hk'
    exact br_t (nI_lt (a := 4) (b := 5) (by omega) (by omega)) (h1 ((ds_isC_iff v).mpr ⟨hz 1 (by omega) (by omega), hz 2 (by omega) (by omega), hz 3 (by omega) (by omega), hz 4 (by omega) (by omega)⟩))
  | succ d ih =>
    intro k hk h1k hz
    refine br_f (nI_nlt (a := 4) (by omega) (by omega)) ⟨8, dy_ic1 hv hp (by omega) (fun z => ih (k + 1) (by omega) (by omega) (fun i hi1 hi => ?_)) (fun z => h0 ?_) 7 0 rfl⟩
    · by_cases y : i = k
      · subst y; exact z
      · exact hz i hi1 (by omega)
    · apply Bool.eq_false_iff.mpr
      intro y
      obtain ⟨a1, a2, a3, a4⟩ := (ds_isC_iff v).mp y
      have hk4 : k = 1 ∨ k = 2 ∨ k = 3 ∨ k = 4 := by omega
      rcases hk4 with rfl | rfl | rfl | rfl
      · exact z a1
      · exact z a2
      · exact z a3
      · exact z a4
theorem dy_ic {post : Int32 → Prop} {v : Nat → Nat} (hv : ∀ i, i < 7 → w i = nI (v i) ∧ v i < 8) (hp : ∀ i, i < 7 → pw i = nI (ds_pw i)) (h1 : ds_isC v = true → post 1) (h0 : ds_isC v = false → post 0) : wpY_isCode post (fn, fc, ff, L, w, pw, py) :=
  ⟨5, dy_ic2 hv hp h1 h0 4 1 rfl (by omega) (fun i hi1 hi => absurd hi (by omega))⟩
end YC
/-! completing a word -/
def ds_vv (p c i : Nat) : Nat := if i < 4 then ds_sy c i else ds_sy p (i - 4)
theorem ds_vv_lt (p c i : Nat) : ds_vv p c i < 8 := by
  unfold ds_vv
  split
  · exact ds_sy_lt _ _
  · exact ds_sy_lt _ _
theorem ds_p512 {p q : Nat} (hp : p < 512) (hq : q < 512) (h0 : ds_sy p 0 = ds_sy q 0) (h1 : ds_sy p 1 = ds_sy q 1) (h2 : ds_sy p 2 = ds_sy q 2) : p = q := by
  unfold ds_sy at h0 h1 h2
  omega
theorem ds_cu {p c : Nat} (hp : p < 512) (hc : c < 4096) (h : ds_isC (ds_vv p c) = true) : c = ds_cw p % 4096 := by
  obtain ⟨q, hq, e⟩ := ds_tab (fun i _ => ds_vv_lt p c i) h
  have t := (ds_t1 q hq).2
  have e4 := e 4 (by omega); have e5 := e 5 (by omega); have e6 := e 6 (by omega)
  rw [ds_sy_hi t 0] at e4
  rw [ds_sy_hi t 1] at e5
  rw [ds_sy_hi t 2] at e6
  have hpq := ds_p512 hp hq e4 e5 e6
  subst hpq
  have e0 : ds_sy c 0 = ds_sy (ds_cw p) 0 := e 0 (by omega)
  have e1 : ds_sy c 1 = ds_sy (ds_cw p) 1 := e 1 (by omega)
  have e2 : ds_sy c 2 = ds_sy (ds_cw p) 2 := e 2 (by omega)
  have e3 : ds_sy c 3 = ds_sy (ds_cw p) 3 := e 3 (by omega)
  generalize ds_cw p = D at *
  unfold ds_sy at e0 e1 e2 e3
  omega
theorem ds_vw {p : Nat} (hp : p < 512) : ∀ i, i < 7 → ds_vv p (ds_cw p % 4096) i = ds_sy (ds_cw p) i := by
  have t := (ds_t1 p hp).2
  generalize ds_cw p = D at *
  apply ds_lt7
  · show ds_sy (D % 4096) 0 = ds_sy D 0; unfold ds_sy; omega
  · show ds_sy (D % 4096) 1 = ds_sy D 1; unfold ds_sy; omega
  · show ds_sy (D % 4096) 2 = ds_sy D 2; unfold ds_sy; omega
  · show ds_sy (D % 4096) 3 = ds_sy D 3; unfold ds_sy; omega
  · exact (ds_sy_hi t 0).symm
  · exact (ds_sy_hi t 1).symm
  · exact (ds_sy_hi t 2).symm
theorem ds_vC {p : Nat} (hp : p < 512) : ds_isC (ds_vv p (ds_cw p % 4096)) = true := by
  rw [ds_isC_congr (ds_vw hp)]
  exact (ds_t1 p hp).1
section YD
variable {fn fc ff : Int32} {L pw py : Nat → Int32}
theorem dy_co1 {post : SY → Prop} {J : Int32 → Int32 → (Nat → Int32) → (Nat → Int32) → (Nat → Int32) → (Nat → Int32) → Prop} (hp : ∀ i, i < 7 → pw i = nI (ds_pw i)) {p c : Nat} (hc : c < 4096) (h1 : ds_isC (ds_vv p c) = true → ∀ w : Nat → Int32, (∀ i, i < 7 → w i = nI (ds_vv p c i)) → J 1 (nI (c + 1)) L w pw py) (h0 : ds_isC (ds_vv p c) = false → ∀ w : Nat → Int32, (∀ i, i < 7 → w i = nI (ds_vv p c i)) → J 0 (nI (c + 1)) L w pw py) : ∀ (d i : Nat) (w : Nat → Int32), i + d = 4 → (∀ j, j < i → w j = nI (ds_sy c j)) → (∀ j, j < 3 → w (4 + j) = nI (ds_sy p j)) → wY_complete_17 post J (nI c) fn fc ff (d + 1) (nI i) L w pw py := by
  intro d
  induction d with
  | zero =>
    intro i w hi ha hb
    have hi' : i = 4 := by omega
    subst hi'
    have hw : ∀ i, i < 7 → w i = nI (ds_vv p c i) := ds_lt7 (ha 0 (by omega)) (ha 1 (by omega)) (ha 2 (by omega)) (ha 3 (by omega)) (hb 0 (by omega)) (hb 1 (by omega)) (hb 2 (by omega))
    exact br_t (nI_le (a := 4) (Nat.le_refl _) (by omega)) (dy_ic (fun i hi => ⟨hw i hi, ds_vv_lt p c i⟩) hp (fun z => nm_r (nI_1 c) (h1 z w hw)) (fun z => nm_r (nI_1 c) (h0 z w hw)))
  | succ d ih =>
    intro i w hi ha hb
    have e : upd w (nI i).toNatClampNeg ((nI c >>> ((3 * nI i) &&& 31)) &&& 7) = upd w i (nI (ds_sy c i)) := by
      rw [nI_clamp (by omega), Int32.mul_comm, ds_syI (by omega) (by omega)]
    refine br_f (nI_ge (b := 4) (by omega) (by omega)) ⟨vp_in_nI (by omega) (by omega), nm_r e (nm_r (nI_1 i) (ih (i + 1) _ (by omega) (fun j hj => ?_) (fun j hj => ?_)))⟩
    · by_cases z : j = i
      · subst z; exact pk_us
      · rw [pk_un z]; exact ha j (by omega)
    · rw [pk_un (by omega)]; exact hb j hj
theorem dy_co2 {post : SY → Prop} (hp : ∀ i, i < 7 → pw i = nI (ds_pw i)) {p : Nat} (hp5 : p < 512) (h : ∀ w : Nat → Int32, (∀ i, i < 7 → w i = nI (ds_sy (ds_cw p) i)) → post (fn, fc, ff, L, w, pw, py)) : ∀ (d c : Nat) (w : Nat → Int32), c + d = ds_cw p % 4096 → (∀ j, j < 3 → w (4 + j) = nI (ds_sy p j)) → wY_complete_4 post fn fc ff (d + 2) 0 (nI c) L w pw py := by
  have hm : ds_cw p % 4096 < 4096 := Nat.mod_lt _ (by decide)
  intro d
  induction d with
  | zero =>
    intro c w hc hw
    refine br_f (nI_ge (b := 4096) (by omega) (by omega)) (br_t rfl ⟨5, dy_co1 hp (by omega) (fun _ w' hw' => ?_) (fun z => ?_) 4 0 w rfl (fun j hj => absurd hj (Nat.not_lt_zero j)) hw⟩)
    · have hpost := h w' (fun i hi => by rw [hw' i hi, show c = ds_cw p % 4096 by omega, ds_vw hp5 i hi])
      exact br_c (fun _ => hpost) (fun _ => br_f (by decide) hpost)
    · have y := ds_vC hp5
      rw [show ds_cw p % 4096 = c by omega, z] at y
      exact absurd y (by decide)
  | succ d ih =>
    intro c w hc hw
    refine br_f (nI_ge (b := 4096) (by omega) (by omega)) (br_t rfl ⟨5, dy_co1 hp (by omega) (fun z => ?_) (fun _ w' hw' => ?_) 4 0 w rfl (fun j hj => absurd hj (Nat.not_lt_zero j)) hw⟩)
    · have y := ds_cu hp5 (by omega) z
      omega
    · exact ih (c + 1) w' (by omega) (fun j hj => by
        rw [hw' (4 + j) (by omega)]
        unfold ds_vv
        rw [if_neg (by omega), Nat.add_sub_cancel_left])
theorem dy_co {post : SY → Prop} (hp : ∀ i, i < 7 → pw i = nI (ds_pw i)) {p : Nat} {w : Nat → Int32} (hp5 : p < 512) (hw : ∀ j, j < 3 → w (4 + j) = nI (ds_sy p j)) (h : ∀ w : Nat → Int32, (∀ i, i < 7 → w i = nI (ds_sy (ds_cw p) i)) → post (fn, fc, ff, L, w, pw, py)) : wpY_complete post (fn, fc, ff, L, w, pw, py) :=
  ⟨ds_cw p % 4096 + 2, dy_co2 hp hp5 h (ds_cw p % 4096) 0 w (Nat.zero_add _) hw⟩
end YD
