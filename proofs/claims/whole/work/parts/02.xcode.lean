/-! ===== the component: symbols, products, the table of code words ===== -/
theorem ds_p8 (i : Nat) : 2 ^ (i * 3) = 8 ^ i := by rw [Nat.mul_comm, Nat.pow_mul]
theorem ds_syI {W i : Nat} (hW : W < 2 ^ 31) (hi : i ≤ 10) : (nI W >>> ((nI i * 3) &&& 31)) &&& 7 = nI (ds_sy W i) := by
  rw [show nI i * 3 = nI (i * 3) from pk_mul i 3, ds_shr (by omega) hW, ds_and7 (Nat.lt_of_le_of_lt (Nat.div_le_self _ _) (by omega)), ds_p8]
  rfl
theorem dx_sym {post : Int32 → Prop} {W i : Nat} (hW : W < 2 ^ 31) (hi : i ≤ 10) (h : post (nI (ds_sy W i))) : wpX_symbolOf post (nI W) (nI i) := by
  unfold wpX_symbolOf
  rw [ds_syI hW hi]
  exact h
def dx_st (p q v k : Int32) : Int32 := if ((q >>> (k &&& 31)) &&& 1) = 0 then v else v ^^^ (p <<< (k &&& 31))
def dx_rd (v d : Int32) : Int32 := if v < ((8 : Int32) <<< (d &&& 31)) then v else v ^^^ ((11 : Int32) <<< (d &&& 31))
def dx_pr (p q : Int32) : Int32 := dx_rd (dx_rd (dx_rd (dx_st p q (dx_st p q (dx_st p q 0 0) 1) 2) 2) 1) 0
theorem dx_st1 {post : Int32 → Prop} {p q v : Int32} {n : Nat} (k k' : Int32) (hk : ¬ 3 ≤ k) (e : k + 1 = k') (h : wX_product_4 post p q n (dx_st p q v k) k') : wX_product_4 post p q (n + 1) v k := by
  subst e
  unfold dx_st at h
  refine br_f hk (br_c (fun z => nm_e ?_) (fun z => nm_e (nm_e ?_)))
  · rwa [if_pos z] at h
  · rwa [if_neg z] at h
theorem dx_rd1 {post : Int32 → Prop} {v : Int32} {n : Nat} (k k' : Int32) (hk : ¬ k < 0) (e : k + (-1) = k') (h : wX_product_31 post n (dx_rd v k) k') : wX_product_31 post (n + 1) v k := by
  subst e
  unfold dx_rd at h
  refine br_f hk (br_c (fun z => nm_e ?_) (fun z => nm_e (nm_e ?_)))
  · rwa [if_pos z] at h
  · rwa [if_neg z] at h
theorem dx_prod {post : Int32 → Prop} {p q : Int32} (h : post (dx_pr p q)) : wpX_product post p q :=
  ⟨4, dx_st1 0 1 (by decide) (by decide) (dx_st1 1 2 (by decide) (by decide) (dx_st1 2 3 (by decide) (by decide) (br_t (by decide)
    ⟨4, dx_rd1 2 1 (by decide) (by decide) (dx_rd1 1 0 (by decide) (by decide) (dx_rd1 0 (-1) (by decide) (by decide) (br_t (by decide) h)))⟩)))⟩
def dx_gs (f r i : Int32) : Int32 := r ||| (dx_pr (((5715 : Int32) >>> ((i * 3) &&& 31)) &&& 7) f <<< ((i * 3) &&& 31))
def dx_g (f : Int32) : Int32 := dx_gs f (dx_gs f (dx_gs f (dx_gs f (dx_gs f 0 0) 1) 2) 3) 4
theorem dx_gs1 {post : Int32 → Prop} {f r : Int32} {n : Nat} (i i' : Int32) (hi : ¬ 4 < i) (e : i + 1 = i') (h : wX_generatorTimes_4 post f n (dx_gs f r i) i') : wX_generatorTimes_4 post f (n + 1) r i := by
  subst e
  refine br_f hi ?_
  unfold wpX_symbolOf
  exact dx_prod (nm_e (nm_e h))
theorem dx_gT : ∀ f, f < 8 → dx_g (nI f) = nI (ds_g f) := by decide +kernel
theorem dx_gen {post : Int32 → Prop} {f : Nat} (hf : f < 8) (h : post (nI (ds_g f))) : wpX_generatorTimes post (nI f) := by
  rw [← dx_gT f hf] at h
  exact ⟨6, dx_gs1 0 1 (by decide) (by decide) (dx_gs1 1 2 (by decide) (by decide) (dx_gs1 2 3 (by decide) (by decide) (dx_gs1 3 4 (by decide) (by decide) (dx_gs1 4 5 (by decide) (by decide) (br_t (by decide) h)))))⟩
theorem ds_g_lt (f : Nat) : ds_g f < 32768 := by
  unfold ds_g
  have := ds_pr_lt 3 f; have := ds_pr_lt 2 f; have := ds_pr_lt 1 f
  omega
theorem ds_p84 {i : Nat} (h4 : 4 ≤ i) (h6 : i ≤ 6) : 8 ^ (i - 4) ≤ 64 := by
  have h : i = 4 ∨ i = 5 ∨ i = 6 := by omega
  rcases h with rfl | rfl | rfl <;> decide
theorem ds_gm {f i : Nat} (h4 : 4 ≤ i) (h6 : i ≤ 6) : ds_g f * 8 ^ (i - 4) < 2 ^ 21 :=
  Nat.lt_of_le_of_lt (Nat.mul_le_mul_left _ (ds_p84 h4 h6)) (by have := ds_g_lt f; omega)
theorem ds_rs_lt {r i : Nat} (hr : r < 2 ^ 21) (h4 : 4 ≤ i) (h6 : i ≤ 6) : ds_rs r i < 2 ^ 21 := Nat.xor_lt_two_pow hr (ds_gm h4 h6)
theorem dx_cwS {post : Int32 → Prop} {p : Int32} {n r i : Nat} (hr : r < 2 ^ 21) (h4 : 4 ≤ i) (h6 : i ≤ 6) (h : wX_codeWordOf_8 post p n (nI (ds_rs r i)) (nI (i - 1))) : wX_codeWordOf_8 post p (n + 1) (nI r) (nI i) := by
  have e1 : nI r ^^^ (nI (ds_g (ds_sy r i)) <<< (((nI i - 4) * 3) &&& 31)) = nI (ds_rs r i) := by
    rw [show nI i - 4 = nI (i - 4) from pk_sub (b := 4) h4, show nI (i - 4) * 3 = nI ((i - 4) * 3) from pk_mul _ 3, ds_shl (by omega) (by rw [ds_p8]; have := ds_gm (f := ds_sy r i) h4 h6; omega), ds_p8, nx_xor]
    rfl
  have e2 : nI i + (-1) = nI (i - 1) := by
    obtain ⟨j, rfl⟩ : ∃ j, i = j + 1 := ⟨i - 1, by omega⟩
    exact pk_m1 j
  exact br_f (nI_nlt (b := 4) h4 (by omega)) (dx_sym (by omega) (by omega) (dx_gen (ds_sy_lt _ _) (nm_r e1 (nm_r e2 h))))
theorem dx_cw {post : Int32 → Prop} {p : Nat} (hp : p < 512) (h : post (nI (ds_cw p))) : wpX_codeWordOf post (nI p) := by
  have e : nI p <<< ((12 : Int32) &&& 31) = nI (p * 4096) := ds_shl (k := 12) (by omega) (by omega)
  have r0 : p * 4096 < 2 ^ 21 := by omega
  have r1 := ds_rs_lt r0 (i := 6) (by omega) (by omega)
  have r2 := ds_rs_lt r1 (i := 5) (by omega) (by omega)
  refine nm_r e ⟨4, dx_cwS r0 (i := 6) (by omega) (by omega) (dx_cwS r1 (i := 5) (by omega) (by omega) (dx_cwS r2 (i := 4) (by omega) (by omega) (br_t (by decide) ?_)))⟩
  rw [e, nx_or]
  exact h
theorem dx_init {post : SX → Prop} {L P : Nat → Int32} (h : ∀ C : Nat → Int32, (∀ j, j < 512 → C j = nI (ds_cw j)) → post (0, 0, L, C, P)) : ∀ (d i : Nat) (C : Nat → Int32), i + d = 512 → (∀ j, j < i → C j = nI (ds_cw j)) → wX_init_42 post 0 0 (d + 1) (nI i) L C P := by
  intro d
  induction d with
  | zero =>
    intro i C hi hC
    have hi' : i = 512 := by omega
    subst hi'
    exact br_t (nI_le (a := 512) (Nat.le_refl _) (by omega)) (h C hC)
  | succ d ih =>
    intro i C hi hC
    refine br_f (nI_ge (b := 512) (by omega) (by omega)) (dx_cw (by omega) ⟨vp_in_nI (by omega) (by omega), nm_r (e' := upd C i (nI (ds_cw i))) (by rw [nI_clamp (by omega)]) (nm_r (nI_1 i) (ih (i + 1) _ (by omega) ?_))⟩)
    intro j hj
    by_cases z : j = i
    · subst z; exact pk_us
    · rw [pk_un z]; exact hC j (by omega)
/-! ===== differing symbols, the nearest code word ===== -/
theorem ds_syx (A B i : Nat) : ds_sy (A ^^^ B) i = ds_sy A i ^^^ ds_sy B i := by
  unfold ds_sy
  rw [← ds_p8, Nat.xor_div_two_pow]
  exact Nat.xor_mod_two_pow (n := 3)
theorem ds_d_le (a b : Nat → Nat) : ∀ m, ds_d a b m ≤ m
  | 0 => Nat.le_refl _
  | m + 1 => by
    have := ds_d_le a b m
    show ds_d a b m + (if a m = b m then 0 else 1) ≤ m + 1
    split <;> omega
theorem dx_dif1 {post : Int32 → Prop} {W C : Nat} (hW : W < 2 ^ 21) (hC : C < 2 ^ 21) (h : post (nI (ds_d (ds_sy W) (ds_sy C) 7))) : ∀ d i : Nat, i + d = 7 → wX_differingSymbols_9 post (nI (W ^^^ C)) (d + 1) (nI (ds_d (ds_sy W) (ds_sy C) i)) (nI i) := by
  have hx : W ^^^ C < 2 ^ 21 := Nat.xor_lt_two_pow hW hC
  intro d
  induction d with
  | zero =>
    intro i hi
    have hi' : i = 7 := by omega
    subst hi'
    exact br_t (nI_le (a := 7) (Nat.le_refl _) (by omega)) h
  | succ d ih =>
    intro i hi
    have hs := ds_sy_lt (W ^^^ C) i
    refine br_f (nI_ge (b := 7) (by omega) (by omega)) (dx_sym (by omega) (by omega) (pk_eq (ds_sy (W ^^^ C) i) 0 (fun z => ?_) (fun z => ?_)))
    · have e : ds_d (ds_sy W) (ds_sy C) (i + 1) = ds_d (ds_sy W) (ds_sy C) i := by
        show ds_d (ds_sy W) (ds_sy C) i + (if ds_sy W i = ds_sy C i then 0 else 1) = _
        rw [if_pos (ds_x0.mp ((ds_syx W C i).symm.trans z)), Nat.add_zero]
      refine nm_r (nI_1 i) ?_
      rw [← e]
      exact ih (i + 1) (by omega)
    · have e : ds_d (ds_sy W) (ds_sy C) (i + 1) = ds_d (ds_sy W) (ds_sy C) i + 1 := by
        show ds_d (ds_sy W) (ds_sy C) i + (if ds_sy W i = ds_sy C i then 0 else 1) = _
        rw [if_neg (fun q => z ((ds_syx W C i).trans (ds_x0.mpr q)))]
      refine nm_r (nI_1 _) (nm_r (nI_1 i) ?_)
      rw [← e]
      exact ih (i + 1) (by omega)
theorem dx_dif {post : Int32 → Prop} {W C : Nat} (hW : W < 2 ^ 21) (hC : C < 2 ^ 21) (h : post (nI (ds_d (ds_sy W) (ds_sy C) 7))) : wpX_differingSymbols post (nI W) (nI C) :=
  nm_r (nx_xor W C) ⟨8, dx_dif1 hW hC h 7 0 rfl⟩
theorem ds_cw_lt {p : Nat} (hp : p < 512) : ds_cw p < 2 ^ 21 := by
  have := (ds_t1 p hp).2
  omega
def ds_near (w : Nat → Nat) : Option Nat → Prop
  | some p => p < 512 ∧ ds_d w (ds_sy (ds_cw p)) 7 ≤ 2
  | none => ∀ p, p < 512 → 2 < ds_d w (ds_sy (ds_cw p)) 7
def ds_nr : Option Nat → Int32
  | some p => nI (ds_cw p)
  | none => -3
theorem dx_near1 {W : Nat} (hW : W < 2 ^ 21) {l t : Int32} {L C P : Nat → Int32} (hC : ∀ j, j < 512 → C j = nI (ds_cw j)) : ∀ d i : Nat, i + d = 512 → (∀ j, j < i → 2 < ds_d (ds_sy W) (ds_sy (ds_cw j)) 7) → ∃ o, ds_near (ds_sy W) o ∧ ∀ post : Int32 → Prop, post (ds_nr o) → wX_nearCodeWord_2 post (nI W) l t L C P (d + 1) (nI i) := by
  intro d
  induction d with
  | zero =>
    intro i hi hn
    have hi' : i = 512 := by omega
    subst hi'
    exact ⟨none, hn, fun post h => br_t (nI_le (a := 512) (Nat.le_refl _) (by omega)) h⟩
  | succ d ih =>
    intro i hi hn
    have ei : C (nI i).toNatClampNeg = nI (ds_cw i) := by rw [nI_clamp (by omega)]; exact hC i (by omega)
    have hi5 : i < 512 := by omega
    have hl := ds_d_le (ds_sy W) (ds_sy (ds_cw i)) 7
    by_cases z : ds_d (ds_sy W) (ds_sy (ds_cw i)) 7 ≤ 2
    · refine ⟨some i, ⟨hi5, z⟩, fun post h => br_f (nI_ge (b := 512) (by omega) (by omega)) ⟨vp_in_nI (by omega) (by omega), ?_⟩⟩
      rw [ei]
      refine dx_dif hW (ds_cw_lt hi5) (br_f (nI_nlt (a := 2) z (by omega)) ⟨vp_in_nI (by omega) (by omega), ?_⟩)
      exact h
    · obtain ⟨o, ho, hp⟩ := ih (i + 1) (by omega) (fun j hj => by
        by_cases y : j = i
        · subst y; omega
        · exact hn j (by omega))
      refine ⟨o, ho, fun post h => br_f (nI_ge (b := 512) (by omega) (by omega)) ⟨vp_in_nI (by omega) (by omega), ?_⟩⟩
      rw [ei]
      exact dx_dif hW (ds_cw_lt hi5) (br_t (nI_lt (a := 2) (by omega) (by omega)) (nm_r (nI_1 i) (hp post h)))
theorem dx_near {W : Nat} (hW : W < 2 ^ 21) {l t : Int32} {L C P : Nat → Int32} (hC : ∀ j, j < 512 → C j = nI (ds_cw j)) : ∃ o, ds_near (ds_sy W) o ∧ ∀ post : Int32 → Prop, post (ds_nr o) → wpX_nearCodeWord post (l, t, L, C, P) (nI W) := by
  obtain ⟨o, ho, h⟩ := dx_near1 hW (l := l) (t := t) (L := L) (P := P) hC 512 0 rfl (fun j hj => absurd hj (Nat.not_lt_zero j))
  exact ⟨o, ho, fun post hp => ⟨513, h post hp⟩⟩
