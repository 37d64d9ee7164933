/-! if no try finds one, none is near -/
theorem ds_mask0 : ∀ m, m < 128 → m % 2 + m / 2 % 2 + m / 4 % 2 + m / 8 % 2 + m / 16 % 2 + m / 32 % 2 + m / 64 % 2 ≤ 2 → (List.range 49).any (fun z => decide (z / 7 < z % 7) && (List.range 7).all (fun j => decide (j = z / 7) || decide (j = z % 7) || decide (m / 2 ^ j % 2 = 0))) = true := by decide +kernel
theorem ds_mask (m : Nat) (hm : m < 128) (h : m % 2 + m / 2 % 2 + m / 4 % 2 + m / 8 % 2 + m / 16 % 2 + m / 32 % 2 + m / 64 % 2 ≤ 2) : ∃ i, i < 7 ∧ ∃ k, k < 7 ∧ i < k ∧ ∀ j, j < 7 → j ≠ i → j ≠ k → m / 2 ^ j % 2 = 0 := by
  obtain ⟨z, hz, q⟩ := List.any_eq_true.mp (ds_mask0 m hm h)
  rw [Bool.and_eq_true, decide_eq_true_eq, List.all_eq_true] at q
  have hz9 := List.mem_range.mp hz
  refine ⟨z / 7, by omega, z % 7, by omega, q.1, fun j hj ha hb => ?_⟩
  have r := q.2 j (List.mem_range.mpr hj)
  rw [Bool.or_eq_true, Bool.or_eq_true, decide_eq_true_eq, decide_eq_true_eq, decide_eq_true_eq] at r
  exact r.resolve_left (fun y => y.elim ha hb)
theorem ds_bm (y0 y1 y2 y3 y4 y5 y6 : Nat) (h0 : y0 ≤ 1) (h1 : y1 ≤ 1) (h2 : y2 ≤ 1) (h3 : y3 ≤ 1) (h4 : y4 ≤ 1) (h5 : y5 ≤ 1) (h6 : y6 ≤ 1) : ∃ m, m < 128 ∧ m % 2 = y0 ∧ m / 2 % 2 = y1 ∧ m / 4 % 2 = y2 ∧ m / 8 % 2 = y3 ∧ m / 16 % 2 = y4 ∧ m / 32 % 2 = y5 ∧ m / 64 % 2 = y6 := by
  refine ⟨y0 + 2 * y1 + 4 * y2 + 8 * y3 + 16 * y4 + 32 * y5 + 64 * y6, ?_, ?_, ?_, ?_, ?_, ?_, ?_, ?_⟩ <;> omega
def ds_e (v c : Nat → Nat) (j : Nat) : Nat := if v j = c j then 0 else 1
theorem ds_e_le (v c : Nat → Nat) (j : Nat) : ds_e v c j ≤ 1 := by
  unfold ds_e
  split <;> omega
theorem ds_e_0 {v c : Nat → Nat} {j : Nat} (h : ds_e v c j = 0) : v j = c j := by
  unfold ds_e at h
  by_cases z : v j = c j
  · exact z
  · rw [if_neg z] at h; exact absurd h (by decide)
theorem ds_two {v c : Nat → Nat} (h : ds_d v c 7 ≤ 2) : ∃ i k, i < k ∧ k < 7 ∧ ∀ j, j < 7 → j ≠ i → j ≠ k → v j = c j := by
  have e : ds_d v c 7 = 0 + ds_e v c 0 + ds_e v c 1 + ds_e v c 2 + ds_e v c 3 + ds_e v c 4 + ds_e v c 5 + ds_e v c 6 := rfl
  obtain ⟨m, hm, m0, m1, m2, m3, m4, m5, m6⟩ := ds_bm _ _ _ _ _ _ _ (ds_e_le v c 0) (ds_e_le v c 1) (ds_e_le v c 2) (ds_e_le v c 3) (ds_e_le v c 4) (ds_e_le v c 5) (ds_e_le v c 6)
  rw [e, Nat.zero_add] at h
  obtain ⟨i, hi, k, hk, hik, hz⟩ := ds_mask m hm (by rw [m0, m1, m2, m3, m4, m5, m6]; exact h)
  refine ⟨i, k, hik, hk, ds_lt7 ?_ ?_ ?_ ?_ ?_ ?_ ?_⟩
  · intro a b; exact ds_e_0 (m0.symm.trans ((congrArg (· % 2) (Nat.div_one m)).symm.trans (hz 0 (by decide) a b)))
  · intro a b; exact ds_e_0 (m1.symm.trans (hz 1 (by decide) a b))
  · intro a b; exact ds_e_0 (m2.symm.trans (hz 2 (by decide) a b))
  · intro a b; exact ds_e_0 (m3.symm.trans (hz 3 (by decide) a b))
  · intro a b; exact ds_e_0 (m4.symm.trans (hz 4 (by decide) a b))
  · intro a b; exact ds_e_0 (m5.symm.trans (hz 5 (by decide) a b))
  · intro a b; exact ds_e_0 (m6.symm.trans (hz 6 (by decide) a b))
theorem ds_chc {v c : Nat → Nat} {i k : Nat} (hik : i ≠ k) (h : ∀ j, j < 7 → j ≠ i → j ≠ k → v j = c j) : ∀ j, j < 7 → ds_ch v i (v i ^^^ c i) k (v k ^^^ c k) j = c j := by
  intro j hj
  by_cases z : j = k
  · subst z; rw [ds_chk hik, ds_xx]
  · by_cases y : j = i
    · subst y; rw [ds_chi hik, ds_xx]
    · rw [ds_cho y z]; exact h j hj y z
theorem ds_none {v c : Nat → Nat} (hv : ∀ j, j < 7 → v j < 8) (hc : ∀ j, j < 7 → c j < 8) (hC : ds_isC c = true) (h0 : ds_isC v = false) (ht : ∀ ik, ik < 49 → ∀ xy, 8 ≤ xy → xy < 64 → ¬ ds_tr v ik xy) : 2 < ds_d v c 7 := by
  apply Nat.lt_of_not_le
  intro hd
  obtain ⟨i, k, hik, hk, h⟩ := ds_two hd
  have xi := ds_x8 (hv i (by omega)) (hc i (by omega))
  have xk := ds_x8 (hv k hk) (hc k hk)
  by_cases zi : v i = c i
  · by_cases zk : v k = c k
    · rw [ds_isC_congr (b := c) (fun j hj => by
        by_cases a : j = i
        · subst a; exact zi
        · by_cases b : j = k
          · subst b; exact zk
          · exact h j hj a b), hC] at h0
      exact absurd h0 (by decide)
    · have nk : v k ^^^ c k ≠ 0 := fun q => zk (ds_x0.mp q)
      have hh : ∀ j, j < 7 → j ≠ k → v j = c j := fun j hj b => by
        by_cases a : j = i
        · subst a; exact zi
        · exact h j hj a b
      by_cases k6 : k = 6
      · subst k6
        refine ht 0 (by omega) (8 * (v 6 ^^^ c 6)) (by omega) (by omega) (Or.inr ⟨rfl, ?_⟩)
        have e := ds_chc (v := v) (c := c) (i := 6) (k := 0) (by omega) (fun j hj a _ => hh j hj a)
        rw [ds_x0.mpr (hh 0 (by omega) (by omega))] at e
        rw [Nat.mul_div_cancel_left _ (by decide), ds_isC_congr e]
        exact hC
      · refine ht (7 * k + 6) (by omega) (8 * (v k ^^^ c k)) (by omega) (by omega) (Or.inl ⟨by omega, ?_⟩)
        have e := ds_chc (v := v) (c := c) (i := k) (k := 6) k6 (fun j hj a _ => hh j hj a)
        rw [ds_x0.mpr (hh 6 (by omega) (by omega))] at e
        rw [Nat.mul_div_cancel_left _ (by decide), Nat.mul_mod_right, show (7 * k + 6) / 7 = k by omega, show (7 * k + 6) % 7 = 6 by omega, ds_isC_congr e]
        exact hC
  · have ni : v i ^^^ c i ≠ 0 := fun q => zi (ds_x0.mp q)
    refine ht (7 * i + k) (by omega) (8 * (v i ^^^ c i) + (v k ^^^ c k)) (by omega) (by omega) (Or.inl ⟨by omega, ?_⟩)
    rw [show (7 * i + k) / 7 = i by omega, show (7 * i + k) % 7 = k by omega, show (8 * (v i ^^^ c i) + (v k ^^^ c k)) / 8 = v i ^^^ c i by omega, show (8 * (v i ^^^ c i) + (v k ^^^ c k)) % 8 = v k ^^^ c k by omega, ds_isC_congr (ds_chc (by omega) h)]
    exact hC
