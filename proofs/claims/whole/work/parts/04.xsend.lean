/-! ===== the component: send ===== -/
/-- bit q of the frame made of the words E and O -/
def ds_T (E O q : Nat) : Nat := if q < 8 then 178 / 2 ^ (7 - q) % 2 else (ds_sy (if (q - 8) / 3 % 2 = 0 then E else O) ((q - 8) / 3 / 2) ^^^ ds_wh ((q - 8) / 3)) / 2 ^ (2 - (q - 8) % 3) % 2
theorem ds_T_lt (E O q : Nat) : ds_T E O q < 2 := by
  unfold ds_T
  split
  · exact Nat.mod_lt _ (by decide)
  · exact Nat.mod_lt _ (by decide)
theorem ds_Tm (E O : Nat) {q : Nat} (h : q < 8) : ds_T E O q = 178 / 2 ^ (7 - q) % 2 := if_pos h
theorem ds_Ts (E O : Nat) {j b : Nat} (hb : b < 3) : ds_T E O (8 + 3 * j + b) = (ds_sy (if j % 2 = 0 then E else O) (j / 2) ^^^ ds_wh j) / 2 ^ (2 - b) % 2 := by
  unfold ds_T
  rw [if_neg (by omega), show (8 + 3 * j + b - 8) / 3 = j by omega, show (8 + 3 * j + b - 8) % 3 = b by omega]
/-- the line L, with the first m bits of T from place n on -/
def ds_ov (L : Nat → Int32) (T : Nat → Nat) (n m : Nat) : Nat → Int32 := fun j => if n ≤ j ∧ j < n + m then nI (T (j - n)) else L j
theorem ds_ov0 (L : Nat → Int32) (T : Nat → Nat) (n : Nat) : ds_ov L T n 0 = L := by
  funext j
  exact if_neg (by omega)
theorem ds_ovS (L : Nat → Int32) (T : Nat → Nat) (n m : Nat) : upd (ds_ov L T n m) (n + m) (nI (T m)) = ds_ov L T n (m + 1) := by
  funext j
  by_cases h : j = n + m
  · subst h
    rw [pk_us]
    unfold ds_ov
    rw [if_pos (by omega), Nat.add_sub_cancel_left]
  · rw [pk_un h]
    unfold ds_ov
    by_cases h2 : n ≤ j ∧ j < n + m
    · rw [if_pos h2, if_pos (by omega)]
    · rw [if_neg h2, if_neg (by omega)]
theorem dx_app1 {post : SX → Prop} {L C P : Nat → Int32} {t : Int32} {T : Nat → Nat} {n v : Nat} (hv : v < 2 ^ 31) : ∀ (s m : Nat) (x3 : Int32), s ≤ 30 → x3 = nI s + (-1) → n + m + s ≤ 300 → (∀ i, i < s → v / 2 ^ (s - 1 - i) % 2 = T (m + i)) → post (nI (n + (m + s)), t, ds_ov L T n (m + s), C, P) → wX_append_4 post (nI v) t (s + 1) x3 (nI (n + m)) (ds_ov L T n m) C P := by
  intro s
  induction s with
  | zero =>
    intro m x3 _ hx _ _ h
    subst hx
    exact br_t (by decide) h
  | succ s ih =>
    intro m x3 hs hx hn hT h
    rw [pk_m1] at hx
    subst hx
    have e : upd (ds_ov L T n m) (nI (n + m)).toNatClampNeg ((nI v >>> (nI s &&& 31)) &&& 1) = ds_ov L T n (m + 1) := by
      have h0 := hT 0 (by omega)
      rw [show s + 1 - 1 - 0 = s by omega, Nat.add_zero] at h0
      rw [nI_clamp (by omega), ds_shr (by omega) hv, ds_and1 (Nat.lt_of_le_of_lt (Nat.div_le_self _ _) (by omega)), h0]
      exact ds_ovS L T n m
    refine br_f (nI_pos (by omega)) ⟨vp_in_nI (by omega) (by omega), nm_r e (nm_r (nI_1 _) (nm_e ?_))⟩
    refine ih (m + 1) _ (by omega) rfl (by omega) (fun i hi => ?_) ?_
    · have h1 := hT (i + 1) (by omega)
      rw [show s + 1 - 1 - (i + 1) = s - 1 - i by omega, show m + (i + 1) = m + 1 + i by omega] at h1
      exact h1
    · rw [show m + 1 + s = m + (s + 1) by omega]
      exact h
theorem dx_app {post : SX → Prop} {L C P : Nat → Int32} {t : Int32} {T : Nat → Nat} {n v m : Nat} (s : Nat) (hv : v < 2 ^ 31) (hs : s ≤ 30) (hn : n + m + s ≤ 300) (hT : ∀ i, i < s → v / 2 ^ (s - 1 - i) % 2 = T (m + i)) (h : post (nI (n + (m + s)), t, ds_ov L T n (m + s), C, P)) : wpX_append post (nI (n + m), t, ds_ov L T n m, C, P) (nI v) (nI s) :=
  nm_e ⟨s + 1, dx_app1 hv s m _ hs (Int32.sub_eq_add_neg (nI s) 1) hn hT h⟩
section XS
variable {post : Int32 → SX → Prop} {L C P : Nat → Int32} {t : Int32} {n E O : Nat}
theorem dx_se1 {k j : Nat} {x4 x5 : Int32} (hE : E < 2 ^ 21) (hO : O < 2 ^ 21) (hn : n + 50 ≤ 300) (hj : j < 14) (h : wX_send_68 post x4 x5 k (nI (j + 1)) (nI (n + (8 + 3 * (j + 1)))) t (ds_ov L (ds_T E O) n (8 + 3 * (j + 1))) C P) : wX_send_89 post (wX_send_68 post x4 x5 k) x4 x5 (nI j) (nI (if j % 2 = 0 then E else O)) (nI (n + (8 + 3 * j))) t (ds_ov L (ds_T E O) n (8 + 3 * j)) C P := by
  have hW : (if j % 2 = 0 then E else O) < 2 ^ 31 := by split <;> omega
  have e : nI j / 2 = nI (j / 2) := pk_div (d := 2) (by omega) (by omega) (by omega)
  have hx := ds_x8 (ds_sy_lt (if j % 2 = 0 then E else O) (j / 2)) (ds_wh_lt j)
  refine ⟨by decide, ?_⟩
  rw [e]
  refine dx_sym hW (by omega) ?_
  unfold wpX_whitener
  rw [ds_whI (by omega)]
  refine nm_r (nx_xor _ _) (dx_app (T := ds_T E O) 3 (by omega) (by omega) (by omega) (fun i hi => (ds_Ts E O hi).symm) ?_)
  exact nm_r (nI_1 j) h
theorem dx_se2 (hE : E < 2 ^ 21) (hO : O < 2 ^ 21) (hn : n + 50 ≤ 300) (h : post (nI (n + 50)) (nI (n + 50), t, ds_ov L (ds_T E O) n 50, C, P)) : ∀ d j : Nat, j + d = 14 → wX_send_68 post (nI E) (nI O) (d + 1) (nI j) (nI (n + (8 + 3 * j))) t (ds_ov L (ds_T E O) n (8 + 3 * j)) C P := by
  intro d
  induction d with
  | zero =>
    intro j hj
    have hj' : j = 14 := by omega
    subst hj'
    exact br_t (nI_le (a := 14) (Nat.le_refl _) (by omega)) h
  | succ d ih =>
    intro j hj
    have e : nI j - nI j / 2 * 2 = nI (j % 2) := pk_rem (d := 2) (by omega) (by omega) (by omega)
    have s := dx_se1 (post := post) (t := t) (x4 := nI E) (x5 := nI O) (L := L) (C := C) (P := P) hE hO hn (by omega) (ih (j + 1) (by omega))
    refine br_f (nI_ge (b := 14) (by omega) (by omega)) ⟨by decide, ?_⟩
    rw [e]
    refine pk_eq (j % 2) 0 (fun z => ?_) (fun z => ?_)
    · rwa [if_pos z] at s
    · rwa [if_neg z] at s
theorem dx_send {M : Nat} (hM : M ≤ 262143) (hn : n + 50 ≤ 300) (hC : ∀ j, j < 512 → C j = nI (ds_cw j)) (h : post (nI (n + 50)) (nI (n + 50), t, ds_ov L (ds_T (ds_cw (ds_pl M 0)) (ds_cw (ds_pl M 1))) n 50, C, P)) : wpX_send post (nI n, t, L, C, P) (nI M) := by
  have p0 := ds_pl_lt M 0
  have p1 := ds_pl_lt M 1
  have e0 : C (nI (ds_pl M 0)).toNatClampNeg = nI (ds_cw (ds_pl M 0)) := by rw [nI_clamp (by omega)]; exact hC _ p0
  have e1 : C (nI (ds_pl M 1)).toNatClampNeg = nI (ds_cw (ds_pl M 1)) := by rw [nI_clamp (by omega)]; exact hC _ p1
  refine br_f (nI_pos (by omega)) (br_t (nI_le (b := 262143) hM (by omega)) (br_t ?_ ?_))
  · rw [show nI n + 50 = nI (n + 50) from nI_add n 50]
    exact nI_le (b := 300) hn (by omega)
  · refine dx_pl (f := 0) (by omega) (by omega) (dx_pl (f := 1) (by omega) (by omega) ⟨vp_in_nI p0 (by omega), nm_r e0 ⟨vp_in_nI p1 (by omega), nm_r e1 ?_⟩⟩)
    have a := dx_app (post := fun u => match u with | (f_length, f_taken, a_line, a_codeWords, a_places) => (∃ n68 : Nat, wX_send_68 post (nI (ds_cw (ds_pl M 0))) (nI (ds_cw (ds_pl M 1))) n68 0 f_length f_taken a_line a_codeWords a_places)) (L := L) (C := C) (P := P) (t := t) (T := ds_T (ds_cw (ds_pl M 0)) (ds_cw (ds_pl M 1))) (n := n) (v := 178) (m := 0) 8 (by omega) (by omega) (by omega) (fun i hi => by rw [Nat.zero_add, ds_Tm _ _ hi]) ⟨15, dx_se2 (ds_cw_lt p0) (ds_cw_lt p1) hn h 14 0 rfl⟩
    rw [ds_ov0] at a
    exact a
end XS
