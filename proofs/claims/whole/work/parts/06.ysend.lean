/-! ===== the reference: send ===== -/
theorem dy_nar {b : Nat} (hb : b < 2) : vp_nar .boolean (nI b) = nI b := by
  have h : b = 0 ∨ b = 1 := by omega
  rcases h with rfl | rfl
  · first | rfl | decide
  · first | rfl | decide
/-- outside [n, n + 50) the line is L; where D holds the frame's bit lies -/
def ds_In (L a : Nat → Int32) (T : Nat → Nat) (n : Nat) (D : Nat → Prop) : Prop := (∀ j, (j < n ∨ n + 50 ≤ j) → a j = L j) ∧ ∀ q, q < 50 → D q → a (n + q) = nI (T q)
theorem ds_In_w {L a : Nat → Int32} {T : Nat → Nat} {n q : Nat} {D D' : Nat → Prop} (h : ds_In L a T n D) (hq : q < 50) (hD : ∀ r, r < 50 → D' r → D r ∨ r = q) : ds_In L (upd a (n + q) (nI (T q))) T n D' := by
  refine ⟨fun j hj => ?_, fun r hr hDr => ?_⟩
  · rw [pk_un (by omega)]; exact h.1 j hj
  · by_cases z : r = q
    · subst z; exact pk_us
    · rw [pk_un (by omega)]
      exact h.2 r hr ((hD r hr hDr).resolve_right z)
theorem ds_In_ov {L a : Nat → Int32} {T : Nat → Nat} {n : Nat} {D : Nat → Prop} (h : ds_In L a T n D) (hD : ∀ q, q < 50 → D q) : a = ds_ov L T n 50 := by
  funext j
  unfold ds_ov
  by_cases z : n ≤ j ∧ j < n + 50
  · rw [if_pos z]
    have e := h.2 (j - n) (by omega) (hD _ (by omega))
    rw [show n + (j - n) = j by omega] at e
    exact e
  · rw [if_neg z]
    exact h.1 j (by omega)
section YS
variable {fn fc ff : Int32} {w pw py : Nat → Int32}
theorem dy_mk {post : Int32 → Prop} {L : Nat → Int32} {k : Nat} (hk : k < 8) (h : post (nI (178 / 2 ^ (7 - k) % 2))) : wpY_marker post (fn, fc, ff, L, w, pw, py) (nI k) := by
  have hc : k = 0 ∨ k = 1 ∨ k = 2 ∨ k = 3 ∨ k = 4 ∨ k = 5 ∨ k = 6 ∨ k = 7 := by omega
  rcases hc with rfl | rfl | rfl | rfl | rfl | rfl | rfl | rfl
  · exact br_t (by decide) h
  · exact br_f (by decide) (br_f (by decide) (br_f (by decide) (br_f (by decide) h)))
  · exact br_f (by decide) (br_t (by decide) h)
  · exact br_f (by decide) (br_f (by decide) (br_t (by decide) h))
  · exact br_f (by decide) (br_f (by decide) (br_f (by decide) (br_f (by decide) h)))
  · exact br_f (by decide) (br_f (by decide) (br_f (by decide) (br_f (by decide) h)))
  · exact br_f (by decide) (br_f (by decide) (br_f (by decide) (br_t (by decide) h)))
  · exact br_f (by decide) (br_f (by decide) (br_f (by decide) (br_f (by decide) h)))
theorem dy_scr {post : Int32 → Prop} {L : Nat → Int32} {j : Nat} (hj : j < 100) (h : post (nI (ds_wh j))) : wpY_scramble post (fn, fc, ff, L, w, pw, py) (nI j) := by
  unfold wpY_scramble
  dsimp only
  rw [ds_whI hj]
  exact h
theorem dy_lay1 {post : SY → Prop} {L : Nat → Int32} {n f E O : Nat} {D : Nat → Prop} (hn : n + 50 ≤ 300) (hf : f < 2) (hw : ∀ i, i < 7 → w i = nI (ds_sy (if f = 0 then E else O) i)) (h : ∀ a : Nat → Int32, ds_In L a (ds_T E O) n (fun q => D q ∨ (8 ≤ q ∧ (q - 8) / 3 % 2 = f)) → post (nI n, fc, ff, a, w, pw, py)) : ∀ (d ib : Nat) (a : Nat → Int32), ib + d = 21 → ds_In L a (ds_T E O) n (fun q => D q ∨ (8 ≤ q ∧ (q - 8) / 3 % 2 = f ∧ (q - 8) / 3 / 2 * 3 + (q - 8) % 3 < ib)) → wY_lay_2 post (nI f) (nI n) fc ff (d + 1) (nI ib) a w pw py := by
  intro d
  induction d with
  | zero =>
    intro ib a hi ha
    have hi' : ib = 21 := by omega
    subst hi'
    refine br_t (nI_le (a := 21) (Nat.le_refl _) (by omega)) (h a ⟨ha.1, fun q hq hD => ha.2 q hq ?_⟩)
    rcases hD with hD | hD
    · exact Or.inl hD
    · exact Or.inr ⟨hD.1, hD.2, by omega⟩
  | succ d ih =>
    intro ib a hi ha
    have ed : nI ib / 3 = nI (ib / 3) := pk_div (d := 3) (by omega) (by omega) (by omega)
    have er : nI ib - nI ib / 3 * 3 = nI (ib % 3) := pk_rem (d := 3) (by omega) (by omega) (by omega)
    obtain ⟨j, hj⟩ : ∃ j, j = 2 * (ib / 3) + f := ⟨_, rfl⟩
    obtain ⟨q, hq⟩ : ∃ q, q = 8 + 3 * j + ib % 3 := ⟨_, rfl⟩
    have e3 : (2 * (nI ib / 3)) + nI f = nI j := by
      rw [ed, show (2 : Int32) * nI (ib / 3) = nI (2 * (ib / 3)) from pk_mul 2 _, nI_add, hj]
    have ew : w (nI (ib / 3)).toNatClampNeg = nI (ds_sy (if f = 0 then E else O) (ib / 3)) := by
      rw [nI_clamp (by omega)]; exact hw _ (by omega)
    have hx8 := ds_x8 (ds_sy_lt (if f = 0 then E else O) (ib / 3)) (ds_wh_lt j)
    have e5 : (nI (ds_sy (if f = 0 then E else O) (ib / 3) ^^^ ds_wh j) >>> ((2 - nI (ib % 3)) &&& 31)) &&& 1 = nI (ds_T E O q) := by
      rw [show (2 : Int32) - nI (ib % 3) = nI (2 - ib % 3) from pk_sub (a := 2) (by omega), ds_shr (by omega) (by omega), ds_and1 (Nat.lt_of_le_of_lt (Nat.div_le_self _ _) (by omega)), hq, ds_Ts E O (Nat.mod_lt _ (by decide)), show j % 2 = f by omega, show j / 2 = ib / 3 by omega]
    have ep : ((nI n + 8) + (3 * nI j)) + nI (ib % 3) = nI (n + q) := by
      rw [show nI n + 8 = nI (n + 8) from nI_add n 8, show (3 : Int32) * nI j = nI (3 * j) from pk_mul 3 j, nI_add, nI_add, hq]
      exact congrArg nI (by omega)
    have hT := ds_T_lt E O q
    have hw2 : ds_In L (upd a (n + q) (nI (ds_T E O q))) (ds_T E O) n (fun q => D q ∨ (8 ≤ q ∧ (q - 8) / 3 % 2 = f ∧ (q - 8) / 3 / 2 * 3 + (q - 8) % 3 < ib + 1)) := by
      refine ds_In_w ha (by omega) (fun r hr hD => ?_)
      rcases hD with hD | hD
      · exact Or.inl (Or.inl hD)
      · by_cases z : r = q
        · exact Or.inr z
        · refine Or.inl (Or.inr ⟨hD.1, hD.2.1, ?_⟩)
          omega
    have hN := ih (ib + 1) _ (by omega) hw2
    refine br_f (nI_ge (b := 21) (by omega) (by omega)) ⟨by decide, nm_r e3 ⟨by decide, ?_⟩⟩
    rw [er, ed]
    refine ⟨vp_in_nI (by omega) (by omega), dy_scr (by omega) ?_⟩
    rw [ew]
    refine nm_r (nx_xor _ _) ⟨by decide, by decide, ?_⟩
    rw [e5, ep, nI_clamp (by omega)]
    refine pk_eq (ds_T E O q) 1 (fun z => ⟨vp_in_nI (by omega) (by omega), nm_r (e' := upd a (n + q) (nI (ds_T E O q))) ?_ (nm_r (nI_1 ib) hN)⟩) (fun z => ⟨vp_in_nI (by omega) (by omega), nm_r (e' := upd a (n + q) (nI (ds_T E O q))) ?_ (nm_r (nI_1 ib) hN)⟩)
    · rw [z]; exact congrArg _ (dy_nar (b := 1) (by decide))
    · rw [show ds_T E O q = 0 by omega]; exact congrArg _ (dy_nar (b := 0) (by decide))
theorem dy_lay {post : SY → Prop} {L a : Nat → Int32} {n f E O : Nat} {D : Nat → Prop} (hn : n + 50 ≤ 300) (hf : f < 2) (hw : ∀ i, i < 7 → w i = nI (ds_sy (if f = 0 then E else O) i)) (ha : ds_In L a (ds_T E O) n D) (h : ∀ a : Nat → Int32, ds_In L a (ds_T E O) n (fun q => D q ∨ (8 ≤ q ∧ (q - 8) / 3 % 2 = f)) → post (nI n, fc, ff, a, w, pw, py)) : wpY_lay post (nI n, fc, ff, a, w, pw, py) (nI f) :=
  ⟨22, dy_lay1 hn hf hw h 21 0 a rfl ⟨ha.1, fun q hq hD => ha.2 q hq (hD.elim id (fun z => absurd z.2.2 (Nat.not_lt_zero _)))⟩⟩
theorem ds_plS (M f : Nat) : ∀ i, i < 3 → ds_sy (ds_pl M f) i = ds_sy M (5 - (2 * i + f)) := by
  have a := ds_sy_lt M (5 - f); have b := ds_sy_lt M (3 - f); have c := ds_sy_lt M (1 - f)
  intro i hi
  have h : i = 0 ∨ i = 1 ∨ i = 2 := by omega
  rcases h with rfl | rfl | rfl
  · rw [show 5 - (2 * 0 + f) = 5 - f by omega]; unfold ds_pl; generalize ds_sy M (5 - f) = x at *; generalize ds_sy M (3 - f) = y at *; generalize ds_sy M (1 - f) = z at *; unfold ds_sy; omega
  · rw [show 5 - (2 * 1 + f) = 3 - f by omega]; unfold ds_pl; generalize ds_sy M (5 - f) = x at *; generalize ds_sy M (3 - f) = y at *; generalize ds_sy M (1 - f) = z at *; unfold ds_sy; omega
  · rw [show 5 - (2 * 2 + f) = 1 - f by omega]; unfold ds_pl; generalize ds_sy M (5 - f) = x at *; generalize ds_sy M (3 - f) = y at *; generalize ds_sy M (1 - f) = z at *; unfold ds_sy; omega
end YS
section YT
variable {post : Int32 → SY → Prop} {fc ff : Int32} {pw py L : Nat → Int32} {n M E O : Nat}
theorem dy_se67 {J : Int32 → Int32 → Int32 → Int32 → (Nat → Int32) → (Nat → Int32) → (Nat → Int32) → (Nat → Int32) → Prop} {f : Nat} {D : Nat → Prop} {a : Nat → Int32} (hp : ∀ i, i < 7 → pw i = nI (ds_pw i)) (hM : M ≤ 262143) (hn : n + 50 ≤ 300) (hf : f < 2) (hEO : ds_cw (ds_pl M f) = if f = 0 then E else O) (ha : ds_In L a (ds_T E O) n D) (h : ∀ a w : Nat → Int32, ds_In L a (ds_T E O) n (fun q => D q ∨ (8 ≤ q ∧ (q - 8) / 3 % 2 = f)) → J (nI (f + 1)) (nI n) fc ff a w pw py) : ∀ (d i : Nat) (w : Nat → Int32), i + d = 3 → (∀ j, j < i → w (4 + j) = nI (ds_sy (ds_pl M f) j)) → wY_send_67 post J (nI M) (nI f) (nI n) fc ff (d + 1) (nI i) a w pw py := by
  intro d
  induction d with
  | zero =>
    intro i w hi hw
    have hi' : i = 3 := by omega
    subst hi'
    exact br_t (nI_le (a := 3) (Nat.le_refl _) (by omega)) (dy_co hp (ds_pl_lt M f) hw (fun w' hw' => dy_lay hn hf (fun i hi => by rw [hw' i hi, hEO]) ha (fun a' ha' => nm_r (nI_1 f) (h a' w' ha'))))
  | succ d ih =>
    intro i w hi hw
    have e4 : (4 : Int32) + nI i = nI (4 + i) := nI_add 4 i
    have es : ((15 : Int32) - (6 * nI i)) - (3 * nI f) = nI (5 - (2 * i + f)) * 3 := by
      rw [show (6 : Int32) * nI i = nI (6 * i) from pk_mul 6 i, show (3 : Int32) * nI f = nI (3 * f) from pk_mul 3 f, show (15 : Int32) - nI (6 * i) = nI (15 - 6 * i) from pk_sub (a := 15) (by omega), pk_sub (by omega), show nI (5 - (2 * i + f)) * 3 = nI ((5 - (2 * i + f)) * 3) from pk_mul _ 3]
      exact congrArg nI (by omega)
    have e : upd w ((4 : Int32) + nI i).toNatClampNeg ((nI M >>> ((((15 : Int32) - (6 * nI i)) - (3 * nI f)) &&& 31)) &&& 7) = upd w (4 + i) (nI (ds_sy (ds_pl M f) i)) := by
      rw [es, ds_syI (by omega) (by omega), e4, nI_clamp (by omega), ds_plS M f i (by omega)]
    refine br_f (nI_ge (b := 3) (by omega) (by omega)) ⟨pk_in (4 + i) 7 (by omega) e4, nm_r e (nm_r (nI_1 i) (ih (i + 1) _ (by omega) (fun j hj => ?_)))⟩
    by_cases z : j = i
    · subst z; exact pk_us
    · rw [pk_un (by omega)]; exact hw j (by omega)
theorem dy_se60 {a w : Nat → Int32} (hp : ∀ i, i < 7 → pw i = nI (ds_pw i)) (hM : M ≤ 262143) (hn : n + 50 ≤ 300) (hE : E = ds_cw (ds_pl M 0)) (hO : O = ds_cw (ds_pl M 1)) (ha : ds_In L a (ds_T E O) n (fun q => q < 8)) (h : ∀ w : Nat → Int32, post (nI (n + 50)) (nI (n + 50), fc, ff, ds_ov L (ds_T E O) n 50, w, pw, py)) : wY_send_60 post (nI M) 3 0 (nI n) fc ff a w pw py := by
  refine br_f (by decide) ⟨4, dy_se67 (f := 0) hp hM hn (by omega) (by rw [if_pos rfl, hE]) ha (fun a1 w1 h1 => ?_) 3 0 w rfl (fun j hj => absurd hj (Nat.not_lt_zero j))⟩
  refine br_f (by decide) ⟨4, dy_se67 (f := 1) hp hM hn (by omega) (by rw [if_neg (by decide), hO]) h1 (fun a2 w2 h2 => ?_) 3 0 w1 rfl (fun j hj => absurd hj (Nat.not_lt_zero j))⟩
  refine br_t (by decide) (nm_r (nI_add n 50) ?_)
  rw [ds_In_ov h2 (fun q hq => by
    by_cases z : q < 8
    · exact Or.inl (Or.inl z)
    · by_cases y : (q - 8) / 3 % 2 = 0
      · exact Or.inl (Or.inr ⟨by omega, y⟩)
      · exact Or.inr ⟨by omega, by omega⟩)]
  exact h w2
theorem dy_se30 {w : Nat → Int32} (hn : n + 50 ≤ 300) (h : ∀ a : Nat → Int32, ds_In L a (ds_T E O) n (fun q => q < 8) → wY_send_60 post (nI M) 3 0 (nI n) fc ff a w pw py) : ∀ (d k : Nat) (a : Nat → Int32), k + d = 8 → ds_In L a (ds_T E O) n (fun q => q < k) → wY_send_30 post (nI M) (nI n) fc ff (d + 1) (nI k) a w pw py := by
  intro d
  induction d with
  | zero =>
    intro k a hk ha
    have hk' : k = 8 := by omega
    subst hk'
    exact br_t (nI_le (a := 8) (Nat.le_refl _) (by omega)) ⟨3, h a ha⟩
  | succ d ih =>
    intro k a hk ha
    have e : upd a (nI n + nI k).toNatClampNeg (vp_nar .boolean (nI (178 / 2 ^ (7 - k) % 2))) = upd a (n + k) (nI (ds_T E O k)) := by
      rw [nI_add, nI_clamp (by omega), dy_nar (Nat.mod_lt _ (by decide)), ds_Tm E O (by omega)]
    exact br_f (nI_ge (b := 8) (by omega) (by omega)) (dy_mk (by omega) ⟨pk_in (n + k) 300 (by omega) (nI_add n k), nm_r e (nm_r (nI_1 k) (ih (k + 1) _ (by omega) (ds_In_w ha (by omega) (fun r hr hD => by omega))))⟩)
theorem dy_send {w : Nat → Int32} (hp : ∀ i, i < 7 → pw i = nI (ds_pw i)) (hM : M ≤ 262143) (hn : n + 50 ≤ 300) (h : ∀ w : Nat → Int32, post (nI (n + 50)) (nI (n + 50), fc, ff, ds_ov L (ds_T (ds_cw (ds_pl M 0)) (ds_cw (ds_pl M 1))) n 50, w, pw, py)) : wpY_send post (nI n, fc, ff, L, w, pw, py) (nI M) := by
  refine br_f (nI_pos (by omega)) (br_t (nI_le (b := 262143) hM (by omega)) (br_t ?_ ⟨9, dy_se30 hn (fun a ha => dy_se60 hp hM hn rfl rfl ha h) 8 0 L rfl ⟨fun _ _ => rfl, fun q _ z => absurd z (Nat.not_lt_zero q)⟩⟩))
  rw [show nI n + 50 = nI (n + 50) from nI_add n 50]
  exact nI_le (b := 300) hn (by omega)
end YT
