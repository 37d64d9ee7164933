section YM
variable {post : Int32 → SY → Prop} {fn fc ff : Int32} {L pw py : Nat → Int32} {v : Nat → Nat}
/-- the try number (ik, xy) finds a code word -/
def ds_tr (v : Nat → Nat) (ik xy : Nat) : Prop := (ik / 7 < ik % 7 ∧ ds_isC (ds_ch v (ik / 7) (xy / 8) (ik % 7) (xy % 8)) = true) ∨ (ik = 0 ∧ ds_isC (ds_ch v 6 (xy / 8) 0 0) = true)
theorem dy_me65 {w : Nat → Int32} {J16 J : Int32 → Int32 → Int32 → Int32 → (Nat → Int32) → (Nat → Int32) → (Nat → Int32) → (Nat → Int32) → Prop} (hp : ∀ i, i < 7 → pw i = nI (ds_pw i)) (hv : ∀ j, j < 7 → w j = nI (v j) ∧ v j < 8) {ik xy : Nat} (hik : ik < 49) (hxy : xy < 64) (hS : ∀ (c : Nat → Nat), ds_isC c = true → ds_d v c 7 ≤ 2 → ∀ w : Nat → Int32, (∀ j, j < 7 → w j = nI (c j) ∧ c j < 8) → post 1 (fn, nI (ds_d v c 7), ff, L, w, pw, py)) (h1 : ¬ (ik / 7 < ik % 7 ∧ ds_isC (ds_ch v (ik / 7) (xy / 8) (ik % 7) (xy % 8)) = true)) (hJ : ¬ ds_tr v ik xy → ∀ w : Nat → Int32, (∀ j, j < 7 → w j = nI (v j) ∧ v j < 8) → J (nI (xy + 1)) fn fc ff L w pw py) : wY_mend_65 post J16 J (nI ik) (nI xy) fn fc ff L w pw py := by
  refine pk_eq ik 0 (fun z => ⟨by decide, ?_⟩) (fun z => nm_r (nI_1 xy) (hJ (fun q => ?_) w hv))
  · rw [show nI xy / 8 = nI (xy / 8) from pk_div (d := 8) (by omega) (by omega) (by omega)]
    refine dy_try (i := 6) (k := 0) (y := 0) hp hv (by omega) (by omega) (by omega) (by omega) (by omega) (fun y w' hw' => br_f (by decide) ?_) (fun y w' hw' => br_t rfl (nm_r (nI_1 xy) (hJ (fun q => ?_) w' hw')))
    · have e := ds_dch (v := v) (x := xy / 8) (y := 0) (show 6 < 7 by omega) (show 0 < 7 by omega) (by omega)
      have r := hS _ y (by rw [e, if_pos rfl]; split <;> omega) w' hw'
      rw [e] at r
      exact r
    · rcases q with q | q
      · exact h1 q
      · rw [q.2] at y; exact absurd y (by decide)
  · rcases q with q | q
    · exact h1 q
    · exact z q.1
theorem dy_me25 {J : Int32 → Int32 → Int32 → Int32 → (Nat → Int32) → (Nat → Int32) → (Nat → Int32) → (Nat → Int32) → Prop} (hp : ∀ i, i < 7 → pw i = nI (ds_pw i)) {ik : Nat} (hik : ik < 49) (hS : ∀ (c : Nat → Nat), ds_isC c = true → ds_d v c 7 ≤ 2 → ∀ w : Nat → Int32, (∀ j, j < 7 → w j = nI (c j) ∧ c j < 8) → post 1 (fn, nI (ds_d v c 7), ff, L, w, pw, py)) (hJ : (∀ xy, 8 ≤ xy → xy < 64 → ¬ ds_tr v ik xy) → ∀ w : Nat → Int32, (∀ j, j < 7 → w j = nI (v j) ∧ v j < 8) → J (nI (ik + 1)) fn fc ff L w pw py) : ∀ (d xy : Nat) (w : Nat → Int32), xy + d = 64 → (∀ z, 8 ≤ z → z < xy → ¬ ds_tr v ik z) → (∀ j, j < 7 → w j = nI (v j) ∧ v j < 8) → wY_mend_25 post J (nI ik) (d + 1) (nI xy) fn fc ff L w pw py := by
  intro d
  induction d with
  | zero =>
    intro xy w hxy ht hv
    have hxy' : xy = 64 := by omega
    subst hxy'
    exact br_t (nI_le (a := 64) (Nat.le_refl _) (by omega)) (nm_r (nI_1 ik) (hJ ht w hv))
  | succ d ih =>
    intro xy w hxy ht hv
    have er : nI ik - nI ik / 7 * 7 = nI (ik % 7) := pk_rem (d := 7) (by omega) (by omega) (by omega)
    have ed : nI ik / 7 = nI (ik / 7) := pk_div (d := 7) (by omega) (by omega) (by omega)
    have er8 : nI xy - nI xy / 8 * 8 = nI (xy % 8) := pk_rem (d := 8) (by omega) (by omega) (by omega)
    have ed8 : nI xy / 8 = nI (xy / 8) := pk_div (d := 8) (by omega) (by omega) (by omega)
    have hN : ¬ ds_tr v ik xy → ∀ w : Nat → Int32, (∀ j, j < 7 → w j = nI (v j) ∧ v j < 8) → wY_mend_25 post J (nI ik) (d + 1) (nI (xy + 1)) fn fc ff L w pw py := fun q w' hw' => ih (xy + 1) w' (by omega) (fun z hz8 hz => by
      by_cases y : z = xy
      · subst y; exact q
      · exact ht z hz8 (by omega)) hw'
    refine br_f (nI_ge (b := 64) (by omega) (by omega)) ⟨by decide, by decide, ?_⟩
    rw [er, ed, er8, ed8]
    refine pk_le (ik % 7) (ik / 7) (fun z => dy_me65 hp hv hik (by omega) hS (fun q => by omega) hN) (fun z => ⟨by decide, by decide, by decide, by decide, ?_⟩)
    refine dy_try hp hv (by omega) (by omega) (by omega) (by omega) (by omega) (fun y w' hw' => br_f (by decide) ?_) (fun y w' hw' => br_t rfl (dy_me65 hp hw' hik (by omega) hS (fun q => ?_) hN))
    · have e := ds_dch (v := v) (x := xy / 8) (y := xy % 8) (show ik / 7 < 7 by omega) (show ik % 7 < 7 by omega) (by omega)
      have r := hS _ y (by rw [e]; split <;> split <;> omega) w' hw'
      rw [e] at r
      exact r
    · rw [q.2] at y; exact absurd y (by decide)
theorem dy_me16 (hp : ∀ i, i < 7 → pw i = nI (ds_pw i)) (hS : ∀ (c : Nat → Nat), ds_isC c = true → ds_d v c 7 ≤ 2 → ∀ w : Nat → Int32, (∀ j, j < 7 → w j = nI (c j) ∧ c j < 8) → post 1 (fn, nI (ds_d v c 7), ff, L, w, pw, py)) (hF : (∀ ik, ik < 49 → ∀ xy, 8 ≤ xy → xy < 64 → ¬ ds_tr v ik xy) → ∀ w : Nat → Int32, post 0 (fn, fc, ff, L, w, pw, py)) : ∀ (d ik : Nat) (w : Nat → Int32), ik + d = 49 → (∀ z, z < ik → ∀ xy, 8 ≤ xy → xy < 64 → ¬ ds_tr v z xy) → (∀ j, j < 7 → w j = nI (v j) ∧ v j < 8) → wY_mend_16 post (d + 1) (nI ik) fn fc ff L w pw py := by
  intro d
  induction d with
  | zero =>
    intro ik w hik ht hv
    have hik' : ik = 49 := by omega
    subst hik'
    exact br_t (nI_le (a := 49) (Nat.le_refl _) (by omega)) (hF ht w)
  | succ d ih =>
    intro ik w hik ht hv
    exact br_f (nI_ge (b := 49) (by omega) (by omega)) ⟨57, dy_me25 hp (by omega) hS (fun q w' hw' => ih (ik + 1) w' (by omega) (fun z hz => by
      by_cases y : z = ik
      · subst y; exact q
      · exact ht z (by omega)) hw') 56 8 w rfl (fun z hz8 hz => absurd hz (by omega)) hv⟩
end YM
