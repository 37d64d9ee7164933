/-! ===== the relation, and the methods that change or show the line ===== -/
/-- one length, one line of bits; the component's table, the reference's powers -/
def i_Rel (_ : Nat) (u : SX) (v : SY) : Prop := ∃ (n : Nat) (t fc ff : Int32) (L C P w pw py : Nat → Int32), u = (nI n, t, L, C, P) ∧ v = (nI n, fc, ff, L, w, pw, py) ∧ n ≤ 300 ∧ (∀ j, L j = 0 ∨ L j = 1) ∧ (∀ j, j < 512 → C j = nI (ds_cw j)) ∧ (∀ j, j < 7 → pw j = nI (ds_pw j))
theorem i_up {k : Nat} {u : SX} {v : SY} (h : i_Rel k u v) : i_Rel (k + 3) u v := h
theorem ds_mk {k n : Nat} {t fc ff : Int32} {L C P w pw py : Nat → Int32} (hn : n ≤ 300) (hL : ∀ j, L j = 0 ∨ L j = 1) (hC : ∀ j, j < 512 → C j = nI (ds_cw j)) (hp : ∀ j, j < 7 → pw j = nI (ds_pw j)) : i_Rel k (nI n, t, L, C, P) (nI n, fc, ff, L, w, pw, py) :=
  ⟨n, t, fc, ff, L, C, P, w, pw, py, rfl, rfl, hn, hL, hC, hp⟩
theorem ds_bits {L : Nat → Int32} (hL : ∀ j, L j = 0 ∨ L j = 1) : ∃ B : Nat → Nat, (∀ j, L j = nI (B j)) ∧ ∀ j, B j < 2 := by
  refine ⟨fun j => if L j = 0 then 0 else 1, fun j => ?_, fun j => ?_⟩
  · by_cases z : L j = 0
    · show L j = nI (if L j = 0 then 0 else 1)
      rw [if_pos z, z]; rfl
    · show L j = nI (if L j = 0 then 0 else 1)
      rw [if_neg z, (hL j).resolve_left z]; rfl
  · show (if L j = 0 then 0 else 1) < 2
    split <;> omega
theorem ds_updb {L : Nat → Int32} (hL : ∀ j, L j = 0 ∨ L j = 1) (k : Nat) {x : Int32} (hx : x = 0 ∨ x = 1) : ∀ j, upd L k x j = 0 ∨ upd L k x j = 1 := by
  intro j
  by_cases z : j = k
  · subst z; rw [pk_us]; exact hx
  · rw [pk_un z]; exact hL j
theorem ds_nar {x : Int32} (hx : x = 0 ∨ x = 1) : vp_nar .boolean x = x := by
  rcases hx with rfl | rfl
  · exact dy_nar (b := 0) (by decide)
  · exact dy_nar (b := 1) (by decide)
theorem ds_ovb {L : Nat → Int32} {T : Nat → Nat} {n m : Nat} (hL : ∀ j, L j = 0 ∨ L j = 1) (hT : ∀ j, T j < 2) : ∀ j, ds_ov L T n m j = 0 ∨ ds_ov L T n m j = 1 := by
  intro j
  unfold ds_ov
  split
  · have h : T (j - n) = 0 ∨ T (j - n) = 1 := by have := hT (j - n); omega
    rcases h with h | h
    · rw [h]; exact Or.inl rfl
    · rw [h]; exact Or.inr rfl
  · exact hL j
theorem i_vc0 : wpX_init (fun u => wpY_init (fun v => i_Rel 0 u v)) := by
  refine ⟨513, dx_init (fun C hC => ⟨8, dy_in1 (fun W hW => ds_mk (n := 0) (by omega) (fun _ => Or.inl rfl) hC hW) 7 0 1 (fun _ => 0) rfl (by omega) (fun _ => by decide) (fun j hj => absurd hj (Nat.not_lt_zero j))⟩) 512 0 (fun _ => 0) rfl (fun j hj => absurd hj (Nat.not_lt_zero j))⟩
theorem i_vc_send {k : Nat} {u : SX} {v : SY} (I : i_Rel k u v) (hk : k + 3 ≤ 1536) (v1 : Int32) : wpX_send (fun r u' => wpY_send (fun r' v' => r' = r ∧ i_Rel (k + 3) u' v') v v1) u v1 := by
  obtain ⟨n, t, fc, ff, L, C, P, w, pw, py, rfl, rfl, hn, hL, hC, hp⟩ := I
  by_cases h0 : v1 < 0
  · exact br_t h0 (br_t h0 ⟨rfl, ds_mk hn hL hC hp⟩)
  · by_cases h1 : v1 ≤ 262143
    · obtain ⟨M, hM, rfl⟩ := nI_of2 (M := 262143) (n := 262143) (by decide) h0 h1
      by_cases h2 : n + 50 ≤ 300
      · exact dx_send hM h2 hC (dy_send hp hM h2 (fun w' => ⟨rfl, ds_mk h2 (ds_ovb hL (fun j => ds_T_lt _ _ j)) hC hp⟩))
      · have g : ¬ nI n + 50 ≤ 300 := by
          rw [show nI n + 50 = nI (n + 50) from nI_add n 50]
          exact nI_ge (a := 300) (by omega) (by omega)
        exact br_f h0 (br_t h1 (br_f g (br_f h0 (br_t h1 (br_f g ⟨rfl, ds_mk hn hL hC hp⟩)))))
    · exact br_f h0 (br_f h1 (br_f h0 (br_f h1 ⟨rfl, ds_mk hn hL hC hp⟩)))
theorem i_vc_flip {k : Nat} {u : SX} {v : SY} (I : i_Rel k u v) (hk : k + 3 ≤ 1536) (v1 : Int32) : wpX_flip (fun r u' => wpY_flip (fun r' v' => r' = r ∧ i_Rel (k + 3) u' v') v v1) u v1 := by
  obtain ⟨n, t, fc, ff, L, C, P, w, pw, py, rfl, rfl, hn, hL, hC, hp⟩ := I
  by_cases h0 : v1 < 0
  · exact br_t h0 (br_t h0 (br_t rfl ⟨rfl, ds_mk hn hL hC hp⟩))
  · by_cases h1 : v1 < nI n
    · obtain ⟨j, hj, rfl⟩ := nI_of h0
      have hjn := (nI_ltI hj (by omega)).mp h1
      have hi : vp_in (nI j) 300 := vp_in_nI (by omega) (by omega)
      have g : ¬ nI n ≤ nI j := nI_ge hjn (by omega)
      rcases hL j with z | z
      · refine br_f h0 (br_t h1 ⟨hi, hi, nm_r (e' := upd L j 1) ?_ ⟨hi, br_f h0 (br_f g (br_f (by decide) ⟨hi, br_t ?_ ⟨hi, nm_r (e' := upd L j 1) ?_ ⟨hi, br_f ?_ ⟨?_, ds_mk hn (ds_updb hL j (Or.inr rfl)) hC hp⟩⟩⟩⟩))⟩⟩)
        · rw [nI_clamp hj, z]; rfl
        · rw [nI_clamp hj, z]
        · rw [nI_clamp hj, ds_nar (Or.inr rfl)]
        · rw [nI_clamp hj, pk_us]; decide
        · rw [nI_clamp hj, pk_us]
      · refine br_f h0 (br_t h1 ⟨hi, hi, nm_r (e' := upd L j 0) ?_ ⟨hi, br_f h0 (br_f g (br_f (by decide) ⟨hi, br_f ?_ ⟨hi, nm_r (e' := upd L j 0) ?_ ⟨hi, br_t ?_ ⟨?_, ds_mk hn (ds_updb hL j (Or.inl rfl)) hC hp⟩⟩⟩⟩))⟩⟩)
        · rw [nI_clamp hj, z]; rfl
        · rw [nI_clamp hj, z]; decide
        · rw [nI_clamp hj, ds_nar (Or.inl rfl)]
        · rw [nI_clamp hj, pk_us]
        · rw [nI_clamp hj, pk_us]
    · have g : nI n ≤ v1 := Int32.not_lt.mp h1
      exact br_f h0 (br_f h1 (br_f h0 (br_t g (br_t rfl ⟨rfl, ds_mk hn hL hC hp⟩))))
theorem ds_drop {t fc ff : Int32} {C P w pw py : Nat → Int32} {n : Nat} (hn : n < 300) : ∀ (d i : Nat) (L : Nat → Int32), i + d = n → (∀ j, L j = 0 ∨ L j = 1) → ∃ L' : Nat → Int32, (∀ j, L' j = 0 ∨ L' j = 1) ∧ (∀ post : Int32 → SX → Prop, post (nI n) (nI n, t, L', C, P) → wX_drop_26 post (nI n) t (d + 1) (nI i) L C P) ∧ (∀ post : Int32 → SY → Prop, post (nI n) (nI n, fc, ff, L', w, pw, py) → wY_drop_12 post (nI (n + 1)) fc ff (d + 1) (nI i) L w pw py) := by
  intro d
  induction d with
  | zero =>
    intro i L hi hL
    have hi' : i = n := by omega
    subst hi'
    refine ⟨L, hL, fun post h => br_t (nI_le (Nat.le_refl _) (by omega)) h, fun post h => br_t ?_ (nm_r (nI_pred i) h)⟩
    rw [nI_pred]; exact nI_le (Nat.le_refl _) (by omega)
  | succ d ih =>
    intro i L hi hL
    obtain ⟨L', hL', hX, hY⟩ := ih (i + 1) (upd L i (L (i + 1))) (by omega) (ds_updb hL i (hL (i + 1)))
    have v0 : vp_in (nI i) 300 := vp_in_nI (by omega) (by omega)
    have v1 : vp_in (nI i + 1) 300 := pk_in (i + 1) 300 (by omega) (nI_1 i)
    refine ⟨L', hL', fun post h => br_f (nI_ge (by omega) (by omega)) ⟨v1, v0, nm_r (e' := upd L i (L (i + 1))) ?_ (nm_r (nI_1 i) (hX post h))⟩, fun post h => br_f ?_ ⟨v1, v0, nm_r (e' := upd L i (L (i + 1))) ?_ (nm_r (nI_1 i) (hY post h))⟩⟩
    · rw [nI_1, nI_clamp (by omega), nI_clamp (by omega)]
    · rw [nI_pred]; exact nI_ge (by omega) (by omega)
    · rw [nI_1, nI_clamp (by omega), nI_clamp (by omega), ds_nar (hL _)]
theorem i_vc_drop {k : Nat} {u : SX} {v : SY} (I : i_Rel k u v) (hk : k + 3 ≤ 1536) (v1 : Int32) : wpX_drop (fun r u' => wpY_drop (fun r' v' => r' = r ∧ i_Rel (k + 3) u' v') v v1) u v1 := by
  obtain ⟨n, t, fc, ff, L, C, P, w, pw, py, rfl, rfl, hn, hL, hC, hp⟩ := I
  by_cases h0 : v1 < 0
  · exact br_t h0 (br_t h0 (br_t rfl ⟨rfl, ds_mk hn hL hC hp⟩))
  · by_cases h1 : v1 < nI n
    · obtain ⟨j, hj, rfl⟩ := nI_of h0
      have hjn := (nI_ltI hj (by omega)).mp h1
      obtain ⟨m, rfl⟩ : ∃ m, n = m + 1 := ⟨n - 1, by omega⟩
      obtain ⟨L', hL', hX, hY⟩ := ds_drop (t := t) (fc := fc) (ff := ff) (C := C) (P := P) (w := w) (pw := pw) (py := py) (n := m) (by omega) (m - j) j L (by omega) hL
      exact br_f h0 (br_t h1 (nm_r (nI_pred m) ⟨_, hX _ (br_f h0 (br_f (nI_ge hjn (by omega)) (br_f (by decide) ⟨_, hY _ ⟨rfl, ds_mk (by omega) hL' hC hp⟩⟩)))⟩))
    · have g : nI n ≤ v1 := Int32.not_lt.mp h1
      exact br_f h0 (br_f h1 (br_f h0 (br_t g (br_t rfl ⟨rfl, ds_mk hn hL hC hp⟩))))
theorem ds_ins {t fc ff x : Int32} {C P w pw py : Nat → Int32} {n i : Nat} (hn : n < 300) (hx : x = 0 ∨ x = 1) : ∀ (d : Nat) (L : Nat → Int32), i + d ≤ n → (∀ j, L j = 0 ∨ L j = 1) → ∃ L' : Nat → Int32, (∀ j, L' j = 0 ∨ L' j = 1) ∧ (∀ post : Int32 → SX → Prop, post (nI (n + 1)) (nI (n + 1), t, L', C, P) → wX_insert_32 post (nI i) x (nI n) t (d + 1) (nI (i + d)) L C P) ∧ (∀ post : Int32 → SY → Prop, post (nI (n + 1)) (nI (n + 1), fc, ff, L', w, pw, py) → wY_insert_32 post (nI i) x (nI n) fc ff (d + 1) (nI (i + d)) L w pw py) := by
  intro d
  induction d with
  | zero =>
    intro L hi hL
    have v0 : vp_in (nI i) 300 := vp_in_nI (by omega) (by omega)
    have le : nI (i + 0) ≤ nI i := nI_le (Nat.le_refl _) (by omega)
    refine ⟨upd L i x, ds_updb hL i hx, fun post h => br_t le ?_, fun post h => br_t le ⟨v0, nm_r (e' := upd L i x) ?_ (nm_r (nI_1 n) h)⟩⟩
    · rcases hx with rfl | rfl
      · exact br_t rfl ⟨v0, nm_r (e' := upd L i 0) (by rw [nI_clamp (by omega)]) (nm_r (nI_1 n) h)⟩
      · exact br_f (by decide) ⟨v0, nm_r (e' := upd L i 1) (by rw [nI_clamp (by omega)]) (nm_r (nI_1 n) h)⟩
    · rw [nI_clamp (by omega), ds_nar hx]
  | succ d ih =>
    intro L hi hL
    obtain ⟨L', hL', hX, hY⟩ := ih (upd L (i + d + 1) (L (i + d))) (by omega) (ds_updb hL _ (hL (i + d)))
    have v0 : vp_in (nI (i + d + 1)) 300 := vp_in_nI (by omega) (by omega)
    have v1 : vp_in (nI (i + d + 1) - 1) 300 := pk_in (i + d) 300 (by omega) (nI_pred (i + d))
    have g : ¬ nI (i + d + 1) ≤ nI i := nI_ge (by omega) (by omega)
    refine ⟨L', hL', fun post h => br_f g ⟨v1, v0, nm_r (e' := upd L (i + d + 1) (L (i + d))) ?_ (nm_r (pk_m1 (i + d)) (hX post h))⟩, fun post h => br_f g ⟨v1, v0, nm_r (e' := upd L (i + d + 1) (L (i + d))) ?_ (nm_r (pk_m1 (i + d)) (hY post h))⟩⟩
    · rw [show nI (i + (d + 1)) - 1 = nI (i + d) from nI_pred (i + d), nI_clamp (by omega), nI_clamp (by omega)]; rfl
    · rw [show nI (i + (d + 1)) - 1 = nI (i + d) from nI_pred (i + d), nI_clamp (by omega), nI_clamp (by omega), ds_nar (hL _)]; rfl
theorem i_vc_insert {k : Nat} {u : SX} {v : SY} (I : i_Rel k u v) (hk : k + 3 ≤ 1536) (v1 : Int32) (v2 : Int32) : wpX_insert (fun r u' => wpY_insert (fun r' v' => r' = r ∧ i_Rel (k + 3) u' v') v v1 (lw_bz v2)) u v1 (lw_bz v2) := by
  obtain ⟨n, t, fc, ff, L, C, P, w, pw, py, rfl, rfl, hn, hL, hC, hp⟩ := I
  by_cases h0 : v1 < 0
  · exact br_t h0 (br_t h0 ⟨rfl, ds_mk hn hL hC hp⟩)
  · by_cases h1 : v1 ≤ nI n
    · obtain ⟨j, hj, rfl⟩ := nI_of h0
      have hjn := (nI_leI hj (by omega)).mp h1
      by_cases h2 : n < 300
      · obtain ⟨L', hL', hX, hY⟩ := ds_ins (t := t) (fc := fc) (ff := ff) (C := C) (P := P) (w := w) (pw := pw) (py := py) (i := j) h2 (lw_bz_01 v2) (n - j) L (by omega) hL
        rw [show j + (n - j) = n by omega] at hX hY
        have g : ¬ nI n = 300 := fun q => absurd ((nI_eq (b := 300) (by omega) (by omega)).mp q) (by omega)
        exact br_f h0 (br_t h1 (br_t (nI_lt (b := 300) h2 (by omega)) ⟨_, hX _ (br_f h0 (br_t h1 (br_f g ⟨_, hY _ ⟨rfl, ds_mk (by omega) hL' hC hp⟩⟩)))⟩))
      · have e : n = 300 := by omega
        subst e
        exact br_f h0 (br_t h1 (br_f (by decide) (br_f h0 (br_t h1 (br_t rfl ⟨rfl, ds_mk hn hL hC hp⟩)))))
    · exact br_f h0 (br_f h1 (br_f h0 (br_f h1 ⟨rfl, ds_mk hn hL hC hp⟩)))
theorem i_vc_clear {k : Nat} {u : SX} {v : SY} (I : i_Rel k u v) (hk : k + 3 ≤ 1536) : wpX_clear (fun r u' => wpY_clear (fun r' v' => r' = r ∧ i_Rel (k + 3) u' v') v) u := by
  obtain ⟨n, t, fc, ff, L, C, P, w, pw, py, rfl, rfl, hn, hL, hC, hp⟩ := I
  exact ⟨rfl, ds_mk (n := 0) (by omega) hL hC hp⟩
theorem i_vc_bits {k : Nat} {u : SX} {v : SY} (I : i_Rel k u v) (hk : k + 3 ≤ 1536) : wpX_bits (fun r => wpY_bits (fun r' => r' = r ∧ i_Rel (k + 3) u v) v) u := by
  obtain ⟨n, t, fc, ff, L, C, P, w, pw, py, rfl, rfl, hn, hL, hC, hp⟩ := I
  exact ⟨rfl, ds_mk hn hL hC hp⟩
theorem i_vc_bit {k : Nat} {u : SX} {v : SY} (I : i_Rel k u v) (hk : k + 3 ≤ 1536) (v1 : Int32) : wpX_bit (fun r => wpY_bit (fun r' => r' = r ∧ i_Rel (k + 3) u v) v v1) u v1 := by
  obtain ⟨n, t, fc, ff, L, C, P, w, pw, py, rfl, rfl, hn, hL, hC, hp⟩ := I
  by_cases h0 : v1 < 0
  · exact br_t h0 (br_t h0 (br_t rfl ⟨rfl, ds_mk hn hL hC hp⟩))
  · by_cases h1 : v1 < nI n
    · obtain ⟨j, hj, rfl⟩ := nI_of h0
      have hjn := (nI_ltI hj (by omega)).mp h1
      have hi : vp_in (nI j) 300 := vp_in_nI (by omega) (by omega)
      have g : ¬ nI n ≤ nI j := nI_ge hjn (by omega)
      refine br_f h0 (br_t h1 ⟨hi, br_f h0 (br_f g (br_f (by decide) ⟨hi, ?_⟩))⟩)
      rw [nI_clamp hj]
      rcases hL j with z | z
      · exact br_t z ⟨z.symm, ds_mk hn hL hC hp⟩
      · exact br_f (by rw [z]; decide) ⟨z.symm, ds_mk hn hL hC hp⟩
    · have g : nI n ≤ v1 := Int32.not_lt.mp h1
      exact br_f h0 (br_f h1 (br_f h0 (br_t g (br_t rfl ⟨rfl, ds_mk hn hL hC hp⟩))))
