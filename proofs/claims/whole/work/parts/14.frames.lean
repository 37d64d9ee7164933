/-! ===== the methods that receive ===== -/
theorem ds_near_congr {a b : Nat → Nat} (h : ∀ i, i < 7 → a i = b i) {o : Option Nat} (ho : ds_near a o) : ds_near b o := by
  cases o with
  | none =>
    intro p hp
    rw [← ds_d_congr 7 (fun i hi => ⟨h i hi, rfl⟩)]
    exact ho p hp
  | some p =>
    refine ⟨ho.1, ?_⟩
    rw [← ds_d_congr 7 (fun i hi => ⟨h i hi, rfl⟩)]
    exact ho.2
theorem ds_n3 {m : Nat} (h : m < 2 ^ 31) : ¬ nI m = -3 := by
  intro q
  have z := nI_pos h
  rw [q] at z
  exact z (by decide)
theorem ds_msg_lt (E O : Nat) : ds_msg E O < 2 ^ 31 := by
  have a4 := ds_sy_lt E 4; have a5 := ds_sy_lt E 5; have a6 := ds_sy_lt E 6
  have b4 := ds_sy_lt O 4; have b5 := ds_sy_lt O 5; have b6 := ds_sy_lt O 6
  unfold ds_msg
  omega
section FR
variable {n : Nat} {B : Nat → Nat} {L C : Nat → Int32}
/-- the two words of a frame as the component receives them, and what is near them -/
theorem ds_fr {l t : Int32} {P : Nat → Int32} (hL : ∀ j, L j = nI (B j)) (hB : ∀ j, B j < 2) (hC : ∀ j, j < 512 → C j = nI (ds_cw j)) (p f : Nat) : ∃ o, ds_near (ds_R B p f) o ∧ (∀ p', o = some p' → p' < 512) ∧ ∀ post : Int32 → Prop, post (ds_nr o) → wpX_nearCodeWord post (l, t, L, C, P) (nI (ds_W B p f 7)) := by
  obtain ⟨o, ho, h⟩ := dx_near (W := ds_W B p f 7) (l := l) (t := t) (L := L) (P := P) (ds_W_lt hB p f 7) hC
  refine ⟨o, ds_near_congr (ds_sW hB p f) ho, fun p' hp' => ?_, h⟩
  subst hp'
  exact ho.1
theorem dx_sm {post : Int32 → Prop} {l t : Int32} {P : Nat → Int32} {p f : Nat} {o : Option Nat} (hB : ∀ j, B j < 2) (ho : ∀ p', o = some p' → p' < 512) (hX : ∀ post : Int32 → Prop, post (ds_nr o) → wpX_nearCodeWord post (l, t, L, C, P) (nI (ds_W B p f 7))) (h : post (nI (ds_dc (ds_R B p f) o))) : wpX_symbolsMended post (l, t, L, C, P) (nI (ds_W B p f 7)) := by
  refine hX _ ?_
  cases o with
  | none => exact br_t rfl h
  | some a =>
    have ha := ds_cw_lt (ho a rfl)
    refine br_f (ds_n3 (by omega)) (dx_dif (ds_W_lt hB p f 7) ha ?_)
    rw [ds_d_congr 7 (fun i hi => ⟨ds_sW hB p f i hi, rfl⟩)]
    exact h
theorem ds_good {t0 : Int32} {pw px py : Nat → Int32} {c : Nat} (hn : n ≤ 300) (hL : ∀ j, L j = nI (B j)) (hB : ∀ j, B j < 2) (hC : ∀ j, j < 512 → C j = nI (ds_cw j)) (hp : ∀ j, j < 7 → pw j = nI (ds_pw j)) (hA : ds_Ag n c px py) : ∀ d k g : Nat, k + d = c → ∃ r : Int32, (∀ post : Int32 → SX → Prop, post r (nI n, nI c, L, C, px) → wX_good_8 post (nI n) (nI c) L C px (d + 1) (nI g) (nI k)) ∧ (∀ (post : Int32 → SY → Prop) (fc : Int32) (w : Nat → Int32), (∀ (fc : Int32) (w : Nat → Int32), post r (nI n, fc, nI c, L, w, pw, py)) → wY_good_8 post (d + 1) (nI g) (nI k) (nI n) fc (nI c) L w pw py) := by
  intro d
  induction d with
  | zero =>
    intro k g hk
    have hk' : k = c := by omega
    subst hk'
    have hc := hA.1
    exact ⟨nI g, fun post h => br_t (nI_le (Nat.le_refl _) (by omega)) h, fun post fc w h => br_t (nI_le (Nat.le_refl _) (by omega)) (h fc w)⟩
  | succ d ih =>
    intro k g hk
    have hc := hA.1
    obtain ⟨q, hq, ex, ey⟩ := hA.2 k (by omega)
    obtain ⟨o0, n0, b0, x0⟩ := ds_fr (l := nI n) (t := nI c) (P := px) hL hB hC q 0
    obtain ⟨o1, n1, b1, x1⟩ := ds_fr (l := nI n) (t := nI c) (P := px) hL hB hC q 1
    have hge : ¬ nI c ≤ nI k := nI_ge (by omega) (by omega)
    have v6 : vp_in (nI k) 6 := vp_in_nI (by omega) (by omega)
    have v7 : vp_in (nI k) 7 := vp_in_nI (by omega) (by omega)
    have ex' : px (nI k).toNatClampNeg = nI q := by rw [nI_clamp (by omega)]; exact ex
    have ey' : py (nI k).toNatClampNeg = nI q := by rw [nI_clamp (by omega)]; exact ey
    cases o0 with
    | none =>
      obtain ⟨r, hX, hY⟩ := ih (k + 1) g (by omega)
      refine ⟨r, fun post h => br_f hge ⟨v6, ?_⟩, fun post fc w h => br_f hge ⟨v7, ?_⟩⟩
      · rw [ex']
        exact dx_rw (f := 0) hB hL (by omega) (by omega) ⟨v6, dx_rw (f := 1) hB hL (by omega) (by omega) (x0 _ (br_t rfl (nm_r (nI_1 k) (hX post h))))⟩
      · rw [ey']
        exact dy_de hp hL hB (by omega) n0 n1 (fun w' => br_t rfl (nm_r (nI_1 k) (hY post _ w' h)))
    | some a =>
      have ha := ds_cw_lt (b0 a rfl)
      cases o1 with
      | none =>
        obtain ⟨r, hX, hY⟩ := ih (k + 1) g (by omega)
        refine ⟨r, fun post h => br_f hge ⟨v6, ?_⟩, fun post fc w h => br_f hge ⟨v7, ?_⟩⟩
        · rw [ex']
          exact dx_rw (f := 0) hB hL (by omega) (by omega) ⟨v6, dx_rw (f := 1) hB hL (by omega) (by omega) (x0 _ (br_f (ds_n3 (by omega)) (x1 _ (br_t rfl (nm_r (nI_1 k) (hX post h))))))⟩
        · rw [ey']
          exact dy_de hp hL hB (by omega) n0 n1 (fun w' => br_t rfl (nm_r (nI_1 k) (hY post _ w' h)))
      | some b =>
        have hb := ds_cw_lt (b1 b rfl)
        obtain ⟨r, hX, hY⟩ := ih (k + 1) (g + 1) (by omega)
        refine ⟨r, fun post h => br_f hge ⟨v6, ?_⟩, fun post fc w h => br_f hge ⟨v7, ?_⟩⟩
        · rw [ex']
          exact dx_rw (f := 0) hB hL (by omega) (by omega) ⟨v6, dx_rw (f := 1) hB hL (by omega) (by omega) (x0 _ (br_f (ds_n3 (by omega)) (x1 _ (br_f (ds_n3 (by omega)) (nm_r (nI_1 g) (nm_r (nI_1 k) (hX post h)))))))⟩
        · rw [ey']
          exact dy_de hp hL hB (by omega) n0 n1 (fun w' => br_f (ds_n3 (ds_msg_lt _ _)) (nm_r (nI_1 g) (nm_r (nI_1 k) (hY post _ w' h))))
end FR
theorem i_vc_frames {k : Nat} {u : SX} {v : SY} (I : i_Rel k u v) (hk : k + 3 ≤ 1536) : wpX_frames (fun r u' => wpY_frames (fun r' v' => r' = r ∧ i_Rel (k + 3) u' v') v) u := by
  obtain ⟨n, t, fc, ff, L, C, P, w, pw, py, rfl, rfl, hn, hL, hC, hp⟩ := I
  obtain ⟨B, hLB, hB⟩ := ds_bits hL
  obtain ⟨c, px', py', hA, hX, hY⟩ := ds_rcv (C := C) (w := w) (pw := pw) (fc := fc) (t := t) (ff := ff) (P := P) (py := py) hn hLB hB
  exact hX _ (hY _ ⟨rfl, ds_mk hn hL hC hp⟩)
theorem i_vc_place {k : Nat} {u : SX} {v : SY} (I : i_Rel k u v) (hk : k + 3 ≤ 1536) (v1 : Int32) : wpX_place (fun r u' => wpY_place (fun r' v' => r' = r ∧ i_Rel (k + 3) u' v') v v1) u v1 := by
  obtain ⟨n, t, fc, ff, L, C, P, w, pw, py, rfl, rfl, hn, hL, hC, hp⟩ := I
  obtain ⟨B, hLB, hB⟩ := ds_bits hL
  obtain ⟨c, px', py', hA, hX, hY⟩ := ds_rcv (C := C) (w := w) (pw := pw) (fc := fc) (t := t) (ff := ff) (P := P) (py := py) hn hLB hB
  have hc := hA.1
  refine hX _ ?_
  by_cases h0 : v1 < 0
  · exact br_t h0 (hY _ (br_t h0 ⟨rfl, ds_mk hn hL hC hp⟩))
  · by_cases h1 : v1 < nI c
    · obtain ⟨j, hj, rfl⟩ := nI_of h0
      have hjc := (nI_ltI hj (by omega)).mp h1
      obtain ⟨q, hq, ex, ey⟩ := hA.2 j hjc
      refine br_f h0 (br_t h1 ⟨vp_in_nI (by omega) (by omega), hY _ (br_f h0 (br_f (nI_ge hjc (by omega)) ⟨vp_in_nI (by omega) (by omega), ?_, ds_mk hn hL hC hp⟩))⟩)
      rw [nI_clamp hj, ex, ey]
    · exact br_f h0 (br_f h1 (hY _ (br_f h0 (br_t (Int32.not_lt.mp h1) ⟨rfl, ds_mk hn hL hC hp⟩))))
theorem i_vc_message {k : Nat} {u : SX} {v : SY} (I : i_Rel k u v) (hk : k + 3 ≤ 1536) (v1 : Int32) : wpX_message (fun r u' => wpY_message (fun r' v' => r' = r ∧ i_Rel (k + 3) u' v') v v1) u v1 := by
  obtain ⟨n, t, fc, ff, L, C, P, w, pw, py, rfl, rfl, hn, hL, hC, hp⟩ := I
  obtain ⟨B, hLB, hB⟩ := ds_bits hL
  obtain ⟨c, px', py', hA, hX, hY⟩ := ds_rcv (C := C) (w := w) (pw := pw) (fc := fc) (t := t) (ff := ff) (P := P) (py := py) hn hLB hB
  have hc := hA.1
  refine hX _ ?_
  by_cases h0 : v1 < 0
  · exact br_t h0 (hY _ (br_t h0 ⟨rfl, ds_mk hn hL hC hp⟩))
  · by_cases h1 : v1 < nI c
    · obtain ⟨j, hj, rfl⟩ := nI_of h0
      have hjc := (nI_ltI hj (by omega)).mp h1
      obtain ⟨q, hq, ex, ey⟩ := hA.2 j hjc
      obtain ⟨o0, n0, b0, x0⟩ := ds_fr (l := nI n) (t := nI c) (P := px') hLB hB hC q 0
      obtain ⟨o1, n1, b1, x1⟩ := ds_fr (l := nI n) (t := nI c) (P := px') hLB hB hC q 1
      have ex' : px' (nI j).toNatClampNeg = nI q := by rw [nI_clamp (by omega)]; exact ex
      have ey' : py' (nI j).toNatClampNeg = nI q := by rw [nI_clamp (by omega)]; exact ey
      have v6 : vp_in (nI j) 6 := vp_in_nI (by omega) (by omega)
      have key : ∀ r : Int32, ds_dr o0 o1 = r → wpY_message (fun r' v' => r' = r ∧ i_Rel (k + 3) (nI n, nI c, L, C, px') v') (nI n, fc, ff, L, w, pw, py) (nI j) := by
        intro r hr
        refine hY _ (br_f h0 (br_f (nI_ge hjc (by omega)) ⟨vp_in_nI (by omega) (by omega), ?_⟩))
        rw [ey']
        exact dy_de hp hLB hB (by omega) n0 n1 (fun w' => ⟨hr, ds_mk hn hL hC hp⟩)
      refine br_f h0 (br_t h1 ⟨v6, ?_⟩)
      rw [ex']
      refine dx_rw (f := 0) hB hLB (by omega) (by omega) ⟨v6, dx_rw (f := 1) hB hLB (by omega) (by omega) (x0 _ (x1 _ ?_))⟩
      cases o0 with
      | none => exact br_t rfl (key _ rfl)
      | some a =>
        have ha := ds_cw_lt (b0 a rfl)
        cases o1 with
        | none => exact br_f (ds_n3 (by omega)) (br_t rfl (key _ rfl))
        | some b =>
          have hb := ds_cw_lt (b1 b rfl)
          exact br_f (ds_n3 (by omega)) (br_f (ds_n3 (by omega)) (dx_msg ha hb (key _ rfl)))
    · exact br_f h0 (br_f h1 (hY _ (br_f h0 (br_t (Int32.not_lt.mp h1) ⟨rfl, ds_mk hn hL hC hp⟩))))
theorem i_vc_mended {k : Nat} {u : SX} {v : SY} (I : i_Rel k u v) (hk : k + 3 ≤ 1536) (v1 : Int32) : wpX_mended (fun r u' => wpY_mended (fun r' v' => r' = r ∧ i_Rel (k + 3) u' v') v v1) u v1 := by
  obtain ⟨n, t, fc, ff, L, C, P, w, pw, py, rfl, rfl, hn, hL, hC, hp⟩ := I
  obtain ⟨B, hLB, hB⟩ := ds_bits hL
  obtain ⟨c, px', py', hA, hX, hY⟩ := ds_rcv (C := C) (w := w) (pw := pw) (fc := fc) (t := t) (ff := ff) (P := P) (py := py) hn hLB hB
  have hc := hA.1
  refine hX _ ?_
  by_cases h0 : v1 < 0
  · exact br_t h0 (hY _ (br_t h0 ⟨rfl, ds_mk hn hL hC hp⟩))
  · by_cases h1 : v1 < nI c
    · obtain ⟨j, hj, rfl⟩ := nI_of h0
      have hjc := (nI_ltI hj (by omega)).mp h1
      obtain ⟨q, hq, ex, ey⟩ := hA.2 j hjc
      obtain ⟨o0, n0, b0, x0⟩ := ds_fr (l := nI n) (t := nI c) (P := px') hLB hB hC q 0
      obtain ⟨o1, n1, b1, x1⟩ := ds_fr (l := nI n) (t := nI c) (P := px') hLB hB hC q 1
      have ex' : px' (nI j).toNatClampNeg = nI q := by rw [nI_clamp (by omega)]; exact ex
      have ey' : py' (nI j).toNatClampNeg = nI q := by rw [nI_clamp (by omega)]; exact ey
      have v6 : vp_in (nI j) 6 := vp_in_nI (by omega) (by omega)
      refine br_f h0 (br_t h1 ⟨v6, ?_⟩)
      rw [ex']
      refine dx_rw (f := 0) hB hLB (by omega) (by omega) ⟨v6, dx_rw (f := 1) hB hLB (by omega) (by omega) (dx_sm hB b0 x0 (dx_sm hB b1 x1 (hY _ (br_f h0 (br_t h1 ⟨vp_in_nI (by omega) (by omega), ?_⟩)))))⟩
      rw [ey']
      exact dy_de hp hLB hB (by omega) n0 n1 (fun w' => ⟨(nI_add _ _).symm, ds_mk hn hL hC hp⟩)
    · exact br_f h0 (br_f h1 (hY _ (br_f h0 (br_f h1 ⟨rfl, ds_mk hn hL hC hp⟩))))
theorem i_vc_good {k : Nat} {u : SX} {v : SY} (I : i_Rel k u v) (hk : k + 3 ≤ 1536) : wpX_good (fun r u' => wpY_good (fun r' v' => r' = r ∧ i_Rel (k + 3) u' v') v) u := by
  obtain ⟨n, t, fc, ff, L, C, P, w, pw, py, rfl, rfl, hn, hL, hC, hp⟩ := I
  obtain ⟨B, hLB, hB⟩ := ds_bits hL
  obtain ⟨c, px', py', hA, hX, hY⟩ := ds_rcv (C := C) (w := w) (pw := pw) (fc := fc) (t := t) (ff := ff) (P := P) (py := py) hn hLB hB
  obtain ⟨r, gX, gY⟩ := ds_good (t0 := t) hn hLB hB hC hp hA c 0 0 (by omega)
  exact hX _ ⟨_, gX _ (hY _ ⟨_, gY _ fc w (fun fc' w' => ⟨rfl, ds_mk hn hL hC hp⟩)⟩)⟩
