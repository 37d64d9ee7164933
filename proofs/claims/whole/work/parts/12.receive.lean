/-! ===== receiving: both sides in lockstep at the reference's heads ===== -/
def ds_mm (B : Nat → Nat) (p : Nat) : Nat → Nat
  | 0 => 0
  | k + 1 => ds_mm B p k + (if B (p + k) = 178 / 2 ^ (7 - k) % 2 then 0 else 1)
theorem ds_mm_le (B : Nat → Nat) (p : Nat) : ∀ k, ds_mm B p k ≤ k
  | 0 => Nat.le_refl _
  | k + 1 => by
    have := ds_mm_le B p k
    show ds_mm B p k + (if B (p + k) = 178 / 2 ^ (7 - k) % 2 then 0 else 1) ≤ k + 1
    split <;> omega
theorem ds_mmT : ∀ V, V < 256 → 0 + (if V / 128 % 2 = 178 / 2 ^ (7 - 0) % 2 then 0 else 1) + (if V / 64 % 2 = 178 / 2 ^ (7 - 1) % 2 then 0 else 1) + (if V / 32 % 2 = 178 / 2 ^ (7 - 2) % 2 then 0 else 1) + (if V / 16 % 2 = 178 / 2 ^ (7 - 3) % 2 then 0 else 1) + (if V / 8 % 2 = 178 / 2 ^ (7 - 4) % 2 then 0 else 1) + (if V / 4 % 2 = 178 / 2 ^ (7 - 5) % 2 then 0 else 1) + (if V / 2 % 2 = 178 / 2 ^ (7 - 6) % 2 then 0 else 1) + (if V % 2 = 178 / 2 ^ (7 - 7) % 2 then 0 else 1) = ds_pc (V ^^^ 178) 8 := by decide +kernel
theorem ds_b8 (b0 b1 b2 b3 b4 b5 b6 b7 V : Nat) (h0 : b0 < 2) (h1 : b1 < 2) (h2 : b2 < 2) (h3 : b3 < 2) (h4 : b4 < 2) (h5 : b5 < 2) (h6 : b6 < 2) (h7 : b7 < 2) (hV : V = ((((((((0 * 2 + b0) * 2 + b1) * 2 + b2) * 2 + b3) * 2 + b4) * 2 + b5) * 2 + b6) * 2 + b7)) : V < 256 ∧ V / 128 % 2 = b0 ∧ V / 64 % 2 = b1 ∧ V / 32 % 2 = b2 ∧ V / 16 % 2 = b3 ∧ V / 8 % 2 = b4 ∧ V / 4 % 2 = b5 ∧ V / 2 % 2 = b6 ∧ V % 2 = b7 := by
  refine ⟨?_, ?_, ?_, ?_, ?_, ?_, ?_, ?_, ?_⟩ <;> omega
theorem ds_mmS {B : Nat → Nat} (hB : ∀ j, B j < 2) (p : Nat) : ds_mm B p 8 = ds_pc (ds_rb B p 8 ^^^ 178) 8 := by
  obtain ⟨hV, e0, e1, e2, e3, e4, e5, e6, e7⟩ := ds_b8 _ _ _ _ _ _ _ _ (ds_rb B p 8) (hB (p + 0)) (hB (p + 1)) (hB (p + 2)) (hB (p + 3)) (hB (p + 4)) (hB (p + 5)) (hB (p + 6)) (hB (p + 7)) rfl
  have t := ds_mmT _ hV
  rw [e0, e1, e2, e3, e4, e5, e6, e7] at t
  exact t
section RC
variable {n : Nat} {B : Nat → Nat} {L : Nat → Int32}
theorem dy_si1 {post : Int32 → Prop} {fn fc ff : Int32} {w pw py : Nat → Int32} (hL : ∀ j, L j = nI (B j)) (hB : ∀ j, B j < 2) {p : Nat} (hp : p + 8 ≤ 300) (h1 : ds_S B p → post 1) (h0 : ¬ ds_S B p → post 0) : ∀ d k : Nat, k + d = 8 → wY_isSight_17 post (nI p) fn fc ff L w pw py (d + 1) (nI (ds_mm B p k)) (nI k) := by
  intro d
  induction d with
  | zero =>
    intro k hk
    have hk' : k = 8 := by omega
    subst hk'
    have hl := ds_mm_le B p 8
    have e := ds_mmS hB p
    refine br_t (nI_le (a := 8) (Nat.le_refl _) (by omega)) (pk_lt 1 (ds_mm B p 8) (fun z => h0 (fun q => ?_)) (fun z => h1 ?_))
    · unfold ds_S at q; omega
    · unfold ds_S; omega
  | succ d ih =>
    intro k hk
    have hb := hB (p + k)
    have hm : 178 / 2 ^ (7 - k) % 2 < 2 := Nat.mod_lt _ (by decide)
    refine br_f (nI_ge (b := 8) (by omega) (by omega)) ?_
    rw [nI_add, nI_clamp (by omega), hL]
    refine ⟨vp_in_nI (by omega) (by omega), dy_mk (by omega) (pk_eq (B (p + k)) (178 / 2 ^ (7 - k) % 2) (fun z => nm_r (nI_1 k) ?_) (fun z => nm_r (nI_1 _) (nm_r (nI_1 k) ?_)))⟩
    · have e : ds_mm B p (k + 1) = ds_mm B p k := by
        show ds_mm B p k + (if B (p + k) = 178 / 2 ^ (7 - k) % 2 then 0 else 1) = _
        rw [if_pos z, Nat.add_zero]
      rw [← e]
      exact ih (k + 1) (by omega)
    · have e : ds_mm B p (k + 1) = ds_mm B p k + 1 := by
        show ds_mm B p k + (if B (p + k) = 178 / 2 ^ (7 - k) % 2 then 0 else 1) = _
        rw [if_neg z]
      rw [← e]
      exact ih (k + 1) (by omega)
theorem dy_si {post : Int32 → Prop} {fc ff : Int32} {w pw py : Nat → Int32} (hn : n ≤ 300) (hL : ∀ j, L j = nI (B j)) (hB : ∀ j, B j < 2) {p : Nat} (hp : p ≤ n) (h1 : p + 8 ≤ n → ds_S B p → post 1) (h0 : ¬ (p + 8 ≤ n ∧ ds_S B p) → post 0) : wpY_isSight post (nI n, fc, ff, L, w, pw, py) (nI p) :=
  pk_lt (p + 7) n (fun z => ⟨9, dy_si1 hL hB (by omega) (fun s => h1 (by omega) s) (fun s => h0 (fun q => s q.2)) 8 0 rfl⟩) (fun z => h0 (fun q => by omega)) (nI_add p 7)
theorem dy_hu1 {fc ff : Int32} {w pw py : Nat → Int32} (hn : n ≤ 300) (hL : ∀ j, L j = nI (B j)) (hB : ∀ j, B j < 2) : ∀ d p : Nat, p + d = n → ∃ q, p ≤ q ∧ q ≤ n ∧ (q = n ∨ (q + 8 ≤ n ∧ ds_S B q)) ∧ (∀ j, p ≤ j → j < q → j + 8 ≤ n → ¬ ds_S B j) ∧ ∀ post : Int32 → Prop, post (nI q) → wY_hunt_2 post (nI n) fc ff L w pw py (d + 1) (nI p) := by
  intro d
  induction d with
  | zero =>
    intro p hp
    have hp' : p = n := by omega
    subst hp'
    exact ⟨p, Nat.le_refl _, Nat.le_refl _, Or.inl rfl, fun j h1 h2 => absurd h2 (by omega), fun post h => br_t (nI_le (Nat.le_refl _) (by omega)) h⟩
  | succ d ih =>
    intro p hp
    by_cases z : p + 8 ≤ n ∧ ds_S B p
    · exact ⟨p, Nat.le_refl _, by omega, Or.inr z, fun j h1 h2 => absurd h2 (by omega), fun post h => br_f (nI_ge (by omega) (by omega)) (dy_si hn hL hB (by omega) (fun _ _ => br_f (by decide) h) (fun q => absurd z q))⟩
    · obtain ⟨q, h1, h2, h3, h4, h5⟩ := ih (p + 1) (by omega)
      refine ⟨q, by omega, h2, h3, fun j a b c => ?_, fun post h => br_f (nI_ge (by omega) (by omega)) (dy_si hn hL hB (by omega) (fun a b => absurd ⟨a, b⟩ z) (fun _ => br_t rfl (nm_r (nI_1 p) (h5 post h))))⟩
      by_cases y : j = p
      · subst y; exact fun s => z ⟨c, s⟩
      · exact h4 j (by omega) b c
theorem dx_skip {post : SX → Prop} {C P : Nat → Int32} {c q : Nat} (hn : n ≤ 300) (hL : ∀ j, L j = nI (B j)) (hB : ∀ j, B j < 2) (hq : q ≤ n) (h : ∀ N, n < N + q → wX_receive_9 post (nI n) N 0 (nI q) (nI c) L C P) : ∀ d p N : Nat, p + d = q → 50 * c ≤ p → n < N + p → (∀ j, p ≤ j → j < q → j + 50 ≤ n → ¬ ds_S B j) → wX_receive_9 post (nI n) N 0 (nI p) (nI c) L C P := by
  intro d
  induction d with
  | zero =>
    intro p N hp _ hN _
    have hp' : p = q := by omega
    subst hp'
    exact h N hN
  | succ d ih =>
    intro p N hp hc hN hs
    obtain ⟨N, rfl⟩ : ∃ M, N = M + 1 := ⟨N - 1, by omega⟩
    have e : nI p + 50 = nI (p + 50) := nI_add p 50
    by_cases z : p + 50 ≤ n
    · refine br_f ?_ (br_f (nI_ge (b := 6) (by omega) (by omega)) (dx_si hB hL (by omega) (fun s => absurd s (hs p (Nat.le_refl _) (by omega) z)) (fun _ => br_t rfl (br_t rfl (nm_r (nI_1 p) (ih (p + 1) N (by omega) (by omega) (by omega) (fun j a b => hs j (by omega) b)))))))
      rw [e]; exact nI_nlt z (by omega)
    · refine br_t ?_ ?_
      · rw [e]; exact nI_lt (by omega) (by omega)
      · refine (h (n + 1) (by omega)).1 ?_
        rw [show nI q + 50 = nI (q + 50) from nI_add q 50]
        exact nI_lt (by omega) (by omega)
/-- the places that both sides hold -/
def ds_Ag (n c : Nat) (px py : Nat → Int32) : Prop := c ≤ 6 ∧ ∀ k, k < c → ∃ q, q + 50 ≤ n ∧ px k = nI q ∧ py k = nI q
theorem ds_AgS {c p : Nat} {px py : Nat → Int32} (h : ds_Ag n c px py) (hc : c < 6) (hp : p + 50 ≤ n) : ds_Ag n (c + 1) (upd px c (nI p)) (upd py c (nI p)) := by
  refine ⟨by omega, fun k hk => ?_⟩
  by_cases z : k = c
  · subst z; exact ⟨p, hp, pk_us, pk_us⟩
  · rw [pk_un z, pk_un z]; exact h.2 k (by omega)
variable {C w pw : Nat → Int32} {fc : Int32}
theorem dx_take {post : SX → Prop} {N p c : Nat} {s : Int32} {px : Nat → Int32} (hc : c < 6) (h : wX_receive_9 post (nI n) N s (nI (p + 50)) (nI (c + 1)) L C (upd px c (nI p))) : wX_receive_43 post (wX_receive_9 post (nI n) N) (nI p) s (nI n) (nI c) L C px := by
  refine ⟨vp_in_nI hc (by omega), nm_r (e' := upd px c (nI p)) (by rw [nI_clamp (by omega)]) (nm_r (nI_1 c) (nm_r (nI_add p 49) (nm_r (nI_1 (p + 49)) h)))⟩
theorem dy_take {post : SY → Prop} {N p c step : Nat} {z : Int32} {py : Nat → Int32} (hc : c < 6) (h : wY_receive_15 post N (nI (p + 50)) z (nI (step + 1)) (nI n) fc (nI (c + 1)) L w pw (upd py c (nI p))) : wY_receive_55 post (wY_receive_15 post N) (nI p) (nI step) z (nI n) fc (nI c) L w pw py := by
  refine ⟨vp_in_nI (by omega) (by omega), nm_r (e' := upd py c (nI p)) (by rw [nI_clamp (by omega)]) (nm_r (nI_1 c) ?_)⟩
  rw [show nI p + 50 = nI (p + 50) from nI_add p 50]
  exact nm_r (nI_1 step) h
theorem ds_rc (hn : n ≤ 300) (hL : ∀ j, L j = nI (B j)) (hB : ∀ j, B j < 2) : ∀ (m p c step : Nat) (t ms : Int32) (px py : Nat → Int32), n < m + p → p ≤ n → 50 * c ≤ p → (t = 0 ∨ t = 1) → (ms = 0 ∨ ms = 1) → (p + 50 ≤ n → ((t = 1 ∨ ds_S B p) ↔ (ms = 0 ∨ ds_S B p))) → (step ≤ 2 * c + 1) → (ms = 1 → step ≤ 2 * c) → ds_Ag n c px py →
    ∃ c' px' py', ds_Ag n c' px' py' ∧ (∀ (post : SX → Prop) (N : Nat), n < N + p → post (nI n, nI c', L, C, px') → wX_receive_9 post (nI n) N t (nI p) (nI c) L C px) ∧ (∀ (post : SY → Prop) (N : Nat), n < N + p → post (nI n, fc, nI c', L, w, pw, py') → wY_receive_15 post N (nI p) ms (nI step) (nI n) fc (nI c) L w pw py) := by
  intro m
  induction m with
  | zero => intro p c step t ms px py hm hp; omega
  | succ m ih =>
    intro p c step t ms px py hm hp hc ht hms hcd hs1 hs2 hA
    have e50 : nI p + 50 = nI (p + 50) := nI_add p 50
    have e49 : nI p + 49 = nI (p + 49) := nI_add p 49
    by_cases z : p + 50 ≤ n
    · have gX : ¬ nI n < nI p + 50 := by rw [e50]; exact nI_nlt z (by omega)
      have g6 : ¬ (6 : Int32) ≤ nI c := nI_ge (b := 6) (by omega) (by omega)
      have g20 : ¬ (20 : Int32) ≤ nI step := nI_ge (b := 20) (by omega) (by omega)
      have gF : ¬ nI n ≤ nI p + 49 := by rw [e49]; exact nI_ge (by omega) (by omega)
      by_cases s : ds_S B p
      · obtain ⟨c', px', py', hA', hX, hY⟩ := ih (p + 50) (c + 1) (step + 1) 1 0 (upd px c (nI p)) (upd py c (nI p)) (by omega) z (by omega) (Or.inr rfl) (Or.inl rfl) (fun _ => ⟨fun _ => Or.inl rfl, fun _ => Or.inl rfl⟩) (by omega) (fun q => absurd q (by decide)) (ds_AgS hA (by omega) z)
        refine ⟨c', px', py', hA', fun post N hN hpost => ?_, fun post N hN hpost => ?_⟩
        · obtain ⟨N, rfl⟩ : ∃ M, N = M + 1 := ⟨N - 1, by omega⟩
          exact br_f gX (br_f g6 (dx_si hB hL (by omega) (fun _ => br_f (by decide) (dx_take (by omega) (hX post N (by omega) hpost))) (fun q => absurd s q)))
        · obtain ⟨N, rfl⟩ : ∃ M, N = M + 1 := ⟨N - 1, by omega⟩
          exact br_f g20 (br_f gF (br_f (by decide) (dy_si hn hL hB hp (fun _ _ => br_f (by decide) (br_f (by decide) (dy_take (by omega) (hY post N (by omega) hpost)))) (fun q => absurd ⟨by omega, s⟩ q))))
      · by_cases k : t = 1
        · have km : ms = 0 := ((hcd z).mp (Or.inl k)).resolve_right s
          subst k
          subst km
          obtain ⟨c', px', py', hA', hX, hY⟩ := ih (p + 50) (c + 1) (step + 1) 0 1 (upd px c (nI p)) (upd py c (nI p)) (by omega) z (by omega) (Or.inl rfl) (Or.inr rfl) (fun _ => ⟨fun q => Or.inr (q.resolve_left (by decide)), fun q => Or.inr (q.resolve_left (by decide))⟩) (by omega) (fun _ => by omega) (ds_AgS hA (by omega) z)
          refine ⟨c', px', py', hA', fun post N hN hpost => ?_, fun post N hN hpost => ?_⟩
          · obtain ⟨N, rfl⟩ : ∃ M, N = M + 1 := ⟨N - 1, by omega⟩
            exact br_f gX (br_f g6 (dx_si hB hL (by omega) (fun q => absurd q s) (fun _ => br_t rfl (br_f (by decide) (dx_take (by omega) (hX post N (by omega) hpost))))))
          · obtain ⟨N, rfl⟩ : ∃ M, N = M + 1 := ⟨N - 1, by omega⟩
            exact br_f g20 (br_f gF (br_f (by decide) (dy_si hn hL hB hp (fun _ q => absurd q s) (fun _ => br_t rfl (br_t rfl (br_t rfl (dy_take (by omega) (hY post N (by omega) hpost))))))))
        · have k0 : t = 0 := ht.resolve_right k
          have km : ms = 1 := hms.resolve_left (fun q => ((hcd z).mpr (Or.inl q)).elim k s)
          subst k0
          subst km
          obtain ⟨q, q1, q2, q3, q4, q5⟩ := dy_hu1 (fc := fc) (ff := nI c) (w := w) (pw := pw) (py := py) hn hL hB (n - p) p (by omega)
          have hpq : p ≠ q := by
            intro y
            subst y
            rcases q3 with q3 | q3
            · omega
            · exact s q3.2
          obtain ⟨c', px', py', hA', hX, hY⟩ := ih q c (step + 1) 0 0 px py (by omega) q2 (by omega) (Or.inl rfl) (Or.inl rfl) (fun y => ⟨fun _ => Or.inl rfl, fun _ => Or.inr (q3.resolve_left (by omega)).2⟩) (by have := hs2 rfl; omega) (fun y => absurd y (by decide)) hA
          refine ⟨c', px', py', hA', fun post N hN hpost => ?_, fun post N hN hpost => ?_⟩
          · exact dx_skip hn hL hB q2 (fun N' hN' => hX post N' hN' hpost) (q - p) p N (by omega) hc hN (fun j a b d => q4 j a b (by omega))
          · obtain ⟨N, rfl⟩ : ∃ M, N = M + 1 := ⟨N - 1, by omega⟩
            exact br_f g20 (br_f gF (br_f (by decide) (dy_si hn hL hB hp (fun _ y => absurd y s) (fun _ => br_t rfl (br_f (by decide) ⟨_, q5 _ (nm_r (nI_1 step) (hY post N (by omega) hpost))⟩)))))
    · refine ⟨c, px, py, hA, fun post N hN hpost => ?_, fun post N hN hpost => ?_⟩
      · obtain ⟨N, rfl⟩ : ∃ M, N = M + 1 := ⟨N - 1, by omega⟩
        refine br_t ?_ hpost
        rw [e50]; exact nI_lt (by omega) (by omega)
      · obtain ⟨N, rfl⟩ : ∃ M, N = M + 1 := ⟨N - 1, by omega⟩
        refine br_c (fun _ => hpost) (fun _ => br_t ?_ (br_t rfl hpost))
        rw [e49]; exact nI_le (by omega) (by omega)
theorem ds_rcv {t ff : Int32} {P py : Nat → Int32} (hn : n ≤ 300) (hL : ∀ j, L j = nI (B j)) (hB : ∀ j, B j < 2) : ∃ c px' py', ds_Ag n c px' py' ∧ (∀ (post : SX → Prop), post (nI n, nI c, L, C, px') → wpX_receive post (nI n, t, L, C, P)) ∧ (∀ (post : SY → Prop), post (nI n, fc, nI c, L, w, pw, py') → wpY_receive post (nI n, fc, ff, L, w, pw, py)) := by
  obtain ⟨q, q1, q2, q3, q4, q5⟩ := dy_hu1 (fc := fc) (ff := 0) (w := w) (pw := pw) (py := py) hn hL hB n 0 (by omega)
  obtain ⟨c', px', py', hA', hX, hY⟩ := ds_rc (C := C) (w := w) (pw := pw) (fc := fc) hn hL hB (n + 1) q 0 0 0 0 P py (by omega) q2 (by omega) (Or.inl rfl) (Or.inl rfl) (fun y => ⟨fun _ => Or.inl rfl, fun _ => Or.inr (q3.resolve_left (by omega)).2⟩) (by omega) (fun y => absurd y (by decide)) ⟨by omega, fun k hk => absurd hk (Nat.not_lt_zero k)⟩
  refine ⟨c', px', py', hA', fun post hpost => ?_, fun post hpost => ?_⟩
  · exact ⟨n + 1, dx_skip (c := 0) hn hL hB q2 (fun N' hN' => hX post N' hN' hpost) q 0 (n + 1) (by omega) (by omega) (by omega) (fun j a b d => q4 j a b (by omega))⟩
  · exact ⟨_, q5 _ ⟨n + 1, hY post (n + 1) (by omega) hpost⟩⟩
end RC
