/-! rows pasted from kit/rows: stores, nI arithmetic, masks, shifts, branches by naturals -/
theorem pk_us {f : Nat → Int32} {k : Nat} {x : Int32} : upd f k x k = x := if_pos rfl
theorem pk_un {f : Nat → Int32} {k j : Nat} {x : Int32} (h : j ≠ k) : upd f k x j = f j := if_neg h
theorem pk_sub {a b : Nat} (h : b ≤ a) : nI a - nI b = nI (a - b) := by
  obtain ⟨c, rfl⟩ : ∃ c, a = c + b := ⟨a - b, by omega⟩
  rw [← nI_add, Int32.add_sub_cancel, Nat.add_sub_cancel]
theorem pk_m1 (n : Nat) : nI (n + 1) + (-1) = nI n := by
  rw [← nI_1, Int32.add_assoc, show (1 : Int32) + (-1) = 0 from rfl, Int32.add_zero]
theorem pk_mul (a b : Nat) : nI a * nI b = nI (a * b) := (Int32.ofNat_mul a b).symm
theorem pk_div {a d : Nat} (ha : a < 2 ^ 31) (h0 : 0 < d) (hd : d < 2 ^ 31) : nI a / nI d = nI (a / d) := by
  apply Int32.toInt_inj.mp
  rw [lg_idiv_nonneg (by rw [nI_toInt ha]; omega) (by rw [nI_toInt hd]; omega), nI_toInt ha, nI_toInt hd, nI_toInt (Nat.lt_of_le_of_lt (Nat.div_le_self a d) ha)]
  first | rfl | exact (Int.natCast_ediv _ _).symm
theorem pk_rem {a d : Nat} (ha : a < 2 ^ 31) (h0 : 0 < d) (hd : d < 2 ^ 31) : nI a - nI a / nI d * nI d = nI (a % d) := by
  rw [pk_div ha h0 hd, pk_mul, pk_sub (Nat.div_mul_le_self a d)]
  exact congrArg nI (by have := Nat.div_add_mod' a d; omega)
theorem pk_ix (x : Int32) {n : Nat} (hn : n < 2 ^ 31) : x < 0 ∨ nI n ≤ x ∨ ∃ j : Nat, j < n ∧ x = nI j := by
  by_cases h : x < 0
  · exact Or.inl h
  · obtain ⟨j, hj, rfl⟩ := nI_of h
    by_cases h2 : j < n
    · exact Or.inr (Or.inr ⟨j, h2, rfl⟩)
    · exact Or.inr (Or.inl (nI_le (by omega) hj))
theorem pk_le {x y : Int32} {A B : Prop} (a b : Nat) (f : a ≤ b → A) (g : b < a → B) (hx : x = nI a := by rfl) (hy : y = nI b := by rfl) (ha : a < 2 ^ 31 := by omega) (hb : b < 2 ^ 31 := by omega) : (x ≤ y → A) ∧ (¬ x ≤ y → B) := by
  subst hx hy
  rw [nI_leI ha hb]
  exact ⟨f, fun z => g (by omega)⟩
theorem pk_lt {x y : Int32} {A B : Prop} (a b : Nat) (f : a < b → A) (g : b ≤ a → B) (hx : x = nI a := by rfl) (hy : y = nI b := by rfl) (ha : a < 2 ^ 31 := by omega) (hb : b < 2 ^ 31 := by omega) : (x < y → A) ∧ (¬ x < y → B) := by
  subst hx hy
  rw [nI_ltI ha hb]
  exact ⟨f, fun z => g (by omega)⟩
theorem pk_eq {x y : Int32} {A B : Prop} (a b : Nat) (f : a = b → A) (g : a ≠ b → B) (hx : x = nI a := by rfl) (hy : y = nI b := by rfl) (ha : a < 2 ^ 31 := by omega) (hb : b < 2 ^ 31 := by omega) : (x = y → A) ∧ (¬ x = y → B) := by
  subst hx hy
  rw [nI_eq ha hb]
  exact ⟨f, g⟩
theorem pk_in {x : Int32} (n N : Nat) (h : n < N) (hx : x = nI n := by rfl) (hN : N < 2 ^ 31 := by omega) : vp_in x N := by
  subst hx
  exact vp_in_nI h hN
theorem pk_cl {x : Int32} (n : Nat) (hx : x = nI n := by rfl) (h : n < 2 ^ 31 := by omega) : x.toNatClampNeg = n := by
  subst hx
  exact nI_clamp h
theorem pk_tn {n : Nat} (h : n < 2 ^ 32) : (nI n).toBitVec.toNat = n := Nat.mod_eq_of_lt h
theorem pk_and (x : Int32) {m : Int32} (k : Nat) (hm : m.toBitVec.toNat = 2 ^ k - 1) : x &&& m = nI (x.toBitVec.toNat % 2 ^ k) := by
  apply Int32.toBitVec_inj.mp
  apply BitVec.eq_of_toNat_eq
  rw [Int32.toBitVec_and, BitVec.toNat_and, hm, Nat.and_two_pow_sub_one_eq_mod]
  show _ = (BitVec.ofNat 32 _).toNat
  rw [BitVec.toNat_ofNat]
  exact (Nat.mod_eq_of_lt (Nat.lt_of_le_of_lt (Nat.mod_le _ _) x.toBitVec.isLt)).symm
theorem pk_andN {n : Nat} (h : n < 2 ^ 32) {m : Int32} (k : Nat) (hm : m.toBitVec.toNat = 2 ^ k - 1) : nI n &&& m = nI (n % 2 ^ k) := by
  rw [pk_and _ k hm, pk_tn h]
theorem pk_shl (a s : Int32) (k : Nat) (hs : (s.toBitVec.smod 32).toNat = k) : (a <<< s).toBitVec.toNat = a.toBitVec.toNat * 2 ^ k % 2 ^ 32 := by
  show (a.toBitVec <<< (s.toBitVec.smod 32).toNat).toNat = _
  rw [hs, BitVec.toNat_shiftLeft, Nat.shiftLeft_eq]
theorem pk_shlN {n : Nat} (s : Int32) (k : Nat) (hs : (s.toBitVec.smod 32).toNat = k) (h : n * 2 ^ k < 2 ^ 32) : nI n <<< s = nI (n * 2 ^ k) := by
  apply Int32.toBitVec_inj.mp
  apply BitVec.eq_of_toNat_eq
  have hn : n < 2 ^ 32 := Nat.lt_of_le_of_lt (Nat.le_mul_of_pos_right n (Nat.two_pow_pos k)) h
  rw [pk_shl _ _ k hs, pk_tn hn, pk_tn h, Nat.mod_eq_of_lt h]
theorem pk_shr (a s : Int32) (k : Nat) (hs : (s.toBitVec.smod 32).toNat = k) : (a >>> s).toInt = a.toInt >>> k := by
  show (a.toBitVec.sshiftRight (s.toBitVec.smod 32).toNat).toInt = _
  rw [hs, BitVec.toInt_sshiftRight]
  rfl
theorem pk_shrN {n : Nat} (h : n < 2 ^ 31) (s : Int32) (k : Nat) (hs : (s.toBitVec.smod 32).toNat = k) : nI n >>> s = nI (n / 2 ^ k) := by
  apply Int32.toInt_inj.mp
  have h2 : n / 2 ^ k ≤ n := Nat.div_le_self _ _
  rw [pk_shr _ _ k hs, nI_toInt h, nI_toInt (by omega), Int.shiftRight_eq_div_pow]
  rfl
theorem s_l : ∀ n, n < 32 → ((nI n &&& 31).toBitVec.smod 32).toNat = n := by decide +kernel
theorem nx_and (a b : Nat) : nI a &&& nI b = nI (a &&& b) := by
  apply Int32.toBitVec_inj.1
  show BitVec.ofNat 32 a &&& BitVec.ofNat 32 b = BitVec.ofNat 32 (a &&& b)
  apply BitVec.eq_of_getLsbD_eq
  intro i hi
  simp [hi]
theorem nx_xor (a b : Nat) : nI a ^^^ nI b = nI (a ^^^ b) := by
  apply Int32.toBitVec_inj.1
  show BitVec.ofNat 32 a ^^^ BitVec.ofNat 32 b = BitVec.ofNat 32 (a ^^^ b)
  apply BitVec.eq_of_getLsbD_eq
  intro i hi
  simp [hi]
/-! ===== own base rows ===== -/
theorem nx_or (a b : Nat) : nI a ||| nI b = nI (a ||| b) := by
  apply Int32.toBitVec_inj.1
  show BitVec.ofNat 32 a ||| BitVec.ofNat 32 b = BitVec.ofNat 32 (a ||| b)
  apply BitVec.eq_of_getLsbD_eq
  intro i hi
  simp [hi]
theorem ds_shl {a k : Nat} (hk : k < 32) (h : a * 2 ^ k < 2 ^ 32) : nI a <<< (nI k &&& 31) = nI (a * 2 ^ k) := pk_shlN _ k (s_l k hk) h
theorem ds_shr {a k : Nat} (hk : k < 32) (h : a < 2 ^ 31) : nI a >>> (nI k &&& 31) = nI (a / 2 ^ k) := pk_shrN h _ k (s_l k hk)
theorem ds_and7 {a : Nat} (h : a < 2 ^ 32) : nI a &&& 7 = nI (a % 8) := pk_andN h 3 (by decide)
theorem ds_and1 {a : Nat} (h : a < 2 ^ 32) : nI a &&& 1 = nI (a % 2) := pk_andN h 1 (by decide)
theorem ds_at {α : Sort _} {P : α → Prop} {a b : α} (e : a = b) (h : P b) : P a := e ▸ h
/-! ===== the field, the code, over naturals ===== -/
/-- symbol i of a packed word -/
def ds_sy (W i : Nat) : Nat := W / 8 ^ i % 8
/-- the product of two symbols: a table of sixty-four octal digits -/
def ds_pr (p q : Nat) : Nat := 2821848294356612419217921029917578219971947684264937521152 / 8 ^ (8 * p + q) % 8
/-- the powers of 2 -/
def ds_pw (e : Nat) : Nat := 1566481 / 8 ^ e % 8
/-- the check sum number k over the first m symbols -/
def ds_ps (w : Nat → Nat) (k : Nat) : Nat → Nat
  | 0 => 0
  | m + 1 => ds_ps w k m ^^^ ds_pr (w m) (ds_pw (k * m % 7))
def ds_isC (w : Nat → Nat) : Bool := (ds_ps w 1 7).beq 0 && (ds_ps w 2 7).beq 0 && (ds_ps w 3 7).beq 0 && (ds_ps w 4 7).beq 0
/-- the generator times a symbol; one step of the division; the code word at an index -/
def ds_g (f : Nat) : Nat := ds_pr 3 f + 8 * ds_pr 2 f + 64 * ds_pr 1 f + 512 * ds_pr 3 f + 4096 * ds_pr 1 f
def ds_rs (r i : Nat) : Nat := r ^^^ ds_g (ds_sy r i) * 8 ^ (i - 4)
def ds_cw (p : Nat) : Nat := (p * 4096) ||| ds_rs (ds_rs (ds_rs (p * 4096) 6) 5) 4
/-- in how many of the first m symbols two words differ -/
def ds_d (a b : Nat → Nat) : Nat → Nat
  | 0 => 0
  | m + 1 => ds_d a b m + (if a m = b m then 0 else 1)
theorem ds_sy_lt (W i : Nat) : ds_sy W i < 8 := Nat.mod_lt _ (by decide)
theorem ds_pw_lt (e : Nat) : ds_pw e < 8 := Nat.mod_lt _ (by decide)
theorem ds_pr_lt (p q : Nat) : ds_pr p q < 8 := Nat.mod_lt _ (by decide)
theorem ds_lin : ∀ a, a < 8 → ∀ b, b < 8 → ∀ q, q < 8 → ds_pr (a ^^^ b) q = ds_pr a q ^^^ ds_pr b q := by decide +kernel
theorem ds_t1 : ∀ p, p < 512 → ds_isC (ds_sy (ds_cw p)) = true ∧ ds_cw p / 4096 = p := by decide +kernel
theorem ds_t2 : ∀ a, a < 64 → ∀ b, b < 64 → ds_isC (ds_sy (64 * a + b)) = true → a = 0 ∧ b = 0 := by decide +kernel
theorem ds_t3 : ∀ p, p < 512 → p = 0 ∨ 5 ≤ ds_d (fun _ => 0) (ds_sy (ds_cw p)) 7 := by decide +kernel
theorem ds_x8 {a b : Nat} (ha : a < 8) (hb : b < 8) : a ^^^ b < 8 := Nat.xor_lt_two_pow (n := 3) ha hb
theorem ds_x0 {a b : Nat} : a ^^^ b = 0 ↔ a = b := by
  constructor
  · intro h
    have e : (a ^^^ b) ^^^ b = b := by rw [h, Nat.zero_xor]
    rw [Nat.xor_assoc, Nat.xor_self, Nat.xor_zero] at e
    exact e
  · intro h
    rw [h, Nat.xor_self]
theorem ds_xx (a b : Nat) : a ^^^ (a ^^^ b) = b := by rw [← Nat.xor_assoc, Nat.xor_self, Nat.zero_xor]
theorem ds_ps_congr {a b : Nat → Nat} (k : Nat) : ∀ m, (∀ i, i < m → a i = b i) → ds_ps a k m = ds_ps b k m
  | 0, _ => rfl
  | m + 1, h => by
    show ds_ps a k m ^^^ _ = ds_ps b k m ^^^ _
    rw [ds_ps_congr k m (fun i hi => h i (by omega)), h m (by omega)]
theorem ds_ps_lin {a b : Nat → Nat} (k : Nat) : ∀ m, (∀ i, i < m → a i < 8 ∧ b i < 8) → ds_ps (fun i => a i ^^^ b i) k m = ds_ps a k m ^^^ ds_ps b k m
  | 0, _ => (Nat.xor_self 0).symm
  | m + 1, h => by
    show ds_ps (fun i => a i ^^^ b i) k m ^^^ ds_pr (a m ^^^ b m) _ = (ds_ps a k m ^^^ _) ^^^ (ds_ps b k m ^^^ _)
    rw [ds_ps_lin k m (fun i hi => h i (by omega)), ds_lin _ (h m (by omega)).1 _ (h m (by omega)).2 _ (ds_pw_lt _)]
    ac_rfl
theorem ds_isC_iff (w : Nat → Nat) : ds_isC w = true ↔ ds_ps w 1 7 = 0 ∧ ds_ps w 2 7 = 0 ∧ ds_ps w 3 7 = 0 ∧ ds_ps w 4 7 = 0 := by
  unfold ds_isC
  simp only [Bool.and_eq_true, Nat.beq_eq, and_assoc]
theorem ds_isC_congr {a b : Nat → Nat} (h : ∀ i, i < 7 → a i = b i) : ds_isC a = ds_isC b := by
  unfold ds_isC
  rw [ds_ps_congr 1 7 h, ds_ps_congr 2 7 h, ds_ps_congr 3 7 h, ds_ps_congr 4 7 h]
theorem ds_isC_xor {a b : Nat → Nat} (h : ∀ i, i < 7 → a i < 8 ∧ b i < 8) (ha : ds_isC a = true) (hb : ds_isC b = true) : ds_isC (fun i => a i ^^^ b i) = true := by
  rw [ds_isC_iff] at ha hb ⊢
  rw [ds_ps_lin 1 7 h, ds_ps_lin 2 7 h, ds_ps_lin 3 7 h, ds_ps_lin 4 7 h]
  rw [ha.1, ha.2.1, ha.2.2.1, ha.2.2.2, hb.1, hb.2.1, hb.2.2.1, hb.2.2.2]
  exact ⟨rfl, rfl, rfl, rfl⟩
theorem ds_sy_hi {C p : Nat} (h : C / 4096 = p) (i : Nat) : ds_sy C (4 + i) = ds_sy p i := by
  unfold ds_sy
  rw [← h, Nat.div_div_eq_div_mul, Nat.pow_add]
theorem ds_lt7 {P : Nat → Prop} (h0 : P 0) (h1 : P 1) (h2 : P 2) (h3 : P 3) (h4 : P 4) (h5 : P 5) (h6 : P 6) : ∀ i, i < 7 → P i
  | 0, _ => h0 | 1, _ => h1 | 2, _ => h2 | 3, _ => h3 | 4, _ => h4 | 5, _ => h5 | 6, _ => h6
  | n + 7, h => absurd h (by omega)
/-- every word that the check sums pass is in the table -/
theorem ds_tab {w : Nat → Nat} (hw : ∀ i, i < 7 → w i < 8) (hc : ds_isC w = true) : ∃ p, p < 512 ∧ ∀ i, i < 7 → w i = ds_sy (ds_cw p) i := by
  have w0 := hw 0 (by omega); have w1 := hw 1 (by omega); have w2 := hw 2 (by omega); have w3 := hw 3 (by omega)
  have w4 := hw 4 (by omega); have w5 := hw 5 (by omega); have w6 := hw 6 (by omega)
  obtain ⟨p, hp⟩ : ∃ p, p = w 4 + 8 * w 5 + 64 * w 6 := ⟨_, rfl⟩
  have hp5 : p < 512 := by omega
  obtain ⟨t1, t2⟩ := ds_t1 p hp5
  have c4 : w 4 = ds_sy (ds_cw p) 4 := by rw [ds_sy_hi t2 0]; unfold ds_sy; omega
  have c5 : w 5 = ds_sy (ds_cw p) 5 := by rw [ds_sy_hi t2 1]; unfold ds_sy; omega
  have c6 : w 6 = ds_sy (ds_cw p) 6 := by rw [ds_sy_hi t2 2]; unfold ds_sy; omega
  have hx := ds_isC_xor (fun i hi => ⟨hw i hi, ds_sy_lt (ds_cw p) i⟩) hc t1
  have u0 := ds_x8 w0 (ds_sy_lt (ds_cw p) 0); have u1 := ds_x8 w1 (ds_sy_lt (ds_cw p) 1)
  have u2 := ds_x8 w2 (ds_sy_lt (ds_cw p) 2); have u3 := ds_x8 w3 (ds_sy_lt (ds_cw p) 3)
  have u4 := ds_x0.mpr c4; have u5 := ds_x0.mpr c5; have u6 := ds_x0.mpr c6
  generalize e0 : w 0 ^^^ ds_sy (ds_cw p) 0 = z0 at *
  generalize e1 : w 1 ^^^ ds_sy (ds_cw p) 1 = z1 at *
  generalize e2 : w 2 ^^^ ds_sy (ds_cw p) 2 = z2 at *
  generalize e3 : w 3 ^^^ ds_sy (ds_cw p) 3 = z3 at *
  have hU : ds_isC (ds_sy (64 * (z2 + 8 * z3) + (z0 + 8 * z1))) = true := by
    rw [← hx]
    apply ds_isC_congr
    apply ds_lt7
    · show _ = w 0 ^^^ _; rw [e0]; unfold ds_sy; omega
    · show _ = w 1 ^^^ _; rw [e1]; unfold ds_sy; omega
    · show _ = w 2 ^^^ _; rw [e2]; unfold ds_sy; omega
    · show _ = w 3 ^^^ _; rw [e3]; unfold ds_sy; omega
    · show _ = w 4 ^^^ _; rw [u4]; unfold ds_sy; omega
    · show _ = w 5 ^^^ _; rw [u5]; unfold ds_sy; omega
    · show _ = w 6 ^^^ _; rw [u6]; unfold ds_sy; omega
  obtain ⟨q1, q2⟩ := ds_t2 _ (by omega) _ (by omega) hU
  have y0 : z0 = 0 := by omega
  have y1 : z1 = 0 := by omega
  have y2 : z2 = 0 := by omega
  have y3 : z3 = 0 := by omega
  exact ⟨p, hp5, ds_lt7 (ds_x0.mp (e0.trans y0)) (ds_x0.mp (e1.trans y1)) (ds_x0.mp (e2.trans y2)) (ds_x0.mp (e3.trans y3)) c4 c5 c6⟩
theorem ds_d_congr {a b c d : Nat → Nat} : ∀ m, (∀ i, i < m → a i = c i ∧ b i = d i) → ds_d a b m = ds_d c d m
  | 0, _ => rfl
  | m + 1, h => by
    show ds_d a b m + _ = ds_d c d m + _
    rw [ds_d_congr m (fun i hi => h i (by omega)), (h m (by omega)).1, (h m (by omega)).2]
theorem ds_tri (w a b : Nat → Nat) : ∀ m, ds_d (fun _ => 0) (fun i => a i ^^^ b i) m ≤ ds_d w a m + ds_d w b m
  | 0 => Nat.le_refl _
  | m + 1 => by
    have ih := ds_tri w a b m
    show ds_d (fun _ => 0) (fun i => a i ^^^ b i) m + (if 0 = a m ^^^ b m then 0 else 1) ≤ (ds_d w a m + (if w m = a m then 0 else 1)) + (ds_d w b m + (if w m = b m then 0 else 1))
    by_cases h1 : w m = a m
    · by_cases h2 : w m = b m
      · have h3 : 0 = a m ^^^ b m := (ds_x0.mpr (h1.symm.trans h2)).symm
        rw [if_pos h1, if_pos h2, if_pos h3]; omega
      · rw [if_pos h1, if_neg h2]; split <;> omega
    · rw [if_neg h1]; split <;> split <;> omega
/-- at most one code word lies within two symbols -/
theorem ds_uniq {w : Nat → Nat} {p q : Nat} (hp : p < 512) (hq : q < 512) (h1 : ds_d w (ds_sy (ds_cw p)) 7 ≤ 2) (h2 : ds_d w (ds_sy (ds_cw q)) 7 ≤ 2) : p = q := by
  have hx := ds_isC_xor (fun i _ => ⟨ds_sy_lt (ds_cw p) i, ds_sy_lt (ds_cw q) i⟩) (ds_t1 p hp).1 (ds_t1 q hq).1
  obtain ⟨r, hr, er⟩ := ds_tab (fun i _ => ds_x8 (ds_sy_lt (ds_cw p) i) (ds_sy_lt (ds_cw q) i)) hx
  have h3 := ds_tri w (ds_sy (ds_cw p)) (ds_sy (ds_cw q)) 7
  rw [ds_d_congr 7 (fun i hi => ⟨rfl, er i hi⟩)] at h3
  rcases ds_t3 r hr with h0 | h0
  · subst h0
    have z : ∀ i, i < 7 → ds_sy (ds_cw 0) i = 0 := by decide +kernel
    have t : ∀ i, i < 7 → ds_sy (ds_cw p) i = ds_sy (ds_cw q) i := fun i hi => ds_x0.mp ((er i hi).trans (z i hi))
    have t4 := t 4 (by omega); have t5 := t 5 (by omega); have t6 := t 6 (by omega)
    rw [ds_sy_hi (ds_t1 p hp).2 0, ds_sy_hi (ds_t1 q hq).2 0] at t4
    rw [ds_sy_hi (ds_t1 p hp).2 1, ds_sy_hi (ds_t1 q hq).2 1] at t5
    rw [ds_sy_hi (ds_t1 p hp).2 2, ds_sy_hi (ds_t1 q hq).2 2] at t6
    unfold ds_sy at t4 t5 t6
    omega
  · omega
