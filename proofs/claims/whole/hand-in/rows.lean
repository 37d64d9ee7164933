section
/-! rows pasted from kit/rows: stores, nI arithmetic, masks, shifts, branches by naturals -/
theorem pk_us {f : Nat → Int32} {k : Nat} {x : Int32} : upd f k x k = x := if_pos rfl
theorem pk_un {f : Nat → Int32} {k j : Nat} {x : Int32} (h : j ≠ k) : upd f k x j = f j := if_neg h
theorem pk_sub {a b : Nat} (h : b ≤ a) : nI a - nI b = nI (a - b) := by
  obtain ⟨c, rfl⟩ : ∃ c, a = c + b := ⟨a - b, by omega⟩
  rw [← nI_add, Int32.add_sub_cancel, Nat.add_sub_cancel]
theorem pk_m1 (n : Nat) : nI (n + 1) + (-1) = nI n := by
  rw [← nI_1, Int32.add_assoc, show (1 : Int32) + (-1) = 0 from rfl, Int32.add_zero]
theorem pk_mul (a b : Nat) : nI a * nI b = nI (a * b) := (Int32.ofNat_mul a b).symm
theorem pk_div {a d : Nat} (ha : a < 2 ^ 31) (h0 : 0 < d) (hd : d < 2 ^ 31) : nI a / nI d = nI (a / d) := by
  apply Int32.toInt_inj.mp
  rw [lg_idiv_nonneg (by rw [nI_toInt ha]; omega) (by rw [nI_toInt hd]; omega), nI_toInt ha, nI_toInt hd, nI_toInt (Nat.lt_of_le_of_lt (Nat.div_le_self a d) ha)]
  first | rfl | exact (Int.natCast_ediv _ _).symm
theorem pk_rem {a d : Nat} (ha : a < 2 ^ 31) (h0 : 0 < d) (hd : d < 2 ^ 31) : nI a - nI a / nI d * nI d = nI (a % d) := by
  rw [pk_div ha h0 hd, pk_mul, pk_sub (Nat.div_mul_le_self a d)]
  exact congrArg nI (by have := Nat.div_add_mod' a d; omega)
theorem pk_ix (x : Int32) {n : Nat} (hn : n < 2 ^ 31) : x < 0 ∨ nI n ≤ x ∨ ∃ j : Nat, j < n ∧ x = nI j := by
  by_cases h : x < 0
  · exact Or.inl h
  · obtain ⟨j, hj, rfl⟩ := nI_of h
    by_cases h2 : j < n
    · exact Or.inr (Or.inr ⟨j, h2, rfl⟩)
    · exact Or.inr (Or.inl (nI_le (by omega) hj))
theorem pk_le {x y : Int32} {A B : Prop} (a b : Nat) (f : a ≤ b → A) (g : b < a → B) (hx : x = nI a := by rfl) (hy : y = nI b := by rfl) (ha : a < 2 ^ 31 := by omega) (hb : b < 2 ^ 31 := by omega) : (x ≤ y → A) ∧ (¬ x ≤ y → B) := by
  subst hx hy
  rw [nI_leI ha hb]
  exact ⟨f, fun z => g (by omega)⟩
theorem pk_lt {x y : Int32} {A B : Prop} (a b : Nat) (f : a < b → A) (g : b ≤ a → B) (hx : x = nI a := by rfl) (hy : y = nI b := by rfl) (ha : a < 2 ^ 31 := by omega) (hb : b < 2 ^ 31 := by omega) : (x < y → A) ∧ (¬ x < y → B) := by
  subst hx hy
  rw [nI_ltI ha hb]
  exact ⟨f, fun z => g (by omega)⟩
theorem pk_eq {x y : Int32} {A B : Prop} (a b : Nat) (f : a = b → A) (g : a ≠ b → B) (hx : x = nI a := by rfl) (hy : y = nI b := by rfl) (ha : a < 2 ^ 31 := by omega) (hb : b < 2 ^ 31 := by omega) : (x = y → A) ∧ (¬ x = y → B) := by
  subst hx hy
  rw [nI_eq ha hb]
  exact ⟨f, g⟩
theorem pk_in {x : Int32} (n N : Nat) (h : n < N) (hx : x = nI n := by rfl) (hN : N < 2 ^ 31 := by omega) : vp_in x N := by
  subst hx
  exact vp_in_nI h hN
theorem pk_cl {x : Int32} (n : Nat) (hx : x = nI n := by rfl) (h : n < 2 ^ 31 := by omega) : x.toNatClampNeg = n := by
  subst hx
  exact nI_clamp h
theorem pk_tn {n : Nat} (h : n < 2 ^ 32) : (nI n).toBitVec.toNat = n := Nat.mod_eq_of_lt h
theorem pk_and (x : Int32) {m : Int32} (k : Nat) (hm : m.toBitVec.toNat = 2 ^ k - 1) : x &&& m = nI (x.toBitVec.toNat % 2 ^ k) := by
  apply Int32.toBitVec_inj.mp
  apply BitVec.eq_of_toNat_eq
  rw [Int32.toBitVec_and, BitVec.toNat_and, hm, Nat.and_two_pow_sub_one_eq_mod]
  show _ = (BitVec.ofNat 32 _).toNat
  rw [BitVec.toNat_ofNat]
  exact (Nat.mod_eq_of_lt (Nat.lt_of_le_of_lt (Nat.mod_le _ _) x.toBitVec.isLt)).symm
theorem pk_andN {n : Nat} (h : n < 2 ^ 32) {m : Int32} (k : Nat) (hm : m.toBitVec.toNat = 2 ^ k - 1) : nI n &&& m = nI (n % 2 ^ k) := by
  rw [pk_and _ k hm, pk_tn h]
theorem pk_shl (a s : Int32) (k : Nat) (hs : (s.toBitVec.smod 32).toNat = k) : (a <<< s).toBitVec.toNat = a.toBitVec.toNat * 2 ^ k % 2 ^ 32 := by
  show (a.toBitVec <<< (s.toBitVec.smod 32).toNat).toNat = _
  rw [hs, BitVec.toNat_shiftLeft, Nat.shiftLeft_eq]
theorem pk_shlN {n : Nat} (s : Int32) (k : Nat) (hs : (s.toBitVec.smod 32).toNat = k) (h : n * 2 ^ k < 2 ^ 32) : nI n <<< s = nI (n * 2 ^ k) := by
  apply Int32.toBitVec_inj.mp
  apply BitVec.eq_of_toNat_eq
  have hn : n < 2 ^ 32 := Nat.lt_of_le_of_lt (Nat.le_mul_of_pos_right n (Nat.two_pow_pos k)) h
  rw [pk_shl _ _ k hs, pk_tn hn, pk_tn h, Nat.mod_eq_of_lt h]
theorem pk_shr (a s : Int32) (k : Nat) (hs : (s.toBitVec.smod 32).toNat = k) : (a >>> s).toInt = a.toInt >>> k := by
  show (a.toBitVec.sshiftRight (s.toBitVec.smod 32).toNat).toInt = _
  rw [hs, BitVec.toInt_sshiftRight]
  rfl
theorem pk_shrN {n : Nat} (h : n < 2 ^ 31) (s : Int32) (k : Nat) (hs : (s.toBitVec.smod 32).toNat = k) : nI n >>> s = nI (n / 2 ^ k) := by
  apply Int32.toInt_inj.mp
  have h2 : n / 2 ^ k ≤ n := Nat.div_le_self _ _
  rw [pk_shr _ _ k hs, nI_toInt h, nI_toInt (by omega), Int.shiftRight_eq_div_pow]
  rfl
theorem s_l : ∀ n, n < 32 → ((nI n &&& 31).toBitVec.smod 32).toNat = n := by decide +kernel
theorem nx_and (a b : Nat) : nI a &&& nI b = nI (a &&& b) := by
  apply Int32.toBitVec_inj.1
  show BitVec.ofNat 32 a &&& BitVec.ofNat 32 b = BitVec.ofNat 32 (a &&& b)
  apply BitVec.eq_of_getLsbD_eq
  intro i hi
  simp [hi]
theorem nx_xor (a b : Nat) : nI a ^^^ nI b = nI (a ^^^ b) := by
  apply Int32.toBitVec_inj.1
  show BitVec.ofNat 32 a ^^^ BitVec.ofNat 32 b = BitVec.ofNat 32 (a ^^^ b)
  apply BitVec.eq_of_getLsbD_eq
  intro i hi
  simp [hi]
/-! ===== own base rows ===== -/
theorem nx_or (a b : Nat) : nI a ||| nI b = nI (a ||| b) := by
  apply Int32.toBitVec_inj.1
  show BitVec.ofNat 32 a ||| BitVec.ofNat 32 b = BitVec.ofNat 32 (a ||| b)
  apply BitVec.eq_of_getLsbD_eq
  intro i hi
  simp [hi]
theorem ds_shl {a k : Nat} (hk : k < 32) (h : a * 2 ^ k < 2 ^ 32) : nI a <<< (nI k &&& 31) = nI (a * 2 ^ k) := pk_shlN _ k (s_l k hk) h
theorem ds_shr {a k : Nat} (hk : k < 32) (h : a < 2 ^ 31) : nI a >>> (nI k &&& 31) = nI (a / 2 ^ k) := pk_shrN h _ k (s_l k hk)
theorem ds_and7 {a : Nat} (h : a < 2 ^ 32) : nI a &&& 7 = nI (a % 8) := pk_andN h 3 (by decide)
theorem ds_and1 {a : Nat} (h : a < 2 ^ 32) : nI a &&& 1 = nI (a % 2) := pk_andN h 1 (by decide)
theorem ds_at {α : Sort _} {P : α → Prop} {a b : α} (e : a = b) (h : P b) : P a := e ▸ h
/-! ===== the field, the code, over naturals ===== -/
/-- symbol i of a packed word -/
def ds_sy (W i : Nat) : Nat := W / 8 ^ i % 8
/-- the product of two symbols: a table of sixty-four octal digits -/
def ds_pr (p q : Nat) : Nat := 2821848294356612419217921029917578219971947684264937521152 / 8 ^ (8 * p + q) % 8
/-- the powers of 2 -/
def ds_pw (e : Nat) : Nat := 1566481 / 8 ^ e % 8
/-- the check sum number k over the first m symbols -/
def ds_ps (w : Nat → Nat) (k : Nat) : Nat → Nat
  | 0 => 0
  | m + 1 => ds_ps w k m ^^^ ds_pr (w m) (ds_pw (k * m % 7))
def ds_isC (w : Nat → Nat) : Bool := (ds_ps w 1 7).beq 0 && (ds_ps w 2 7).beq 0 && (ds_ps w 3 7).beq 0 && (ds_ps w 4 7).beq 0
/-- the generator times a symbol; one step of the division; the code word at an index -/
def ds_g (f : Nat) : Nat := ds_pr 3 f + 8 * ds_pr 2 f + 64 * ds_pr 1 f + 512 * ds_pr 3 f + 4096 * ds_pr 1 f
def ds_rs (r i : Nat) : Nat := r ^^^ ds_g (ds_sy r i) * 8 ^ (i - 4)
def ds_cw (p : Nat) : Nat := (p * 4096) ||| ds_rs (ds_rs (ds_rs (p * 4096) 6) 5) 4
/-- in how many of the first m symbols two words differ -/
def ds_d (a b : Nat → Nat) : Nat → Nat
  | 0 => 0
  | m + 1 => ds_d a b m + (if a m = b m then 0 else 1)
theorem ds_sy_lt (W i : Nat) : ds_sy W i < 8 := Nat.mod_lt _ (by decide)
theorem ds_pw_lt (e : Nat) : ds_pw e < 8 := Nat.mod_lt _ (by decide)
theorem ds_pr_lt (p q : Nat) : ds_pr p q < 8 := Nat.mod_lt _ (by decide)
theorem ds_lin : ∀ a, a < 8 → ∀ b, b < 8 → ∀ q, q < 8 → ds_pr (a ^^^ b) q = ds_pr a q ^^^ ds_pr b q := by decide +kernel
theorem ds_t1 : ∀ p, p < 512 → ds_isC (ds_sy (ds_cw p)) = true ∧ ds_cw p / 4096 = p := by decide +kernel
theorem ds_t2 : ∀ a, a < 64 → ∀ b, b < 64 → ds_isC (ds_sy (64 * a + b)) = true → a = 0 ∧ b = 0 := by decide +kernel
theorem ds_t3 : ∀ p, p < 512 → p = 0 ∨ 5 ≤ ds_d (fun _ => 0) (ds_sy (ds_cw p)) 7 := by decide +kernel
theorem ds_x8 {a b : Nat} (ha : a < 8) (hb : b < 8) : a ^^^ b < 8 := Nat.xor_lt_two_pow (n := 3) ha hb
theorem ds_x0 {a b : Nat} : a ^^^ b = 0 ↔ a = b := by
  constructor
  · intro h
    have e : (a ^^^ b) ^^^ b = b := by rw [h, Nat.zero_xor]
    rw [Nat.xor_assoc, Nat.xor_self, Nat.xor_zero] at e
    exact e
  · intro h
    rw [h, Nat.xor_self]
theorem ds_xx (a b : Nat) : a ^^^ (a ^^^ b) = b := by rw [← Nat.xor_assoc, Nat.xor_self, Nat.zero_xor]
theorem ds_ps_congr {a b : Nat → Nat} (k : Nat) : ∀ m, (∀ i, i < m → a i = b i) → ds_ps a k m = ds_ps b k m
  | 0, _ => rfl
  | m + 1, h => by
    show ds_ps a k m ^^^ _ = ds_ps b k m ^^^ _
    rw [ds_ps_congr k m (fun i hi => h i (by omega)), h m (by omega)]
theorem ds_ps_lin {a b : Nat → Nat} (k : Nat) : ∀ m, (∀ i, i < m → a i < 8 ∧ b i < 8) → ds_ps (fun i => a i ^^^ b i) k m = ds_ps a k m ^^^ ds_ps b k m
  | 0, _ => (Nat.xor_self 0).symm
  | m + 1, h => by
    show ds_ps (fun i => a i ^^^ b i) k m ^^^ ds_pr (a m ^^^ b m) _ = (ds_ps a k m ^^^ _) ^^^ (ds_ps b k m ^^^ _)
    rw [ds_ps_lin k m (fun i hi => h i (by omega)), ds_lin _ (h m (by omega)).1 _ (h m (by omega)).2 _ (ds_pw_lt _)]
    ac_rfl
theorem ds_isC_iff (w : Nat → Nat) : ds_isC w = true ↔ ds_ps w 1 7 = 0 ∧ ds_ps w 2 7 = 0 ∧ ds_ps w 3 7 = 0 ∧ ds_ps w 4 7 = 0 := by
  unfold ds_isC
  simp only [Bool.and_eq_true, Nat.beq_eq, and_assoc]
theorem ds_isC_congr {a b : Nat → Nat} (h : ∀ i, i < 7 → a i = b i) : ds_isC a = ds_isC b := by
  unfold ds_isC
  rw [ds_ps_congr 1 7 h, ds_ps_congr 2 7 h, ds_ps_congr 3 7 h, ds_ps_congr 4 7 h]
theorem ds_isC_xor {a b : Nat → Nat} (h : ∀ i, i < 7 → a i < 8 ∧ b i < 8) (ha : ds_isC a = true) (hb : ds_isC b = true) : ds_isC (fun i => a i ^^^ b i) = true := by
  rw [ds_isC_iff] at ha hb ⊢
  rw [ds_ps_lin 1 7 h, ds_ps_lin 2 7 h, ds_ps_lin 3 7 h, ds_ps_lin 4 7 h]
  rw [ha.1, ha.2.1, ha.2.2.1, ha.2.2.2, hb.1, hb.2.1, hb.2.2.1, hb.2.2.2]
  exact ⟨rfl, rfl, rfl, rfl⟩
theorem ds_sy_hi {C p : Nat} (h : C / 4096 = p) (i : Nat) : ds_sy C (4 + i) = ds_sy p i := by
  unfold ds_sy
  rw [← h, Nat.div_div_eq_div_mul, Nat.pow_add]
theorem ds_lt7 {P : Nat → Prop} (h0 : P 0) (h1 : P 1) (h2 : P 2) (h3 : P 3) (h4 : P 4) (h5 : P 5) (h6 : P 6) : ∀ i, i < 7 → P i
  | 0, _ => h0 | 1, _ => h1 | 2, _ => h2 | 3, _ => h3 | 4, _ => h4 | 5, _ => h5 | 6, _ => h6
  | n + 7, h => absurd h (by omega)
/-- every word that the check sums pass is in the table -/
theorem ds_tab {w : Nat → Nat} (hw : ∀ i, i < 7 → w i < 8) (hc : ds_isC w = true) : ∃ p, p < 512 ∧ ∀ i, i < 7 → w i = ds_sy (ds_cw p) i := by
  have w0 := hw 0 (by omega); have w1 := hw 1 (by omega); have w2 := hw 2 (by omega); have w3 := hw 3 (by omega)
  have w4 := hw 4 (by omega); have w5 := hw 5 (by omega); have w6 := hw 6 (by omega)
  obtain ⟨p, hp⟩ : ∃ p, p = w 4 + 8 * w 5 + 64 * w 6 := ⟨_, rfl⟩
  have hp5 : p < 512 := by omega
  obtain ⟨t1, t2⟩ := ds_t1 p hp5
  have c4 : w 4 = ds_sy (ds_cw p) 4 := by rw [ds_sy_hi t2 0]; unfold ds_sy; omega
  have c5 : w 5 = ds_sy (ds_cw p) 5 := by rw [ds_sy_hi t2 1]; unfold ds_sy; omega
  have c6 : w 6 = ds_sy (ds_cw p) 6 := by rw [ds_sy_hi t2 2]; unfold ds_sy; omega
  have hx := ds_isC_xor (fun i hi => ⟨hw i hi, ds_sy_lt (ds_cw p) i⟩) hc t1
  have u0 := ds_x8 w0 (ds_sy_lt (ds_cw p) 0); have u1 := ds_x8 w1 (ds_sy_lt (ds_cw p) 1)
  have u2 := ds_x8 w2 (ds_sy_lt (ds_cw p) 2); have u3 := ds_x8 w3 (ds_sy_lt (ds_cw p) 3)
  have u4 := ds_x0.mpr c4; have u5 := ds_x0.mpr c5; have u6 := ds_x0.mpr c6
  generalize e0 : w 0 ^^^ ds_sy (ds_cw p) 0 = z0 at *
  generalize e1 : w 1 ^^^ ds_sy (ds_cw p) 1 = z1 at *
  generalize e2 : w 2 ^^^ ds_sy (ds_cw p) 2 = z2 at *
  generalize e3 : w 3 ^^^ ds_sy (ds_cw p) 3 = z3 at *
  have hU : ds_isC (ds_sy (64 * (z2 + 8 * z3) + (z0 + 8 * z1))) = true := by
    rw [← hx]
    apply ds_isC_congr
    apply ds_lt7
    · show _ = w 0 ^^^ _; rw [e0]; unfold ds_sy; omega
    · show _ = w 1 ^^^ _; rw [e1]; unfold ds_sy; omega
    · show _ = w 2 ^^^ _; rw [e2]; unfold ds_sy; omega
    · show _ = w 3 ^^^ _; rw [e3]; unfold ds_sy; omega
    · show _ = w 4 ^^^ _; rw [u4]; unfold ds_sy; omega
    · show _ = w 5 ^^^ _; rw [u5]; unfold ds_sy; omega
    · show _ = w 6 ^^^ _; rw [u6]; unfold ds_sy; omega
  obtain ⟨q1, q2⟩ := ds_t2 _ (by omega) _ (by omega) hU
  have y0 : z0 = 0 := by omega
  have y1 : z1 = 0 := by omega
  have y2 : z2 = 0 := by omega
  have y3 : z3 = 0 := by omega
  exact ⟨p, hp5, ds_lt7 (ds_x0.mp (e0.trans y0)) (ds_x0.mp (e1.trans y1)) (ds_x0.mp (e2.trans y2)) (ds_x0.mp (e3.trans y3)) c4 c5 c6⟩
theorem ds_d_congr {a b c d : Nat → Nat} : ∀ m, (∀ i, i < m → a i = c i ∧ b i = d i) → ds_d a b m = ds_d c d m
  | 0, _ => rfl
  | m + 1, h => by
    show ds_d a b m + _ = ds_d c d m + _
    rw [ds_d_congr m (fun i hi => h i (by omega)), (h m (by omega)).1, (h m (by omega)).2]
theorem ds_tri (w a b : Nat → Nat) : ∀ m, ds_d (fun _ => 0) (fun i => a i ^^^ b i) m ≤ ds_d w a m + ds_d w b m
  | 0 => Nat.le_refl _
  | m + 1 => by
    have ih := ds_tri w a b m
    show ds_d (fun _ => 0) (fun i => a i ^^^ b i) m + (if 0 = a m ^^^ b m then 0 else 1) ≤ (ds_d w a m + (if w m = a m then 0 else 1)) + (ds_d w b m + (if w m = b m then 0 else 1))
    by_cases h1 : w m = a m
    · by_cases h2 : w m = b m
      · have h3 : 0 = a m ^^^ b m := (ds_x0.mpr (h1.symm.trans h2)).symm
        rw [if_pos h1, if_pos h2, if_pos h3]; omega
      · rw [if_pos h1, if_neg h2]; split <;> omega
    · rw [if_neg h1]; split <;> split <;> omega
/-- at most one code word lies within two symbols -/
theorem ds_uniq {w : Nat → Nat} {p q : Nat} (hp : p < 512) (hq : q < 512) (h1 : ds_d w (ds_sy (ds_cw p)) 7 ≤ 2) (h2 : ds_d w (ds_sy (ds_cw q)) 7 ≤ 2) : p = q := by
  have hx := ds_isC_xor (fun i _ => ⟨ds_sy_lt (ds_cw p) i, ds_sy_lt (ds_cw q) i⟩) (ds_t1 p hp).1 (ds_t1 q hq).1
  obtain ⟨r, hr, er⟩ := ds_tab (fun i _ => ds_x8 (ds_sy_lt (ds_cw p) i) (ds_sy_lt (ds_cw q) i)) hx
  have h3 := ds_tri w (ds_sy (ds_cw p)) (ds_sy (ds_cw q)) 7
  rw [ds_d_congr 7 (fun i hi => ⟨rfl, er i hi⟩)] at h3
  rcases ds_t3 r hr with h0 | h0
  · subst h0
    have z : ∀ i, i < 7 → ds_sy (ds_cw 0) i = 0 := by decide +kernel
    have t : ∀ i, i < 7 → ds_sy (ds_cw p) i = ds_sy (ds_cw q) i := fun i hi => ds_x0.mp ((er i hi).trans (z i hi))
    have t4 := t 4 (by omega); have t5 := t 5 (by omega); have t6 := t 6 (by omega)
    rw [ds_sy_hi (ds_t1 p hp).2 0, ds_sy_hi (ds_t1 q hq).2 0] at t4
    rw [ds_sy_hi (ds_t1 p hp).2 1, ds_sy_hi (ds_t1 q hq).2 1] at t5
    rw [ds_sy_hi (ds_t1 p hp).2 2, ds_sy_hi (ds_t1 q hq).2 2] at t6
    unfold ds_sy at t4 t5 t6
    omega
  · omega
end
section
/-! ===== the component: symbols, products, the table of code words ===== -/
theorem ds_p8 (i : Nat) : 2 ^ (i * 3) = 8 ^ i := by rw [Nat.mul_comm, Nat.pow_mul]
theorem ds_syI {W i : Nat} (hW : W < 2 ^ 31) (hi : i ≤ 10) : (nI W >>> ((nI i * 3) &&& 31)) &&& 7 = nI (ds_sy W i) := by
  rw [show nI i * 3 = nI (i * 3) from pk_mul i 3, ds_shr (by omega) hW, ds_and7 (Nat.lt_of_le_of_lt (Nat.div_le_self _ _) (by omega)), ds_p8]
  rfl
theorem dx_sym {post : Int32 → Prop} {W i : Nat} (hW : W < 2 ^ 31) (hi : i ≤ 10) (h : post (nI (ds_sy W i))) : wpX_symbolOf post (nI W) (nI i) := by
  unfold wpX_symbolOf
  rw [ds_syI hW hi]
  exact h
def dx_st (p q v k : Int32) : Int32 := if ((q >>> (k &&& 31)) &&& 1) = 0 then v else v ^^^ (p <<< (k &&& 31))
def dx_rd (v d : Int32) : Int32 := if v < ((8 : Int32) <<< (d &&& 31)) then v else v ^^^ ((11 : Int32) <<< (d &&& 31))
def dx_pr (p q : Int32) : Int32 := dx_rd (dx_rd (dx_rd (dx_st p q (dx_st p q (dx_st p q 0 0) 1) 2) 2) 1) 0
theorem dx_st1 {post : Int32 → Prop} {p q v : Int32} {n : Nat} (k k' : Int32) (hk : ¬ 3 ≤ k) (e : k + 1 = k') (h : wX_product_4 post p q n (dx_st p q v k) k') : wX_product_4 post p q (n + 1) v k := by
  subst e
  unfold dx_st at h
  refine br_f hk (br_c (fun z => nm_e ?_) (fun z => nm_e (nm_e ?_)))
  · rwa [if_pos z] at h
  · rwa [if_neg z] at h
theorem dx_rd1 {post : Int32 → Prop} {v : Int32} {n : Nat} (k k' : Int32) (hk : ¬ k < 0) (e : k + (-1) = k') (h : wX_product_31 post n (dx_rd v k) k') : wX_product_31 post (n + 1) v k := by
  subst e
  unfold dx_rd at h
  refine br_f hk (br_c (fun z => nm_e ?_) (fun z => nm_e (nm_e ?_)))
  · rwa [if_pos z] at h
  · rwa [if_neg z] at h
theorem dx_prod {post : Int32 → Prop} {p q : Int32} (h : post (dx_pr p q)) : wpX_product post p q :=
  ⟨4, dx_st1 0 1 (by decide) (by decide) (dx_st1 1 2 (by decide) (by decide) (dx_st1 2 3 (by decide) (by decide) (br_t (by decide)
    ⟨4, dx_rd1 2 1 (by decide) (by decide) (dx_rd1 1 0 (by decide) (by decide) (dx_rd1 0 (-1) (by decide) (by decide) (br_t (by decide) h)))⟩)))⟩
def dx_gs (f r i : Int32) : Int32 := r ||| (dx_pr (((5715 : Int32) >>> ((i * 3) &&& 31)) &&& 7) f <<< ((i * 3) &&& 31))
def dx_g (f : Int32) : Int32 := dx_gs f (dx_gs f (dx_gs f (dx_gs f (dx_gs f 0 0) 1) 2) 3) 4
theorem dx_gs1 {post : Int32 → Prop} {f r : Int32} {n : Nat} (i i' : Int32) (hi : ¬ 4 < i) (e : i + 1 = i') (h : wX_generatorTimes_4 post f n (dx_gs f r i) i') : wX_generatorTimes_4 post f (n + 1) r i := by
  subst e
  refine br_f hi ?_
  unfold wpX_symbolOf
  exact dx_prod (nm_e (nm_e h))
theorem dx_gT : ∀ f, f < 8 → dx_g (nI f) = nI (ds_g f) := by decide +kernel
theorem dx_gen {post : Int32 → Prop} {f : Nat} (hf : f < 8) (h : post (nI (ds_g f))) : wpX_generatorTimes post (nI f) := by
  rw [← dx_gT f hf] at h
  exact ⟨6, dx_gs1 0 1 (by decide) (by decide) (dx_gs1 1 2 (by decide) (by decide) (dx_gs1 2 3 (by decide) (by decide) (dx_gs1 3 4 (by decide) (by decide) (dx_gs1 4 5 (by decide) (by decide) (br_t (by decide) h)))))⟩
theorem ds_g_lt (f : Nat) : ds_g f < 32768 := by
  unfold ds_g
  have := ds_pr_lt 3 f; have := ds_pr_lt 2 f; have := ds_pr_lt 1 f
  omega
theorem ds_p84 {i : Nat} (h4 : 4 ≤ i) (h6 : i ≤ 6) : 8 ^ (i - 4) ≤ 64 := by
  have h : i = 4 ∨ i = 5 ∨ i = 6 := by omega
  rcases h with rfl | rfl | rfl <;> decide
theorem ds_gm {f i : Nat} (h4 : 4 ≤ i) (h6 : i ≤ 6) : ds_g f * 8 ^ (i - 4) < 2 ^ 21 :=
  Nat.lt_of_le_of_lt (Nat.mul_le_mul_left _ (ds_p84 h4 h6)) (by have := ds_g_lt f; omega)
theorem ds_rs_lt {r i : Nat} (hr : r < 2 ^ 21) (h4 : 4 ≤ i) (h6 : i ≤ 6) : ds_rs r i < 2 ^ 21 := Nat.xor_lt_two_pow hr (ds_gm h4 h6)
theorem dx_cwS {post : Int32 → Prop} {p : Int32} {n r i : Nat} (hr : r < 2 ^ 21) (h4 : 4 ≤ i) (h6 : i ≤ 6) (h : wX_codeWordOf_8 post p n (nI (ds_rs r i)) (nI (i - 1))) : wX_codeWordOf_8 post p (n + 1) (nI r) (nI i) := by
  have e1 : nI r ^^^ (nI (ds_g (ds_sy r i)) <<< (((nI i - 4) * 3) &&& 31)) = nI (ds_rs r i) := by
    rw [show nI i - 4 = nI (i - 4) from pk_sub (b := 4) h4, show nI (i - 4) * 3 = nI ((i - 4) * 3) from pk_mul _ 3, ds_shl (by omega) (by rw [ds_p8]; have := ds_gm (f := ds_sy r i) h4 h6; omega), ds_p8, nx_xor]
    rfl
  have e2 : nI i + (-1) = nI (i - 1) := by
    obtain ⟨j, rfl⟩ : ∃ j, i = j + 1 := ⟨i - 1, by omega⟩
    exact pk_m1 j
  exact br_f (nI_nlt (b := 4) h4 (by omega)) (dx_sym (by omega) (by omega) (dx_gen (ds_sy_lt _ _) (nm_r e1 (nm_r e2 h))))
theorem dx_cw {post : Int32 → Prop} {p : Nat} (hp : p < 512) (h : post (nI (ds_cw p))) : wpX_codeWordOf post (nI p) := by
  have e : nI p <<< ((12 : Int32) &&& 31) = nI (p * 4096) := ds_shl (k := 12) (by omega) (by omega)
  have r0 : p * 4096 < 2 ^ 21 := by omega
  have r1 := ds_rs_lt r0 (i := 6) (by omega) (by omega)
  have r2 := ds_rs_lt r1 (i := 5) (by omega) (by omega)
  refine nm_r e ⟨4, dx_cwS r0 (i := 6) (by omega) (by omega) (dx_cwS r1 (i := 5) (by omega) (by omega) (dx_cwS r2 (i := 4) (by omega) (by omega) (br_t (by decide) ?_)))⟩
  rw [e, nx_or]
  exact h
theorem dx_init {post : SX → Prop} {L P : Nat → Int32} (h : ∀ C : Nat → Int32, (∀ j, j < 512 → C j = nI (ds_cw j)) → post (0, 0, L, C, P)) : ∀ (d i : Nat) (C : Nat → Int32), i + d = 512 → (∀ j, j < i → C j = nI (ds_cw j)) → wX_init_42 post 0 0 (d + 1) (nI i) L C P := by
  intro d
  induction d with
  | zero =>
    intro i C hi hC
    have hi' : i = 512 := by omega
    subst hi'
    exact br_t (nI_le (a := 512) (Nat.le_refl _) (by omega)) (h C hC)
  | succ d ih =>
    intro i C hi hC
    refine br_f (nI_ge (b := 512) (by omega) (by omega)) (dx_cw (by omega) ⟨vp_in_nI (by omega) (by omega), nm_r (e' := upd C i (nI (ds_cw i))) (by rw [nI_clamp (by omega)]) (nm_r (nI_1 i) (ih (i + 1) _ (by omega) ?_))⟩)
    intro j hj
    by_cases z : j = i
    · subst z; exact pk_us
    · rw [pk_un z]; exact hC j (by omega)
/-! ===== differing symbols, the nearest code word ===== -/
theorem ds_syx (A B i : Nat) : ds_sy (A ^^^ B) i = ds_sy A i ^^^ ds_sy B i := by
  unfold ds_sy
  rw [← ds_p8, Nat.xor_div_two_pow]
  exact Nat.xor_mod_two_pow (n := 3)
theorem ds_d_le (a b : Nat → Nat) : ∀ m, ds_d a b m ≤ m
  | 0 => Nat.le_refl _
  | m + 1 => by
    have := ds_d_le a b m
    show ds_d a b m + (if a m = b m then 0 else 1) ≤ m + 1
    split <;> omega
theorem dx_dif1 {post : Int32 → Prop} {W C : Nat} (hW : W < 2 ^ 21) (hC : C < 2 ^ 21) (h : post (nI (ds_d (ds_sy W) (ds_sy C) 7))) : ∀ d i : Nat, i + d = 7 → wX_differingSymbols_9 post (nI (W ^^^ C)) (d + 1) (nI (ds_d (ds_sy W) (ds_sy C) i)) (nI i) := by
  have hx : W ^^^ C < 2 ^ 21 := Nat.xor_lt_two_pow hW hC
  intro d
  induction d with
  | zero =>
    intro i hi
    have hi' : i = 7 := by omega
    subst hi'
    exact br_t (nI_le (a := 7) (Nat.le_refl _) (by omega)) h
  | succ d ih =>
    intro i hi
    have hs := ds_sy_lt (W ^^^ C) i
    refine br_f (nI_ge (b := 7) (by omega) (by omega)) (dx_sym (by omega) (by omega) (pk_eq (ds_sy (W ^^^ C) i) 0 (fun z => ?_) (fun z => ?_)))
    · have e : ds_d (ds_sy W) (ds_sy C) (i + 1) = ds_d (ds_sy W) (ds_sy C) i := by
        show ds_d (ds_sy W) (ds_sy C) i + (if ds_sy W i = ds_sy C i then 0 else 1) = _
        rw [if_pos (ds_x0.mp ((ds_syx W C i).symm.trans z)), Nat.add_zero]
      refine nm_r (nI_1 i) ?_
      rw [← e]
      exact ih (i + 1) (by omega)
    · have e : ds_d (ds_sy W) (ds_sy C) (i + 1) = ds_d (ds_sy W) (ds_sy C) i + 1 := by
        show ds_d (ds_sy W) (ds_sy C) i + (if ds_sy W i = ds_sy C i then 0 else 1) = _
        rw [if_neg (fun q => z ((ds_syx W C i).trans (ds_x0.mpr q)))]
      refine nm_r (nI_1 _) (nm_r (nI_1 i) ?_)
      rw [← e]
      exact ih (i + 1) (by omega)
theorem dx_dif {post : Int32 → Prop} {W C : Nat} (hW : W < 2 ^ 21) (hC : C < 2 ^ 21) (h : post (nI (ds_d (ds_sy W) (ds_sy C) 7))) : wpX_differingSymbols post (nI W) (nI C) :=
  nm_r (nx_xor W C) ⟨8, dx_dif1 hW hC h 7 0 rfl⟩
theorem ds_cw_lt {p : Nat} (hp : p < 512) : ds_cw p < 2 ^ 21 := by
  have := (ds_t1 p hp).2
  omega
def ds_near (w : Nat → Nat) : Option Nat → Prop
  | some p => p < 512 ∧ ds_d w (ds_sy (ds_cw p)) 7 ≤ 2
  | none => ∀ p, p < 512 → 2 < ds_d w (ds_sy (ds_cw p)) 7
def ds_nr : Option Nat → Int32
  | some p => nI (ds_cw p)
  | none => -3
theorem dx_near1 {W : Nat} (hW : W < 2 ^ 21) {l t : Int32} {L C P : Nat → Int32} (hC : ∀ j, j < 512 → C j = nI (ds_cw j)) : ∀ d i : Nat, i + d = 512 → (∀ j, j < i → 2 < ds_d (ds_sy W) (ds_sy (ds_cw j)) 7) → ∃ o, ds_near (ds_sy W) o ∧ ∀ post : Int32 → Prop, post (ds_nr o) → wX_nearCodeWord_2 post (nI W) l t L C P (d + 1) (nI i) := by
  intro d
  induction d with
  | zero =>
    intro i hi hn
    have hi' : i = 512 := by omega
    subst hi'
    exact ⟨none, hn, fun post h => br_t (nI_le (a := 512) (Nat.le_refl _) (by omega)) h⟩
  | succ d ih =>
    intro i hi hn
    have ei : C (nI i).toNatClampNeg = nI (ds_cw i) := by rw [nI_clamp (by omega)]; exact hC i (by omega)
    have hi5 : i < 512 := by omega
    have hl := ds_d_le (ds_sy W) (ds_sy (ds_cw i)) 7
    by_cases z : ds_d (ds_sy W) (ds_sy (ds_cw i)) 7 ≤ 2
    · refine ⟨some i, ⟨hi5, z⟩, fun post h => br_f (nI_ge (b := 512) (by omega) (by omega)) ⟨vp_in_nI (by omega) (by omega), ?_⟩⟩
      rw [ei]
      refine dx_dif hW (ds_cw_lt hi5) (br_f (nI_nlt (a := 2) z (by omega)) ⟨vp_in_nI (by omega) (by omega), ?_⟩)
      exact h
    · obtain ⟨o, ho, hp⟩ := ih (i + 1) (by omega) (fun j hj => by
        by_cases y : j = i
        · subst y; omega
        · exact hn j (by omega))
      refine ⟨o, ho, fun post h => br_f (nI_ge (b := 512) (by omega) (by omega)) ⟨vp_in_nI (by omega) (by omega), ?_⟩⟩
      rw [ei]
      exact dx_dif hW (ds_cw_lt hi5) (br_t (nI_lt (a := 2) (by omega) (by omega)) (nm_r (nI_1 i) (hp post h)))
theorem dx_near {W : Nat} (hW : W < 2 ^ 21) {l t : Int32} {L C P : Nat → Int32} (hC : ∀ j, j < 512 → C j = nI (ds_cw j)) : ∃ o, ds_near (ds_sy W) o ∧ ∀ post : Int32 → Prop, post (ds_nr o) → wpX_nearCodeWord post (l, t, L, C, P) (nI W) := by
  obtain ⟨o, ho, h⟩ := dx_near1 hW (l := l) (t := t) (L := L) (P := P) hC 512 0 rfl (fun j hj => absurd hj (Nat.not_lt_zero j))
  exact ⟨o, ho, fun post hp => ⟨513, h post hp⟩⟩
end
section
/-! ===== the component: messages, payloads, what is read off the line ===== -/
def ds_msg (E O : Nat) : Nat := ((((ds_sy E 4 * 8 + ds_sy O 4) * 8 + ds_sy E 5) * 8 + ds_sy O 5) * 8 + ds_sy E 6) * 8 + ds_sy O 6
/-- a number below 2^k laid beneath a multiple of 2^k -/
theorem ds_or {a b k : Nat} (hb : b < 2 ^ k) : a * 2 ^ k ||| b = a * 2 ^ k + b := by
  rw [← Nat.shiftLeft_eq, Nat.shiftLeft_add_eq_or_of_lt hb]
theorem dx_ms1 {post : Int32 → Prop} {x0 x1 : Int32} {n m W r : Nat} (hW : W < 2 ^ 31) (hm : m * 8 < 2 ^ 30) (hr : r < 6) (h : wX_messageOf_4 post x0 x1 n (nI (m * 8 + ds_sy W (4 + r / 2))) (nI (r + 1))) : wX_messageOf_21 post (wX_messageOf_4 post x0 x1 n) x0 x1 (nI m) (nI r) (nI W) := by
  have hs := ds_sy_lt W (4 + r / 2)
  have e1 : (4 : Int32) + nI r / 2 = nI (4 + r / 2) := by
    rw [show nI r / 2 = nI (r / 2) from pk_div (d := 2) (by omega) (by omega) (by omega)]
    exact nI_add 4 (r / 2)
  have e2 : (nI m <<< ((3 : Int32) &&& 31)) ||| nI (ds_sy W (4 + r / 2)) = nI (m * 8 + ds_sy W (4 + r / 2)) := by
    rw [show nI m <<< ((3 : Int32) &&& 31) = nI (m * 2 ^ 3) from ds_shl (k := 3) (by omega) (by omega), nx_or, ds_or (k := 3) hs]
  refine ⟨by decide, ?_⟩
  rw [e1]
  exact dx_sym hW (by omega) (nm_r e2 (nm_r (nI_1 r) h))
theorem dx_ms2 {post : Int32 → Prop} {E O n m r : Nat} (hE : E < 2 ^ 21) (hO : O < 2 ^ 21) (hm : m * 8 < 2 ^ 30) (hr : r < 6) (h : wX_messageOf_4 post (nI E) (nI O) n (nI (m * 8 + ds_sy (if r % 2 = 0 then E else O) (4 + r / 2))) (nI (r + 1))) : wX_messageOf_4 post (nI E) (nI O) (n + 1) (nI m) (nI r) := by
  have e : nI r - nI r / 2 * 2 = nI (r % 2) := pk_rem (d := 2) (by omega) (by omega) (by omega)
  refine br_f (nI_ge (b := 6) (by omega) (by omega)) ⟨by decide, ?_⟩
  rw [e]
  refine pk_eq (r % 2) 0 (fun z => dx_ms1 (by omega) hm hr ?_) (fun z => dx_ms1 (by omega) hm hr ?_)
  · rwa [if_pos z] at h
  · rwa [if_neg z] at h
theorem dx_msg {post : Int32 → Prop} {E O : Nat} (hE : E < 2 ^ 21) (hO : O < 2 ^ 21) (h : post (nI (ds_msg E O))) : wpX_messageOf post (nI E) (nI O) := by
  have a4 := ds_sy_lt E 4; have a5 := ds_sy_lt E 5; have a6 := ds_sy_lt E 6
  have b4 := ds_sy_lt O 4; have b5 := ds_sy_lt O 5; have b6 := ds_sy_lt O 6
  refine ⟨7, dx_ms2 (m := 0) (r := 0) hE hO (by omega) (by omega) ?_⟩
  have e0 : 0 * 8 + ds_sy (if 0 % 2 = 0 then E else O) (4 + 0 / 2) = ds_sy E 4 := by show 0 * 8 + ds_sy E 4 = _; omega
  rw [e0]
  refine dx_ms2 (m := ds_sy E 4) (r := 1) hE hO (by omega) (by omega) ?_
  refine dx_ms2 (m := ds_sy E 4 * 8 + ds_sy O 4) (r := 2) hE hO (by omega) (by omega) ?_
  refine dx_ms2 (m := (ds_sy E 4 * 8 + ds_sy O 4) * 8 + ds_sy E 5) (r := 3) hE hO (by omega) (by omega) ?_
  refine dx_ms2 (m := ((ds_sy E 4 * 8 + ds_sy O 4) * 8 + ds_sy E 5) * 8 + ds_sy O 5) (r := 4) hE hO (by omega) (by omega) ?_
  refine dx_ms2 (m := (((ds_sy E 4 * 8 + ds_sy O 4) * 8 + ds_sy E 5) * 8 + ds_sy O 5) * 8 + ds_sy E 6) (r := 5) hE hO (by omega) (by omega) ?_
  exact br_t (by decide) h
def ds_pl (M f : Nat) : Nat := ds_sy M (5 - f) + 8 * ds_sy M (3 - f) + 64 * ds_sy M (1 - f)
theorem ds_pl_lt (M f : Nat) : ds_pl M f < 512 := by
  unfold ds_pl
  have := ds_sy_lt M (5 - f); have := ds_sy_lt M (3 - f); have := ds_sy_lt M (1 - f)
  omega
theorem dx_pl1 {post : Int32 → Prop} {n M f v i : Nat} (hM : M < 2 ^ 31) (hf : f < 2) (hi : i < 3) (hv : v < 8 ^ i) (h : wX_payloadOf_4 post (nI M) (nI f) n (nI (v + ds_sy M (5 - (2 * i + f)) * 8 ^ i)) (nI (i + 1))) : wX_payloadOf_4 post (nI M) (nI f) (n + 1) (nI v) (nI i) := by
  have hs := ds_sy_lt M (5 - (2 * i + f))
  have h8 : 8 ^ i ≤ 64 := by
    have h : i = 0 ∨ i = 1 ∨ i = 2 := by omega
    rcases h with rfl | rfl | rfl <;> decide
  have hb : ds_sy M (5 - (2 * i + f)) * 8 ^ i ≤ 7 * 64 := Nat.mul_le_mul (by omega) h8
  have e1 : (5 : Int32) - (2 * nI i + nI f) = nI (5 - (2 * i + f)) := by
    rw [show (2 : Int32) * nI i = nI (2 * i) from pk_mul 2 i, nI_add]
    exact pk_sub (a := 5) (by omega)
  have e2 : nI v ||| (nI (ds_sy M (5 - (2 * i + f))) <<< ((nI i * 3) &&& 31)) = nI (v + ds_sy M (5 - (2 * i + f)) * 8 ^ i) := by
    rw [show nI i * 3 = nI (i * 3) from pk_mul i 3, ds_shl (by omega) (by rw [ds_p8]; omega), nx_or, Nat.or_comm, ds_or (by rw [ds_p8]; exact hv), ds_p8, Nat.add_comm]
  exact br_f (nI_ge (b := 3) (by omega) (by omega)) (nm_r e1 (dx_sym hM (by omega) (nm_r e2 (nm_r (nI_1 i) h))))
theorem dx_pl {post : Int32 → Prop} {M f : Nat} (hM : M < 2 ^ 31) (hf : f < 2) (h : post (nI (ds_pl M f))) : wpX_payloadOf post (nI M) (nI f) := by
  have a := ds_sy_lt M (5 - (2 * 0 + f)); have b := ds_sy_lt M (5 - (2 * 1 + f)); have c := ds_sy_lt M (5 - (2 * 2 + f))
  refine ⟨4, dx_pl1 (v := 0) (i := 0) hM hf (by omega) (by decide) (dx_pl1 (i := 1) hM hf (by omega) (by omega) (dx_pl1 (i := 2) hM hf (by omega) (by omega) (br_t (by decide) ?_)))⟩
  have e : 0 + ds_sy M (5 - (2 * 0 + f)) * 8 ^ 0 + ds_sy M (5 - (2 * 1 + f)) * 8 ^ 1 + ds_sy M (5 - (2 * 2 + f)) * 8 ^ 2 = ds_pl M f := by
    unfold ds_pl
    rw [show 5 - (2 * 0 + f) = 5 - f from by omega, show 5 - (2 * 1 + f) = 3 - f from by omega, show 5 - (2 * 2 + f) = 1 - f from by omega]
    omega
  rw [e]
  exact h
/-! the line's bits as naturals -/
def ds_rb (B : Nat → Nat) (p : Nat) : Nat → Nat
  | 0 => 0
  | c + 1 => ds_rb B p c * 2 + B (p + c)
theorem ds_rb_lt {B : Nat → Nat} (hB : ∀ j, B j < 2) (p : Nat) : ∀ c, ds_rb B p c < 2 ^ c
  | 0 => (by decide : 0 < 2 ^ 0)
  | c + 1 => by
    have := ds_rb_lt hB p c
    have := hB (p + c)
    show ds_rb B p c * 2 + B (p + c) < 2 ^ (c + 1)
    rw [Nat.pow_succ]
    omega
theorem dx_rb1 {post : Int32 → Prop} {B : Nat → Nat} {l t : Int32} {L C P : Nat → Int32} (hB : ∀ j, B j < 2) (hL : ∀ j, L j = nI (B j)) {p c : Nat} (hc : c ≤ 8) (hp : p + c ≤ 300) (h : post (nI (ds_rb B p c))) : ∀ d i : Nat, i + d = c → wX_readBits_5 post (nI p) (nI c) l t L C P (d + 1) (nI (ds_rb B p i)) (nI (p + i)) := by
  intro d
  induction d with
  | zero =>
    intro i hi
    have hi' : i = c := by omega
    subst hi'
    refine br_t ?_ h
    rw [nI_add]
    exact nI_le (Nat.le_refl _) (by omega)
  | succ d ih =>
    intro i hi
    have hv := ds_rb_lt hB p i
    have h8 : 2 ^ i ≤ 2 ^ 8 := Nat.pow_le_pow_right (by decide) (by omega)
    have hb := hB (p + i)
    have e : (nI (ds_rb B p i) <<< ((1 : Int32) &&& 31)) ||| L (nI (p + i)).toNatClampNeg = nI (ds_rb B p (i + 1)) := by
      rw [nI_clamp (by omega), hL, show nI (ds_rb B p i) <<< ((1 : Int32) &&& 31) = nI (ds_rb B p i * 2 ^ 1) from ds_shl (k := 1) (by omega) (by omega), nx_or, ds_or (k := 1) hb]
      rfl
    refine br_f ?_ ⟨vp_in_nI (by omega) (by omega), nm_r e (nm_r (nI_1 _) (ih (i + 1) (by omega)))⟩
    rw [nI_add]
    exact nI_ge (by omega) (by omega)
theorem dx_rb {post : Int32 → Prop} {B : Nat → Nat} {l t : Int32} {L C P : Nat → Int32} (hB : ∀ j, B j < 2) (hL : ∀ j, L j = nI (B j)) {p c : Nat} (hc : c ≤ 8) (hp : p + c ≤ 300) (h : post (nI (ds_rb B p c))) : wpX_readBits post (l, t, L, C, P) (nI p) (nI c) :=
  ⟨c + 1, dx_rb1 hB hL hc hp h c 0 (by omega)⟩
/-! the sight -/
def ds_pc (x : Nat) : Nat → Nat
  | 0 => 0
  | i + 1 => ds_pc x i + x / 2 ^ i % 2
def ds_S (B : Nat → Nat) (p : Nat) : Prop := ds_pc (ds_rb B p 8 ^^^ 178) 8 ≤ 1
theorem ds_pc_le (x : Nat) : ∀ m, ds_pc x m ≤ m
  | 0 => Nat.le_refl _
  | m + 1 => by
    have := ds_pc_le x m
    show ds_pc x m + x / 2 ^ m % 2 ≤ m + 1
    omega
theorem dx_si1 {post : Int32 → Prop} {x : Nat} {l t : Int32} {L C P : Nat → Int32} (hx : x < 2 ^ 31) (h1 : ds_pc x 8 ≤ 1 → post 1) (h0 : ¬ ds_pc x 8 ≤ 1 → post 0) : ∀ d i : Nat, i + d = 8 → wX_isSight_17 post (nI x) l t L C P (d + 1) (nI (ds_pc x i)) (nI i) := by
  intro d
  induction d with
  | zero =>
    intro i hi
    have hi' : i = 8 := by omega
    subst hi'
    have := ds_pc_le x 8
    exact br_t (nI_le (a := 8) (Nat.le_refl _) (by omega)) (pk_lt 1 (ds_pc x 8) (fun z => h0 (by omega)) (fun z => h1 (by omega)))
  | succ d ih =>
    intro i hi
    have e : nI (ds_pc x i) + ((nI x >>> (nI i &&& 31)) &&& 1) = nI (ds_pc x (i + 1)) := by
      rw [ds_shr (by omega) hx, ds_and1 (Nat.lt_of_le_of_lt (Nat.div_le_self _ _) (by omega)), nI_add]
      rfl
    exact br_f (nI_ge (b := 8) (by omega) (by omega)) (nm_r e (nm_r (nI_1 _) (ih (i + 1) (by omega))))
theorem dx_si {post : Int32 → Prop} {B : Nat → Nat} {l t : Int32} {L C P : Nat → Int32} (hB : ∀ j, B j < 2) (hL : ∀ j, L j = nI (B j)) {p : Nat} (hp : p + 8 ≤ 300) (h1 : ds_S B p → post 1) (h0 : ¬ ds_S B p → post 0) : wpX_isSight post (l, t, L, C, P) (nI p) := by
  have hv := ds_rb_lt hB p 8
  have hx : ds_rb B p 8 ^^^ 178 < 2 ^ 8 := Nat.xor_lt_two_pow hv (by decide)
  unfold wpX_isSight
  dsimp only
  exact dx_rb (c := 8) hB hL (by omega) hp (nm_r (nx_xor (ds_rb B p 8) 178) ⟨9, dx_si1 (by omega) h1 h0 8 0 rfl⟩)
/-! the received word -/
def ds_wh (j : Nat) : Nat := (j * j + 3 * j + 5) % 8
theorem ds_wh_lt (j : Nat) : ds_wh j < 8 := Nat.mod_lt _ (by decide)
theorem ds_whI {j : Nat} (hj : j < 100) : (((nI j * nI j) + (3 * nI j)) + 5) &&& 7 = nI (ds_wh j) := by
  have hm : j * j ≤ 100 * 100 := Nat.mul_le_mul (by omega) (by omega)
  rw [pk_mul, show (3 : Int32) * nI j = nI (3 * j) from pk_mul 3 j, nI_add, show nI (j * j + 3 * j) + 5 = nI (j * j + 3 * j + 5) from nI_add _ 5, ds_and7 (by omega)]
  rfl
def ds_R (B : Nat → Nat) (p f i : Nat) : Nat := ds_rb B (p + 8 + 3 * (2 * i + f)) 3 ^^^ ds_wh (2 * i + f)
theorem ds_R_lt {B : Nat → Nat} (hB : ∀ j, B j < 2) (p f i : Nat) : ds_R B p f i < 8 := ds_x8 (ds_rb_lt hB _ 3) (ds_wh_lt _)
def ds_W (B : Nat → Nat) (p f : Nat) : Nat → Nat
  | 0 => 0
  | i + 1 => ds_W B p f i + ds_R B p f i * 8 ^ i
theorem ds_W_lt {B : Nat → Nat} (hB : ∀ j, B j < 2) (p f : Nat) : ∀ i, ds_W B p f i < 8 ^ i
  | 0 => (by decide : 0 < 8 ^ 0)
  | i + 1 => by
    have h1 := ds_W_lt hB p f i
    have h2 : ds_R B p f i * 8 ^ i ≤ 7 * 8 ^ i := Nat.mul_le_mul_right _ (by have := ds_R_lt hB p f i; omega)
    show ds_W B p f i + ds_R B p f i * 8 ^ i < 8 ^ (i + 1)
    rw [Nat.pow_succ]
    omega
theorem ds_sW {B : Nat → Nat} (hB : ∀ j, B j < 2) (p f : Nat) : ∀ i, i < 7 → ds_sy (ds_W B p f 7) i = ds_R B p f i := by
  have r0 := ds_R_lt hB p f 0; have r1 := ds_R_lt hB p f 1; have r2 := ds_R_lt hB p f 2; have r3 := ds_R_lt hB p f 3
  have r4 := ds_R_lt hB p f 4; have r5 := ds_R_lt hB p f 5; have r6 := ds_R_lt hB p f 6
  have e : ds_W B p f 7 = 0 + ds_R B p f 0 * 8 ^ 0 + ds_R B p f 1 * 8 ^ 1 + ds_R B p f 2 * 8 ^ 2 + ds_R B p f 3 * 8 ^ 3 + ds_R B p f 4 * 8 ^ 4 + ds_R B p f 5 * 8 ^ 5 + ds_R B p f 6 * 8 ^ 6 := rfl
  rw [e]
  unfold ds_sy
  apply ds_lt7 <;> omega
theorem ds_88 {i : Nat} (h : i < 7) : 8 ^ i ≤ 262144 := by
  have := Nat.pow_le_pow_right (n := 8) (by decide) (show i ≤ 6 by omega)
  exact Nat.le_trans this (by decide)
theorem dx_rw1 {post : Int32 → Prop} {B : Nat → Nat} {l t : Int32} {L C P : Nat → Int32} (hB : ∀ j, B j < 2) (hL : ∀ j, L j = nI (B j)) {p f : Nat} (hf : f < 2) (hp : p + 50 ≤ 300) (h : post (nI (ds_W B p f 7))) : ∀ d i : Nat, i + d = 7 → wX_receivedWord_5 post (nI p) (nI f) l t L C P (d + 1) (nI (ds_W B p f i)) (nI i) := by
  intro d
  induction d with
  | zero =>
    intro i hi
    have hi' : i = 7 := by omega
    subst hi'
    exact br_t (nI_le (a := 7) (Nat.le_refl _) (by omega)) h
  | succ d ih =>
    intro i hi
    have hR := ds_R_lt hB p f i
    have hW := ds_W_lt hB p f i
    have h8 := ds_88 (i := i) (by omega)
    have hm : ds_R B p f i * 8 ^ i ≤ 7 * 262144 := Nat.mul_le_mul (by omega) h8
    have e1 : (2 : Int32) * nI i + nI f = nI (2 * i + f) := by
      rw [show (2 : Int32) * nI i = nI (2 * i) from pk_mul 2 i, nI_add]
    have e2 : (nI p + 8) + (nI (2 * i + f) * 3) = nI (p + 8 + 3 * (2 * i + f)) := by
      rw [show nI p + 8 = nI (p + 8) from nI_add p 8, show nI (2 * i + f) * 3 = nI ((2 * i + f) * 3) from pk_mul _ 3, nI_add, Nat.mul_comm (2 * i + f) 3]
    have e3 : nI (ds_rb B (p + 8 + 3 * (2 * i + f)) 3) ^^^ nI (ds_wh (2 * i + f)) = nI (ds_R B p f i) := nx_xor _ _
    have e4 : nI (ds_W B p f i) ||| (nI (ds_R B p f i) <<< ((nI i * 3) &&& 31)) = nI (ds_W B p f (i + 1)) := by
      rw [show nI i * 3 = nI (i * 3) from pk_mul i 3, ds_shl (by omega) (by rw [ds_p8]; omega), nx_or, Nat.or_comm, ds_or (by rw [ds_p8]; exact hW), ds_p8, Nat.add_comm]
      rfl
    refine br_f (nI_ge (b := 7) (by omega) (by omega)) (nm_r e1 (nm_r e2 (dx_rb (c := 3) hB hL (by omega) (by omega) ?_)))
    unfold wpX_whitener
    rw [ds_whI (by omega)]
    exact nm_r e3 (nm_r e4 (nm_r (nI_1 i) (ih (i + 1) (by omega))))
theorem dx_rw {post : Int32 → Prop} {B : Nat → Nat} {l t : Int32} {L C P : Nat → Int32} (hB : ∀ j, B j < 2) (hL : ∀ j, L j = nI (B j)) {p f : Nat} (hf : f < 2) (hp : p + 50 ≤ 300) (h : post (nI (ds_W B p f 7))) : wpX_receivedWord post (l, t, L, C, P) (nI p) (nI f) :=
  ⟨8, dx_rw1 hB hL hf hp h 7 0 rfl⟩
end
section
/-! ===== the component: send ===== -/
/-- bit q of the frame made of the words E and O -/
def ds_T (E O q : Nat) : Nat := if q < 8 then 178 / 2 ^ (7 - q) % 2 else (ds_sy (if (q - 8) / 3 % 2 = 0 then E else O) ((q - 8) / 3 / 2) ^^^ ds_wh ((q - 8) / 3)) / 2 ^ (2 - (q - 8) % 3) % 2
theorem ds_T_lt (E O q : Nat) : ds_T E O q < 2 := by
  unfold ds_T
  split
  · exact Nat.mod_lt _ (by decide)
  · exact Nat.mod_lt _ (by decide)
theorem ds_Tm (E O : Nat) {q : Nat} (h : q < 8) : ds_T E O q = 178 / 2 ^ (7 - q) % 2 := if_pos h
theorem ds_Ts (E O : Nat) {j b : Nat} (hb : b < 3) : ds_T E O (8 + 3 * j + b) = (ds_sy (if j % 2 = 0 then E else O) (j / 2) ^^^ ds_wh j) / 2 ^ (2 - b) % 2 := by
  unfold ds_T
  rw [if_neg (by omega), show (8 + 3 * j + b - 8) / 3 = j by omega, show (8 + 3 * j + b - 8) % 3 = b by omega]
/-- the line L, with the first m bits of T from place n on -/
def ds_ov (L : Nat → Int32) (T : Nat → Nat) (n m : Nat) : Nat → Int32 := fun j => if n ≤ j ∧ j < n + m then nI (T (j - n)) else L j
theorem ds_ov0 (L : Nat → Int32) (T : Nat → Nat) (n : Nat) : ds_ov L T n 0 = L := by
  funext j
  exact if_neg (by omega)
theorem ds_ovS (L : Nat → Int32) (T : Nat → Nat) (n m : Nat) : upd (ds_ov L T n m) (n + m) (nI (T m)) = ds_ov L T n (m + 1) := by
  funext j
  by_cases h : j = n + m
  · subst h
    rw [pk_us]
    unfold ds_ov
    rw [if_pos (by omega), Nat.add_sub_cancel_left]
  · rw [pk_un h]
    unfold ds_ov
    by_cases h2 : n ≤ j ∧ j < n + m
    · rw [if_pos h2, if_pos (by omega)]
    · rw [if_neg h2, if_neg (by omega)]
theorem dx_app1 {post : SX → Prop} {L C P : Nat → Int32} {t : Int32} {T : Nat → Nat} {n v : Nat} (hv : v < 2 ^ 31) : ∀ (s m : Nat) (x3 : Int32), s ≤ 30 → x3 = nI s + (-1) → n + m + s ≤ 300 → (∀ i, i < s → v / 2 ^ (s - 1 - i) % 2 = T (m + i)) → post (nI (n + (m + s)), t, ds_ov L T n (m + s), C, P) → wX_append_4 post (nI v) t (s + 1) x3 (nI (n + m)) (ds_ov L T n m) C P := by
  intro s
  induction s with
  | zero =>
    intro m x3 _ hx _ _ h
    subst hx
    exact br_t (by decide) h
  | succ s ih =>
    intro m x3 hs hx hn hT h
    rw [pk_m1] at hx
    subst hx
    have e : upd (ds_ov L T n m) (nI (n + m)).toNatClampNeg ((nI v >>> (nI s &&& 31)) &&& 1) = ds_ov L T n (m + 1) := by
      have h0 := hT 0 (by omega)
      rw [show s + 1 - 1 - 0 = s by omega, Nat.add_zero] at h0
      rw [nI_clamp (by omega), ds_shr (by omega) hv, ds_and1 (Nat.lt_of_le_of_lt (Nat.div_le_self _ _) (by omega)), h0]
      exact ds_ovS L T n m
    refine br_f (nI_pos (by omega)) ⟨vp_in_nI (by omega) (by omega), nm_r e (nm_r (nI_1 _) (nm_e ?_))⟩
    refine ih (m + 1) _ (by omega) rfl (by omega) (fun i hi => ?_) ?_
    · have h1 := hT (i + 1) (by omega)
      rw [show s + 1 - 1 - (i + 1) = s - 1 - i by omega, show m + (i + 1) = m + 1 + i by omega] at h1
      exact h1
    · rw [show m + 1 + s = m + (s + 1) by omega]
      exact h
theorem dx_app {post : SX → Prop} {L C P : Nat → Int32} {t : Int32} {T : Nat → Nat} {n v m : Nat} (s : Nat) (hv : v < 2 ^ 31) (hs : s ≤ 30) (hn : n + m + s ≤ 300) (hT : ∀ i, i < s → v / 2 ^ (s - 1 - i) % 2 = T (m + i)) (h : post (nI (n + (m + s)), t, ds_ov L T n (m + s), C, P)) : wpX_append post (nI (n + m), t, ds_ov L T n m, C, P) (nI v) (nI s) :=
  nm_e ⟨s + 1, dx_app1 hv s m _ hs (Int32.sub_eq_add_neg (nI s) 1) hn hT h⟩
section XS
variable {post : Int32 → SX → Prop} {L C P : Nat → Int32} {t : Int32} {n E O : Nat}
theorem dx_se1 {k j : Nat} {x4 x5 : Int32} (hE : E < 2 ^ 21) (hO : O < 2 ^ 21) (hn : n + 50 ≤ 300) (hj : j < 14) (h : wX_send_68 post x4 x5 k (nI (j + 1)) (nI (n + (8 + 3 * (j + 1)))) t (ds_ov L (ds_T E O) n (8 + 3 * (j + 1))) C P) : wX_send_89 post (wX_send_68 post x4 x5 k) x4 x5 (nI j) (nI (if j % 2 = 0 then E else O)) (nI (n + (8 + 3 * j))) t (ds_ov L (ds_T E O) n (8 + 3 * j)) C P := by
  have hW : (if j % 2 = 0 then E else O) < 2 ^ 31 := by split <;> omega
  have e : nI j / 2 = nI (j / 2) := pk_div (d := 2) (by omega) (by omega) (by omega)
  have hx := ds_x8 (ds_sy_lt (if j % 2 = 0 then E else O) (j / 2)) (ds_wh_lt j)
  refine ⟨by decide, ?_⟩
  rw [e]
  refine dx_sym hW (by omega) ?_
  unfold wpX_whitener
  rw [ds_whI (by omega)]
  refine nm_r (nx_xor _ _) (dx_app (T := ds_T E O) 3 (by omega) (by omega) (by omega) (fun i hi => (ds_Ts E O hi).symm) ?_)
  exact nm_r (nI_1 j) h
theorem dx_se2 (hE : E < 2 ^ 21) (hO : O < 2 ^ 21) (hn : n + 50 ≤ 300) (h : post (nI (n + 50)) (nI (n + 50), t, ds_ov L (ds_T E O) n 50, C, P)) : ∀ d j : Nat, j + d = 14 → wX_send_68 post (nI E) (nI O) (d + 1) (nI j) (nI (n + (8 + 3 * j))) t (ds_ov L (ds_T E O) n (8 + 3 * j)) C P := by
  intro d
  induction d with
  | zero =>
    intro j hj
    have hj' : j = 14 := by omega
    subst hj'
    exact br_t (nI_le (a := 14) (Nat.le_refl _) (by omega)) h
  | succ d ih =>
    intro j hj
    have e : nI j - nI j / 2 * 2 = nI (j % 2) := pk_rem (d := 2) (by omega) (by omega) (by omega)
    have s := dx_se1 (post := post) (t := t) (x4 := nI E) (x5 := nI O) (L := L) (C := C) (P := P) hE hO hn (by omega) (ih (j + 1) (by omega))
    refine br_f (nI_ge (b := 14) (by omega) (by omega)) ⟨by decide, ?_⟩
    rw [e]
    refine pk_eq (j % 2) 0 (fun z => ?_) (fun z => ?_)
    · rwa [if_pos z] at s
    · rwa [if_neg z] at s
theorem dx_send {M : Nat} (hM : M ≤ 262143) (hn : n + 50 ≤ 300) (hC : ∀ j, j < 512 → C j = nI (ds_cw j)) (h : post (nI (n + 50)) (nI (n + 50), t, ds_ov L (ds_T (ds_cw (ds_pl M 0)) (ds_cw (ds_pl M 1))) n 50, C, P)) : wpX_send post (nI n, t, L, C, P) (nI M) := by
  have p0 := ds_pl_lt M 0
  have p1 := ds_pl_lt M 1
  have e0 : C (nI (ds_pl M 0)).toNatClampNeg = nI (ds_cw (ds_pl M 0)) := by rw [nI_clamp (by omega)]; exact hC _ p0
  have e1 : C (nI (ds_pl M 1)).toNatClampNeg = nI (ds_cw (ds_pl M 1)) := by rw [nI_clamp (by omega)]; exact hC _ p1
  refine br_f (nI_pos (by omega)) (br_t (nI_le (b := 262143) hM (by omega)) (br_t ?_ ?_))
  · rw [show nI n + 50 = nI (n + 50) from nI_add n 50]
    exact nI_le (b := 300) hn (by omega)
  · refine dx_pl (f := 0) (by omega) (by omega) (dx_pl (f := 1) (by omega) (by omega) ⟨vp_in_nI p0 (by omega), nm_r e0 ⟨vp_in_nI p1 (by omega), nm_r e1 ?_⟩⟩)
    have a := dx_app (post := fun u => match u with | (f_length, f_taken, a_line, a_codeWords, a_places) => (∃ n68 : Nat, wX_send_68 post (nI (ds_cw (ds_pl M 0))) (nI (ds_cw (ds_pl M 1))) n68 0 f_length f_taken a_line a_codeWords a_places)) (L := L) (C := C) (P := P) (t := t) (T := ds_T (ds_cw (ds_pl M 0)) (ds_cw (ds_pl M 1))) (n := n) (v := 178) (m := 0) 8 (by omega) (by omega) (by omega) (fun i hi => by rw [Nat.zero_add, ds_Tm _ _ hi]) ⟨15, dx_se2 (ds_cw_lt p0) (ds_cw_lt p1) hn h 14 0 rfl⟩
    rw [ds_ov0] at a
    exact a
end XS
end
section
/-! ===== the reference: products, powers, check sums, completing a word ===== -/
def dy_st (p q v k : Int32) : Int32 := if ((q >>> (k &&& 31)) &&& 1) = 1 then v ^^^ (p <<< (k &&& 31)) else v
def dy_rd (v d : Int32) : Int32 := if (v >>> ((d + 3) &&& 31)) = 1 then v ^^^ ((11 : Int32) <<< (d &&& 31)) else v
def dy_pr (p q : Int32) : Int32 := dy_rd (dy_rd (dy_rd (dy_st p q (dy_st p q (dy_st p q 0 0) 1) 2) 2) 1) 0 &&& 7
theorem dy_prT : ∀ p, p < 8 → ∀ q, q < 8 → dy_pr (nI p) (nI q) = nI (ds_pr p q) := by decide +kernel
section YC
variable {fn fc ff : Int32} {L w pw py : Nat → Int32}
theorem dy_st1 {post : Int32 → Prop} {p q v : Int32} {n : Nat} (k k' : Int32) (hk : ¬ 3 ≤ k) (e : k + 1 = k') (h : wY_product_5 post p q fn fc ff L w pw py n (dy_st p q v k) k') : wY_product_5 post p q fn fc ff L w pw py (n + 1) v k := by
  subst e
  unfold dy_st at h
  refine br_f hk (br_c (fun z => nm_e (nm_e ?_)) (fun z => nm_e ?_))
  · rwa [if_pos z] at h
  · rwa [if_neg z] at h
theorem dy_rd1 {post : Int32 → Prop} {v : Int32} {n : Nat} (k k' : Int32) (hk : ¬ k < 0) (e : k + (-1) = k') (h : wY_product_37 post fn fc ff L w pw py n (dy_rd v k) k') : wY_product_37 post fn fc ff L w pw py (n + 1) v k := by
  subst e
  unfold dy_rd at h
  refine br_f hk (br_c (fun z => nm_e (nm_e ?_)) (fun z => nm_e ?_))
  · rwa [if_pos z] at h
  · rwa [if_neg z] at h
theorem dy_prod {post : Int32 → Prop} {p q : Nat} (hp : p < 8) (hq : q < 8) (h : post (nI (ds_pr p q))) : wpY_product post (fn, fc, ff, L, w, pw, py) (nI p) (nI q) := by
  rw [← dy_prT p hp q hq] at h
  exact ⟨4, dy_st1 0 1 (by decide) (by decide) (dy_st1 1 2 (by decide) (by decide) (dy_st1 2 3 (by decide) (by decide) (br_t (by decide)
    ⟨4, dy_rd1 2 1 (by decide) (by decide) (dy_rd1 1 0 (by decide) (by decide) (dy_rd1 0 (-1) (by decide) (by decide) (br_t (by decide) h)))⟩)))⟩
theorem ds_pwS : ∀ i, i < 6 → ds_pr (ds_pw i) 2 = ds_pw (i + 1) := by decide +kernel
theorem dy_in1 {post : SY → Prop} (h : ∀ W : Nat → Int32, (∀ j, j < 7 → W j = nI (ds_pw j)) → post (fn, fc, ff, L, w, W, py)) : ∀ (d i v : Nat) (W : Nat → Int32), i + d = 7 → v < 8 → (i < 7 → v = ds_pw i) → (∀ j, j < i → W j = nI (ds_pw j)) → wY_init_46 post fn fc ff (d + 1) (nI v) (nI i) L w W py := by
  intro d
  induction d with
  | zero =>
    intro i v W hi _ _ hW
    have hi' : i = 7 := by omega
    subst hi'
    exact br_t (nI_le (a := 7) (Nat.le_refl _) (by omega)) (h W hW)
  | succ d ih =>
    intro i v W hi hv hvi hW
    refine br_f (nI_ge (b := 7) (by omega) (by omega)) ⟨vp_in_nI (by omega) (by omega), nm_r (e' := upd W i (nI v)) (by rw [nI_clamp (by omega)]) (dy_prod (q := 2) hv (by omega) (nm_r (nI_1 i) (ih (i + 1) _ _ (by omega) (ds_pr_lt _ _) (fun z => ?_) (fun j hj => ?_))))⟩
    · rw [hvi (by omega)]
      exact ds_pwS i (by omega)
    · by_cases z : j = i
      · subst z; rw [pk_us, hvi (by omega)]
      · rw [pk_un z]; exact hW j (by omega)
theorem ds_ps_lt (v : Nat → Nat) (k : Nat) : ∀ m, ds_ps v k m < 8
  | 0 => (by decide : 0 < 8)
  | m + 1 => ds_x8 (ds_ps_lt v k m) (ds_pr_lt _ _)
theorem dy_ic1 {post J : Int32 → Prop} {v : Nat → Nat} (hv : ∀ i, i < 7 → w i = nI (v i) ∧ v i < 8) (hp : ∀ i, i < 7 → pw i = nI (ds_pw i)) {k : Nat} (hk : k < 5) (hJ : ds_ps v k 7 = 0 → J (nI (k + 1))) (h0 : ds_ps v k 7 ≠ 0 → post 0) : ∀ d i : Nat, i + d = 7 → wY_isCode_11 post J (nI k) fn fc ff L w pw py (d + 1) (nI (ds_ps v k i)) (nI i) := by
  intro d
  induction d with
  | zero =>
    intro i hi
    have hi' : i = 7 := by omega
    subst hi'
    have hl := ds_ps_lt v k 7
    exact br_t (nI_le (a := 7) (Nat.le_refl _) (by omega)) (pk_eq (ds_ps v k 7) 0 (fun z => nm_r (nI_1 k) (hJ z)) h0)
  | succ d ih =>
    intro i hi
    have hm : k * i ≤ 5 * 7 := Nat.mul_le_mul (by omega) (by omega)
    have e1 : (nI k * nI i) - (nI k * nI i) / 7 * 7 = nI (k * i % 7) := by
      rw [pk_mul]
      exact pk_rem (d := 7) (by omega) (by omega) (by omega)
    have h7 : k * i % 7 < 7 := Nat.mod_lt _ (by decide)
    refine br_f (nI_ge (b := 7) (by omega) (by omega)) ⟨vp_in_nI (by omega) (by omega), by decide, ?_⟩
    rw [e1, nI_clamp (by omega), nI_clamp (by omega), (hv i (by omega)).1, hp _ h7]
    exact ⟨vp_in_nI h7 (by omega), dy_prod (hv i (by omega)).2 (ds_pw_lt _) (nm_r (nx_xor _ _) (nm_r (nI_1 i) (ih (i + 1) (by omega))))⟩
theorem dy_ic2 {post : Int32 → Prop} {v : Nat → Nat} (hv : ∀ i, i < 7 → w i = nI (v i) ∧ v i < 8) (hp : ∀ i, i < 7 → pw i = nI (ds_pw i)) (h1 : ds_isC v = true → post 1) (h0 : ds_isC v = false → post 0) : ∀ d k : Nat, k + d = 5 → 1 ≤ k → (∀ i, 1 ≤ i → i < k → ds_ps v i 7 = 0) → wY_isCode_2 post fn fc ff L w pw py (d + 1) (nI k) := by
  intro d
  induction d with
  | zero =>
    intro k hk _ hz
    have hk' : k = 5 := by omega
    subst hk'
    exact br_t (nI_lt (a := 4) (b := 5) (by omega) (by omega)) (h1 ((ds_isC_iff v).mpr ⟨hz 1 (by omega) (by omega), hz 2 (by omega) (by omega), hz 3 (by omega) (by omega), hz 4 (by omega) (by omega)⟩))
  | succ d ih =>
    intro k hk h1k hz
    refine br_f (nI_nlt (a := 4) (by omega) (by omega)) ⟨8, dy_ic1 hv hp (by omega) (fun z => ih (k + 1) (by omega) (by omega) (fun i hi1 hi => ?_)) (fun z => h0 ?_) 7 0 rfl⟩
    · by_cases y : i = k
      · subst y; exact z
      · exact hz i hi1 (by omega)
    · apply Bool.eq_false_iff.mpr
      intro y
      obtain ⟨a1, a2, a3, a4⟩ := (ds_isC_iff v).mp y
      have hk4 : k = 1 ∨ k = 2 ∨ k = 3 ∨ k = 4 := by omega
      rcases hk4 with rfl | rfl | rfl | rfl
      · exact z a1
      · exact z a2
      · exact z a3
      · exact z a4
theorem dy_ic {post : Int32 → Prop} {v : Nat → Nat} (hv : ∀ i, i < 7 → w i = nI (v i) ∧ v i < 8) (hp : ∀ i, i < 7 → pw i = nI (ds_pw i)) (h1 : ds_isC v = true → post 1) (h0 : ds_isC v = false → post 0) : wpY_isCode post (fn, fc, ff, L, w, pw, py) :=
  ⟨5, dy_ic2 hv hp h1 h0 4 1 rfl (by omega) (fun i hi1 hi => absurd hi (by omega))⟩
end YC
/-! completing a word -/
def ds_vv (p c i : Nat) : Nat := if i < 4 then ds_sy c i else ds_sy p (i - 4)
theorem ds_vv_lt (p c i : Nat) : ds_vv p c i < 8 := by
  unfold ds_vv
  split
  · exact ds_sy_lt _ _
  · exact ds_sy_lt _ _
theorem ds_p512 {p q : Nat} (hp : p < 512) (hq : q < 512) (h0 : ds_sy p 0 = ds_sy q 0) (h1 : ds_sy p 1 = ds_sy q 1) (h2 : ds_sy p 2 = ds_sy q 2) : p = q := by
  unfold ds_sy at h0 h1 h2
  omega
theorem ds_cu {p c : Nat} (hp : p < 512) (hc : c < 4096) (h : ds_isC (ds_vv p c) = true) : c = ds_cw p % 4096 := by
  obtain ⟨q, hq, e⟩ := ds_tab (fun i _ => ds_vv_lt p c i) h
  have t := (ds_t1 q hq).2
  have e4 := e 4 (by omega); have e5 := e 5 (by omega); have e6 := e 6 (by omega)
  rw [ds_sy_hi t 0] at e4
  rw [ds_sy_hi t 1] at e5
  rw [ds_sy_hi t 2] at e6
  have hpq := ds_p512 hp hq e4 e5 e6
  subst hpq
  have e0 : ds_sy c 0 = ds_sy (ds_cw p) 0 := e 0 (by omega)
  have e1 : ds_sy c 1 = ds_sy (ds_cw p) 1 := e 1 (by omega)
  have e2 : ds_sy c 2 = ds_sy (ds_cw p) 2 := e 2 (by omega)
  have e3 : ds_sy c 3 = ds_sy (ds_cw p) 3 := e 3 (by omega)
  generalize ds_cw p = D at *
  unfold ds_sy at e0 e1 e2 e3
  omega
theorem ds_vw {p : Nat} (hp : p < 512) : ∀ i, i < 7 → ds_vv p (ds_cw p % 4096) i = ds_sy (ds_cw p) i := by
  have t := (ds_t1 p hp).2
  generalize ds_cw p = D at *
  apply ds_lt7
  · show ds_sy (D % 4096) 0 = ds_sy D 0; unfold ds_sy; omega
  · show ds_sy (D % 4096) 1 = ds_sy D 1; unfold ds_sy; omega
  · show ds_sy (D % 4096) 2 = ds_sy D 2; unfold ds_sy; omega
  · show ds_sy (D % 4096) 3 = ds_sy D 3; unfold ds_sy; omega
  · exact (ds_sy_hi t 0).symm
  · exact (ds_sy_hi t 1).symm
  · exact (ds_sy_hi t 2).symm
theorem ds_vC {p : Nat} (hp : p < 512) : ds_isC (ds_vv p (ds_cw p % 4096)) = true := by
  rw [ds_isC_congr (ds_vw hp)]
  exact (ds_t1 p hp).1
section YD
variable {fn fc ff : Int32} {L pw py : Nat → Int32}
theorem dy_co1 {post : SY → Prop} {J : Int32 → Int32 → (Nat → Int32) → (Nat → Int32) → (Nat → Int32) → (Nat → Int32) → Prop} (hp : ∀ i, i < 7 → pw i = nI (ds_pw i)) {p c : Nat} (hc : c < 4096) (h1 : ds_isC (ds_vv p c) = true → ∀ w : Nat → Int32, (∀ i, i < 7 → w i = nI (ds_vv p c i)) → J 1 (nI (c + 1)) L w pw py) (h0 : ds_isC (ds_vv p c) = false → ∀ w : Nat → Int32, (∀ i, i < 7 → w i = nI (ds_vv p c i)) → J 0 (nI (c + 1)) L w pw py) : ∀ (d i : Nat) (w : Nat → Int32), i + d = 4 → (∀ j, j < i → w j = nI (ds_sy c j)) → (∀ j, j < 3 → w (4 + j) = nI (ds_sy p j)) → wY_complete_17 post J (nI c) fn fc ff (d + 1) (nI i) L w pw py := by
  intro d
  induction d with
  | zero =>
    intro i w hi ha hb
    have hi' : i = 4 := by omega
    subst hi'
    have hw : ∀ i, i < 7 → w i = nI (ds_vv p c i) := ds_lt7 (ha 0 (by omega)) (ha 1 (by omega)) (ha 2 (by omega)) (ha 3 (by omega)) (hb 0 (by omega)) (hb 1 (by omega)) (hb 2 (by omega))
    exact br_t (nI_le (a := 4) (Nat.le_refl _) (by omega)) (dy_ic (fun i hi => ⟨hw i hi, ds_vv_lt p c i⟩) hp (fun z => nm_r (nI_1 c) (h1 z w hw)) (fun z => nm_r (nI_1 c) (h0 z w hw)))
  | succ d ih =>
    intro i w hi ha hb
    have e : upd w (nI i).toNatClampNeg ((nI c >>> ((3 * nI i) &&& 31)) &&& 7) = upd w i (nI (ds_sy c i)) := by
      rw [nI_clamp (by omega), Int32.mul_comm, ds_syI (by omega) (by omega)]
    refine br_f (nI_ge (b := 4) (by omega) (by omega)) ⟨vp_in_nI (by omega) (by omega), nm_r e (nm_r (nI_1 i) (ih (i + 1) _ (by omega) (fun j hj => ?_) (fun j hj => ?_)))⟩
    · by_cases z : j = i
      · subst z; exact pk_us
      · rw [pk_un z]; exact ha j (by omega)
    · rw [pk_un (by omega)]; exact hb j hj
theorem dy_co2 {post : SY → Prop} (hp : ∀ i, i < 7 → pw i = nI (ds_pw i)) {p : Nat} (hp5 : p < 512) (h : ∀ w : Nat → Int32, (∀ i, i < 7 → w i = nI (ds_sy (ds_cw p) i)) → post (fn, fc, ff, L, w, pw, py)) : ∀ (d c : Nat) (w : Nat → Int32), c + d = ds_cw p % 4096 → (∀ j, j < 3 → w (4 + j) = nI (ds_sy p j)) → wY_complete_4 post fn fc ff (d + 2) 0 (nI c) L w pw py := by
  have hm : ds_cw p % 4096 < 4096 := Nat.mod_lt _ (by decide)
  intro d
  induction d with
  | zero =>
    intro c w hc hw
    refine br_f (nI_ge (b := 4096) (by omega) (by omega)) (br_t rfl ⟨5, dy_co1 hp (by omega) (fun _ w' hw' => ?_) (fun z => ?_) 4 0 w rfl (fun j hj => absurd hj (Nat.not_lt_zero j)) hw⟩)
    · have hpost := h w' (fun i hi => by rw [hw' i hi, show c = ds_cw p % 4096 by omega, ds_vw hp5 i hi])
      exact br_c (fun _ => hpost) (fun _ => br_f (by decide) hpost)
    · have y := ds_vC hp5
      rw [show ds_cw p % 4096 = c by omega, z] at y
      exact absurd y (by decide)
  | succ d ih =>
    intro c w hc hw
    refine br_f (nI_ge (b := 4096) (by omega) (by omega)) (br_t rfl ⟨5, dy_co1 hp (by omega) (fun z => ?_) (fun _ w' hw' => ?_) 4 0 w rfl (fun j hj => absurd hj (Nat.not_lt_zero j)) hw⟩)
    · have y := ds_cu hp5 (by omega) z
      omega
    · exact ih (c + 1) w' (by omega) (fun j hj => by
        rw [hw' (4 + j) (by omega)]
        unfold ds_vv
        rw [if_neg (by omega), Nat.add_sub_cancel_left])
theorem dy_co {post : SY → Prop} (hp : ∀ i, i < 7 → pw i = nI (ds_pw i)) {p : Nat} {w : Nat → Int32} (hp5 : p < 512) (hw : ∀ j, j < 3 → w (4 + j) = nI (ds_sy p j)) (h : ∀ w : Nat → Int32, (∀ i, i < 7 → w i = nI (ds_sy (ds_cw p) i)) → post (fn, fc, ff, L, w, pw, py)) : wpY_complete post (fn, fc, ff, L, w, pw, py) :=
  ⟨ds_cw p % 4096 + 2, dy_co2 hp hp5 h (ds_cw p % 4096) 0 w (Nat.zero_add _) hw⟩
end YD
end
section
/-! ===== the reference: send ===== -/
theorem dy_nar {b : Nat} (hb : b < 2) : vp_nar .boolean (nI b) = nI b := by
  have h : b = 0 ∨ b = 1 := by omega
  rcases h with rfl | rfl
  · first | rfl | decide
  · first | rfl | decide
/-- outside [n, n + 50) the line is L; where D holds the frame's bit lies -/
def ds_In (L a : Nat → Int32) (T : Nat → Nat) (n : Nat) (D : Nat → Prop) : Prop := (∀ j, (j < n ∨ n + 50 ≤ j) → a j = L j) ∧ ∀ q, q < 50 → D q → a (n + q) = nI (T q)
theorem ds_In_w {L a : Nat → Int32} {T : Nat → Nat} {n q : Nat} {D D' : Nat → Prop} (h : ds_In L a T n D) (hq : q < 50) (hD : ∀ r, r < 50 → D' r → D r ∨ r = q) : ds_In L (upd a (n + q) (nI (T q))) T n D' := by
  refine ⟨fun j hj => ?_, fun r hr hDr => ?_⟩
  · rw [pk_un (by omega)]; exact h.1 j hj
  · by_cases z : r = q
    · subst z; exact pk_us
    · rw [pk_un (by omega)]
      exact h.2 r hr ((hD r hr hDr).resolve_right z)
theorem ds_In_ov {L a : Nat → Int32} {T : Nat → Nat} {n : Nat} {D : Nat → Prop} (h : ds_In L a T n D) (hD : ∀ q, q < 50 → D q) : a = ds_ov L T n 50 := by
  funext j
  unfold ds_ov
  by_cases z : n ≤ j ∧ j < n + 50
  · rw [if_pos z]
    have e := h.2 (j - n) (by omega) (hD _ (by omega))
    rw [show n + (j - n) = j by omega] at e
    exact e
  · rw [if_neg z]
    exact h.1 j (by omega)
section YS
variable {fn fc ff : Int32} {w pw py : Nat → Int32}
theorem dy_mk {post : Int32 → Prop} {L : Nat → Int32} {k : Nat} (hk : k < 8) (h : post (nI (178 / 2 ^ (7 - k) % 2))) : wpY_marker post (fn, fc, ff, L, w, pw, py) (nI k) := by
  have hc : k = 0 ∨ k = 1 ∨ k = 2 ∨ k = 3 ∨ k = 4 ∨ k = 5 ∨ k = 6 ∨ k = 7 := by omega
  rcases hc with rfl | rfl | rfl | rfl | rfl | rfl | rfl | rfl
  · exact br_t (by decide) h
  · exact br_f (by decide) (br_f (by decide) (br_f (by decide) (br_f (by decide) h)))
  · exact br_f (by decide) (br_t (by decide) h)
  · exact br_f (by decide) (br_f (by decide) (br_t (by decide) h))
  · exact br_f (by decide) (br_f (by decide) (br_f (by decide) (br_f (by decide) h)))
  · exact br_f (by decide) (br_f (by decide) (br_f (by decide) (br_f (by decide) h)))
  · exact br_f (by decide) (br_f (by decide) (br_f (by decide) (br_t (by decide) h)))
  · exact br_f (by decide) (br_f (by decide) (br_f (by decide) (br_f (by decide) h)))
theorem dy_scr {post : Int32 → Prop} {L : Nat → Int32} {j : Nat} (hj : j < 100) (h : post (nI (ds_wh j))) : wpY_scramble post (fn, fc, ff, L, w, pw, py) (nI j) := by
  unfold wpY_scramble
  dsimp only
  rw [ds_whI hj]
  exact h
theorem dy_lay1 {post : SY → Prop} {L : Nat → Int32} {n f E O : Nat} {D : Nat → Prop} (hn : n + 50 ≤ 300) (hf : f < 2) (hw : ∀ i, i < 7 → w i = nI (ds_sy (if f = 0 then E else O) i)) (h : ∀ a : Nat → Int32, ds_In L a (ds_T E O) n (fun q => D q ∨ (8 ≤ q ∧ (q - 8) / 3 % 2 = f)) → post (nI n, fc, ff, a, w, pw, py)) : ∀ (d ib : Nat) (a : Nat → Int32), ib + d = 21 → ds_In L a (ds_T E O) n (fun q => D q ∨ (8 ≤ q ∧ (q - 8) / 3 % 2 = f ∧ (q - 8) / 3 / 2 * 3 + (q - 8) % 3 < ib)) → wY_lay_2 post (nI f) (nI n) fc ff (d + 1) (nI ib) a w pw py := by
  intro d
  induction d with
  | zero =>
    intro ib a hi ha
    have hi' : ib = 21 := by omega
    subst hi'
    refine br_t (nI_le (a := 21) (Nat.le_refl _) (by omega)) (h a ⟨ha.1, fun q hq hD => ha.2 q hq ?_⟩)
    rcases hD with hD | hD
    · exact Or.inl hD
    · exact Or.inr ⟨hD.1, hD.2, by omega⟩
  | succ d ih =>
    intro ib a hi ha
    have ed : nI ib / 3 = nI (ib / 3) := pk_div (d := 3) (by omega) (by omega) (by omega)
    have er : nI ib - nI ib / 3 * 3 = nI (ib % 3) := pk_rem (d := 3) (by omega) (by omega) (by omega)
    obtain ⟨j, hj⟩ : ∃ j, j = 2 * (ib / 3) + f := ⟨_, rfl⟩
    obtain ⟨q, hq⟩ : ∃ q, q = 8 + 3 * j + ib % 3 := ⟨_, rfl⟩
    have e3 : (2 * (nI ib / 3)) + nI f = nI j := by
      rw [ed, show (2 : Int32) * nI (ib / 3) = nI (2 * (ib / 3)) from pk_mul 2 _, nI_add, hj]
    have ew : w (nI (ib / 3)).toNatClampNeg = nI (ds_sy (if f = 0 then E else O) (ib / 3)) := by
      rw [nI_clamp (by omega)]; exact hw _ (by omega)
    have hx8 := ds_x8 (ds_sy_lt (if f = 0 then E else O) (ib / 3)) (ds_wh_lt j)
    have e5 : (nI (ds_sy (if f = 0 then E else O) (ib / 3) ^^^ ds_wh j) >>> ((2 - nI (ib % 3)) &&& 31)) &&& 1 = nI (ds_T E O q) := by
      rw [show (2 : Int32) - nI (ib % 3) = nI (2 - ib % 3) from pk_sub (a := 2) (by omega), ds_shr (by omega) (by omega), ds_and1 (Nat.lt_of_le_of_lt (Nat.div_le_self _ _) (by omega)), hq, ds_Ts E O (Nat.mod_lt _ (by decide)), show j % 2 = f by omega, show j / 2 = ib / 3 by omega]
    have ep : ((nI n + 8) + (3 * nI j)) + nI (ib % 3) = nI (n + q) := by
      rw [show nI n + 8 = nI (n + 8) from nI_add n 8, show (3 : Int32) * nI j = nI (3 * j) from pk_mul 3 j, nI_add, nI_add, hq]
      exact congrArg nI (by omega)
    have hT := ds_T_lt E O q
    have hw2 : ds_In L (upd a (n + q) (nI (ds_T E O q))) (ds_T E O) n (fun q => D q ∨ (8 ≤ q ∧ (q - 8) / 3 % 2 = f ∧ (q - 8) / 3 / 2 * 3 + (q - 8) % 3 < ib + 1)) := by
      refine ds_In_w ha (by omega) (fun r hr hD => ?_)
      rcases hD with hD | hD
      · exact Or.inl (Or.inl hD)
      · by_cases z : r = q
        · exact Or.inr z
        · refine Or.inl (Or.inr ⟨hD.1, hD.2.1, ?_⟩)
          omega
    have hN := ih (ib + 1) _ (by omega) hw2
    refine br_f (nI_ge (b := 21) (by omega) (by omega)) ⟨by decide, nm_r e3 ⟨by decide, ?_⟩⟩
    rw [er, ed]
    refine ⟨vp_in_nI (by omega) (by omega), dy_scr (by omega) ?_⟩
    rw [ew]
    refine nm_r (nx_xor _ _) ⟨by decide, by decide, ?_⟩
    rw [e5, ep, nI_clamp (by omega)]
    refine pk_eq (ds_T E O q) 1 (fun z => ⟨vp_in_nI (by omega) (by omega), nm_r (e' := upd a (n + q) (nI (ds_T E O q))) ?_ (nm_r (nI_1 ib) hN)⟩) (fun z => ⟨vp_in_nI (by omega) (by omega), nm_r (e' := upd a (n + q) (nI (ds_T E O q))) ?_ (nm_r (nI_1 ib) hN)⟩)
    · rw [z]; exact congrArg _ (dy_nar (b := 1) (by decide))
    · rw [show ds_T E O q = 0 by omega]; exact congrArg _ (dy_nar (b := 0) (by decide))
theorem dy_lay {post : SY → Prop} {L a : Nat → Int32} {n f E O : Nat} {D : Nat → Prop} (hn : n + 50 ≤ 300) (hf : f < 2) (hw : ∀ i, i < 7 → w i = nI (ds_sy (if f = 0 then E else O) i)) (ha : ds_In L a (ds_T E O) n D) (h : ∀ a : Nat → Int32, ds_In L a (ds_T E O) n (fun q => D q ∨ (8 ≤ q ∧ (q - 8) / 3 % 2 = f)) → post (nI n, fc, ff, a, w, pw, py)) : wpY_lay post (nI n, fc, ff, a, w, pw, py) (nI f) :=
  ⟨22, dy_lay1 hn hf hw h 21 0 a rfl ⟨ha.1, fun q hq hD => ha.2 q hq (hD.elim id (fun z => absurd z.2.2 (Nat.not_lt_zero _)))⟩⟩
theorem ds_plS (M f : Nat) : ∀ i, i < 3 → ds_sy (ds_pl M f) i = ds_sy M (5 - (2 * i + f)) := by
  have a := ds_sy_lt M (5 - f); have b := ds_sy_lt M (3 - f); have c := ds_sy_lt M (1 - f)
  intro i hi
  have h : i = 0 ∨ i = 1 ∨ i = 2 := by omega
  rcases h with rfl | rfl | rfl
  · rw [show 5 - (2 * 0 + f) = 5 - f by omega]; unfold ds_pl; generalize ds_sy M (5 - f) = x at *; generalize ds_sy M (3 - f) = y at *; generalize ds_sy M (1 - f) = z at *; unfold ds_sy; omega
  · rw [show 5 - (2 * 1 + f) = 3 - f by omega]; unfold ds_pl; generalize ds_sy M (5 - f) = x at *; generalize ds_sy M (3 - f) = y at *; generalize ds_sy M (1 - f) = z at *; unfold ds_sy; omega
  · rw [show 5 - (2 * 2 + f) = 1 - f by omega]; unfold ds_pl; generalize ds_sy M (5 - f) = x at *; generalize ds_sy M (3 - f) = y at *; generalize ds_sy M (1 - f) = z at *; unfold ds_sy; omega
end YS
section YT
variable {post : Int32 → SY → Prop} {fc ff : Int32} {pw py L : Nat → Int32} {n M E O : Nat}
theorem dy_se67 {J : Int32 → Int32 → Int32 → Int32 → (Nat → Int32) → (Nat → Int32) → (Nat → Int32) → (Nat → Int32) → Prop} {f : Nat} {D : Nat → Prop} {a : Nat → Int32} (hp : ∀ i, i < 7 → pw i = nI (ds_pw i)) (hM : M ≤ 262143) (hn : n + 50 ≤ 300) (hf : f < 2) (hEO : ds_cw (ds_pl M f) = if f = 0 then E else O) (ha : ds_In L a (ds_T E O) n D) (h : ∀ a w : Nat → Int32, ds_In L a (ds_T E O) n (fun q => D q ∨ (8 ≤ q ∧ (q - 8) / 3 % 2 = f)) → J (nI (f + 1)) (nI n) fc ff a w pw py) : ∀ (d i : Nat) (w : Nat → Int32), i + d = 3 → (∀ j, j < i → w (4 + j) = nI (ds_sy (ds_pl M f) j)) → wY_send_67 post J (nI M) (nI f) (nI n) fc ff (d + 1) (nI i) a w pw py := by
  intro d
  induction d with
  | zero =>
    intro i w hi hw
    have hi' : i = 3 := by omega
    subst hi'
    exact br_t (nI_le (a := 3) (Nat.le_refl _) (by omega)) (dy_co hp (ds_pl_lt M f) hw (fun w' hw' => dy_lay hn hf (fun i hi => by rw [hw' i hi, hEO]) ha (fun a' ha' => nm_r (nI_1 f) (h a' w' ha'))))
  | succ d ih =>
    intro i w hi hw
    have e4 : (4 : Int32) + nI i = nI (4 + i) := nI_add 4 i
    have es : ((15 : Int32) - (6 * nI i)) - (3 * nI f) = nI (5 - (2 * i + f)) * 3 := by
      rw [show (6 : Int32) * nI i = nI (6 * i) from pk_mul 6 i, show (3 : Int32) * nI f = nI (3 * f) from pk_mul 3 f, show (15 : Int32) - nI (6 * i) = nI (15 - 6 * i) from pk_sub (a := 15) (by omega), pk_sub (by omega), show nI (5 - (2 * i + f)) * 3 = nI ((5 - (2 * i + f)) * 3) from pk_mul _ 3]
      exact congrArg nI (by omega)
    have e : upd w ((4 : Int32) + nI i).toNatClampNeg ((nI M >>> ((((15 : Int32) - (6 * nI i)) - (3 * nI f)) &&& 31)) &&& 7) = upd w (4 + i) (nI (ds_sy (ds_pl M f) i)) := by
      rw [es, ds_syI (by omega) (by omega), e4, nI_clamp (by omega), ds_plS M f i (by omega)]
    refine br_f (nI_ge (b := 3) (by omega) (by omega)) ⟨pk_in (4 + i) 7 (by omega) e4, nm_r e (nm_r (nI_1 i) (ih (i + 1) _ (by omega) (fun j hj => ?_)))⟩
    by_cases z : j = i
    · subst z; exact pk_us
    · rw [pk_un (by omega)]; exact hw j (by omega)
theorem dy_se60 {a w : Nat → Int32} (hp : ∀ i, i < 7 → pw i = nI (ds_pw i)) (hM : M ≤ 262143) (hn : n + 50 ≤ 300) (hE : E = ds_cw (ds_pl M 0)) (hO : O = ds_cw (ds_pl M 1)) (ha : ds_In L a (ds_T E O) n (fun q => q < 8)) (h : ∀ w : Nat → Int32, post (nI (n + 50)) (nI (n + 50), fc, ff, ds_ov L (ds_T E O) n 50, w, pw, py)) : wY_send_60 post (nI M) 3 0 (nI n) fc ff a w pw py := by
  refine br_f (by decide) ⟨4, dy_se67 (f := 0) hp hM hn (by omega) (by rw [if_pos rfl, hE]) ha (fun a1 w1 h1 => ?_) 3 0 w rfl (fun j hj => absurd hj (Nat.not_lt_zero j))⟩
  refine br_f (by decide) ⟨4, dy_se67 (f := 1) hp hM hn (by omega) (by rw [if_neg (by decide), hO]) h1 (fun a2 w2 h2 => ?_) 3 0 w1 rfl (fun j hj => absurd hj (Nat.not_lt_zero j))⟩
  refine br_t (by decide) (nm_r (nI_add n 50) ?_)
  rw [ds_In_ov h2 (fun q hq => by
    by_cases z : q < 8
    · exact Or.inl (Or.inl z)
    · by_cases y : (q - 8) / 3 % 2 = 0
      · exact Or.inl (Or.inr ⟨by omega, y⟩)
      · exact Or.inr ⟨by omega, by omega⟩)]
  exact h w2
theorem dy_se30 {w : Nat → Int32} (hn : n + 50 ≤ 300) (h : ∀ a : Nat → Int32, ds_In L a (ds_T E O) n (fun q => q < 8) → wY_send_60 post (nI M) 3 0 (nI n) fc ff a w pw py) : ∀ (d k : Nat) (a : Nat → Int32), k + d = 8 → ds_In L a (ds_T E O) n (fun q => q < k) → wY_send_30 post (nI M) (nI n) fc ff (d + 1) (nI k) a w pw py := by
  intro d
  induction d with
  | zero =>
    intro k a hk ha
    have hk' : k = 8 := by omega
    subst hk'
    exact br_t (nI_le (a := 8) (Nat.le_refl _) (by omega)) ⟨3, h a ha⟩
  | succ d ih =>
    intro k a hk ha
    have e : upd a (nI n + nI k).toNatClampNeg (vp_nar .boolean (nI (178 / 2 ^ (7 - k) % 2))) = upd a (n + k) (nI (ds_T E O k)) := by
      rw [nI_add, nI_clamp (by omega), dy_nar (Nat.mod_lt _ (by decide)), ds_Tm E O (by omega)]
    exact br_f (nI_ge (b := 8) (by omega) (by omega)) (dy_mk (by omega) ⟨pk_in (n + k) 300 (by omega) (nI_add n k), nm_r e (nm_r (nI_1 k) (ih (k + 1) _ (by omega) (ds_In_w ha (by omega) (fun r hr hD => by omega))))⟩)
theorem dy_send {w : Nat → Int32} (hp : ∀ i, i < 7 → pw i = nI (ds_pw i)) (hM : M ≤ 262143) (hn : n + 50 ≤ 300) (h : ∀ w : Nat → Int32, post (nI (n + 50)) (nI (n + 50), fc, ff, ds_ov L (ds_T (ds_cw (ds_pl M 0)) (ds_cw (ds_pl M 1))) n 50, w, pw, py)) : wpY_send post (nI n, fc, ff, L, w, pw, py) (nI M) := by
  refine br_f (nI_pos (by omega)) (br_t (nI_le (b := 262143) hM (by omega)) (br_t ?_ ⟨9, dy_se30 hn (fun a ha => dy_se60 hp hM hn rfl rfl ha h) 8 0 L rfl ⟨fun _ _ => rfl, fun q _ z => absurd z (Nat.not_lt_zero q)⟩⟩))
  rw [show nI n + 50 = nI (n + 50) from nI_add n 50]
  exact nI_le (b := 300) hn (by omega)
end YT
end
section
/-! ===== the reference: reading a word, mending it ===== -/
section YR
variable {fn fc ff : Int32} {L pw py : Nat → Int32} {B : Nat → Nat}
theorem dy_re1 {post : SY → Prop} {J : Int32 → (Nat → Int32) → (Nat → Int32) → (Nat → Int32) → (Nat → Int32) → Prop} {w : Nat → Int32} {x2 : Int32} (hL : ∀ j, L j = nI (B j)) (hB : ∀ j, B j < 2) {p i j : Nat} (hq : p + 8 + 3 * j + 3 ≤ 300) (hi : i < 7) (hj : j < 100) (h : J (nI (i + 1)) L (upd w i (nI (ds_rb B (p + 8 + 3 * j) 3 ^^^ ds_wh j))) pw py) : ∀ d b : Nat, b + d = 3 → wY_read_21 post J (nI p) x2 (nI i) (nI j) fn fc ff L w pw py (d + 1) (nI (ds_rb B (p + 8 + 3 * j) b)) (nI b) := by
  intro d
  induction d with
  | zero =>
    intro b hb
    have hb' : b = 3 := by omega
    subst hb'
    refine br_t (nI_le (a := 3) (Nat.le_refl _) (by omega)) (dy_scr hj ⟨vp_in_nI (by omega) (by omega), nm_r (e' := upd w i (nI (ds_rb B (p + 8 + 3 * j) 3 ^^^ ds_wh j))) ?_ (nm_r (nI_1 i) h)⟩)
    rw [nI_clamp (by omega), nx_xor]
  | succ d ih =>
    intro b hb
    have ep : ((nI p + 8) + (3 * nI j)) + nI b = nI (p + 8 + 3 * j + b) := by
      rw [show nI p + 8 = nI (p + 8) from nI_add p 8, show (3 : Int32) * nI j = nI (3 * j) from pk_mul 3 j, nI_add, nI_add]
    have hb2 := hB (p + 8 + 3 * j + b)
    have ev : ∀ x : Nat, B (p + 8 + 3 * j + b) = x → (2 * nI (ds_rb B (p + 8 + 3 * j) b)) + nI x = nI (ds_rb B (p + 8 + 3 * j) (b + 1)) := by
      intro x hx
      rw [show (2 : Int32) * nI (ds_rb B (p + 8 + 3 * j) b) = nI (2 * ds_rb B (p + 8 + 3 * j) b) from pk_mul 2 _, nI_add, ← hx, Nat.mul_comm]
      rfl
    refine br_f (nI_ge (b := 3) (by omega) (by omega)) ?_
    rw [ep, nI_clamp (by omega), hL]
    exact ⟨vp_in_nI (by omega) (by omega), pk_eq (B (p + 8 + 3 * j + b)) 0 (fun z => nm_r (ev 0 z) (nm_r (nI_1 b) (ih (b + 1) (by omega)))) (fun z => nm_r (ev 1 (by omega)) (nm_r (nI_1 b) (ih (b + 1) (by omega))))⟩
theorem dy_re2 {post : SY → Prop} (hL : ∀ j, L j = nI (B j)) (hB : ∀ j, B j < 2) {p f : Nat} (hp : p + 50 ≤ 300) (hf : f < 2) (h : ∀ w : Nat → Int32, (∀ i, i < 7 → w i = nI (ds_R B p f i)) → post (fn, fc, ff, L, w, pw, py)) : ∀ (d i : Nat) (w : Nat → Int32), i + d = 7 → (∀ k, k < i → w k = nI (ds_R B p f k)) → wY_read_2 post (nI p) (nI f) fn fc ff (d + 1) (nI i) L w pw py := by
  intro d
  induction d with
  | zero =>
    intro i w hi hw
    have hi' : i = 7 := by omega
    subst hi'
    exact br_t (nI_le (a := 7) (Nat.le_refl _) (by omega)) (h w hw)
  | succ d ih =>
    intro i w hi hw
    have e1 : (2 : Int32) * nI i + nI f = nI (2 * i + f) := by
      rw [show (2 : Int32) * nI i = nI (2 * i) from pk_mul 2 i, nI_add]
    refine br_f (nI_ge (b := 7) (by omega) (by omega)) (nm_r e1 ⟨4, dy_re1 hL hB (by omega) (by omega) (by omega) (ih (i + 1) _ (by omega) (fun k hk => ?_)) 3 0 rfl⟩)
    by_cases z : k = i
    · subst z; exact pk_us
    · rw [pk_un z]; exact hw k (by omega)
theorem dy_re {post : SY → Prop} {w : Nat → Int32} (hL : ∀ j, L j = nI (B j)) (hB : ∀ j, B j < 2) {p f : Nat} (hp : p + 50 ≤ 300) (hf : f < 2) (h : ∀ w : Nat → Int32, (∀ i, i < 7 → w i = nI (ds_R B p f i)) → post (fn, fc, ff, L, w, pw, py)) : wpY_read post (fn, fc, ff, L, w, pw, py) (nI p) (nI f) :=
  ⟨8, dy_re2 hL hB hp hf h 7 0 w rfl (fun k hk => absurd hk (Nat.not_lt_zero k))⟩
end YR
/-! one try: the words, their distance -/
def ds_un (f : Nat → Nat) (k x : Nat) : Nat → Nat := fun j => if j = k then x else f j
theorem ds_us {f : Nat → Nat} {k x : Nat} : ds_un f k x k = x := if_pos rfl
theorem ds_unn {f : Nat → Nat} {k x j : Nat} (h : j ≠ k) : ds_un f k x j = f j := if_neg h
def ds_ch (v : Nat → Nat) (i x k y : Nat) : Nat → Nat := ds_un (ds_un v i (v i ^^^ x)) k (ds_un v i (v i ^^^ x) k ^^^ y)
theorem ds_unI {w : Nat → Int32} {v : Nat → Nat} (k x : Nat) (hx : x < 8) (h : ∀ j, j < 7 → w j = nI (v j) ∧ v j < 8) : ∀ j, j < 7 → upd w k (nI x) j = nI (ds_un v k x j) ∧ ds_un v k x j < 8 := by
  intro j hj
  by_cases z : j = k
  · subst z; rw [pk_us, ds_us]; exact ⟨rfl, hx⟩
  · rw [pk_un z, ds_unn z]; exact h j hj
theorem ds_chk {v : Nat → Nat} {i x k y : Nat} (h : i ≠ k) : ds_ch v i x k y k = v k ^^^ y := by
  unfold ds_ch
  rw [ds_us, ds_unn (Ne.symm h)]
theorem ds_chi {v : Nat → Nat} {i x k y : Nat} (h : i ≠ k) : ds_ch v i x k y i = v i ^^^ x := by
  unfold ds_ch
  rw [ds_unn h, ds_us]
theorem ds_cho {v : Nat → Nat} {i x k y j : Nat} (h1 : j ≠ i) (h2 : j ≠ k) : ds_ch v i x k y j = v j := by
  unfold ds_ch
  rw [ds_unn h2, ds_unn h1]
theorem ds_xz {a x : Nat} : a ^^^ x = a ↔ x = 0 := by
  constructor
  · intro h
    have e := ds_xx a x
    rw [h, Nat.xor_self] at e
    exact e.symm
  · intro h
    rw [h, Nat.xor_zero]
theorem ds_dd (v : Nat → Nat) : ∀ m, ds_d v v m = 0
  | 0 => rfl
  | m + 1 => by
    show ds_d v v m + (if v m = v m then 0 else 1) = 0
    rw [ds_dd v m, if_pos rfl]
theorem ds_dun {v f : Nat → Nat} {k z : Nat} (hk : f k = v k) : ∀ m, ds_d v (ds_un f k z) m = ds_d v f m + (if k < m then (if z = v k then 0 else 1) else 0)
  | 0 => rfl
  | m + 1 => by
    show ds_d v (ds_un f k z) m + (if v m = ds_un f k z m then 0 else 1) = (ds_d v f m + (if v m = f m then 0 else 1)) + _
    rw [ds_dun hk m]
    by_cases h : m = k
    · subst h
      rw [ds_us, hk, if_neg (Nat.lt_irrefl m), if_pos (Nat.lt_succ_self m), if_pos rfl]
      by_cases y : z = v m
      · rw [if_pos y, if_pos y.symm]
      · rw [if_neg y, if_neg (fun q => y q.symm)]
    · rw [ds_unn h]
      by_cases y : k < m
      · rw [if_pos y, if_pos (show k < m + 1 by omega)]; omega
      · rw [if_neg y, if_neg (show ¬ k < m + 1 by omega)]; omega
theorem ds_dch {v : Nat → Nat} {i x k y : Nat} (hi : i < 7) (hk : k < 7) (h : i ≠ k) : ds_d v (ds_ch v i x k y) 7 = (if x = 0 then 0 else 1) + (if y = 0 then 0 else 1) := by
  unfold ds_ch
  rw [ds_dun (ds_unn (Ne.symm h)) 7, ds_dun rfl 7, ds_dd, if_pos hi, if_pos hk, ds_unn (Ne.symm h)]
  congr 1
  · by_cases z : x = 0
    · rw [if_pos z, if_pos (ds_xz.mpr z)]
    · rw [if_neg z, if_neg (fun q => z (ds_xz.mp q))]
  · by_cases z : y = 0
    · rw [if_pos z, if_pos (ds_xz.mpr z)]
    · rw [if_neg z, if_neg (fun q => z (ds_xz.mp q))]
end
section
section YM
variable {post : Int32 → SY → Prop} {fn fc ff : Int32} {L pw py : Nat → Int32} {v : Nat → Nat}
theorem dy_try {w : Nat → Int32} (hp : ∀ i, i < 7 → pw i = nI (ds_pw i)) (hv : ∀ j, j < 7 → w j = nI (v j) ∧ v j < 8) {i x k y : Nat} (hi : i < 7) (hx : x < 8) (hk : k < 7) (hy : y < 8) (hik : i ≠ k) (h1 : ds_isC (ds_ch v i x k y) = true → ∀ w : Nat → Int32, (∀ j, j < 7 → w j = nI (ds_ch v i x k y j) ∧ ds_ch v i x k y j < 8) → post 1 (fn, nI ((if x = 0 then 0 else 1) + (if y = 0 then 0 else 1)), ff, L, w, pw, py)) (h0 : ds_isC (ds_ch v i x k y) = false → ∀ w : Nat → Int32, (∀ j, j < 7 → w j = nI (v j) ∧ v j < 8) → post 0 (fn, fc, ff, L, w, pw, py)) : wpY_tryChange post (fn, fc, ff, L, w, pw, py) (nI i) (nI x) (nI k) (nI y) := by
  have iI : vp_in (nI i) 7 := vp_in_nI hi (by omega)
  have iK : vp_in (nI k) 7 := vp_in_nI hk (by omega)
  have xi := ds_x8 (hv i hi).2 hx
  have h3 := ds_unI i (v i ^^^ x) xi hv
  have xk := ds_x8 (h3 k hk).2 hy
  have h6 := ds_unI k _ xk h3
  have e3 : upd w (nI i).toNatClampNeg (w (nI i).toNatClampNeg ^^^ nI x) = upd w i (nI (v i ^^^ x)) := by
    rw [nI_clamp (by omega), (hv i hi).1, nx_xor]
  have e6 : upd (upd w i (nI (v i ^^^ x))) (nI k).toNatClampNeg (upd w i (nI (v i ^^^ x)) (nI k).toNatClampNeg ^^^ nI y) = upd (upd w i (nI (v i ^^^ x))) k (nI (ds_un v i (v i ^^^ x) k ^^^ y)) := by
    rw [nI_clamp (by omega), (h3 k hk).1, nx_xor]
  refine ⟨iI, iI, nm_r e3 ⟨iK, iK, nm_r e6 (dy_ic h6 hp (fun z => br_f (by decide) ?_) (fun z => br_t rfl ⟨iI, iI, nm_e ⟨iK, iK, nm_e (h0 z _ ?_)⟩⟩))⟩⟩
  · have hS := h1 z _ h6
    refine pk_le x 0 (fun zx => ?_) (fun zx => ?_)
    · rw [if_pos (by omega)] at hS
      refine pk_le y 0 (fun zy => nm_r (nI_add 0 0) ?_) (fun zy => nm_r (nI_add 0 1) ?_)
      · rw [if_pos (by omega)] at hS; exact hS
      · rw [if_neg (by omega)] at hS; exact hS
    · rw [if_neg (by omega)] at hS
      refine pk_le y 0 (fun zy => nm_r (nI_add 1 0) ?_) (fun zy => nm_r (nI_add 1 1) ?_)
      · rw [if_pos (by omega)] at hS; exact hS
      · rw [if_neg (by omega)] at hS; exact hS
  · rw [nI_clamp (by omega), nI_clamp (by omega)]
    have z1 : upd (upd w i (nI (v i ^^^ x))) k (nI (ds_un v i (v i ^^^ x) k ^^^ y)) i ^^^ nI x = nI (v i) := by
      rw [(h6 i hi).1, nx_xor]
      refine congrArg nI ?_
      show ds_ch v i x k y i ^^^ x = v i
      rw [ds_chi hik, Nat.xor_assoc, Nat.xor_self, Nat.xor_zero]
    rw [z1]
    have h9 := ds_unI i (v i) (hv i hi).2 h6
    have z2 : upd (upd (upd w i (nI (v i ^^^ x))) k (nI (ds_un v i (v i ^^^ x) k ^^^ y))) i (nI (v i)) k ^^^ nI y = nI (v k) := by
      rw [(h9 k hk).1, nx_xor, ds_unn (Ne.symm hik)]
      refine congrArg nI ?_
      show ds_ch v i x k y k ^^^ y = v k
      rw [ds_chk hik, Nat.xor_assoc, Nat.xor_self, Nat.xor_zero]
    rw [z2]
    intro j hj
    by_cases zk : j = k
    · subst zk; rw [pk_us]; exact ⟨rfl, (hv _ hj).2⟩
    · rw [pk_un zk]
      by_cases zi : j = i
      · subst zi; rw [pk_us]; exact ⟨rfl, (hv _ hj).2⟩
      · rw [pk_un zi, pk_un zk, pk_un zi]; exact hv j hj
end YM
end
section
section YM
variable {post : Int32 → SY → Prop} {fn fc ff : Int32} {L pw py : Nat → Int32} {v : Nat → Nat}
/-- the try number (ik, xy) finds a code word -/
def ds_tr (v : Nat → Nat) (ik xy : Nat) : Prop := (ik / 7 < ik % 7 ∧ ds_isC (ds_ch v (ik / 7) (xy / 8) (ik % 7) (xy % 8)) = true) ∨ (ik = 0 ∧ ds_isC (ds_ch v 6 (xy / 8) 0 0) = true)
theorem dy_me65 {w : Nat → Int32} {J16 J : Int32 → Int32 → Int32 → Int32 → (Nat → Int32) → (Nat → Int32) → (Nat → Int32) → (Nat → Int32) → Prop} (hp : ∀ i, i < 7 → pw i = nI (ds_pw i)) (hv : ∀ j, j < 7 → w j = nI (v j) ∧ v j < 8) {ik xy : Nat} (hik : ik < 49) (hxy : xy < 64) (hS : ∀ (c : Nat → Nat), ds_isC c = true → ds_d v c 7 ≤ 2 → ∀ w : Nat → Int32, (∀ j, j < 7 → w j = nI (c j) ∧ c j < 8) → post 1 (fn, nI (ds_d v c 7), ff, L, w, pw, py)) (h1 : ¬ (ik / 7 < ik % 7 ∧ ds_isC (ds_ch v (ik / 7) (xy / 8) (ik % 7) (xy % 8)) = true)) (hJ : ¬ ds_tr v ik xy → ∀ w : Nat → Int32, (∀ j, j < 7 → w j = nI (v j) ∧ v j < 8) → J (nI (xy + 1)) fn fc ff L w pw py) : wY_mend_65 post J16 J (nI ik) (nI xy) fn fc ff L w pw py := by
  refine pk_eq ik 0 (fun z => ⟨by decide, ?_⟩) (fun z => nm_r (nI_1 xy) (hJ (fun q => ?_) w hv))
  · rw [show nI xy / 8 = nI (xy / 8) from pk_div (d := 8) (by omega) (by omega) (by omega)]
    refine dy_try (i := 6) (k := 0) (y := 0) hp hv (by omega) (by omega) (by omega) (by omega) (by omega) (fun y w' hw' => br_f (by decide) ?_) (fun y w' hw' => br_t rfl (nm_r (nI_1 xy) (hJ (fun q => ?_) w' hw')))
    · have e := ds_dch (v := v) (x := xy / 8) (y := 0) (show 6 < 7 by omega) (show 0 < 7 by omega) (by omega)
      have r := hS _ y (by rw [e, if_pos rfl]; split <;> omega) w' hw'
      rw [e] at r
      exact r
    · rcases q with q | q
      · exact h1 q
      · rw [q.2] at y; exact absurd y (by decide)
  · rcases q with q | q
    · exact h1 q
    · exact z q.1
theorem dy_me25 {J : Int32 → Int32 → Int32 → Int32 → (Nat → Int32) → (Nat → Int32) → (Nat → Int32) → (Nat → Int32) → Prop} (hp : ∀ i, i < 7 → pw i = nI (ds_pw i)) {ik : Nat} (hik : ik < 49) (hS : ∀ (c : Nat → Nat), ds_isC c = true → ds_d v c 7 ≤ 2 → ∀ w : Nat → Int32, (∀ j, j < 7 → w j = nI (c j) ∧ c j < 8) → post 1 (fn, nI (ds_d v c 7), ff, L, w, pw, py)) (hJ : (∀ xy, 8 ≤ xy → xy < 64 → ¬ ds_tr v ik xy) → ∀ w : Nat → Int32, (∀ j, j < 7 → w j = nI (v j) ∧ v j < 8) → J (nI (ik + 1)) fn fc ff L w pw py) : ∀ (d xy : Nat) (w : Nat → Int32), xy + d = 64 → (∀ z, 8 ≤ z → z < xy → ¬ ds_tr v ik z) → (∀ j, j < 7 → w j = nI (v j) ∧ v j < 8) → wY_mend_25 post J (nI ik) (d + 1) (nI xy) fn fc ff L w pw py := by
  intro d
  induction d with
  | zero =>
    intro xy w hxy ht hv
    have hxy' : xy = 64 := by omega
    subst hxy'
    exact br_t (nI_le (a := 64) (Nat.le_refl _) (by omega)) (nm_r (nI_1 ik) (hJ ht w hv))
  | succ d ih =>
    intro xy w hxy ht hv
    have er : nI ik - nI ik / 7 * 7 = nI (ik % 7) := pk_rem (d := 7) (by omega) (by omega) (by omega)
    have ed : nI ik / 7 = nI (ik / 7) := pk_div (d := 7) (by omega) (by omega) (by omega)
    have er8 : nI xy - nI xy / 8 * 8 = nI (xy % 8) := pk_rem (d := 8) (by omega) (by omega) (by omega)
    have ed8 : nI xy / 8 = nI (xy / 8) := pk_div (d := 8) (by omega) (by omega) (by omega)
    have hN : ¬ ds_tr v ik xy → ∀ w : Nat → Int32, (∀ j, j < 7 → w j = nI (v j) ∧ v j < 8) → wY_mend_25 post J (nI ik) (d + 1) (nI (xy + 1)) fn fc ff L w pw py := fun q w' hw' => ih (xy + 1) w' (by omega) (fun z hz8 hz => by
      by_cases y : z = xy
      · subst y; exact q
      · exact ht z hz8 (by omega)) hw'
    refine br_f (nI_ge (b := 64) (by omega) (by omega)) ⟨by decide, by decide, ?_⟩
    rw [er, ed, er8, ed8]
    refine pk_le (ik % 7) (ik / 7) (fun z => dy_me65 hp hv hik (by omega) hS (fun q => by omega) hN) (fun z => ⟨by decide, by decide, by decide, by decide, ?_⟩)
    refine dy_try hp hv (by omega) (by omega) (by omega) (by omega) (by omega) (fun y w' hw' => br_f (by decide) ?_) (fun y w' hw' => br_t rfl (dy_me65 hp hw' hik (by omega) hS (fun q => ?_) hN))
    · have e := ds_dch (v := v) (x := xy / 8) (y := xy % 8) (show ik / 7 < 7 by omega) (show ik % 7 < 7 by omega) (by omega)
      have r := hS _ y (by rw [e]; split <;> split <;> omega) w' hw'
      rw [e] at r
      exact r
    · rw [q.2] at y; exact absurd y (by decide)
theorem dy_me16 (hp : ∀ i, i < 7 → pw i = nI (ds_pw i)) (hS : ∀ (c : Nat → Nat), ds_isC c = true → ds_d v c 7 ≤ 2 → ∀ w : Nat → Int32, (∀ j, j < 7 → w j = nI (c j) ∧ c j < 8) → post 1 (fn, nI (ds_d v c 7), ff, L, w, pw, py)) (hF : (∀ ik, ik < 49 → ∀ xy, 8 ≤ xy → xy < 64 → ¬ ds_tr v ik xy) → ∀ w : Nat → Int32, post 0 (fn, fc, ff, L, w, pw, py)) : ∀ (d ik : Nat) (w : Nat → Int32), ik + d = 49 → (∀ z, z < ik → ∀ xy, 8 ≤ xy → xy < 64 → ¬ ds_tr v z xy) → (∀ j, j < 7 → w j = nI (v j) ∧ v j < 8) → wY_mend_16 post (d + 1) (nI ik) fn fc ff L w pw py := by
  intro d
  induction d with
  | zero =>
    intro ik w hik ht hv
    have hik' : ik = 49 := by omega
    subst hik'
    exact br_t (nI_le (a := 49) (Nat.le_refl _) (by omega)) (hF ht w)
  | succ d ih =>
    intro ik w hik ht hv
    exact br_f (nI_ge (b := 49) (by omega) (by omega)) ⟨57, dy_me25 hp (by omega) hS (fun q w' hw' => ih (ik + 1) w' (by omega) (fun z hz => by
      by_cases y : z = ik
      · subst y; exact q
      · exact ht z (by omega)) hw') 56 8 w rfl (fun z hz8 hz => absurd hz (by omega)) hv⟩
end YM
end
section
/-! if no try finds one, none is near -/
theorem ds_mask0 : ∀ m, m < 128 → m % 2 + m / 2 % 2 + m / 4 % 2 + m / 8 % 2 + m / 16 % 2 + m / 32 % 2 + m / 64 % 2 ≤ 2 → (List.range 49).any (fun z => decide (z / 7 < z % 7) && (List.range 7).all (fun j => decide (j = z / 7) || decide (j = z % 7) || decide (m / 2 ^ j % 2 = 0))) = true := by decide +kernel
theorem ds_mask (m : Nat) (hm : m < 128) (h : m % 2 + m / 2 % 2 + m / 4 % 2 + m / 8 % 2 + m / 16 % 2 + m / 32 % 2 + m / 64 % 2 ≤ 2) : ∃ i, i < 7 ∧ ∃ k, k < 7 ∧ i < k ∧ ∀ j, j < 7 → j ≠ i → j ≠ k → m / 2 ^ j % 2 = 0 := by
  obtain ⟨z, hz, q⟩ := List.any_eq_true.mp (ds_mask0 m hm h)
  rw [Bool.and_eq_true, decide_eq_true_eq, List.all_eq_true] at q
  have hz9 := List.mem_range.mp hz
  refine ⟨z / 7, by omega, z % 7, by omega, q.1, fun j hj ha hb => ?_⟩
  have r := q.2 j (List.mem_range.mpr hj)
  rw [Bool.or_eq_true, Bool.or_eq_true, decide_eq_true_eq, decide_eq_true_eq, decide_eq_true_eq] at r
  exact r.resolve_left (fun y => y.elim ha hb)
theorem ds_bm (y0 y1 y2 y3 y4 y5 y6 : Nat) (h0 : y0 ≤ 1) (h1 : y1 ≤ 1) (h2 : y2 ≤ 1) (h3 : y3 ≤ 1) (h4 : y4 ≤ 1) (h5 : y5 ≤ 1) (h6 : y6 ≤ 1) : ∃ m, m < 128 ∧ m % 2 = y0 ∧ m / 2 % 2 = y1 ∧ m / 4 % 2 = y2 ∧ m / 8 % 2 = y3 ∧ m / 16 % 2 = y4 ∧ m / 32 % 2 = y5 ∧ m / 64 % 2 = y6 := by
  refine ⟨y0 + 2 * y1 + 4 * y2 + 8 * y3 + 16 * y4 + 32 * y5 + 64 * y6, ?_, ?_, ?_, ?_, ?_, ?_, ?_, ?_⟩ <;> omega
def ds_e (v c : Nat → Nat) (j : Nat) : Nat := if v j = c j then 0 else 1
theorem ds_e_le (v c : Nat → Nat) (j : Nat) : ds_e v c j ≤ 1 := by
  unfold ds_e
  split <;> omega
theorem ds_e_0 {v c : Nat → Nat} {j : Nat} (h : ds_e v c j = 0) : v j = c j := by
  unfold ds_e at h
  by_cases z : v j = c j
  · exact z
  · rw [if_neg z] at h; exact absurd h (by decide)
theorem ds_two {v c : Nat → Nat} (h : ds_d v c 7 ≤ 2) : ∃ i k, i < k ∧ k < 7 ∧ ∀ j, j < 7 → j ≠ i → j ≠ k → v j = c j := by
  have e : ds_d v c 7 = 0 + ds_e v c 0 + ds_e v c 1 + ds_e v c 2 + ds_e v c 3 + ds_e v c 4 + ds_e v c 5 + ds_e v c 6 := rfl
  obtain ⟨m, hm, m0, m1, m2, m3, m4, m5, m6⟩ := ds_bm _ _ _ _ _ _ _ (ds_e_le v c 0) (ds_e_le v c 1) (ds_e_le v c 2) (ds_e_le v c 3) (ds_e_le v c 4) (ds_e_le v c 5) (ds_e_le v c 6)
  rw [e, Nat.zero_add] at h
  obtain ⟨i, hi, k, hk, hik, hz⟩ := ds_mask m hm (by rw [m0, m1, m2, m3, m4, m5, m6]; exact h)
  refine ⟨i, k, hik, hk, ds_lt7 ?_ ?_ ?_ ?_ ?_ ?_ ?_⟩
  · intro a b; exact ds_e_0 (m0.symm.trans ((congrArg (· % 2) (Nat.div_one m)).symm.trans (hz 0 (by decide) a b)))
  · intro a b; exact ds_e_0 (m1.symm.trans (hz 1 (by decide) a b))
  · intro a b; exact ds_e_0 (m2.symm.trans (hz 2 (by decide) a b))
  · intro a b; exact ds_e_0 (m3.symm.trans (hz 3 (by decide) a b))
  · intro a b; exact ds_e_0 (m4.symm.trans (hz 4 (by decide) a b))
  · intro a b; exact ds_e_0 (m5.symm.trans (hz 5 (by decide) a b))
  · intro a b; exact ds_e_0 (m6.symm.trans (hz 6 (by decide) a b))
theorem ds_chc {v c : Nat → Nat} {i k : Nat} (hik : i ≠ k) (h : ∀ j, j < 7 → j ≠ i → j ≠ k → v j = c j) : ∀ j, j < 7 → ds_ch v i (v i ^^^ c i) k (v k ^^^ c k) j = c j := by
  intro j hj
  by_cases z : j = k
  · subst z; rw [ds_chk hik, ds_xx]
  · by_cases y : j = i
    · subst y; rw [ds_chi hik, ds_xx]
    · rw [ds_cho y z]; exact h j hj y z
theorem ds_none {v c : Nat → Nat} (hv : ∀ j, j < 7 → v j < 8) (hc : ∀ j, j < 7 → c j < 8) (hC : ds_isC c = true) (h0 : ds_isC v = false) (ht : ∀ ik, ik < 49 → ∀ xy, 8 ≤ xy → xy < 64 → ¬ ds_tr v ik xy) : 2 < ds_d v c 7 := by
  apply Nat.lt_of_not_le
  intro hd
  obtain ⟨i, k, hik, hk, h⟩ := ds_two hd
  have xi := ds_x8 (hv i (by omega)) (hc i (by omega))
  have xk := ds_x8 (hv k hk) (hc k hk)
  by_cases zi : v i = c i
  · by_cases zk : v k = c k
    · rw [ds_isC_congr (b := c) (fun j hj => by
        by_cases a : j = i
        · subst a; exact zi
        · by_cases b : j = k
          · subst b; exact zk
          · exact h j hj a b), hC] at h0
      exact absurd h0 (by decide)
    · have nk : v k ^^^ c k ≠ 0 := fun q => zk (ds_x0.mp q)
      have hh : ∀ j, j < 7 → j ≠ k → v j = c j := fun j hj b => by
        by_cases a : j = i
        · subst a; exact zi
        · exact h j hj a b
      by_cases k6 : k = 6
      · subst k6
        refine ht 0 (by omega) (8 * (v 6 ^^^ c 6)) (by omega) (by omega) (Or.inr ⟨rfl, ?_⟩)
        have e := ds_chc (v := v) (c := c) (i := 6) (k := 0) (by omega) (fun j hj a _ => hh j hj a)
        rw [ds_x0.mpr (hh 0 (by omega) (by omega))] at e
        rw [Nat.mul_div_cancel_left _ (by decide), ds_isC_congr e]
        exact hC
      · refine ht (7 * k + 6) (by omega) (8 * (v k ^^^ c k)) (by omega) (by omega) (Or.inl ⟨by omega, ?_⟩)
        have e := ds_chc (v := v) (c := c) (i := k) (k := 6) k6 (fun j hj a _ => hh j hj a)
        rw [ds_x0.mpr (hh 6 (by omega) (by omega))] at e
        rw [Nat.mul_div_cancel_left _ (by decide), Nat.mul_mod_right, show (7 * k + 6) / 7 = k by omega, show (7 * k + 6) % 7 = 6 by omega, ds_isC_congr e]
        exact hC
  · have ni : v i ^^^ c i ≠ 0 := fun q => zi (ds_x0.mp q)
    refine ht (7 * i + k) (by omega) (8 * (v i ^^^ c i) + (v k ^^^ c k)) (by omega) (by omega) (Or.inl ⟨by omega, ?_⟩)
    rw [show (7 * i + k) / 7 = i by omega, show (7 * i + k) % 7 = k by omega, show (8 * (v i ^^^ c i) + (v k ^^^ c k)) / 8 = v i ^^^ c i by omega, show (8 * (v i ^^^ c i) + (v k ^^^ c k)) % 8 = v k ^^^ c k by omega, ds_isC_congr (ds_chc (by omega) h)]
    exact hC
end
section
/-! ===== the reference: mend and decode against the nearest code word or none ===== -/
section YE
variable {post : Int32 → SY → Prop} {fn fc ff : Int32} {L pw py : Nat → Int32}
theorem dy_me {v : Nat → Nat} {w : Nat → Int32} {o : Option Nat} (hp : ∀ i, i < 7 → pw i = nI (ds_pw i)) (hv : ∀ j, j < 7 → w j = nI (v j) ∧ v j < 8) (ho : ds_near v o) (hS : ∀ p, o = some p → ∀ w : Nat → Int32, (∀ j, j < 7 → w j = nI (ds_sy (ds_cw p) j)) → post 1 (fn, nI (ds_d v (ds_sy (ds_cw p)) 7), ff, L, w, pw, py)) (hF : o = none → ∀ w : Nat → Int32, post 0 (fn, 0, ff, L, w, pw, py)) : wpY_mend post (fn, fc, ff, L, w, pw, py) := by
  have hS2 : ∀ (c : Nat → Nat), ds_isC c = true → ds_d v c 7 ≤ 2 → ∀ w : Nat → Int32, (∀ j, j < 7 → w j = nI (c j) ∧ c j < 8) → post 1 (fn, nI (ds_d v c 7), ff, L, w, pw, py) := by
    intro c hc hd w' hw'
    obtain ⟨q, hq, eq⟩ := ds_tab (fun i hi => (hw' i hi).2) hc
    have e := ds_d_congr (a := v) (c := v) 7 (fun i hi => ⟨rfl, eq i hi⟩)
    rw [e] at hd ⊢
    cases o with
    | none => exact absurd (ho q hq) (by omega)
    | some p =>
      have hpq := ds_uniq ho.1 hq ho.2 hd
      subst hpq
      exact hS p rfl w' (fun j hj => by rw [(hw' j hj).1, eq j hj])
  refine dy_ic hv hp (fun z => br_f (by decide) ?_) (fun z => br_t rfl ⟨50, dy_me16 hp hS2 (fun ht w' => ?_) 49 0 w rfl (fun z hz => absurd hz (Nat.not_lt_zero z)) hv⟩)
  · have r := hS2 v z (by rw [ds_dd]; omega) w hv
    rw [ds_dd] at r
    exact r
  · cases o with
    | none => exact hF rfl w'
    | some p => exact absurd (ds_none (fun j hj => (hv j hj).2) (fun j _ => ds_sy_lt (ds_cw p) j) (ds_t1 p ho.1).1 z ht) (by have := ho.2; omega)
/-- the message so far with three more symbols -/
def dy_or (x : Int32) (w : Nat → Int32) (f : Nat) : Int32 := ((x ||| (w 4 <<< (nI (15 - 3 * f) &&& 31))) ||| (w 5 <<< (nI (9 - 3 * f) &&& 31))) ||| (w 6 <<< (nI (3 - 3 * f) &&& 31))
theorem dy_sh {i f : Nat} (hi : i < 3) (hf : f < 2) : ((15 : Int32) - (6 * nI i)) - (3 * nI f) = nI (15 - 6 * i - 3 * f) := by
  rw [show (6 : Int32) * nI i = nI (6 * i) from pk_mul 6 i, show (3 : Int32) * nI f = nI (3 * f) from pk_mul 3 f, show (15 : Int32) - nI (6 * i) = nI (15 - 6 * i) from pk_sub (a := 15) (by omega), pk_sub (by omega)]
theorem dy_de1 {J : Int32 → Int32 → Int32 → Int32 → Int32 → Int32 → Int32 → (Nat → Int32) → (Nat → Int32) → (Nat → Int32) → (Nat → Int32) → Prop} {w : Nat → Int32} {x1 x3 x4 x : Int32} {f i n : Nat} (hi : i < 3) (hf : f < 2) (h : wY_decode_35 post J x1 x3 x4 (nI f) fn fc ff L w pw py n (x ||| (w (4 + i) <<< (nI (15 - 6 * i - 3 * f) &&& 31))) (nI (i + 1))) : wY_decode_35 post J x1 x3 x4 (nI f) fn fc ff L w pw py (n + 1) x (nI i) := by
  have e4 : (4 : Int32) + nI i = nI (4 + i) := nI_add 4 i
  refine br_f (nI_ge (b := 3) (by omega) (by omega)) ⟨pk_in (4 + i) 7 (by omega) e4, ?_⟩
  rw [e4, nI_clamp (by omega), dy_sh hi hf]
  exact nm_e (nm_r (nI_1 i) h)
theorem dy_de35 {J : Int32 → Int32 → Int32 → Int32 → Int32 → Int32 → Int32 → (Nat → Int32) → (Nat → Int32) → (Nat → Int32) → (Nat → Int32) → Prop} {w : Nat → Int32} {x1 x3 x4 x : Int32} {f : Nat} (hf : f < 2) (h : J (dy_or x w f) x3 (x4 + fc) (nI (f + 1)) fn fc ff L w pw py) : wY_decode_35 post J x1 x3 x4 (nI f) fn fc ff L w pw py 4 x 0 :=
  dy_de1 (i := 0) (by omega) hf (dy_de1 (i := 1) (by omega) hf (dy_de1 (i := 2) (by omega) hf (br_t (by decide) (nm_e (nm_r (nI_1 f) (by
    rw [show 15 - 6 * 0 - 3 * f = 15 - 3 * f by omega, show 15 - 6 * 1 - 3 * f = 9 - 3 * f by omega, show 15 - 6 * 2 - 3 * f = 3 - 3 * f by omega]
    exact h))))))
def ds_dc (v : Nat → Nat) : Option Nat → Nat
  | some p => ds_d v (ds_sy (ds_cw p)) 7
  | none => 0
def ds_lo : Option Nat → Int32 → Int32
  | some _, x => x
  | none, _ => 1
theorem dy_de10 {B : Nat → Nat} {w : Nat → Int32} {x2 x3 x4 : Int32} {p f n : Nat} {o : Option Nat} (hp : ∀ i, i < 7 → pw i = nI (ds_pw i)) (hL : ∀ j, L j = nI (B j)) (hB : ∀ j, B j < 2) (hp3 : p + 50 ≤ 300) (hf : f < 2) (ho : ds_near (ds_R B p f) o) (h : ∀ (y : Int32) (w : Nat → Int32), (∀ q, o = some q → y = dy_or x2 (fun i => nI (ds_sy (ds_cw q) i)) f) → wY_decode_10 post (nI p) n y (ds_lo o x3) (x4 + nI (ds_dc (ds_R B p f) o)) (nI (f + 1)) fn (nI (ds_dc (ds_R B p f) o)) ff L w pw py) : wY_decode_10 post (nI p) (n + 1) x2 x3 x4 (nI f) fn fc ff L w pw py := by
  refine br_f (nI_ge (b := 2) hf (by omega)) (dy_re hL hB hp3 hf (fun w1 hw1 => dy_me hp (fun j hj => ⟨hw1 j hj, ds_R_lt hB p f j⟩) ho (fun q hq w2 hw2 => br_f (by decide) ⟨4, dy_de35 hf ?_⟩) (fun hq w2 => br_t rfl ⟨4, dy_de35 hf ?_⟩)))
  · subst hq
    refine h _ w2 (fun q' hq' => ?_)
    cases hq'
    unfold dy_or
    rw [hw2 4 (by omega), hw2 5 (by omega), hw2 6 (by omega)]
  · subst hq
    exact h _ w2 (fun q' hq' => by cases hq')
theorem ds_or6 (a c e b d g : Nat) : ((((a ||| c) ||| e) ||| b) ||| d) ||| g = ((((a ||| b) ||| c) ||| d) ||| e) ||| g := by
  ac_rfl
theorem dy_msg (E O : Nat) : dy_or (dy_or 0 (fun i => nI (ds_sy E i)) 0) (fun i => nI (ds_sy O i)) 1 = nI (ds_msg E O) := by
  have a4 := ds_sy_lt E 4; have a5 := ds_sy_lt E 5; have a6 := ds_sy_lt E 6
  have b4 := ds_sy_lt O 4; have b5 := ds_sy_lt O 5; have b6 := ds_sy_lt O 6
  unfold dy_or ds_msg
  dsimp only
  generalize ds_sy E 4 = x4 at *
  generalize ds_sy E 5 = x5 at *
  generalize ds_sy E 6 = x6 at *
  generalize ds_sy O 4 = y4 at *
  generalize ds_sy O 5 = y5 at *
  generalize ds_sy O 6 = y6 at *
  rw [ds_shl (a := x4) (k := 15 - 3 * 0) (by omega) (by omega), ds_shl (a := x5) (k := 9 - 3 * 0) (by omega) (by omega), ds_shl (a := x6) (k := 3 - 3 * 0) (by omega) (by omega), ds_shl (a := y4) (k := 15 - 3 * 1) (by omega) (by omega), ds_shl (a := y5) (k := 9 - 3 * 1) (by omega) (by omega), ds_shl (a := y6) (k := 3 - 3 * 1) (by omega) (by omega), Int32.zero_or, nx_or, nx_or, nx_or, nx_or, nx_or, ds_or6]
  refine congrArg nI ?_
  show ((((x4 * 2 ^ 15 ||| y4 * 2 ^ 12) ||| x5 * 2 ^ 9) ||| y5 * 2 ^ 6) ||| x6 * 2 ^ 3) ||| y6 * 2 ^ 0 = _
  rw [ds_or (k := 15) (b := y4 * 2 ^ 12) (by omega), show x4 * 2 ^ 15 + y4 * 2 ^ 12 = (x4 * 8 + y4) * 2 ^ 12 by omega,
    ds_or (k := 12) (b := x5 * 2 ^ 9) (by omega), show (x4 * 8 + y4) * 2 ^ 12 + x5 * 2 ^ 9 = ((x4 * 8 + y4) * 8 + x5) * 2 ^ 9 by omega,
    ds_or (k := 9) (b := y5 * 2 ^ 6) (by omega), show ((x4 * 8 + y4) * 8 + x5) * 2 ^ 9 + y5 * 2 ^ 6 = (((x4 * 8 + y4) * 8 + x5) * 8 + y5) * 2 ^ 6 by omega,
    ds_or (k := 6) (b := x6 * 2 ^ 3) (by omega), show (((x4 * 8 + y4) * 8 + x5) * 8 + y5) * 2 ^ 6 + x6 * 2 ^ 3 = ((((x4 * 8 + y4) * 8 + x5) * 8 + y5) * 8 + x6) * 2 ^ 3 by omega,
    ds_or (k := 3) (b := y6 * 2 ^ 0) (by omega)]
  omega
def ds_dr : Option Nat → Option Nat → Int32
  | some a, some b => nI (ds_msg (ds_cw a) (ds_cw b))
  | some _, none => -3
  | none, _ => -3
theorem dy_de {B : Nat → Nat} {w : Nat → Int32} {p : Nat} {o0 o1 : Option Nat} (hp : ∀ i, i < 7 → pw i = nI (ds_pw i)) (hL : ∀ j, L j = nI (B j)) (hB : ∀ j, B j < 2) (hp3 : p + 50 ≤ 300) (h0 : ds_near (ds_R B p 0) o0) (h1 : ds_near (ds_R B p 1) o1) (h : ∀ w : Nat → Int32, post (ds_dr o0 o1) (fn, nI (ds_dc (ds_R B p 0) o0 + ds_dc (ds_R B p 1) o1), ff, L, w, pw, py)) : wpY_decode post (fn, fc, ff, L, w, pw, py) (nI p) := by
  refine ⟨3, dy_de10 (f := 0) hp hL hB hp3 (by omega) h0 (fun y w1 hy => dy_de10 (f := 1) hp hL hB hp3 (by omega) h1 (fun z w2 hz => br_t (by decide) ?_))⟩
  rw [show (0 : Int32) + nI (ds_dc (ds_R B p 0) o0) + nI (ds_dc (ds_R B p 1) o1) = nI (ds_dc (ds_R B p 0) o0 + ds_dc (ds_R B p 1) o1) from by rw [Int32.zero_add, nI_add]]
  cases o0 with
  | none =>
    cases o1 with
    | none => exact br_f (by decide) (h w2)
    | some b => exact br_f (show ¬ (1 : Int32) = 0 by decide) (h w2)
  | some a =>
    cases o1 with
    | none => exact br_f (show ¬ (1 : Int32) = 0 by decide) (h w2)
    | some b =>
      refine br_t rfl ?_
      rw [hz b rfl, hy a rfl, dy_msg]
      exact h w2
end YE
end
section
/-! ===== receiving: both sides in lockstep at the reference's heads ===== -/
def ds_mm (B : Nat → Nat) (p : Nat) : Nat → Nat
  | 0 => 0
  | k + 1 => ds_mm B p k + (if B (p + k) = 178 / 2 ^ (7 - k) % 2 then 0 else 1)
theorem ds_mm_le (B : Nat → Nat) (p : Nat) : ∀ k, ds_mm B p k ≤ k
  | 0 => Nat.le_refl _
  | k + 1 => by
    have := ds_mm_le B p k
    show ds_mm B p k + (if B (p + k) = 178 / 2 ^ (7 - k) % 2 then 0 else 1) ≤ k + 1
    split <;> omega
theorem ds_mmT : ∀ V, V < 256 → 0 + (if V / 128 % 2 = 178 / 2 ^ (7 - 0) % 2 then 0 else 1) + (if V / 64 % 2 = 178 / 2 ^ (7 - 1) % 2 then 0 else 1) + (if V / 32 % 2 = 178 / 2 ^ (7 - 2) % 2 then 0 else 1) + (if V / 16 % 2 = 178 / 2 ^ (7 - 3) % 2 then 0 else 1) + (if V / 8 % 2 = 178 / 2 ^ (7 - 4) % 2 then 0 else 1) + (if V / 4 % 2 = 178 / 2 ^ (7 - 5) % 2 then 0 else 1) + (if V / 2 % 2 = 178 / 2 ^ (7 - 6) % 2 then 0 else 1) + (if V % 2 = 178 / 2 ^ (7 - 7) % 2 then 0 else 1) = ds_pc (V ^^^ 178) 8 := by decide +kernel
theorem ds_b8 (b0 b1 b2 b3 b4 b5 b6 b7 V : Nat) (h0 : b0 < 2) (h1 : b1 < 2) (h2 : b2 < 2) (h3 : b3 < 2) (h4 : b4 < 2) (h5 : b5 < 2) (h6 : b6 < 2) (h7 : b7 < 2) (hV : V = ((((((((0 * 2 + b0) * 2 + b1) * 2 + b2) * 2 + b3) * 2 + b4) * 2 + b5) * 2 + b6) * 2 + b7)) : V < 256 ∧ V / 128 % 2 = b0 ∧ V / 64 % 2 = b1 ∧ V / 32 % 2 = b2 ∧ V / 16 % 2 = b3 ∧ V / 8 % 2 = b4 ∧ V / 4 % 2 = b5 ∧ V / 2 % 2 = b6 ∧ V % 2 = b7 := by
  refine ⟨?_, ?_, ?_, ?_, ?_, ?_, ?_, ?_, ?_⟩ <;> omega
theorem ds_mmS {B : Nat → Nat} (hB : ∀ j, B j < 2) (p : Nat) : ds_mm B p 8 = ds_pc (ds_rb B p 8 ^^^ 178) 8 := by
  obtain ⟨hV, e0, e1, e2, e3, e4, e5, e6, e7⟩ := ds_b8 _ _ _ _ _ _ _ _ (ds_rb B p 8) (hB (p + 0)) (hB (p + 1)) (hB (p + 2)) (hB (p + 3)) (hB (p + 4)) (hB (p + 5)) (hB (p + 6)) (hB (p + 7)) rfl
  have t := ds_mmT _ hV
  rw [e0, e1, e2, e3, e4, e5, e6, e7] at t
  exact t
section RC
variable {n : Nat} {B : Nat → Nat} {L : Nat → Int32}
theorem dy_si1 {post : Int32 → Prop} {fn fc ff : Int32} {w pw py : Nat → Int32} (hL : ∀ j, L j = nI (B j)) (hB : ∀ j, B j < 2) {p : Nat} (hp : p + 8 ≤ 300) (h1 : ds_S B p → post 1) (h0 : ¬ ds_S B p → post 0) : ∀ d k : Nat, k + d = 8 → wY_isSight_17 post (nI p) fn fc ff L w pw py (d + 1) (nI (ds_mm B p k)) (nI k) := by
  intro d
  induction d with
  | zero =>
    intro k hk
    have hk' : k = 8 := by omega
    subst hk'
    have hl := ds_mm_le B p 8
    have e := ds_mmS hB p
    refine br_t (nI_le (a := 8) (Nat.le_refl _) (by omega)) (pk_lt 1 (ds_mm B p 8) (fun z => h0 (fun q => ?_)) (fun z => h1 ?_))
    · unfold ds_S at q; omega
    · unfold ds_S; omega
  | succ d ih =>
    intro k hk
    have hb := hB (p + k)
    have hm : 178 / 2 ^ (7 - k) % 2 < 2 := Nat.mod_lt _ (by decide)
    refine br_f (nI_ge (b := 8) (by omega) (by omega)) ?_
    rw [nI_add, nI_clamp (by omega), hL]
    refine ⟨vp_in_nI (by omega) (by omega), dy_mk (by omega) (pk_eq (B (p + k)) (178 / 2 ^ (7 - k) % 2) (fun z => nm_r (nI_1 k) ?_) (fun z => nm_r (nI_1 _) (nm_r (nI_1 k) ?_)))⟩
    · have e : ds_mm B p (k + 1) = ds_mm B p k := by
        show ds_mm B p k + (if B (p + k) = 178 / 2 ^ (7 - k) % 2 then 0 else 1) = _
        rw [if_pos z, Nat.add_zero]
      rw [← e]
      exact ih (k + 1) (by omega)
    · have e : ds_mm B p (k + 1) = ds_mm B p k + 1 := by
        show ds_mm B p k + (if B (p + k) = 178 / 2 ^ (7 - k) % 2 then 0 else 1) = _
        rw [if_neg z]
      rw [← e]
      exact ih (k + 1) (by omega)
theorem dy_si {post : Int32 → Prop} {fc ff : Int32} {w pw py : Nat → Int32} (hn : n ≤ 300) (hL : ∀ j, L j = nI (B j)) (hB : ∀ j, B j < 2) {p : Nat} (hp : p ≤ n) (h1 : p + 8 ≤ n → ds_S B p → post 1) (h0 : ¬ (p + 8 ≤ n ∧ ds_S B p) → post 0) : wpY_isSight post (nI n, fc, ff, L, w, pw, py) (nI p) :=
  pk_lt (p + 7) n (fun z => ⟨9, dy_si1 hL hB (by omega) (fun s => h1 (by omega) s) (fun s => h0 (fun q => s q.2)) 8 0 rfl⟩) (fun z => h0 (fun q => by omega)) (nI_add p 7)
theorem dy_hu1 {fc ff : Int32} {w pw py : Nat → Int32} (hn : n ≤ 300) (hL : ∀ j, L j = nI (B j)) (hB : ∀ j, B j < 2) : ∀ d p : Nat, p + d = n → ∃ q, p ≤ q ∧ q ≤ n ∧ (q = n ∨ (q + 8 ≤ n ∧ ds_S B q)) ∧ (∀ j, p ≤ j → j < q → j + 8 ≤ n → ¬ ds_S B j) ∧ ∀ post : Int32 → Prop, post (nI q) → wY_hunt_2 post (nI n) fc ff L w pw py (d + 1) (nI p) := by
  intro d
  induction d with
  | zero =>
    intro p hp
    have hp' : p = n := by omega
    subst hp'
    exact ⟨p, Nat.le_refl _, Nat.le_refl _, Or.inl rfl, fun j h1 h2 => absurd h2 (by omega), fun post h => br_t (nI_le (Nat.le_refl _) (by omega)) h⟩
  | succ d ih =>
    intro p hp
    by_cases z : p + 8 ≤ n ∧ ds_S B p
    · exact ⟨p, Nat.le_refl _, by omega, Or.inr z, fun j h1 h2 => absurd h2 (by omega), fun post h => br_f (nI_ge (by omega) (by omega)) (dy_si hn hL hB (by omega) (fun _ _ => br_f (by decide) h) (fun q => absurd z q))⟩
    · obtain ⟨q, h1, h2, h3, h4, h5⟩ := ih (p + 1) (by omega)
      refine ⟨q, by omega, h2, h3, fun j a b c => ?_, fun post h => br_f (nI_ge (by omega) (by omega)) (dy_si hn hL hB (by omega) (fun a b => absurd ⟨a, b⟩ z) (fun _ => br_t rfl (nm_r (nI_1 p) (h5 post h))))⟩
      by_cases y : j = p
      · subst y; exact fun s => z ⟨c, s⟩
      · exact h4 j (by omega) b c
theorem dx_skip {post : SX → Prop} {C P : Nat → Int32} {c q : Nat} (hn : n ≤ 300) (hL : ∀ j, L j = nI (B j)) (hB : ∀ j, B j < 2) (hq : q ≤ n) (h : ∀ N, n < N + q → wX_receive_9 post (nI n) N 0 (nI q) (nI c) L C P) : ∀ d p N : Nat, p + d = q → 50 * c ≤ p → n < N + p → (∀ j, p ≤ j → j < q → j + 50 ≤ n → ¬ ds_S B j) → wX_receive_9 post (nI n) N 0 (nI p) (nI c) L C P := by
  intro d
  induction d with
  | zero =>
    intro p N hp _ hN _
    have hp' : p = q := by omega
    subst hp'
    exact h N hN
  | succ d ih =>
    intro p N hp hc hN hs
    obtain ⟨N, rfl⟩ : ∃ M, N = M + 1 := ⟨N - 1, by omega⟩
    have e : nI p + 50 = nI (p + 50) := nI_add p 50
    by_cases z : p + 50 ≤ n
    · refine br_f ?_ (br_f (nI_ge (b := 6) (by omega) (by omega)) (dx_si hB hL (by omega) (fun s => absurd s (hs p (Nat.le_refl _) (by omega) z)) (fun _ => br_t rfl (br_t rfl (nm_r (nI_1 p) (ih (p + 1) N (by omega) (by omega) (by omega) (fun j a b => hs j (by omega) b)))))))
      rw [e]; exact nI_nlt z (by omega)
    · refine br_t ?_ ?_
      · rw [e]; exact nI_lt (by omega) (by omega)
      · refine (h (n + 1) (by omega)).1 ?_
        rw [show nI q + 50 = nI (q + 50) from nI_add q 50]
        exact nI_lt (by omega) (by omega)
/-- the places that both sides hold -/
def ds_Ag (n c : Nat) (px py : Nat → Int32) : Prop := c ≤ 6 ∧ ∀ k, k < c → ∃ q, q + 50 ≤ n ∧ px k = nI q ∧ py k = nI q
theorem ds_AgS {c p : Nat} {px py : Nat → Int32} (h : ds_Ag n c px py) (hc : c < 6) (hp : p + 50 ≤ n) : ds_Ag n (c + 1) (upd px c (nI p)) (upd py c (nI p)) := by
  refine ⟨by omega, fun k hk => ?_⟩
  by_cases z : k = c
  · subst z; exact ⟨p, hp, pk_us, pk_us⟩
  · rw [pk_un z, pk_un z]; exact h.2 k (by omega)
variable {C w pw : Nat → Int32} {fc : Int32}
theorem dx_take {post : SX → Prop} {N p c : Nat} {s : Int32} {px : Nat → Int32} (hc : c < 6) (h : wX_receive_9 post (nI n) N s (nI (p + 50)) (nI (c + 1)) L C (upd px c (nI p))) : wX_receive_43 post (wX_receive_9 post (nI n) N) (nI p) s (nI n) (nI c) L C px := by
  refine ⟨vp_in_nI hc (by omega), nm_r (e' := upd px c (nI p)) (by rw [nI_clamp (by omega)]) (nm_r (nI_1 c) (nm_r (nI_add p 49) (nm_r (nI_1 (p + 49)) h)))⟩
theorem dy_take {post : SY → Prop} {N p c step : Nat} {z : Int32} {py : Nat → Int32} (hc : c < 6) (h : wY_receive_15 post N (nI (p + 50)) z (nI (step + 1)) (nI n) fc (nI (c + 1)) L w pw (upd py c (nI p))) : wY_receive_55 post (wY_receive_15 post N) (nI p) (nI step) z (nI n) fc (nI c) L w pw py := by
  refine ⟨vp_in_nI (by omega) (by omega), nm_r (e' := upd py c (nI p)) (by rw [nI_clamp (by omega)]) (nm_r (nI_1 c) ?_)⟩
  rw [show nI p + 50 = nI (p + 50) from nI_add p 50]
  exact nm_r (nI_1 step) h
theorem ds_rc (hn : n ≤ 300) (hL : ∀ j, L j = nI (B j)) (hB : ∀ j, B j < 2) : ∀ (m p c step : Nat) (t ms : Int32) (px py : Nat → Int32), n < m + p → p ≤ n → 50 * c ≤ p → (t = 0 ∨ t = 1) → (ms = 0 ∨ ms = 1) → (p + 50 ≤ n → ((t = 1 ∨ ds_S B p) ↔ (ms = 0 ∨ ds_S B p))) → (step ≤ 2 * c + 1) → (ms = 1 → step ≤ 2 * c) → ds_Ag n c px py →
    ∃ c' px' py', ds_Ag n c' px' py' ∧ (∀ (post : SX → Prop) (N : Nat), n < N + p → post (nI n, nI c', L, C, px') → wX_receive_9 post (nI n) N t (nI p) (nI c) L C px) ∧ (∀ (post : SY → Prop) (N : Nat), n < N + p → post (nI n, fc, nI c', L, w, pw, py') → wY_receive_15 post N (nI p) ms (nI step) (nI n) fc (nI c) L w pw py) := by
  intro m
  induction m with
  | zero => intro p c step t ms px py hm hp; omega
  | succ m ih =>
    intro p c step t ms px py hm hp hc ht hms hcd hs1 hs2 hA
    have e50 : nI p + 50 = nI (p + 50) := nI_add p 50
    have e49 : nI p + 49 = nI (p + 49) := nI_add p 49
    by_cases z : p + 50 ≤ n
    · have gX : ¬ nI n < nI p + 50 := by rw [e50]; exact nI_nlt z (by omega)
      have g6 : ¬ (6 : Int32) ≤ nI c := nI_ge (b := 6) (by omega) (by omega)
      have g20 : ¬ (20 : Int32) ≤ nI step := nI_ge (b := 20) (by omega) (by omega)
      have gF : ¬ nI n ≤ nI p + 49 := by rw [e49]; exact nI_ge (by omega) (by omega)
      by_cases s : ds_S B p
      · obtain ⟨c', px', py', hA', hX, hY⟩ := ih (p + 50) (c + 1) (step + 1) 1 0 (upd px c (nI p)) (upd py c (nI p)) (by omega) z (by omega) (Or.inr rfl) (Or.inl rfl) (fun _ => ⟨fun _ => Or.inl rfl, fun _ => Or.inl rfl⟩) (by omega) (fun q => absurd q (by decide)) (ds_AgS hA (by omega) z)
        refine ⟨c', px', py', hA', fun post N hN hpost => ?_, fun post N hN hpost => ?_⟩
        · obtain ⟨N, rfl⟩ : ∃ M, N = M + 1 := ⟨N - 1, by omega⟩
          exact br_f gX (br_f g6 (dx_si hB hL (by omega) (fun _ => br_f (by decide) (dx_take (by omega) (hX post N (by omega) hpost))) (fun q => absurd s q)))
        · obtain ⟨N, rfl⟩ : ∃ M, N = M + 1 := ⟨N - 1, by omega⟩
          exact br_f g20 (br_f gF (br_f (by decide) (dy_si hn hL hB hp (fun _ _ => br_f (by decide) (br_f (by decide) (dy_take (by omega) (hY post N (by omega) hpost)))) (fun q => absurd ⟨by omega, s⟩ q))))
      · by_cases k : t = 1
        · have km : ms = 0 := ((hcd z).mp (Or.inl k)).resolve_right s
          subst k
          subst km
          obtain ⟨c', px', py', hA', hX, hY⟩ := ih (p + 50) (c + 1) (step + 1) 0 1 (upd px c (nI p)) (upd py c (nI p)) (by omega) z (by omega) (Or.inl rfl) (Or.inr rfl) (fun _ => ⟨fun q => Or.inr (q.resolve_left (by decide)), fun q => Or.inr (q.resolve_left (by decide))⟩) (by omega) (fun _ => by omega) (ds_AgS hA (by omega) z)
          refine ⟨c', px', py', hA', fun post N hN hpost => ?_, fun post N hN hpost => ?_⟩
          · obtain ⟨N, rfl⟩ : ∃ M, N = M + 1 := ⟨N - 1, by omega⟩
            exact br_f gX (br_f g6 (dx_si hB hL (by omega) (fun q => absurd q s) (fun _ => br_t rfl (br_f (by decide) (dx_take (by omega) (hX post N (by omega) hpost))))))
          · obtain ⟨N, rfl⟩ : ∃ M, N = M + 1 := ⟨N - 1, by omega⟩
            exact br_f g20 (br_f gF (br_f (by decide) (dy_si hn hL hB hp (fun _ q => absurd q s) (fun _ => br_t rfl (br_t rfl (br_t rfl (dy_take (by omega) (hY post N (by omega) hpost))))))))
        · have k0 : t = 0 := ht.resolve_right k
          have km : ms = 1 := hms.resolve_left (fun q => ((hcd z).mpr (Or.inl q)).elim k s)
          subst k0
          subst km
          obtain ⟨q, q1, q2, q3, q4, q5⟩ := dy_hu1 (fc := fc) (ff := nI c) (w := w) (pw := pw) (py := py) hn hL hB (n - p) p (by omega)
          have hpq : p ≠ q := by
            intro y
            subst y
            rcases q3 with q3 | q3
            · omega
            · exact s q3.2
          obtain ⟨c', px', py', hA', hX, hY⟩ := ih q c (step + 1) 0 0 px py (by omega) q2 (by omega) (Or.inl rfl) (Or.inl rfl) (fun y => ⟨fun _ => Or.inl rfl, fun _ => Or.inr (q3.resolve_left (by omega)).2⟩) (by have := hs2 rfl; omega) (fun y => absurd y (by decide)) hA
          refine ⟨c', px', py', hA', fun post N hN hpost => ?_, fun post N hN hpost => ?_⟩
          · exact dx_skip hn hL hB q2 (fun N' hN' => hX post N' hN' hpost) (q - p) p N (by omega) hc hN (fun j a b d => q4 j a b (by omega))
          · obtain ⟨N, rfl⟩ : ∃ M, N = M + 1 := ⟨N - 1, by omega⟩
            exact br_f g20 (br_f gF (br_f (by decide) (dy_si hn hL hB hp (fun _ y => absurd y s) (fun _ => br_t rfl (br_f (by decide) ⟨_, q5 _ (nm_r (nI_1 step) (hY post N (by omega) hpost))⟩)))))
    · refine ⟨c, px, py, hA, fun post N hN hpost => ?_, fun post N hN hpost => ?_⟩
      · obtain ⟨N, rfl⟩ : ∃ M, N = M + 1 := ⟨N - 1, by omega⟩
        refine br_t ?_ hpost
        rw [e50]; exact nI_lt (by omega) (by omega)
      · obtain ⟨N, rfl⟩ : ∃ M, N = M + 1 := ⟨N - 1, by omega⟩
        refine br_c (fun _ => hpost) (fun _ => br_t ?_ (br_t rfl hpost))
        rw [e49]; exact nI_le (by omega) (by omega)
theorem ds_rcv {t ff : Int32} {P py : Nat → Int32} (hn : n ≤ 300) (hL : ∀ j, L j = nI (B j)) (hB : ∀ j, B j < 2) : ∃ c px' py', ds_Ag n c px' py' ∧ (∀ (post : SX → Prop), post (nI n, nI c, L, C, px') → wpX_receive post (nI n, t, L, C, P)) ∧ (∀ (post : SY → Prop), post (nI n, fc, nI c, L, w, pw, py') → wpY_receive post (nI n, fc, ff, L, w, pw, py)) := by
  obtain ⟨q, q1, q2, q3, q4, q5⟩ := dy_hu1 (fc := fc) (ff := 0) (w := w) (pw := pw) (py := py) hn hL hB n 0 (by omega)
  obtain ⟨c', px', py', hA', hX, hY⟩ := ds_rc (C := C) (w := w) (pw := pw) (fc := fc) hn hL hB (n + 1) q 0 0 0 0 P py (by omega) q2 (by omega) (Or.inl rfl) (Or.inl rfl) (fun y => ⟨fun _ => Or.inl rfl, fun _ => Or.inr (q3.resolve_left (by omega)).2⟩) (by omega) (fun y => absurd y (by decide)) ⟨by omega, fun k hk => absurd hk (Nat.not_lt_zero k)⟩
  refine ⟨c', px', py', hA', fun post hpost => ?_, fun post hpost => ?_⟩
  · exact ⟨n + 1, dx_skip (c := 0) hn hL hB q2 (fun N' hN' => hX post N' hN' hpost) q 0 (n + 1) (by omega) (by omega) (by omega) (fun j a b d => q4 j a b (by omega))⟩
  · exact ⟨_, q5 _ ⟨n + 1, hY post (n + 1) (by omega) hpost⟩⟩
end RC
end
section
/-! ===== the relation, and the methods that change or show the line ===== -/
/-- one length, one line of bits; the component's table, the reference's powers -/
def i_Rel (_ : Nat) (u : SX) (v : SY) : Prop := ∃ (n : Nat) (t fc ff : Int32) (L C P w pw py : Nat → Int32), u = (nI n, t, L, C, P) ∧ v = (nI n, fc, ff, L, w, pw, py) ∧ n ≤ 300 ∧ (∀ j, L j = 0 ∨ L j = 1) ∧ (∀ j, j < 512 → C j = nI (ds_cw j)) ∧ (∀ j, j < 7 → pw j = nI (ds_pw j))
theorem i_up {k : Nat} {u : SX} {v : SY} (h : i_Rel k u v) : i_Rel (k + 3) u v := h
theorem ds_mk {k n : Nat} {t fc ff : Int32} {L C P w pw py : Nat → Int32} (hn : n ≤ 300) (hL : ∀ j, L j = 0 ∨ L j = 1) (hC : ∀ j, j < 512 → C j = nI (ds_cw j)) (hp : ∀ j, j < 7 → pw j = nI (ds_pw j)) : i_Rel k (nI n, t, L, C, P) (nI n, fc, ff, L, w, pw, py) :=
  ⟨n, t, fc, ff, L, C, P, w, pw, py, rfl, rfl, hn, hL, hC, hp⟩
theorem ds_bits {L : Nat → Int32} (hL : ∀ j, L j = 0 ∨ L j = 1) : ∃ B : Nat → Nat, (∀ j, L j = nI (B j)) ∧ ∀ j, B j < 2 := by
  refine ⟨fun j => if L j = 0 then 0 else 1, fun j => ?_, fun j => ?_⟩
  · by_cases z : L j = 0
    · show L j = nI (if L j = 0 then 0 else 1)
      rw [if_pos z, z]; rfl
    · show L j = nI (if L j = 0 then 0 else 1)
      rw [if_neg z, (hL j).resolve_left z]; rfl
  · show (if L j = 0 then 0 else 1) < 2
    split <;> omega
theorem ds_updb {L : Nat → Int32} (hL : ∀ j, L j = 0 ∨ L j = 1) (k : Nat) {x : Int32} (hx : x = 0 ∨ x = 1) : ∀ j, upd L k x j = 0 ∨ upd L k x j = 1 := by
  intro j
  by_cases z : j = k
  · subst z; rw [pk_us]; exact hx
  · rw [pk_un z]; exact hL j
theorem ds_nar {x : Int32} (hx : x = 0 ∨ x = 1) : vp_nar .boolean x = x := by
  rcases hx with rfl | rfl
  · exact dy_nar (b := 0) (by decide)
  · exact dy_nar (b := 1) (by decide)
theorem ds_ovb {L : Nat → Int32} {T : Nat → Nat} {n m : Nat} (hL : ∀ j, L j = 0 ∨ L j = 1) (hT : ∀ j, T j < 2) : ∀ j, ds_ov L T n m j = 0 ∨ ds_ov L T n m j = 1 := by
  intro j
  unfold ds_ov
  split
  · have h : T (j - n) = 0 ∨ T (j - n) = 1 := by have := hT (j - n); omega
    rcases h with h | h
    · rw [h]; exact Or.inl rfl
    · rw [h]; exact Or.inr rfl
  · exact hL j
theorem i_vc0 : wpX_init (fun u => wpY_init (fun v => i_Rel 0 u v)) := by
  refine ⟨513, dx_init (fun C hC => ⟨8, dy_in1 (fun W hW => ds_mk (n := 0) (by omega) (fun _ => Or.inl rfl) hC hW) 7 0 1 (fun _ => 0) rfl (by omega) (fun _ => by decide) (fun j hj => absurd hj (Nat.not_lt_zero j))⟩) 512 0 (fun _ => 0) rfl (fun j hj => absurd hj (Nat.not_lt_zero j))⟩
theorem i_vc_send {k : Nat} {u : SX} {v : SY} (I : i_Rel k u v) (hk : k + 3 ≤ 1536) (v1 : Int32) : wpX_send (fun r u' => wpY_send (fun r' v' => r' = r ∧ i_Rel (k + 3) u' v') v v1) u v1 := by
  obtain ⟨n, t, fc, ff, L, C, P, w, pw, py, rfl, rfl, hn, hL, hC, hp⟩ := I
  by_cases h0 : v1 < 0
  · exact br_t h0 (br_t h0 ⟨rfl, ds_mk hn hL hC hp⟩)
  · by_cases h1 : v1 ≤ 262143
    · obtain ⟨M, hM, rfl⟩ := nI_of2 (M := 262143) (n := 262143) (by decide) h0 h1
      by_cases h2 : n + 50 ≤ 300
      · exact dx_send hM h2 hC (dy_send hp hM h2 (fun w' => ⟨rfl, ds_mk h2 (ds_ovb hL (fun j => ds_T_lt _ _ j)) hC hp⟩))
      · have g : ¬ nI n + 50 ≤ 300 := by
          rw [show nI n + 50 = nI (n + 50) from nI_add n 50]
          exact nI_ge (a := 300) (by omega) (by omega)
        exact br_f h0 (br_t h1 (br_f g (br_f h0 (br_t h1 (br_f g ⟨rfl, ds_mk hn hL hC hp⟩)))))
    · exact br_f h0 (br_f h1 (br_f h0 (br_f h1 ⟨rfl, ds_mk hn hL hC hp⟩)))
theorem i_vc_flip {k : Nat} {u : SX} {v : SY} (I : i_Rel k u v) (hk : k + 3 ≤ 1536) (v1 : Int32) : wpX_flip (fun r u' => wpY_flip (fun r' v' => r' = r ∧ i_Rel (k + 3) u' v') v v1) u v1 := by
  obtain ⟨n, t, fc, ff, L, C, P, w, pw, py, rfl, rfl, hn, hL, hC, hp⟩ := I
  by_cases h0 : v1 < 0
  · exact br_t h0 (br_t h0 (br_t rfl ⟨rfl, ds_mk hn hL hC hp⟩))
  · by_cases h1 : v1 < nI n
    · obtain ⟨j, hj, rfl⟩ := nI_of h0
      have hjn := (nI_ltI hj (by omega)).mp h1
      have hi : vp_in (nI j) 300 := vp_in_nI (by omega) (by omega)
      have g : ¬ nI n ≤ nI j := nI_ge hjn (by omega)
      rcases hL j with z | z
      · refine br_f h0 (br_t h1 ⟨hi, hi, nm_r (e' := upd L j 1) ?_ ⟨hi, br_f h0 (br_f g (br_f (by decide) ⟨hi, br_t ?_ ⟨hi, nm_r (e' := upd L j 1) ?_ ⟨hi, br_f ?_ ⟨?_, ds_mk hn (ds_updb hL j (Or.inr rfl)) hC hp⟩⟩⟩⟩))⟩⟩)
        · rw [nI_clamp hj, z]; rfl
        · rw [nI_clamp hj, z]
        · rw [nI_clamp hj, ds_nar (Or.inr rfl)]
        · rw [nI_clamp hj, pk_us]; decide
        · rw [nI_clamp hj, pk_us]
      · refine br_f h0 (br_t h1 ⟨hi, hi, nm_r (e' := upd L j 0) ?_ ⟨hi, br_f h0 (br_f g (br_f (by decide) ⟨hi, br_f ?_ ⟨hi, nm_r (e' := upd L j 0) ?_ ⟨hi, br_t ?_ ⟨?_, ds_mk hn (ds_updb hL j (Or.inl rfl)) hC hp⟩⟩⟩⟩))⟩⟩)
        · rw [nI_clamp hj, z]; rfl
        · rw [nI_clamp hj, z]; decide
        · rw [nI_clamp hj, ds_nar (Or.inl rfl)]
        · rw [nI_clamp hj, pk_us]
        · rw [nI_clamp hj, pk_us]
    · have g : nI n ≤ v1 := Int32.not_lt.mp h1
      exact br_f h0 (br_f h1 (br_f h0 (br_t g (br_t rfl ⟨rfl, ds_mk hn hL hC hp⟩))))
theorem ds_drop {t fc ff : Int32} {C P w pw py : Nat → Int32} {n : Nat} (hn : n < 300) : ∀ (d i : Nat) (L : Nat → Int32), i + d = n → (∀ j, L j = 0 ∨ L j = 1) → ∃ L' : Nat → Int32, (∀ j, L' j = 0 ∨ L' j = 1) ∧ (∀ post : Int32 → SX → Prop, post (nI n) (nI n, t, L', C, P) → wX_drop_26 post (nI n) t (d + 1) (nI i) L C P) ∧ (∀ post : Int32 → SY → Prop, post (nI n) (nI n, fc, ff, L', w, pw, py) → wY_drop_12 post (nI (n + 1)) fc ff (d + 1) (nI i) L w pw py) := by
  intro d
  induction d with
  | zero =>
    intro i L hi hL
    have hi' : i = n := by omega
    subst hi'
    refine ⟨L, hL, fun post h => br_t (nI_le (Nat.le_refl _) (by omega)) h, fun post h => br_t ?_ (nm_r (nI_pred i) h)⟩
    rw [nI_pred]; exact nI_le (Nat.le_refl _) (by omega)
  | succ d ih =>
    intro i L hi hL
    obtain ⟨L', hL', hX, hY⟩ := ih (i + 1) (upd L i (L (i + 1))) (by omega) (ds_updb hL i (hL (i + 1)))
    have v0 : vp_in (nI i) 300 := vp_in_nI (by omega) (by omega)
    have v1 : vp_in (nI i + 1) 300 := pk_in (i + 1) 300 (by omega) (nI_1 i)
    refine ⟨L', hL', fun post h => br_f (nI_ge (by omega) (by omega)) ⟨v1, v0, nm_r (e' := upd L i (L (i + 1))) ?_ (nm_r (nI_1 i) (hX post h))⟩, fun post h => br_f ?_ ⟨v1, v0, nm_r (e' := upd L i (L (i + 1))) ?_ (nm_r (nI_1 i) (hY post h))⟩⟩
    · rw [nI_1, nI_clamp (by omega), nI_clamp (by omega)]
    · rw [nI_pred]; exact nI_ge (by omega) (by omega)
    · rw [nI_1, nI_clamp (by omega), nI_clamp (by omega), ds_nar (hL _)]
theorem i_vc_drop {k : Nat} {u : SX} {v : SY} (I : i_Rel k u v) (hk : k + 3 ≤ 1536) (v1 : Int32) : wpX_drop (fun r u' => wpY_drop (fun r' v' => r' = r ∧ i_Rel (k + 3) u' v') v v1) u v1 := by
  obtain ⟨n, t, fc, ff, L, C, P, w, pw, py, rfl, rfl, hn, hL, hC, hp⟩ := I
  by_cases h0 : v1 < 0
  · exact br_t h0 (br_t h0 (br_t rfl ⟨rfl, ds_mk hn hL hC hp⟩))
  · by_cases h1 : v1 < nI n
    · obtain ⟨j, hj, rfl⟩ := nI_of h0
      have hjn := (nI_ltI hj (by omega)).mp h1
      obtain ⟨m, rfl⟩ : ∃ m, n = m + 1 := ⟨n - 1, by omega⟩
      obtain ⟨L', hL', hX, hY⟩ := ds_drop (t := t) (fc := fc) (ff := ff) (C := C) (P := P) (w := w) (pw := pw) (py := py) (n := m) (by omega) (m - j) j L (by omega) hL
      exact br_f h0 (br_t h1 (nm_r (nI_pred m) ⟨_, hX _ (br_f h0 (br_f (nI_ge hjn (by omega)) (br_f (by decide) ⟨_, hY _ ⟨rfl, ds_mk (by omega) hL' hC hp⟩⟩)))⟩))
    · have g : nI n ≤ v1 := Int32.not_lt.mp h1
      exact br_f h0 (br_f h1 (br_f h0 (br_t g (br_t rfl ⟨rfl, ds_mk hn hL hC hp⟩))))
theorem ds_ins {t fc ff x : Int32} {C P w pw py : Nat → Int32} {n i : Nat} (hn : n < 300) (hx : x = 0 ∨ x = 1) : ∀ (d : Nat) (L : Nat → Int32), i + d ≤ n → (∀ j, L j = 0 ∨ L j = 1) → ∃ L' : Nat → Int32, (∀ j, L' j = 0 ∨ L' j = 1) ∧ (∀ post : Int32 → SX → Prop, post (nI (n + 1)) (nI (n + 1), t, L', C, P) → wX_insert_32 post (nI i) x (nI n) t (d + 1) (nI (i + d)) L C P) ∧ (∀ post : Int32 → SY → Prop, post (nI (n + 1)) (nI (n + 1), fc, ff, L', w, pw, py) → wY_insert_32 post (nI i) x (nI n) fc ff (d + 1) (nI (i + d)) L w pw py) := by
  intro d
  induction d with
  | zero =>
    intro L hi hL
    have v0 : vp_in (nI i) 300 := vp_in_nI (by omega) (by omega)
    have le : nI (i + 0) ≤ nI i := nI_le (Nat.le_refl _) (by omega)
    refine ⟨upd L i x, ds_updb hL i hx, fun post h => br_t le ?_, fun post h => br_t le ⟨v0, nm_r (e' := upd L i x) ?_ (nm_r (nI_1 n) h)⟩⟩
    · rcases hx with rfl | rfl
      · exact br_t rfl ⟨v0, nm_r (e' := upd L i 0) (by rw [nI_clamp (by omega)]) (nm_r (nI_1 n) h)⟩
      · exact br_f (by decide) ⟨v0, nm_r (e' := upd L i 1) (by rw [nI_clamp (by omega)]) (nm_r (nI_1 n) h)⟩
    · rw [nI_clamp (by omega), ds_nar hx]
  | succ d ih =>
    intro L hi hL
    obtain ⟨L', hL', hX, hY⟩ := ih (upd L (i + d + 1) (L (i + d))) (by omega) (ds_updb hL _ (hL (i + d)))
    have v0 : vp_in (nI (i + d + 1)) 300 := vp_in_nI (by omega) (by omega)
    have v1 : vp_in (nI (i + d + 1) - 1) 300 := pk_in (i + d) 300 (by omega) (nI_pred (i + d))
    have g : ¬ nI (i + d + 1) ≤ nI i := nI_ge (by omega) (by omega)
    refine ⟨L', hL', fun post h => br_f g ⟨v1, v0, nm_r (e' := upd L (i + d + 1) (L (i + d))) ?_ (nm_r (pk_m1 (i + d)) (hX post h))⟩, fun post h => br_f g ⟨v1, v0, nm_r (e' := upd L (i + d + 1) (L (i + d))) ?_ (nm_r (pk_m1 (i + d)) (hY post h))⟩⟩
    · rw [show nI (i + (d + 1)) - 1 = nI (i + d) from nI_pred (i + d), nI_clamp (by omega), nI_clamp (by omega)]; rfl
    · rw [show nI (i + (d + 1)) - 1 = nI (i + d) from nI_pred (i + d), nI_clamp (by omega), nI_clamp (by omega), ds_nar (hL _)]; rfl
theorem i_vc_insert {k : Nat} {u : SX} {v : SY} (I : i_Rel k u v) (hk : k + 3 ≤ 1536) (v1 : Int32) (v2 : Int32) : wpX_insert (fun r u' => wpY_insert (fun r' v' => r' = r ∧ i_Rel (k + 3) u' v') v v1 (lw_bz v2)) u v1 (lw_bz v2) := by
  obtain ⟨n, t, fc, ff, L, C, P, w, pw, py, rfl, rfl, hn, hL, hC, hp⟩ := I
  by_cases h0 : v1 < 0
  · exact br_t h0 (br_t h0 ⟨rfl, ds_mk hn hL hC hp⟩)
  · by_cases h1 : v1 ≤ nI n
    · obtain ⟨j, hj, rfl⟩ := nI_of h0
      have hjn := (nI_leI hj (by omega)).mp h1
      by_cases h2 : n < 300
      · obtain ⟨L', hL', hX, hY⟩ := ds_ins (t := t) (fc := fc) (ff := ff) (C := C) (P := P) (w := w) (pw := pw) (py := py) (i := j) h2 (lw_bz_01 v2) (n - j) L (by omega) hL
        rw [show j + (n - j) = n by omega] at hX hY
        have g : ¬ nI n = 300 := fun q => absurd ((nI_eq (b := 300) (by omega) (by omega)).mp q) (by omega)
        exact br_f h0 (br_t h1 (br_t (nI_lt (b := 300) h2 (by omega)) ⟨_, hX _ (br_f h0 (br_t h1 (br_f g ⟨_, hY _ ⟨rfl, ds_mk (by omega) hL' hC hp⟩⟩)))⟩))
      · have e : n = 300 := by omega
        subst e
        exact br_f h0 (br_t h1 (br_f (by decide) (br_f h0 (br_t h1 (br_t rfl ⟨rfl, ds_mk hn hL hC hp⟩)))))
    · exact br_f h0 (br_f h1 (br_f h0 (br_f h1 ⟨rfl, ds_mk hn hL hC hp⟩)))
theorem i_vc_clear {k : Nat} {u : SX} {v : SY} (I : i_Rel k u v) (hk : k + 3 ≤ 1536) : wpX_clear (fun r u' => wpY_clear (fun r' v' => r' = r ∧ i_Rel (k + 3) u' v') v) u := by
  obtain ⟨n, t, fc, ff, L, C, P, w, pw, py, rfl, rfl, hn, hL, hC, hp⟩ := I
  exact ⟨rfl, ds_mk (n := 0) (by omega) hL hC hp⟩
theorem i_vc_bits {k : Nat} {u : SX} {v : SY} (I : i_Rel k u v) (hk : k + 3 ≤ 1536) : wpX_bits (fun r => wpY_bits (fun r' => r' = r ∧ i_Rel (k + 3) u v) v) u := by
  obtain ⟨n, t, fc, ff, L, C, P, w, pw, py, rfl, rfl, hn, hL, hC, hp⟩ := I
  exact ⟨rfl, ds_mk hn hL hC hp⟩
theorem i_vc_bit {k : Nat} {u : SX} {v : SY} (I : i_Rel k u v) (hk : k + 3 ≤ 1536) (v1 : Int32) : wpX_bit (fun r => wpY_bit (fun r' => r' = r ∧ i_Rel (k + 3) u v) v v1) u v1 := by
  obtain ⟨n, t, fc, ff, L, C, P, w, pw, py, rfl, rfl, hn, hL, hC, hp⟩ := I
  by_cases h0 : v1 < 0
  · exact br_t h0 (br_t h0 (br_t rfl ⟨rfl, ds_mk hn hL hC hp⟩))
  · by_cases h1 : v1 < nI n
    · obtain ⟨j, hj, rfl⟩ := nI_of h0
      have hjn := (nI_ltI hj (by omega)).mp h1
      have hi : vp_in (nI j) 300 := vp_in_nI (by omega) (by omega)
      have g : ¬ nI n ≤ nI j := nI_ge hjn (by omega)
      refine br_f h0 (br_t h1 ⟨hi, br_f h0 (br_f g (br_f (by decide) ⟨hi, ?_⟩))⟩)
      rw [nI_clamp hj]
      rcases hL j with z | z
      · exact br_t z ⟨z.symm, ds_mk hn hL hC hp⟩
      · exact br_f (by rw [z]; decide) ⟨z.symm, ds_mk hn hL hC hp⟩
    · have g : nI n ≤ v1 := Int32.not_lt.mp h1
      exact br_f h0 (br_f h1 (br_f h0 (br_t g (br_t rfl ⟨rfl, ds_mk hn hL hC hp⟩))))
end
section
/-! ===== the methods that receive ===== -/
theorem ds_near_congr {a b : Nat → Nat} (h : ∀ i, i < 7 → a i = b i) {o : Option Nat} (ho : ds_near a o) : ds_near b o := by
  cases o with
  | none =>
    intro p hp
    rw [← ds_d_congr 7 (fun i hi => ⟨h i hi, rfl⟩)]
    exact ho p hp
  | some p =>
    refine ⟨ho.1, ?_⟩
    rw [← ds_d_congr 7 (fun i hi => ⟨h i hi, rfl⟩)]
    exact ho.2
theorem ds_n3 {m : Nat} (h : m < 2 ^ 31) : ¬ nI m = -3 := by
  intro q
  have z := nI_pos h
  rw [q] at z
  exact z (by decide)
theorem ds_msg_lt (E O : Nat) : ds_msg E O < 2 ^ 31 := by
  have a4 := ds_sy_lt E 4; have a5 := ds_sy_lt E 5; have a6 := ds_sy_lt E 6
  have b4 := ds_sy_lt O 4; have b5 := ds_sy_lt O 5; have b6 := ds_sy_lt O 6
  unfold ds_msg
  omega
section FR
variable {n : Nat} {B : Nat → Nat} {L C : Nat → Int32}
/-- the two words of a frame as the component receives them, and what is near them -/
theorem ds_fr {l t : Int32} {P : Nat → Int32} (hL : ∀ j, L j = nI (B j)) (hB : ∀ j, B j < 2) (hC : ∀ j, j < 512 → C j = nI (ds_cw j)) (p f : Nat) : ∃ o, ds_near (ds_R B p f) o ∧ (∀ p', o = some p' → p' < 512) ∧ ∀ post : Int32 → Prop, post (ds_nr o) → wpX_nearCodeWord post (l, t, L, C, P) (nI (ds_W B p f 7)) := by
  obtain ⟨o, ho, h⟩ := dx_near (W := ds_W B p f 7) (l := l) (t := t) (L := L) (P := P) (ds_W_lt hB p f 7) hC
  refine ⟨o, ds_near_congr (ds_sW hB p f) ho, fun p' hp' => ?_, h⟩
  subst hp'
  exact ho.1
theorem dx_sm {post : Int32 → Prop} {l t : Int32} {P : Nat → Int32} {p f : Nat} {o : Option Nat} (hB : ∀ j, B j < 2) (ho : ∀ p', o = some p' → p' < 512) (hX : ∀ post : Int32 → Prop, post (ds_nr o) → wpX_nearCodeWord post (l, t, L, C, P) (nI (ds_W B p f 7))) (h : post (nI (ds_dc (ds_R B p f) o))) : wpX_symbolsMended post (l, t, L, C, P) (nI (ds_W B p f 7)) := by
  refine hX _ ?_
  cases o with
  | none => exact br_t rfl h
  | some a =>
    have ha := ds_cw_lt (ho a rfl)
    refine br_f (ds_n3 (by omega)) (dx_dif (ds_W_lt hB p f 7) ha ?_)
    rw [ds_d_congr 7 (fun i hi => ⟨ds_sW hB p f i hi, rfl⟩)]
    exact h
theorem ds_good {t0 : Int32} {pw px py : Nat → Int32} {c : Nat} (hn : n ≤ 300) (hL : ∀ j, L j = nI (B j)) (hB : ∀ j, B j < 2) (hC : ∀ j, j < 512 → C j = nI (ds_cw j)) (hp : ∀ j, j < 7 → pw j = nI (ds_pw j)) (hA : ds_Ag n c px py) : ∀ d k g : Nat, k + d = c → ∃ r : Int32, (∀ post : Int32 → SX → Prop, post r (nI n, nI c, L, C, px) → wX_good_8 post (nI n) (nI c) L C px (d + 1) (nI g) (nI k)) ∧ (∀ (post : Int32 → SY → Prop) (fc : Int32) (w : Nat → Int32), (∀ (fc : Int32) (w : Nat → Int32), post r (nI n, fc, nI c, L, w, pw, py)) → wY_good_8 post (d + 1) (nI g) (nI k) (nI n) fc (nI c) L w pw py) := by
  intro d
  induction d with
  | zero =>
    intro k g hk
    have hk' : k = c := by omega
    subst hk'
    have hc := hA.1
    exact ⟨nI g, fun post h => br_t (nI_le (Nat.le_refl _) (by omega)) h, fun post fc w h => br_t (nI_le (Nat.le_refl _) (by omega)) (h fc w)⟩
  | succ d ih =>
    intro k g hk
    have hc := hA.1
    obtain ⟨q, hq, ex, ey⟩ := hA.2 k (by omega)
    obtain ⟨o0, n0, b0, x0⟩ := ds_fr (l := nI n) (t := nI c) (P := px) hL hB hC q 0
    obtain ⟨o1, n1, b1, x1⟩ := ds_fr (l := nI n) (t := nI c) (P := px) hL hB hC q 1
    have hge : ¬ nI c ≤ nI k := nI_ge (by omega) (by omega)
    have v6 : vp_in (nI k) 6 := vp_in_nI (by omega) (by omega)
    have v7 : vp_in (nI k) 7 := vp_in_nI (by omega) (by omega)
    have ex' : px (nI k).toNatClampNeg = nI q := by rw [nI_clamp (by omega)]; exact ex
    have ey' : py (nI k).toNatClampNeg = nI q := by rw [nI_clamp (by omega)]; exact ey
    cases o0 with
    | none =>
      obtain ⟨r, hX, hY⟩ := ih (k + 1) g (by omega)
      refine ⟨r, fun post h => br_f hge ⟨v6, ?_⟩, fun post fc w h => br_f hge ⟨v7, ?_⟩⟩
      · rw [ex']
        exact dx_rw (f := 0) hB hL (by omega) (by omega) ⟨v6, dx_rw (f := 1) hB hL (by omega) (by omega) (x0 _ (br_t rfl (nm_r (nI_1 k) (hX post h))))⟩
      · rw [ey']
        exact dy_de hp hL hB (by omega) n0 n1 (fun w' => br_t rfl (nm_r (nI_1 k) (hY post _ w' h)))
    | some a =>
      have ha := ds_cw_lt (b0 a rfl)
      cases o1 with
      | none =>
        obtain ⟨r, hX, hY⟩ := ih (k + 1) g (by omega)
        refine ⟨r, fun post h => br_f hge ⟨v6, ?_⟩, fun post fc w h => br_f hge ⟨v7, ?_⟩⟩
        · rw [ex']
          exact dx_rw (f := 0) hB hL (by omega) (by omega) ⟨v6, dx_rw (f := 1) hB hL (by omega) (by omega) (x0 _ (br_f (ds_n3 (by omega)) (x1 _ (br_t rfl (nm_r (nI_1 k) (hX post h))))))⟩
        · rw [ey']
          exact dy_de hp hL hB (by omega) n0 n1 (fun w' => br_t rfl (nm_r (nI_1 k) (hY post _ w' h)))
      | some b =>
        have hb := ds_cw_lt (b1 b rfl)
        obtain ⟨r, hX, hY⟩ := ih (k + 1) (g + 1) (by omega)
        refine ⟨r, fun post h => br_f hge ⟨v6, ?_⟩, fun post fc w h => br_f hge ⟨v7, ?_⟩⟩
        · rw [ex']
          exact dx_rw (f := 0) hB hL (by omega) (by omega) ⟨v6, dx_rw (f := 1) hB hL (by omega) (by omega) (x0 _ (br_f (ds_n3 (by omega)) (x1 _ (br_f (ds_n3 (by omega)) (nm_r (nI_1 g) (nm_r (nI_1 k) (hX post h)))))))⟩
        · rw [ey']
          exact dy_de hp hL hB (by omega) n0 n1 (fun w' => br_f (ds_n3 (ds_msg_lt _ _)) (nm_r (nI_1 g) (nm_r (nI_1 k) (hY post _ w' h))))
end FR
theorem i_vc_frames {k : Nat} {u : SX} {v : SY} (I : i_Rel k u v) (hk : k + 3 ≤ 1536) : wpX_frames (fun r u' => wpY_frames (fun r' v' => r' = r ∧ i_Rel (k + 3) u' v') v) u := by
  obtain ⟨n, t, fc, ff, L, C, P, w, pw, py, rfl, rfl, hn, hL, hC, hp⟩ := I
  obtain ⟨B, hLB, hB⟩ := ds_bits hL
  obtain ⟨c, px', py', hA, hX, hY⟩ := ds_rcv (C := C) (w := w) (pw := pw) (fc := fc) (t := t) (ff := ff) (P := P) (py := py) hn hLB hB
  exact hX _ (hY _ ⟨rfl, ds_mk hn hL hC hp⟩)
theorem i_vc_place {k : Nat} {u : SX} {v : SY} (I : i_Rel k u v) (hk : k + 3 ≤ 1536) (v1 : Int32) : wpX_place (fun r u' => wpY_place (fun r' v' => r' = r ∧ i_Rel (k + 3) u' v') v v1) u v1 := by
  obtain ⟨n, t, fc, ff, L, C, P, w, pw, py, rfl, rfl, hn, hL, hC, hp⟩ := I
  obtain ⟨B, hLB, hB⟩ := ds_bits hL
  obtain ⟨c, px', py', hA, hX, hY⟩ := ds_rcv (C := C) (w := w) (pw := pw) (fc := fc) (t := t) (ff := ff) (P := P) (py := py) hn hLB hB
  have hc := hA.1
  refine hX _ ?_
  by_cases h0 : v1 < 0
  · exact br_t h0 (hY _ (br_t h0 ⟨rfl, ds_mk hn hL hC hp⟩))
  · by_cases h1 : v1 < nI c
    · obtain ⟨j, hj, rfl⟩ := nI_of h0
      have hjc := (nI_ltI hj (by omega)).mp h1
      obtain ⟨q, hq, ex, ey⟩ := hA.2 j hjc
      refine br_f h0 (br_t h1 ⟨vp_in_nI (by omega) (by omega), hY _ (br_f h0 (br_f (nI_ge hjc (by omega)) ⟨vp_in_nI (by omega) (by omega), ?_, ds_mk hn hL hC hp⟩))⟩)
      rw [nI_clamp hj, ex, ey]
    · exact br_f h0 (br_f h1 (hY _ (br_f h0 (br_t (Int32.not_lt.mp h1) ⟨rfl, ds_mk hn hL hC hp⟩))))
theorem i_vc_message {k : Nat} {u : SX} {v : SY} (I : i_Rel k u v) (hk : k + 3 ≤ 1536) (v1 : Int32) : wpX_message (fun r u' => wpY_message (fun r' v' => r' = r ∧ i_Rel (k + 3) u' v') v v1) u v1 := by
  obtain ⟨n, t, fc, ff, L, C, P, w, pw, py, rfl, rfl, hn, hL, hC, hp⟩ := I
  obtain ⟨B, hLB, hB⟩ := ds_bits hL
  obtain ⟨c, px', py', hA, hX, hY⟩ := ds_rcv (C := C) (w := w) (pw := pw) (fc := fc) (t := t) (ff := ff) (P := P) (py := py) hn hLB hB
  have hc := hA.1
  refine hX _ ?_
  by_cases h0 : v1 < 0
  · exact br_t h0 (hY _ (br_t h0 ⟨rfl, ds_mk hn hL hC hp⟩))
  · by_cases h1 : v1 < nI c
    · obtain ⟨j, hj, rfl⟩ := nI_of h0
      have hjc := (nI_ltI hj (by omega)).mp h1
      obtain ⟨q, hq, ex, ey⟩ := hA.2 j hjc
      obtain ⟨o0, n0, b0, x0⟩ := ds_fr (l := nI n) (t := nI c) (P := px') hLB hB hC q 0
      obtain ⟨o1, n1, b1, x1⟩ := ds_fr (l := nI n) (t := nI c) (P := px') hLB hB hC q 1
      have ex' : px' (nI j).toNatClampNeg = nI q := by rw [nI_clamp (by omega)]; exact ex
      have ey' : py' (nI j).toNatClampNeg = nI q := by rw [nI_clamp (by omega)]; exact ey
      have v6 : vp_in (nI j) 6 := vp_in_nI (by omega) (by omega)
      have key : ∀ r : Int32, ds_dr o0 o1 = r → wpY_message (fun r' v' => r' = r ∧ i_Rel (k + 3) (nI n, nI c, L, C, px') v') (nI n, fc, ff, L, w, pw, py) (nI j) := by
        intro r hr
        refine hY _ (br_f h0 (br_f (nI_ge hjc (by omega)) ⟨vp_in_nI (by omega) (by omega), ?_⟩))
        rw [ey']
        exact dy_de hp hLB hB (by omega) n0 n1 (fun w' => ⟨hr, ds_mk hn hL hC hp⟩)
      refine br_f h0 (br_t h1 ⟨v6, ?_⟩)
      rw [ex']
      refine dx_rw (f := 0) hB hLB (by omega) (by omega) ⟨v6, dx_rw (f := 1) hB hLB (by omega) (by omega) (x0 _ (x1 _ ?_))⟩
      cases o0 with
      | none => exact br_t rfl (key _ rfl)
      | some a =>
        have ha := ds_cw_lt (b0 a rfl)
        cases o1 with
        | none => exact br_f (ds_n3 (by omega)) (br_t rfl (key _ rfl))
        | some b =>
          have hb := ds_cw_lt (b1 b rfl)
          exact br_f (ds_n3 (by omega)) (br_f (ds_n3 (by omega)) (dx_msg ha hb (key _ rfl)))
    · exact br_f h0 (br_f h1 (hY _ (br_f h0 (br_t (Int32.not_lt.mp h1) ⟨rfl, ds_mk hn hL hC hp⟩))))
theorem i_vc_mended {k : Nat} {u : SX} {v : SY} (I : i_Rel k u v) (hk : k + 3 ≤ 1536) (v1 : Int32) : wpX_mended (fun r u' => wpY_mended (fun r' v' => r' = r ∧ i_Rel (k + 3) u' v') v v1) u v1 := by
  obtain ⟨n, t, fc, ff, L, C, P, w, pw, py, rfl, rfl, hn, hL, hC, hp⟩ := I
  obtain ⟨B, hLB, hB⟩ := ds_bits hL
  obtain ⟨c, px', py', hA, hX, hY⟩ := ds_rcv (C := C) (w := w) (pw := pw) (fc := fc) (t := t) (ff := ff) (P := P) (py := py) hn hLB hB
  have hc := hA.1
  refine hX _ ?_
  by_cases h0 : v1 < 0
  · exact br_t h0 (hY _ (br_t h0 ⟨rfl, ds_mk hn hL hC hp⟩))
  · by_cases h1 : v1 < nI c
    · obtain ⟨j, hj, rfl⟩ := nI_of h0
      have hjc := (nI_ltI hj (by omega)).mp h1
      obtain ⟨q, hq, ex, ey⟩ := hA.2 j hjc
      obtain ⟨o0, n0, b0, x0⟩ := ds_fr (l := nI n) (t := nI c) (P := px') hLB hB hC q 0
      obtain ⟨o1, n1, b1, x1⟩ := ds_fr (l := nI n) (t := nI c) (P := px') hLB hB hC q 1
      have ex' : px' (nI j).toNatClampNeg = nI q := by rw [nI_clamp (by omega)]; exact ex
      have ey' : py' (nI j).toNatClampNeg = nI q := by rw [nI_clamp (by omega)]; exact ey
      have v6 : vp_in (nI j) 6 := vp_in_nI (by omega) (by omega)
      refine br_f h0 (br_t h1 ⟨v6, ?_⟩)
      rw [ex']
      refine dx_rw (f := 0) hB hLB (by omega) (by omega) ⟨v6, dx_rw (f := 1) hB hLB (by omega) (by omega) (dx_sm hB b0 x0 (dx_sm hB b1 x1 (hY _ (br_f h0 (br_t h1 ⟨vp_in_nI (by omega) (by omega), ?_⟩)))))⟩
      rw [ey']
      exact dy_de hp hLB hB (by omega) n0 n1 (fun w' => ⟨(nI_add _ _).symm, ds_mk hn hL hC hp⟩)
    · exact br_f h0 (br_f h1 (hY _ (br_f h0 (br_f h1 ⟨rfl, ds_mk hn hL hC hp⟩))))
theorem i_vc_good {k : Nat} {u : SX} {v : SY} (I : i_Rel k u v) (hk : k + 3 ≤ 1536) : wpX_good (fun r u' => wpY_good (fun r' v' => r' = r ∧ i_Rel (k + 3) u' v') v) u := by
  obtain ⟨n, t, fc, ff, L, C, P, w, pw, py, rfl, rfl, hn, hL, hC, hp⟩ := I
  obtain ⟨B, hLB, hB⟩ := ds_bits hL
  obtain ⟨c, px', py', hA, hX, hY⟩ := ds_rcv (C := C) (w := w) (pw := pw) (fc := fc) (t := t) (ff := ff) (P := P) (py := py) hn hLB hB
  obtain ⟨r, gX, gY⟩ := ds_good (t0 := t) hn hLB hB hC hp hA c 0 0 (by omega)
  exact hX _ ⟨_, gX _ (hY _ ⟨_, gY _ fc w (fun fc' w' => ⟨rfl, ds_mk hn hL hC hp⟩)⟩)⟩
end
