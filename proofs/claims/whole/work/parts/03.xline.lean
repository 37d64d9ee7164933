/-! ===== the component: messages, payloads, what is read off the line ===== -/
def ds_msg (E O : Nat) : Nat := ((((ds_sy E 4 * 8 + ds_sy O 4) * 8 + ds_sy E 5) * 8 + ds_sy O 5) * 8 + ds_sy E 6) * 8 + ds_sy O 6
/-- a number below 2^k laid beneath a multiple of 2^k -/
theorem ds_or {a b k : Nat} (hb : b < 2 ^ k) : a * 2 ^ k ||| b = a * 2 ^ k + b := by
  rw [← Nat.shiftLeft_eq, Nat.shiftLeft_add_eq_or_of_lt hb]
theorem dx_ms1 {post : Int32 → Prop} {x0 x1 : Int32} {n m W r : Nat} (hW : W < 2 ^ 31) (hm : m * 8 < 2 ^ 30) (hr : r < 6) (h : wX_messageOf_4 post x0 x1 n (nI (m * 8 + ds_sy W (4 + r / 2))) (nI (r + 1))) : wX_messageOf_21 post (wX_messageOf_4 post x0 x1 n) x0 x1 (nI m) (nI r) (nI W) := by
  have hs := ds_sy_lt W (4 + r / 2)
  have e1 : (4 : Int32) + nI r / 2 = nI (4 + r / 2) := by
    rw [show nI r / 2 = nI (r / 2) from pk_div (d := 2) (by omega) (by omega) (by omega)]
    exact nI_add 4 (r / 2)
  have e2 : (nI m <<< ((3 : Int32) &&& 31)) ||| nI (ds_sy W (4 + r / 2)) = nI (m * 8 + ds_sy W (4 + r / 2)) := by
    rw [show nI m <<< ((3 : Int32) &&& 31) = nI (m * 2 ^ 3) from ds_shl (k := 3) (by omega) (by omega), nx_or, ds_or (k := 3) hs]
  refine ⟨by decide, ?_⟩
  rw [e1]
  exact dx_sym hW (by omega) (nm_r e2 (nm_r (nI_1 r) h))
theorem dx_ms2 {post : Int32 → Prop} {E O n m r : Nat} (hE : E < 2 ^ 21) (hO : O < 2 ^ 21) (hm : m * 8 < 2 ^ 30) (hr : r < 6) (h : wX_messageOf_4 post (nI E) (nI O) n (nI (m * 8 + ds_sy (if r % 2 = 0 then E else O) (4 + r / 2))) (nI (r + 1))) : wX_messageOf_4 post (nI E) (nI O) (n + 1) (nI m) (nI r) := by
  have e : nI r - nI r / 2 * 2 = nI (r % 2) := pk_rem (d := 2) (by omega) (by omega) (by omega)
  refine br_f (nI_ge (b := 6) (by omega) (by omega)) ⟨by decide, ?_⟩
  rw [e]
  refine pk_eq (r % 2) 0 (fun z => dx_ms1 (by omega) hm hr ?_) (fun z => dx_ms1 (by omega) hm hr ?_)
  · rwa [if_pos z] at h
  · rwa [if_neg z] at h
theorem dx_msg {post : Int32 → Prop} {E O : Nat} (hE : E < 2 ^ 21) (hO : O < 2 ^ 21) (h : post (nI (ds_msg E O))) : wpX_messageOf post (nI E) (nI O) := by
  have a4 := ds_sy_lt E 4; have a5 := ds_sy_lt E 5; have a6 := ds_sy_lt E 6
  have b4 := ds_sy_lt O 4; have b5 := ds_sy_lt O 5; have b6 := ds_sy_lt O 6
  refine ⟨7, dx_ms2 (m := 0) (r := 0) hE hO (by omega) (by omega) ?_⟩
  have e0 : 0 * 8 + ds_sy (if 0 % 2 = 0 then E else O) (4 + 0 / 2) = ds_sy E 4 := by show 0 * 8 + ds_sy E 4 = _; omega
  rw [e0]
  refine dx_ms2 (m := ds_sy E 4) (r := 1) hE hO (by omega) (by omega) ?_
  refine dx_ms2 (m := ds_sy E 4 * 8 + ds_sy O 4) (r := 2) hE hO (by omega) (by omega) ?_
  refine dx_ms2 (m := (ds_sy E 4 * 8 + ds_sy O 4) * 8 + ds_sy E 5) (r := 3) hE hO (by omega) (by omega) ?_
  refine dx_ms2 (m := ((ds_sy E 4 * 8 + ds_sy O 4) * 8 + ds_sy E 5) * 8 + ds_sy O 5) (r := 4) hE hO (by omega) (by omega) ?_
  refine dx_ms2 (m := (((ds_sy E 4 * 8 + ds_sy O 4) * 8 + ds_sy E 5) * 8 + ds_sy O 5) * 8 + ds_sy E 6) (r := 5) hE hO (by omega) (by omega) ?_
  exact br_t (by decide) h
def ds_pl (M f : Nat) : Nat := ds_sy M (5 - f) + 8 * ds_sy M (3 - f) + 64 * ds_sy M (1 - f)
theorem ds_pl_lt (M f : Nat) : ds_pl M f < 512 := by
  unfold ds_pl
  have := ds_sy_lt M (5 - f); have := ds_sy_lt M (3 - f); have := ds_sy_lt M (1 - f)
  omega
theorem dx_pl1 {post : Int32 → Prop} {n M f v i : Nat} (hM : M < 2 ^ 31) (hf : f < 2) (hi : i < 3) (hv : v < 8 ^ i) (h : wX_payloadOf_4 post (nI M) (nI f) n (nI (v + ds_sy M (5 - (2 * i + f)) * 8 ^ i)) (nI (i + 1))) : wX_payloadOf_4 post (nI M) (nI f) (n + 1) (nI v) (nI i) := by
  have hs := ds_sy_lt M (5 - (2 * i + f))
  have h8 : 8 ^ i ≤ 64 := by
    have h : i = 0 ∨ i = 1 ∨ i = 2 := by omega
    rcases h with rfl | rfl | rfl <;> decide
  have hb : ds_sy M (5 - (2 * i + f)) * 8 ^ i ≤ 7 * 64 := Nat.mul_le_mul (by omega) h8
  have e1 : (5 : Int32) - (2 * nI i + nI f) = nI (5 - (2 * i + f)) := by
    rw [show (2 : Int32) * nI i = nI (2 * i) from pk_mul 2 i, nI_add]
    exact pk_sub (a := 5) (by omega)
  have e2 : nI v ||| (nI (ds_sy M (5 - (2 * i + f))) <<< ((nI i * 3) &&& 31)) = nI (v + ds_sy M (5 - (2 * i + f)) * 8 ^ i) := by
    rw [show nI i * 3 = nI (i * 3) from pk_mul i 3, ds_shl (by omega) (by rw [ds_p8]; omega), nx_or, Nat.or_comm, ds_or (by rw [ds_p8]; exact hv), ds_p8, Nat.add_comm]
  exact br_f (nI_ge (b := 3) (by omega) (by omega)) (nm_r e1 (dx_sym hM (by omega) (nm_r e2 (nm_r (nI_1 i) h))))
theorem dx_pl {post : Int32 → Prop} {M f : Nat} (hM : M < 2 ^ 31) (hf : f < 2) (h : post (nI (ds_pl M f))) : wpX_payloadOf post (nI M) (nI f) := by
  have a := ds_sy_lt M (5 - (2 * 0 + f)); have b := ds_sy_lt M (5 - (2 * 1 + f)); have c := ds_sy_lt M (5 - (2 * 2 + f))
  refine ⟨4, dx_pl1 (v := 0) (i := 0) hM hf (by omega) (by decide) (dx_pl1 (i := 1) hM hf (by omega) (by omega) (dx_pl1 (i := 2) hM hf (by omega) (by omega) (br_t (by decide) ?_)))⟩
  have e : 0 + ds_sy M (5 - (2 * 0 + f)) * 8 ^ 0 + ds_sy M (5 - (2 * 1 + f)) * 8 ^ 1 + ds_sy M (5 - (2 * 2 + f)) * 8 ^ 2 = ds_pl M f := by
    unfold ds_pl
    rw [show 5 - (2 * 0 + f) = 5 - f from by omega, show 5 - (2 * 1 + f) = 3 - f from by omega, show 5 - (2 * 2 + f) = 1 - f from by omega]
    omega
  rw [e]
  exact h
/-! the line's bits as naturals -/
def ds_rb (B : Nat → Nat) (p : Nat) : Nat → Nat
  | 0 => 0
  | c + 1 => ds_rb B p c * 2 + B (p + c)
theorem ds_rb_lt {B : Nat → Nat} (hB : ∀ j, B j < 2) (p : Nat) : ∀ c, ds_rb B p c < 2 ^ c
  | 0 => (by decide : 0 < 2 ^ 0)
  | c + 1 => by
    have := ds_rb_lt hB p c
    have := hB (p + c)
    show ds_rb B p c * 2 + B (p + c) < 2 ^ (c + 1)
    rw [Nat.pow_succ]
    omega
theorem dx_rb1 {post : Int32 → Prop} {B : Nat → Nat} {l t : Int32} {L C P : Nat → Int32} (hB : ∀ j, B j < 2) (hL : ∀ j, L j = nI (B j)) {p c : Nat} (hc : c ≤ 8) (hp : p + c ≤ 300) (h : post (nI (ds_rb B p c))) : ∀ d i : Nat, i + d = c → wX_readBits_5 post (nI p) (nI c) l t L C P (d + 1) (nI (ds_rb B p i)) (nI (p + i)) := by
  intro d
  induction d with
  | zero =>
    intro i hi
    have hi' : i = c := by omega
    subst hi'
    refine br_t ?_ h
    rw [nI_add]
    exact nI_le (Nat.le_refl _) (by omega)
  | succ d ih =>
    intro i hi
    have hv := ds_rb_lt hB p i
    have h8 : 2 ^ i ≤ 2 ^ 8 := Nat.pow_le_pow_right (by decide) (by omega)
    have hb := hB (p + i)
    have e : (nI (ds_rb B p i) <<< ((1 : Int32) &&& 31)) ||| L (nI (p + i)).toNatClampNeg = nI (ds_rb B p (i + 1)) := by
      rw [nI_clamp (by omega), hL, show nI (ds_rb B p i) <<< ((1 : Int32) &&& 31) = nI (ds_rb B p i * 2 ^ 1) from ds_shl (k := 1) (by omega) (by omega), nx_or, ds_or (k := 1) hb]
      rfl
    refine br_f ?_ ⟨vp_in_nI (by omega) (by omega), nm_r e (nm_r (nI_1 _) (ih (i + 1) (by omega)))⟩
    rw [nI_add]
    exact nI_ge (by omega) (by omega)
theorem dx_rb {post : Int32 → Prop} {B : Nat → Nat} {l t : Int32} {L C P : Nat → Int32} (hB : ∀ j, B j < 2) (hL : ∀ j, L j = nI (B j)) {p c : Nat} (hc : c ≤ 8) (hp : p + c ≤ 300) (h : post (nI (ds_rb B p c))) : wpX_readBits post (l, t, L, C, P) (nI p) (nI c) :=
  ⟨c + 1, dx_rb1 hB hL hc hp h c 0 (by omega)⟩
/-! the sight -/
def ds_pc (x : Nat) : Nat → Nat
  | 0 => 0
  | i + 1 => ds_pc x i + x / 2 ^ i % 2
def ds_S (B : Nat → Nat) (p : Nat) : Prop := ds_pc (ds_rb B p 8 ^^^ 178) 8 ≤ 1
theorem ds_pc_le (x : Nat) : ∀ m, ds_pc x m ≤ m
  | 0 => Nat.le_refl _
  | m + 1 => by
    have := ds_pc_le x m
    show ds_pc x m + x / 2 ^ m % 2 ≤ m + 1
    omega
theorem dx_si1 {post : Int32 → Prop} {x : Nat} {l t : Int32} {L C P : Nat → Int32} (hx : x < 2 ^ 31) (h1 : ds_pc x 8 ≤ 1 → post 1) (h0 : ¬ ds_pc x 8 ≤ 1 → post 0) : ∀ d i : Nat, i + d = 8 → wX_isSight_17 post (nI x) l t L C P (d + 1) (nI (ds_pc x i)) (nI i) := by
  intro d
  induction d with
  | zero =>
    intro i hi
    have hi' : i = 8 := by omega
    subst hi'
    have := ds_pc_le x 8
    exact br_t (nI_le (a := 8) (Nat.le_refl _) (by omega)) (pk_lt 1 (ds_pc x 8) (fun z => h0 (by omega)) (fun z => h1 (by omega)))
  | succ d ih =>
    intro i hi
    have e : nI (ds_pc x i) + ((nI x >>> (nI i &&& 31)) &&& 1) = nI (ds_pc x (i + 1)) := by
      rw [ds_shr (by omega) hx, ds_and1 (Nat.lt_of_le_of_lt (Nat.div_le_self _ _) (by omega)), nI_add]
      rfl
    exact br_f (nI_ge (b := 8) (by omega) (by omega)) (nm_r e (nm_r (nI_1 _) (ih (i + 1) (by omega))))
theorem dx_si {post : Int32 → Prop} {B : Nat → Nat} {l t : Int32} {L C P : Nat → Int32} (hB : ∀ j, B j < 2) (hL : ∀ j, L j = nI (B j)) {p : Nat} (hp : p + 8 ≤ 300) (h1 : ds_S B p → post 1) (h0 : ¬ ds_S B p → post 0) : wpX_isSight post (l, t, L, C, P) (nI p) := by
  have hv := ds_rb_lt hB p 8
  have hx : ds_rb B p 8 ^^^ 178 < 2 ^ 8 := Nat.xor_lt_two_pow hv (by decide)
  unfold wpX_isSight
  dsimp only
  exact dx_rb (c := 8) hB hL (by omega) hp (nm_r (nx_xor (ds_rb B p 8) 178) ⟨9, dx_si1 (by omega) h1 h0 8 0 rfl⟩)
/-! the received word -/
def ds_wh (j : Nat) : Nat := (j * j + 3 * j + 5) % 8
theorem ds_wh_lt (j : Nat) : ds_wh j < 8 := Nat.mod_lt _ (by decide)
theorem ds_whI {j : Nat} (hj : j < 100) : (((nI j * nI j) + (3 * nI j)) + 5) &&& 7 = nI (ds_wh j) := by
  have hm : j * j ≤ 100 * 100 := Nat.mul_le_mul (by omega) (by omega)
  rw [pk_mul, show (3 : Int32) * nI j = nI (3 * j) from pk_mul 3 j, nI_add, show nI (j * j + 3 * j) + 5 = nI (j * j + 3 * j + 5) from nI_add _ 5, ds_and7 (by omega)]
  rfl
def ds_R (B : Nat → Nat) (p f i : Nat) : Nat := ds_rb B (p + 8 + 3 * (2 * i + f)) 3 ^^^ ds_wh (2 * i + f)
theorem ds_R_lt {B : Nat → Nat} (hB : ∀ j, B j < 2) (p f i : Nat) : ds_R B p f i < 8 := ds_x8 (ds_rb_lt hB _ 3) (ds_wh_lt _)
def ds_W (B : Nat → Nat) (p f : Nat) : Nat → Nat
  | 0 => 0
  | i + 1 => ds_W B p f i + ds_R B p f i * 8 ^ i
theorem ds_W_lt {B : Nat → Nat} (hB : ∀ j, B j < 2) (p f : Nat) : ∀ i, ds_W B p f i < 8 ^ i
  | 0 => (by decide : 0 < 8 ^ 0)
  | i + 1 => by
    have h1 := ds_W_lt hB p f i
    have h2 : ds_R B p f i * 8 ^ i ≤ 7 * 8 ^ i := Nat.mul_le_mul_right _ (by have := ds_R_lt hB p f i; omega)
    show ds_W B p f i + ds_R B p f i * 8 ^ i < 8 ^ (i + 1)
    rw [Nat.pow_succ]
    omega
theorem ds_sW {B : Nat → Nat} (hB : ∀ j, B j < 2) (p f : Nat) : ∀ i, i < 7 → ds_sy (ds_W B p f 7) i = ds_R B p f i := by
  have r0 := ds_R_lt hB p f 0; have r1 := ds_R_lt hB p f 1; have r2 := ds_R_lt hB p f 2; have r3 := ds_R_lt hB p f 3
  have r4 := ds_R_lt hB p f 4; have r5 := ds_R_lt hB p f 5; have r6 := ds_R_lt hB p f 6
  have e : ds_W B p f 7 = 0 + ds_R B p f 0 * 8 ^ 0 + ds_R B p f 1 * 8 ^ 1 + ds_R B p f 2 * 8 ^ 2 + ds_R B p f 3 * 8 ^ 3 + ds_R B p f 4 * 8 ^ 4 + ds_R B p f 5 * 8 ^ 5 + ds_R B p f 6 * 8 ^ 6 := rfl
  rw [e]
  unfold ds_sy
  apply ds_lt7 <;> omega
theorem ds_88 {i : Nat} (h : i < 7) : 8 ^ i ≤ 262144 := by
  have := Nat.pow_le_pow_right (n := 8) (by decide) (show i ≤ 6 by omega)
  exact Nat.le_trans this (by decide)
theorem dx_rw1 {post : Int32 → Prop} {B : Nat → Nat} {l t : Int32} {L C P : Nat → Int32} (hB : ∀ j, B j < 2) (hL : ∀ j, L j = nI (B j)) {p f : Nat} (hf : f < 2) (hp : p + 50 ≤ 300) (h : post (nI (ds_W B p f 7))) : ∀ d i : Nat, i + d = 7 → wX_receivedWord_5 post (nI p) (nI f) l t L C P (d + 1) (nI (ds_W B p f i)) (nI i) := by
  intro d
  induction d with
  | zero =>
    intro i hi
    have hi' : i = 7 := by omega
    subst hi'
    exact br_t (nI_le (a := 7) (Nat.le_refl _) (by omega)) h
  | succ d ih =>
    intro i hi
    have hR := ds_R_lt hB p f i
    have hW := ds_W_lt hB p f i
    have h8 := ds_88 (i := i) (by omega)
    have hm : ds_R B p f i * 8 ^ i ≤ 7 * 262144 := Nat.mul_le_mul (by omega) h8
    have e1 : (2 : Int32) * nI i + nI f = nI (2 * i + f) := by
      rw [show (2 : Int32) * nI i = nI (2 * i) from pk_mul 2 i, nI_add]
    have e2 : (nI p + 8) + (nI (2 * i + f) * 3) = nI (p + 8 + 3 * (2 * i + f)) := by
      rw [show nI p + 8 = nI (p + 8) from nI_add p 8, show nI (2 * i + f) * 3 = nI ((2 * i + f) * 3) from pk_mul _ 3, nI_add, Nat.mul_comm (2 * i + f) 3]
    have e3 : nI (ds_rb B (p + 8 + 3 * (2 * i + f)) 3) ^^^ nI (ds_wh (2 * i + f)) = nI (ds_R B p f i) := nx_xor _ _
    have e4 : nI (ds_W B p f i) ||| (nI (ds_R B p f i) <<< ((nI i * 3) &&& 31)) = nI (ds_W B p f (i + 1)) := by
      rw [show nI i * 3 = nI (i * 3) from pk_mul i 3, ds_shl (by omega) (by rw [ds_p8]; omega), nx_or, Nat.or_comm, ds_or (by rw [ds_p8]; exact hW), ds_p8, Nat.add_comm]
      rfl
    refine br_f (nI_ge (b := 7) (by omega) (by omega)) (nm_r e1 (nm_r e2 (dx_rb (c := 3) hB hL (by omega) (by omega) ?_)))
    unfold wpX_whitener
    rw [ds_whI (by omega)]
    exact nm_r e3 (nm_r e4 (nm_r (nI_1 i) (ih (i + 1) (by omega))))
theorem dx_rw {post : Int32 → Prop} {B : Nat → Nat} {l t : Int32} {L C P : Nat → Int32} (hB : ∀ j, B j < 2) (hL : ∀ j, L j = nI (B j)) {p f : Nat} (hf : f < 2) (hp : p + 50 ≤ 300) (h : post (nI (ds_W B p f 7))) : wpX_receivedWord post (l, t, L, C, P) (nI p) (nI f) :=
  ⟨8, dx_rw1 hB hL hf hp h 7 0 rfl⟩
