/-! ===== the reference: mend and decode against the nearest code word or none ===== -/
section YE
variable {post : Int32 → SY → Prop} {fn fc ff : Int32} {L pw py : Nat → Int32}
theorem dy_me {v : Nat → Nat} {w : Nat → Int32} {o : Option Nat} (hp : ∀ i, i < 7 → pw i = nI (ds_pw i)) (hv : ∀ j, j < 7 → w j = nI (v j) ∧ v j < 8) (ho : ds_near v o) (hS : ∀ p, o = some p → ∀ w : Nat → Int32, (∀ j, j < 7 → w j = nI (ds_sy (ds_cw p) j)) → post 1 (fn, nI (ds_d v (ds_sy (ds_cw p)) 7), ff, L, w, pw, py)) (hF : o = none → ∀ w : Nat → Int32, post 0 (fn, 0, ff, L, w, pw, py)) : wpY_mend post (fn, fc, ff, L, w, pw, py) := by
  have hS2 : ∀ (c : Nat → Nat), ds_isC c = true → ds_d v c 7 ≤ 2 → ∀ w : Nat → Int32, (∀ j, j < 7 → w j = nI (c j) ∧ c j < 8) → post 1 (fn, nI (ds_d v c 7), ff, L, w, pw, py) := by
    intro c hc hd w' hw'
    obtain ⟨q, hq, eq⟩ := ds_tab (fun i hi => (hw' i hi).2) hc
    have e := ds_d_congr (a := v) (c := v) 7 (fun i hi => ⟨rfl, eq i hi⟩)
    rw [e] at hd ⊢
    cases o with
    | none => exact absurd (ho q hq) (by omega)
    | some p =>
      have hpq := ds_uniq ho.1 hq ho.2 hd
      subst hpq
      exact hS p rfl w' (fun j hj => by rw [(hw' j hj).1, eq j hj])
  refine dy_ic hv hp (fun z => br_f (by decide) ?_) (fun z => br_t rfl ⟨50, dy_me16 hp hS2 (fun ht w' => ?_) 49 0 w rfl (fun z hz => absurd hz (Nat.not_lt_zero z)) hv⟩)
  · have r := hS2 v z (by rw [ds_dd]; omega) w hv
    rw [ds_dd] at r
    exact r
  · cases o with
    | none => exact hF rfl w'
    | some p => exact absurd (ds_none (fun j hj => (hv j hj).2) (fun j _ => ds_sy_lt (ds_cw p) j) (ds_t1 p ho.1).1 z ht) (by have := ho.2; omega)
/-- the message so far with three more symbols -/
def dy_or (x : Int32) (w : Nat → Int32) (f : Nat) : Int32 := ((x ||| (w 4 <<< (nI (15 - 3 * f) &&& 31))) ||| (w 5 <<< (nI (9 - 3 * f) &&& 31))) ||| (w 6 <<< (nI (3 - 3 * f) &&& 31))
theorem dy_sh {i f : Nat} (hi : i < 3) (hf : f < 2) : ((15 : Int32) - (6 * nI i)) - (3 * nI f) = nI (15 - 6 * i - 3 * f) := by
  rw [show (6 : Int32) * nI i = nI (6 * i) from pk_mul 6 i, show (3 : Int32) * nI f = nI (3 * f) from pk_mul 3 f, show (15 : Int32) - nI (6 * i) = nI (15 - 6 * i) from pk_sub (a := 15) (by omega), pk_sub (by omega)]
theorem dy_de1 {J : Int32 → Int32 → Int32 → Int32 → Int32 → Int32 → Int32 → (Nat → Int32) → (Nat → Int32) → (Nat → Int32) → (Nat → Int32) → Prop} {w : Nat → Int32} {x1 x3 x4 x : Int32} {f i n : Nat} (hi : i < 3) (hf : f < 2) (h : wY_decode_35 post J x1 x3 x4 (nI f) fn fc ff L w pw py n (x ||| (w (4 + i) <<< (nI (15 - 6 * i - 3 * f) &&& 31))) (nI (i + 1))) : wY_decode_35 post J x1 x3 x4 (nI f) fn fc ff L w pw py (n + 1) x (nI i) := by
  have e4 : (4 : Int32) + nI i = nI (4 + i) := nI_add 4 i
  refine br_f (nI_ge (b := 3) (by omega) (by omega)) ⟨pk_in (4 + i) 7 (by omega) e4, ?_⟩
  rw [e4, nI_clamp (by omega), dy_sh hi hf]
  exact nm_e (nm_r (nI_1 i) h)
theorem dy_de35 {J : Int32 → Int32 → Int32 → Int32 → Int32 → Int32 → Int32 → (Nat → Int32) → (Nat → Int32) → (Nat → Int32) → (Nat → Int32) → Prop} {w : Nat → Int32} {x1 x3 x4 x : Int32} {f : Nat} (hf : f < 2) (h : J (dy_or x w f) x3 (x4 + fc) (nI (f + 1)) fn fc ff L w pw py) : wY_decode_35 post J x1 x3 x4 (nI f) fn fc ff L w pw py 4 x 0 :=
  dy_de1 (i := 0) (by omega) hf (dy_de1 (i := 1) (by omega) hf (dy_de1 (i := 2) (by omega) hf (br_t (by decide) (nm_e (nm_r (nI_1 f) (by
    rw [show 15 - 6 * 0 - 3 * f = 15 - 3 * f by omega, show 15 - 6 * 1 - 3 * f = 9 - 3 * f by omega, show 15 - 6 * 2 - 3 * f = 3 - 3 * f by omega]
    exact h))))))
def ds_dc (v : Nat → Nat) : Option Nat → Nat
  | some p => ds_d v (ds_sy (ds_cw p)) 7
  | none => 0
def ds_lo : Option Nat → Int32 → Int32
  | some _, x => x
  | none, _ => 1
theorem dy_de10 {B : Nat → Nat} {w : Nat → Int32} {x2 x3 x4 : Int32} {p f n : Nat} {o : Option Nat} (hp : ∀ i, i < 7 → pw i = nI (ds_pw i)) (hL : ∀ j, L j = nI (B j)) (hB : ∀ j, B j < 2) (hp3 : p + 50 ≤ 300) (hf : f < 2) (ho : ds_near (ds_R B p f) o) (h : ∀ (y : Int32) (w : Nat → Int32), (∀ q, o = some q → y = dy_or x2 (fun i => nI (ds_sy (ds_cw q) i)) f) → wY_decode_10 post (nI p) n y (ds_lo o x3) (x4 + nI (ds_dc (ds_R B p f) o)) (nI (f + 1)) fn (nI (ds_dc (ds_R B p f) o)) ff L w pw py) : wY_decode_10 post (nI p) (n + 1) x2 x3 x4 (nI f) fn fc ff L w pw py := by
  refine br_f (nI_ge (b := 2) hf (by omega)) (dy_re hL hB hp3 hf (fun w1 hw1 => dy_me hp (fun j hj => ⟨hw1 j hj, ds_R_lt hB p f j⟩) ho (fun q hq w2 hw2 => br_f (by decide) ⟨4, dy_de35 hf ?_⟩) (fun hq w2 => br_t rfl ⟨4, dy_de35 hf ?_⟩)))
  · subst hq
    refine h _ w2 (fun q' hq' => ?_)
    cases hq'
    unfold dy_or
    rw [hw2 4 (by omega), hw2 5 (by omega), hw2 6 (by omega)]
  · subst hq
    exact h _ w2 (fun q' hq' => by cases hq')
theorem ds_or6 (a c e b d g : Nat) : ((((a ||| c) ||| e) ||| b) ||| d) ||| g = ((((a ||| b) ||| c) ||| d) ||| e) ||| g := by
  ac_rfl
theorem dy_msg (E O : Nat) : dy_or (dy_or 0 (fun i => nI (ds_sy E i)) 0) (fun i => nI (ds_sy O i)) 1 = nI (ds_msg E O) := by
  have a4 := ds_sy_lt E 4; have a5 := ds_sy_lt E 5; have a6 := ds_sy_lt E 6
  have b4 := ds_sy_lt O 4; have b5 := ds_sy_lt O 5; have b6 := ds_sy_lt O 6
  unfold dy_or ds_msg
  dsimp only
  generalize ds_sy E 4 = x4 at *
  generalize ds_sy E 5 = x5 at *
  generalize ds_sy E 6 = x6 at *
  generalize ds_sy O 4 = y4 at *
  generalize ds_sy O 5 = y5 at *
  generalize ds_sy O 6 = y6 at *
  rw [ds_shl (a := x4) (k := 15 - 3 * 0) (by omega) (by omega), ds_shl (a := x5) (k := 9 - 3 * 0) (by omega) (by omega), ds_shl (a := x6) (k := 3 - 3 * 0) (by omega) (by omega), ds_shl (a := y4) (k := 15 - 3 * 1) (by omega) (by omega), ds_shl (a := y5) (k := 9 - 3 * 1) (by omega) (by omega), ds_shl (a := y6) (k := 3 - 3 * 1) (by omega) (by omega), Int32.zero_or, nx_or, nx_or, nx_or, nx_or, nx_or, ds_or6]
  refine congrArg nI ?_
  show ((((x4 * 2 ^ 15 ||| y4 * 2 ^ 12) ||| x5 * 2 ^ 9) ||| y5 * 2 ^ 6) ||| x6 * 2 ^ 3) ||| y6 * 2 ^ 0 = _
  rw [ds_or (k := 15) (b := y4 * 2 ^ 12) (by omega), show x4 * 2 ^ 15 + y4 * 2 ^ 12 = (x4 * 8 + y4) * 2 ^ 12 by omega,
    ds_or (k := 12) (b := x5 * 2 ^ 9) (by omega), show (x4 * 8 + y4) * 2 ^ 12 + x5 * 2 ^ 9 = ((x4 * 8 + y4) * 8 + x5) * 2 ^ 9 by omega,
    ds_or (k := 9) (b := y5 * 2 ^ 6) (by omega), show ((x4 * 8 + y4) * 8 + x5) * 2 ^ 9 + y5 * 2 ^ 6 = (((x4 * 8 + y4) * 8 + x5) * 8 + y5) * 2 ^ 6 by omega,
    ds_or (k := 6) (b := x6 * 2 ^ 3) (by omega), show (((x4 * 8 + y4) * 8 + x5) * 8 + y5) * 2 ^ 6 + x6 * 2 ^ 3 = ((((x4 * 8 + y4) * 8 + x5) * 8 + y5) * 8 + x6) * 2 ^ 3 by omega,
    ds_or (k := 3) (b := y6 * 2 ^ 0) (by omega)]
  omega
def ds_dr : Option Nat → Option Nat → Int32
  | some a, some b => nI (ds_msg (ds_cw a) (ds_cw b))
  | some _, none => -3
  | none, _ => -3
theorem dy_de {B : Nat → Nat} {w : Nat → Int32} {p : Nat} {o0 o1 : Option Nat} (hp : ∀ i, i < 7 → pw i = nI (ds_pw i)) (hL : ∀ j, L j = nI (B j)) (hB : ∀ j, B j < 2) (hp3 : p + 50 ≤ 300) (h0 : ds_near (ds_R B p 0) o0) (h1 : ds_near (ds_R B p 1) o1) (h : ∀ w : Nat → Int32, post (ds_dr o0 o1) (fn, nI (ds_dc (ds_R B p 0) o0 + ds_dc (ds_R B p 1) o1), ff, L, w, pw, py)) : wpY_decode post (fn, fc, ff, L, w, pw, py) (nI p) := by
  refine ⟨3, dy_de10 (f := 0) hp hL hB hp3 (by omega) h0 (fun y w1 hy => dy_de10 (f := 1) hp hL hB hp3 (by omega) h1 (fun z w2 hz => br_t (by decide) ?_))⟩
  rw [show (0 : Int32) + nI (ds_dc (ds_R B p 0) o0) + nI (ds_dc (ds_R B p 1) o1) = nI (ds_dc (ds_R B p 0) o0 + ds_dc (ds_R B p 1) o1) from by rw [Int32.zero_add, nI_add]]
  cases o0 with
  | none =>
    cases o1 with
    | none => exact br_f (by decide) (h w2)
    | some b => exact br_f (show ¬ (1 : Int32) = 0 by decide) (h w2)
  | some a =>
    cases o1 with
    | none => exact br_f (show ¬ (1 : Int32) = 0 by decide) (h w2)
    | some b =>
      refine br_t rfl ?_
      rw [hz b rfl, hy a rfl, dy_msg]
      exact h w2
end YE
