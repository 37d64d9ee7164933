section YM
variable {post : Int32 → SY → Prop} {fn fc ff : Int32} {L pw py : Nat → Int32} {v : Nat → Nat}
theorem dy_try {w : Nat → Int32} (hp : ∀ i, i < 7 → pw i = nI (ds_pw i)) (hv : ∀ j, j < 7 → w j = nI (v j) ∧ v j < 8) {i x k y : Nat} (hi : i < 7) (hx : x < 8) (hk : k < 7) (hy : y < 8) (hik : i ≠ k) (h1 : ds_isC (ds_ch v i x k y) = true → ∀ w : Nat → Int32, (∀ j, j < 7 → w j = nI (ds_ch v i x k y j) ∧ ds_ch v i x k y j < 8) → post 1 (fn, nI ((if x = 0 then 0 else 1) + (if y = 0 then 0 else 1)), ff, L, w, pw, py)) (h0 : ds_isC (ds_ch v i x k y) = false → ∀ w : Nat → Int32, (∀ j, j < 7 → w j = nI (v j) ∧ v j < 8) → post 0 (fn, fc, ff, L, w, pw, py)) : wpY_tryChange post (fn, fc, ff, L, w, pw, py) (nI i) (nI x) (nI k) (nI y) := by
  have iI : vp_in (nI i) 7 := vp_in_nI hi (by omega)
  have iK : vp_in (nI k) 7 := vp_in_nI hk (by omega)
  have xi := ds_x8 (hv i hi).2 hx
  have h3 := ds_unI i (v i ^^^ x) xi hv
  have xk := ds_x8 (h3 k hk).2 hy
  have h6 := ds_unI k _ xk h3
  have e3 : upd w (nI i).toNatClampNeg (w (nI i).toNatClampNeg ^^^ nI x) = upd w i (nI (v i ^^^ x)) := by
    rw [nI_clamp (by omega), (hv i hi).1, nx_xor]
  have e6 : upd (upd w i (nI (v i ^^^ x))) (nI k).toNatClampNeg (upd w i (nI (v i ^^^ x)) (nI k).toNatClampNeg ^^^ nI y) = upd (upd w i (nI (v i ^^^ x))) k (nI (ds_un v i (v i ^^^ x) k ^^^ y)) := by
    rw [nI_clamp (by omega), (h3 k hk).1, nx_xor]
  refine ⟨iI, iI, nm_r e3 ⟨iK, iK, nm_r e6 (dy_ic h6 hp (fun z => br_f (by decide) ?_) (fun z => br_t rfl ⟨iI, iI, nm_e ⟨iK, iK, nm_e (h0 z _ ?_)⟩⟩))⟩⟩
  · have hS := h1 z _ h6
    refine pk_le x 0 (fun zx => ?_) (fun zx => ?_)
    · rw [if_pos (by omega)] at hS
      refine pk_le y 0 (fun zy => nm_r (nI_add 0 0) ?_) (fun zy => nm_r (nI_add 0 1) ?_)
      · rw [if_pos (by omega)] at hS; exact hS
      · rw [if_neg (by omega)] at hS; exact hS
    · rw [if_neg (by omega)] at hS
      refine pk_le y 0 (fun zy => nm_r (nI_add 1 0) ?_) (fun zy => nm_r (nI_add 1 1) ?_)
      · rw [if_pos (by omega)] at hS; exact hS
      · rw [if_neg (by omega)] at hS; exact hS
  · rw [nI_clamp (by omega), nI_clamp (by omega)]
    have z1 : upd (upd w i (nI (v i ^^^ x))) k (nI (ds_un v i (v i ^^^ x) k ^^^ y)) i ^^^ nI x = nI (v i) := by
      rw [(h6 i hi).1, nx_xor]
      refine congrArg nI ?_
      show ds_ch v i x k y i ^^^ x = v i
      rw [ds_chi hik, Nat.xor_assoc, Nat.xor_self, Nat.xor_zero]
    rw [z1]
    have h9 := ds_unI i (v i) (hv i hi).2 h6
    have z2 : upd (upd (upd w i (nI (v i ^^^ x))) k (nI (ds_un v i (v i ^^^ x) k ^^^ y))) i (nI (v i)) k ^^^ nI y = nI (v k) := by
      rw [(h9 k hk).1, nx_xor, ds_unn (Ne.symm hik)]
      refine congrArg nI ?_
      show ds_ch v i x k y k ^^^ y = v k
      rw [ds_chk hik, Nat.xor_assoc, Nat.xor_self, Nat.xor_zero]
    rw [z2]
    intro j hj
    by_cases zk : j = k
    · subst zk; rw [pk_us]; exact ⟨rfl, (hv _ hj).2⟩
    · rw [pk_un zk]
      by_cases zi : j = i
      · subst zi; rw [pk_us]; exact ⟨rfl, (hv _ hj).2⟩
      · rw [pk_un zi, pk_un zk, pk_un zi]; exact hv j hj
end YM
