/-! the component's private methods against the pure picture -/
theorem ix_thr {post : Int32 → Prop} {u : SX} {t : Nat} (ht : t < 3) (h : post 1) : wpX_isThread post u (nI t) := by
  obtain ⟨ex, sk, ec, o, a, b, cn, bg, st, nc, wo, fa, en, ne⟩ := u
  exact br_f (nI_pos (by omega)) (br_f (nI_ge (b := 3) ht (by decide)) h)
theorem ix_thrN {post : Int32 → Prop} {u : SX} {x : Int32} (hx : x < 0 ∨ nI 3 ≤ x) (h : post 0) : wpX_isThread post u x := by
  obtain ⟨ex, sk, ec, o, a, b, cn, bg, st, nc, wo, fa, en, ne⟩ := u
  exact br_c (fun _ => h) (fun g => br_t (hx.resolve_left g) h)
theorem ix_var {post : Int32 → Prop} {u : SX} {t : Nat} (ht : t < 4) (h : post 1) : wpX_isVariable post u (nI t) := by
  obtain ⟨ex, sk, ec, o, a, b, cn, bg, st, nc, wo, fa, en, ne⟩ := u
  exact br_f (nI_pos (by omega)) (br_f (nI_ge (b := 4) ht (by decide)) h)
theorem ix_varN {post : Int32 → Prop} {u : SX} {x : Int32} (hx : x < 0 ∨ nI 4 ≤ x) (h : post 0) : wpX_isVariable post u x := by
  obtain ⟨ex, sk, ec, o, a, b, cn, bg, st, nc, wo, fa, en, ne⟩ := u
  exact br_c (fun _ => h) (fun g => br_t (hx.resolve_left g) h)
def ie_cn (c : Nat → Nat) (cn : Nat → Int32) : Prop := ∀ t, t < 3 → cn t = nI (c t)
theorem ie_cn_sum {c : Nat → Nat} {cn : Nat → Int32} (h : ie_cn c cn) : cn 0 + cn 1 + cn 2 = nI (c 0 + c 1 + c 2) := by
  rw [h 0 (by decide), h 1 (by decide), h 2 (by decide), nI_add, nI_add]
section
variable {o a b : Nat → Int32} {m : Nat → Int32} {t i : Nat}
theorem ie_nx0 (h : o i = 0) : ie_nx o a b m t i = upd m (4 + t * 2 + ie_b1 (a i)) (m (ie_b3 (b i))) := if_pos h
theorem ie_nx1 (h : o i = 1) : ie_nx o a b m t i = upd m (ie_b3 (b i)) (m (4 + t * 2 + ie_b1 (a i))) := by simp [ie_nx, h]
theorem ie_nx2 (h : o i = 2) : ie_nx o a b m t i = upd m (4 + t * 2 + ie_b1 (a i)) (m (4 + t * 2 + ie_b1 (a i)) + b i) := by simp [ie_nx, h]
theorem ie_nx3 (h : o i = 3) : ie_nx o a b m t i = upd m (ie_b3 (b i)) (a i) := by simp [ie_nx, h]
theorem ie_nx4 (h : o i = 4) : ie_nx o a b m t i = upd m (10 + ie_b1 (a i)) (nI (t + 1)) := by simp [ie_nx, h]
theorem ie_nx5 (h : o i = 5) (g : m (10 + ie_b1 (a i)) = nI (t + 1)) : ie_nx o a b m t i = upd m (10 + ie_b1 (a i)) 0 := by simp [ie_nx, h, g]
theorem ie_nx5n (h : o i = 5) (g : ¬ m (10 + ie_b1 (a i)) = nI (t + 1)) : ie_nx o a b m t i = m := by simp [ie_nx, h, g]
theorem ie_nx7 (h : o i = 7) : ie_nx o a b m t i = upd (upd m (4 + t * 2 + ie_b1 (a i)) (m (ie_b3 (b i)))) (ie_b3 (b i)) (m (4 + t * 2 + ie_b1 (a i))) := by simp [ie_nx, h]
theorem ie_nxd (h0 : ¬ o i = 0) (h1 : ¬ o i = 1) (h2 : ¬ o i = 2) (h3 : ¬ o i = 3) (h4 : ¬ o i = 4) (h5 : ¬ o i = 5) (h7 : ¬ o i = 7) : ie_nx o a b m t i = m := by simp [ie_nx, h0, h1, h2, h3, h4, h5, h7]
end
section
variable {ex sk ec : Int32} {o a b cn bg st nc wo fa en : Nat → Int32} {ne : Nat}
def ie_cd (o a b m : Nat → Int32) (i : Nat) : Bool := if o i = 4 then decide (m (10 + ie_b1 (a i)) = 0) else if o i = 8 then decide (m (ie_b3 (a i)) = b i) else true
theorem ix_cbc {post : Int32 → Prop} {r i : Nat} {m : Nat → Int32} {p : Nat → Nat} (hrow : ie_row st r m p) (hr : r + 15 ≤ 165) (hi : i < 15) (K : post (ie_bi (ie_cd o a b m i))) : wpX_canBeCarriedOut post (ex, sk, ec, o, a, b, cn, bg, st, nc, wo, fa, en, ne) (nI r) (nI i) := by
  have vi : vp_in (nI i) 15 := vp_in_nI hi (by decide)
  have ci : (nI i).toNatClampNeg = i := nI_clamp (by omega)
  have b1 := ie_b1_lt (a i)
  have b3 := ie_b3_lt (a i)
  have cl : (nI (r + (10 + ie_b1 (a i)))).toNatClampNeg = r + (10 + ie_b1 (a i)) := nI_clamp (by omega)
  have cv : (nI (r + ie_b3 (a i))).toNatClampNeg = r + ie_b3 (a i) := nI_clamp (by omega)
  have s1 := hrow.1 (10 + ie_b1 (a i)) (by omega)
  have s2 := hrow.1 (ie_b3 (a i)) (by omega)
  unfold wpX_canBeCarriedOut
  dsimp only
  rw [ci, ie_lock, ie_var, cl, cv, s1, s2]
  unfold ie_cd at K
  refine ⟨vi, br_c (fun h4 => ⟨vi, vp_in_nI (by omega) (by decide), ?_⟩) (fun h4 => ⟨vi, br_c (fun h8 => ⟨vi, vp_in_nI (by omega) (by decide), vi, ?_⟩) (fun h8 => ?_)⟩)⟩
  · rw [if_pos h4] at K
    refine br_c (fun z => ?_) (fun z => ?_)
    · rw [decide_eq_true z] at K; exact K
    · rw [decide_eq_false z] at K; exact K
  · rw [if_neg h4, if_pos h8] at K
    refine br_c (fun z => ?_) (fun z => ?_)
    · rw [decide_eq_true z] at K; exact K
    · rw [decide_eq_false z] at K; exact K
  · rw [if_neg h4, if_neg h8] at K
    exact K
theorem ix_fails {post : Int32 → Prop} {r t i : Nat} {m : Nat → Int32} {p : Nat → Nat} (hrow : ie_row st r m p) (hr : r + 15 ≤ 165) (ht : t < 3) (hi : i < 15) (K : post (ie_bi (decide (o i = 6) && !decide (m (4 + t * 2 + ie_b1 (a i)) = b i)))) : wpX_fails post (ex, sk, ec, o, a, b, cn, bg, st, nc, wo, fa, en, ne) (nI r) (nI t) (nI i) := by
  have vi : vp_in (nI i) 15 := vp_in_nI hi (by decide)
  have ci : (nI i).toNatClampNeg = i := nI_clamp (by omega)
  have b1 := ie_b1_lt (a i)
  have cl : (nI (r + (4 + t * 2 + ie_b1 (a i)))).toNatClampNeg = r + (4 + t * 2 + ie_b1 (a i)) := nI_clamp (by omega)
  have s1 := hrow.1 (4 + t * 2 + ie_b1 (a i)) (by omega)
  unfold wpX_fails
  dsimp only
  rw [ci, ie_reg]
  refine ⟨vi, nm_e ⟨vi, br_c (fun h6 => ⟨vp_in_nI (by omega) (by decide), vi, ?_⟩) (fun h6 => ?_)⟩⟩
  · rw [cl, s1]
    rw [decide_eq_true h6, Bool.true_and] at K
    refine br_c (fun z => ?_) (fun z => ?_)
    · rw [decide_eq_true z] at K; exact K
    · rw [decide_eq_false z] at K; exact K
  · rw [decide_eq_false h6, Bool.false_and] at K
    exact K
theorem ix_carry {post : SX → Prop} {r t i : Nat} {m : Nat → Int32} {p : Nat → Nat} (hrow : ie_row st r m p) (hr : r + 15 ≤ 165) (ht : t < 3) (hi : i < 15) (K : ∀ st', (∀ j, j < r → st' j = st j) → ie_row st' r (ie_nx o a b m t i) p → post (ex, sk, ec, o, a, b, cn, bg, st', nc, wo, fa, en, ne)) : wpX_carryOut post (ex, sk, ec, o, a, b, cn, bg, st, nc, wo, fa, en, ne) (nI r) (nI t) (nI i) := by
  have vi : vp_in (nI i) 15 := vp_in_nI hi (by decide)
  have ci : (nI i).toNatClampNeg = i := nI_clamp (by omega)
  have b1 := ie_b1_lt (a i)
  have b3 := ie_b3_lt (b i)
  have cr : (nI (r + (4 + t * 2 + ie_b1 (a i)))).toNatClampNeg = r + (4 + t * 2 + ie_b1 (a i)) := nI_clamp (by omega)
  have cv : (nI (r + ie_b3 (b i))).toNatClampNeg = r + ie_b3 (b i) := nI_clamp (by omega)
  have cl : (nI (r + (10 + ie_b1 (a i)))).toNatClampNeg = r + (10 + ie_b1 (a i)) := nI_clamp (by omega)
  have vr : vp_in (nI (r + (4 + t * 2 + ie_b1 (a i)))) 165 := vp_in_nI (by omega) (by decide)
  have vv : vp_in (nI (r + ie_b3 (b i))) 165 := vp_in_nI (by omega) (by decide)
  have vl : vp_in (nI (r + (10 + ie_b1 (a i)))) 165 := vp_in_nI (by omega) (by decide)
  have sr := hrow.1 (4 + t * 2 + ie_b1 (a i)) (by omega)
  have sv := hrow.1 (ie_b3 (b i)) (by omega)
  have sl := hrow.1 (10 + ie_b1 (a i)) (by omega)
  have kr : 4 + t * 2 + ie_b1 (a i) < 12 := by omega
  have kv : ie_b3 (b i) < 12 := by omega
  have kl : 10 + ie_b1 (a i) < 12 := by omega
  have U : ∀ (s : Nat → Int32) (k : Nat) (x : Int32) (j : Nat), j < r → upd s (r + k) x j = s j := fun s k x j hj => pk_un (by omega)
  unfold wpX_carryOut
  dsimp only
  rw [ci, ie_reg, ie_lock, ie_var]
  refine ⟨vi, nm_e ⟨vi, nm_e ⟨vi, nm_e ⟨vi, ?_⟩⟩⟩⟩
  rw [cr, cv, cl, sr, sv, sl, nI_1]
  by_cases h0 : o i = 0
  · refine nm_r h0 (br_f (by decide) (br_f (by decide) (br_t rfl ⟨vv, vr, nm_e (K _ (fun j hj => U _ _ _ j hj) ?_)⟩)))
    rw [ie_nx0 h0]
    exact ie_row_u _ hrow kr
  by_cases h1 : o i = 1
  · refine nm_r h1 (br_f (by decide) (br_f (by decide) (br_f (by decide) (br_t rfl ⟨vr, vv, nm_e (K _ (fun j hj => U _ _ _ j hj) ?_)⟩))))
    rw [ie_nx1 h1]
    exact ie_row_u _ hrow kv
  by_cases h2 : o i = 2
  · refine nm_r h2 (br_f (by decide) (br_f (by decide) (br_f (by decide) (br_f (by decide) (br_t rfl ⟨vr, vi, vr, nm_e (K _ (fun j hj => U _ _ _ j hj) ?_)⟩)))))
    rw [ie_nx2 h2]
    exact ie_row_u _ hrow kr
  by_cases h3 : o i = 3
  · refine nm_r h3 (br_f (by decide) (br_f (by decide) (br_f (by decide) (br_f (by decide) (br_f (by decide) (br_t rfl ⟨vi, vv, nm_e (K _ (fun j hj => U _ _ _ j hj) ?_)⟩))))))
    rw [ie_nx3 h3]
    exact ie_row_u _ hrow kv
  by_cases h4 : o i = 4
  · refine nm_r h4 (br_f (by decide) (br_f (by decide) (br_f (by decide) (br_f (by decide) (br_f (by decide) (br_f (by decide) (br_t rfl ⟨vl, nm_e (K _ (fun j hj => U _ _ _ j hj) ?_)⟩)))))))
    rw [ie_nx4 h4]
    exact ie_row_u _ hrow kl
  by_cases h5 : o i = 5
  · refine nm_r h5 (br_f (by decide) (br_f (by decide) (br_f (by decide) (br_f (by decide) (br_f (by decide) (br_f (by decide) (br_f (by decide) (br_t rfl ⟨vl, br_c (fun z => ⟨vl, nm_e (K _ (fun j hj => U _ _ _ j hj) ?_)⟩) (fun z => K _ (fun j hj => rfl) ?_)⟩))))))))
    · rw [ie_nx5 h5 z]
      exact ie_row_u _ hrow kl
    · rw [ie_nx5n h5 z]
      exact hrow
  by_cases h7 : o i = 7
  · refine nm_r h7 (br_f (by decide) (br_f (by decide) (br_f (by decide) (br_f (by decide) (br_f (by decide) (br_f (by decide) (br_f (by decide) (br_f (by decide) (br_f (by decide) (br_t rfl ⟨vr, nm_e ⟨vv, vr, nm_e ⟨vv, nm_e (K _ (fun j hj => (U _ _ _ j hj).trans (U _ _ _ j hj)) ?_)⟩⟩⟩))))))))))
    rw [ie_nx7 h7]
    exact ie_row_u _ (ie_row_u _ hrow kr) kv
  have hd : post (ex, sk, ec, o, a, b, cn, bg, st, nc, wo, fa, en, ne) := K _ (fun j hj => rfl) (by rw [ie_nxd h0 h1 h2 h3 h4 h5 h7]; exact hrow)
  exact nm_e (br_c (fun _ => hd) (fun _ => br_c (fun _ => hd) (fun _ => br_f h0 (br_f h1 (br_f h2 (br_f h3 (br_f h4 (br_f h5 (br_c (fun _ => hd) (fun _ => br_f h7 trivial))))))))))
end
