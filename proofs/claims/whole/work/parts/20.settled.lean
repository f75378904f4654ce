/-! what is owed: settled -/
section
variable {ex sk : Int32} {o a b cn bg st nc wo fa en : Nat → Int32} {fg ln cm sk2 fs fo : Int32} {ap rg va hd tn cd lo hi lr : Nat → Int32}
theorem ix_settled_l {post : Int32 → SX → Prop} {n : Nat} (hn : n ≤ 4200) (h0 : 0 < n)
    (K1 : (∀ j, j < 4 → ie_mn (fun k => en (k * 10 + j)) (n - 1) = ie_mx (fun k => en (k * 10 + j)) (n - 1)) → post 1 (ex, sk, nI n, o, a, b, cn, bg, st, nc, wo, fa, en, 42000))
    (K0 : (∃ j, j < 4 ∧ ¬ ie_mn (fun k => en (k * 10 + j)) (n - 1) = ie_mx (fun k => en (k * 10 + j)) (n - 1)) → post 0 (ex, sk, nI n, o, a, b, cn, bg, st, nc, wo, fa, en, 42000)) :
    ∀ d i : Nat, i + d = 4 → ∀ f : Nat, d < f → (∀ j, j < i → ie_mn (fun k => en (k * 10 + j)) (n - 1) = ie_mx (fun k => en (k * 10 + j)) (n - 1)) → wX_settled_42 post ex sk (nI n) o a b cn bg st nc wo fa en 42000 f (nI i) := by
  intro d
  induction d with
  | zero =>
    intro i hi f hf h
    obtain rfl : i = 4 := by omega
    cases f with
    | zero => omega
    | succ f => exact br_t (nI_le (a := 4) (Nat.le_refl 4) (by decide)) (K1 h)
  | succ d ih =>
    intro i hi f hf h
    cases f with
    | zero => omega
    | succ f =>
      refine br_f (nI_ge (b := 4) (by omega) (by decide)) (ix_least hn (by omega) rfl (fun q => absurd q (by omega)) (fun _ => ix_greatest hn (by omega) rfl (fun q => absurd q (by omega)) (fun _ => br_c (fun z => nm_r (nI_1 i) (ih (i + 1) (by omega) f (by omega) (fun j hj => ?_))) (fun z => K0 ⟨i, by omega, z⟩))))
      by_cases e : j = i
      · rw [e]
        exact z
      · exact h j (by omega)
theorem iy_settled_l {post : Int32 → SY → Prop}
    (K1 : (∀ j, j < 4 → lo j = hi j) → post 1 (fg, ln, cm, sk2, fs, fo, cn, o, a, b, bg, ap, rg, va, hd, tn, cd, lo, hi, lr))
    (K0 : (∃ j, j < 4 ∧ ¬ lo j = hi j) → post 0 (fg, ln, cm, sk2, fs, fo, cn, o, a, b, bg, ap, rg, va, hd, tn, cd, lo, hi, lr)) :
    ∀ d i : Nat, i + d = 4 → ∀ f : Nat, d < f → (∀ j, j < i → lo j = hi j) → wY_settled_26 post fg ln cm sk2 fs fo cn o a b bg ap rg va hd tn cd lo hi lr f (nI i) := by
  intro d
  induction d with
  | zero =>
    intro i hi f hf h
    obtain rfl : i = 4 := by omega
    cases f with
    | zero => omega
    | succ f => exact br_t (nI_le (a := 4) (Nat.le_refl 4) (by decide)) (K1 h)
  | succ d ih =>
    intro i hi' f hf h
    cases f with
    | zero => omega
    | succ f =>
      have ci : (nI i).toNatClampNeg = i := nI_clamp (by omega)
      have vi : vp_in (nI i) 4 := vp_in_nI (by omega) (by decide)
      have e1 : lo (nI i).toNatClampNeg = lo i := by rw [ci]
      have e2 : hi (nI i).toNatClampNeg = hi i := by rw [ci]
      refine br_f (nI_ge (b := 4) (by omega) (by decide)) ⟨vi, vi, br_c (fun z => nm_r (nI_1 i) (ih (i + 1) (by omega) f (by omega) (fun j hj => ?_))) (fun z => K0 ⟨i, by omega, ?_⟩)⟩
      · rw [e1, e2] at z
        by_cases e : j = i
        · rw [e]
          exact z
        · exact h j (by omega)
      · rw [e1, e2] at z
        exact z
end
theorem i_vc_settled {k : Nat} {u : SX} {v : SY} (I : i_Rel k u v) (hk : k + 5 ≤ 2560) : wpX_settled (fun r u' => wpY_settled (fun r' v' => r' = r ∧ i_Rel (k + 5) u' v') v) u := by
  obtain ⟨ex, sk, ec, o, a, b, cn, bg, st, nc, wo, fa, en, fg, ln, cm, sk2, fs, fo, ap, rg, va, hd, tn, cd, lo, hi, lr, c, rfl, rfl, hcn, hc, hex⟩ := I
  unfold wpX_settled
  dsimp only
  refine ix_exp2 hcn hc hex (fun sk' ec' st' nc' wo' fa' en' hX => ?_)
  dsimp only
  have hn := ie_n o a b bg hc
  have Y0 : (ie_has 1 (ie_L o a b c bg) = true ∨ ie_has 2 (ie_L o a b c bg) = true ∨ ie_has 3 (ie_L o a b c bg) = true ∨ ie_has 4 (ie_L o a b c bg) = true) → wpY_settled (fun r' v' => r' = 0 ∧ i_Rel (k + 5) (1, sk', ec', o, a, b, cn, bg, st', nc', wo', fa', en', 42000) v') (fg, ln, cm, sk2, fs, fo, cn, o, a, b, bg, ap, rg, va, hd, tn, cd, lo, hi, lr) := by
    intro h
    unfold wpY_settled
    dsimp only
    refine iy_explore (v := 0) (w := 0) (x := 0) (y := 0) (by decide) (by decide) hcn hc (fun fg' ln' cm' sk'' fs' fo' ap' rg' va' hd' tn' cd' lo' hi' lr' hY => ?_)
    dsimp only
    rw [hY.2.1]
    refine ie_bi_br (fun z => br_f ?_ ⟨rfl, i_mk (k + 5) hcn hc hX⟩) (fun z => ⟨rfl, i_mk (k + 5) hcn hc hX⟩)
    intro q
    rw [hY.2.2.1, ie_fm_0] at q
    obtain ⟨q2, q3, q4⟩ := q
    rw [z, q2, q3, q4] at h
    rcases h with h | h | h | h <;> exact absurd h (by decide)
  have YN : ∀ r : Int32, ie_has 1 (ie_L o a b c bg) = false → ie_has 2 (ie_L o a b c bg) = false → ie_has 3 (ie_L o a b c bg) = false → ie_has 4 (ie_L o a b c bg) = false → 0 < (ie_es (ie_L o a b c bg)).length →
      ((∀ j, j < 4 → ie_mn (fun k => ie_E (ie_L o a b c bg) k j) ((ie_es (ie_L o a b c bg)).length - 1) = ie_mx (fun k => ie_E (ie_L o a b c bg) k j) ((ie_es (ie_L o a b c bg)).length - 1)) → r = 1) →
      ((∃ j, j < 4 ∧ ¬ ie_mn (fun k => ie_E (ie_L o a b c bg) k j) ((ie_es (ie_L o a b c bg)).length - 1) = ie_mx (fun k => ie_E (ie_L o a b c bg) k j) ((ie_es (ie_L o a b c bg)).length - 1)) → r = 0) →
      wpY_settled (fun r' v' => r' = r ∧ i_Rel (k + 5) (1, sk', ec', o, a, b, cn, bg, st', nc', wo', fa', en', 42000) v') (fg, ln, cm, sk2, fs, fo, cn, o, a, b, bg, ap, rg, va, hd, tn, cd, lo, hi, lr) := by
    intro r z1 z2 z3 z4 hpos h1 h0
    unfold wpY_settled
    dsimp only
    refine iy_explore (v := 0) (w := 0) (x := 0) (y := 0) (by decide) (by decide) hcn hc (fun fg' ln' cm' sk'' fs' fo' ap' rg' va' hd' tn' cd' lo' hi' lr' hY => ?_)
    have hcol := (hY.2.2.2.2 hpos).1
    dsimp only
    have es : sk'' = 0 := by rw [hY.2.1, z1]; rfl
    have ef : fs' = 0 := by rw [hY.2.2.1]; exact (ie_fm_0 _).mpr ⟨z2, z3, z4⟩
    refine br_t es (br_t ef ⟨5, iy_settled_l (fun h => ⟨(h1 (fun j hj => ?_)).symm, i_mk (k + 5) hcn hc hX⟩) (fun h => ⟨(h0 ?_).symm, i_mk (k + 5) hcn hc hX⟩) 4 0 rfl 5 (by decide) (fun j hj => absurd hj (Nat.not_lt_zero j))⟩)
    · rw [← (hcol j hj).1, ← (hcol j hj).2]
      exact h j hj
    · obtain ⟨j, hj, hne⟩ := h
      exact ⟨j, hj, by rw [← (hcol j hj).1, ← (hcol j hj).2]; exact hne⟩
  have f0 := hX.2.1 0 (by decide)
  have f1 := hX.2.1 1 (by decide)
  have f2 := hX.2.1 2 (by decide)
  rw [hX.1, f0, f1, f2]
  refine ie_bi_br (fun z1 => ie_bi_br (fun z2 => ie_bi_br (fun z3 => ie_bi_br (fun z4 => ?_) (fun z4 => ?_)) (fun z3 => ?_)) (fun z2 => ?_)) (fun z1 => ?_)
  · have hlen : 0 < (ie_L o a b c bg).length := ie_pos o a b c hc 11 (ie_m0 bg) ie_p0 ⟨Nat.zero_le _, Nat.zero_le _, Nat.zero_le _⟩ rfl
    have hpos := ie_all0 (ie_L o a b c bg) (fun x hx => ie_code o a b c 11 (ie_m0 bg) ie_p0 x hx) z1 z2 z3 z4 hlen
    have hmn := fun j (hj : j < 4) => ie_mn_at hX (j := j) (by omega) hpos
    have hmx := fun j (hj : j < 4) => ie_mx_at hX (j := j) (by omega) hpos
    rw [← hX.1]
    have hec := hX.2.2.1
    subst hec
    refine ⟨5, ix_settled_l hn hpos (fun h => YN 1 z1 z2 z3 z4 hpos (fun _ => rfl) (fun q => ?_)) (fun h => YN 0 z1 z2 z3 z4 hpos (fun q => ?_) (fun _ => rfl)) 4 0 rfl 5 (by decide) (fun j hj => absurd hj (Nat.not_lt_zero j))⟩
    · obtain ⟨j, hj, hne⟩ := q
      exact absurd ((hmn j hj).symm.trans ((h j hj).trans (hmx j hj))) hne
    · obtain ⟨j, hj, hne⟩ := h
      exact absurd ((hmn j hj).trans ((q j hj).trans (hmx j hj).symm)) hne
  · rw [← hX.1]
    exact Y0 (Or.inr (Or.inr (Or.inr z4)))
  · rw [← hX.1]
    exact Y0 (Or.inr (Or.inr (Or.inl z3)))
  · rw [← hX.1]
    exact Y0 (Or.inr (Or.inl z2))
  · rw [← hX.1]
    exact Y0 (Or.inl z1)
