/-! what is owed: the questions on columns -/
theorem ie_mn_at {L : List (Nat × (Nat → Int32))} {sk ec : Int32} {fa en : Nat → Int32} (h : ie_XR L sk fa en ec) {j : Nat} (hj : j < 10) (hn : 0 < (ie_es L).length) : ie_mn (fun k => en (k * 10 + j)) ((ie_es L).length - 1) = ie_mn (fun k => ie_E L k j) ((ie_es L).length - 1) :=
  ie_mn_c _ (fun k hk => ie_XR_at h (by omega) hj)
theorem ie_mx_at {L : List (Nat × (Nat → Int32))} {sk ec : Int32} {fa en : Nat → Int32} (h : ie_XR L sk fa en ec) {j : Nat} (hj : j < 10) (hn : 0 < (ie_es L).length) : ie_mx (fun k => en (k * 10 + j)) ((ie_es L).length - 1) = ie_mx (fun k => ie_E L k j) ((ie_es L).length - 1) :=
  ie_mx_c _ (fun k hk => ie_XR_at h (by omega) hj)
theorem i_vc_least {k : Nat} {u : SX} {v : SY} (I : i_Rel k u v) (hk : k + 5 ≤ 2560) (v1 : Int32) : wpX_least (fun r u' => wpY_least (fun r' v' => r' = r ∧ i_Rel (k + 5) u' v') v v1) u v1 := by
  have I' : i_Rel (k + 5) u v := I
  obtain ⟨ex, sk, ec, o, a, b, cn, bg, st, nc, wo, fa, en, fg, ln, cm, sk2, fs, fo, ap, rg, va, hd, tn, cd, lo, hi, lr, c, rfl, rfl, hcn, hc, hex⟩ := I
  unfold wpX_least
  dsimp only
  rcases ie_bad (x := v1) (n := 4) (by decide) with h | ⟨t, ht, rfl⟩
  · refine ix_varN h (br_t rfl ?_)
    show wpY_least _ _ _
    unfold wpY_least
    dsimp only
    exact iy_varN h (br_f (by decide) ⟨rfl, I'⟩)
  · refine ix_var ht (br_f (by decide) (ix_exp2 hcn hc hex (fun sk' ec' st' nc' wo' fa' en' hX => ?_)))
    have hn := ie_n o a b bg hc
    have ct : (nI t).toNatClampNeg = t := nI_clamp (by omega)
    have Y : ∀ r : Int32, ((ie_es (ie_L o a b c bg)).length = 0 → r = -2147483647) → (0 < (ie_es (ie_L o a b c bg)).length → r = ie_mn (fun k => ie_E (ie_L o a b c bg) k t) ((ie_es (ie_L o a b c bg)).length - 1)) → wpY_least (fun r' v' => r' = r ∧ i_Rel (k + 5) (1, sk', ec', o, a, b, cn, bg, st', nc', wo', fa', en', 42000) v') (fg, ln, cm, sk2, fs, fo, cn, o, a, b, bg, ap, rg, va, hd, tn, cd, lo, hi, lr) (nI t) := by
      intro r h0 h1
      unfold wpY_least
      dsimp only
      refine iy_var ht (br_t rfl (iy_explore (v := 0) (w := 0) (x := 0) (y := 0) (by decide) (by decide) hcn hc (fun fg' ln' cm' sk'' fs' fo' ap' rg' va' hd' tn' cd' lo' hi' lr' hY => ?_)))
      dsimp only
      rw [hY.1]
      refine ie_bi_br (fun z => ⟨(h0 ?_).symm, i_mk (k + 5) hcn hc hX⟩) (fun z => ⟨vp_in_nI ht (by decide), ?_, i_mk (k + 5) hcn hc hX⟩)
      · have z0 : ¬ 0 < (ie_es (ie_L o a b c bg)).length := of_decide_eq_false z
        omega
      · have z' := of_decide_eq_true z
        rw [ct, h1 z']
        exact ((hY.2.2.2.2 z').1 t ht).1
    have hec := hX.2.2.1
    have hmn := fun hn0 => ie_mn_at hX (j := t) (by omega) hn0
    subst hec
    exact ix_least hn (by omega) rfl (fun h => Y _ (fun _ => rfl) (fun q => absurd q (by omega))) (fun h => Y _ (fun q => absurd q (by omega)) hmn)
theorem i_vc_greatest {k : Nat} {u : SX} {v : SY} (I : i_Rel k u v) (hk : k + 5 ≤ 2560) (v1 : Int32) : wpX_greatest (fun r u' => wpY_greatest (fun r' v' => r' = r ∧ i_Rel (k + 5) u' v') v v1) u v1 := by
  have I' : i_Rel (k + 5) u v := I
  obtain ⟨ex, sk, ec, o, a, b, cn, bg, st, nc, wo, fa, en, fg, ln, cm, sk2, fs, fo, ap, rg, va, hd, tn, cd, lo, hi, lr, c, rfl, rfl, hcn, hc, hex⟩ := I
  unfold wpX_greatest
  dsimp only
  rcases ie_bad (x := v1) (n := 4) (by decide) with h | ⟨t, ht, rfl⟩
  · refine ix_varN h (br_t rfl ?_)
    show wpY_greatest _ _ _
    unfold wpY_greatest
    dsimp only
    exact iy_varN h (br_f (by decide) ⟨rfl, I'⟩)
  · refine ix_var ht (br_f (by decide) (ix_exp2 hcn hc hex (fun sk' ec' st' nc' wo' fa' en' hX => ?_)))
    have hn := ie_n o a b bg hc
    have ct : (nI t).toNatClampNeg = t := nI_clamp (by omega)
    have Y : ∀ r : Int32, ((ie_es (ie_L o a b c bg)).length = 0 → r = -2147483647) → (0 < (ie_es (ie_L o a b c bg)).length → r = ie_mx (fun k => ie_E (ie_L o a b c bg) k t) ((ie_es (ie_L o a b c bg)).length - 1)) → wpY_greatest (fun r' v' => r' = r ∧ i_Rel (k + 5) (1, sk', ec', o, a, b, cn, bg, st', nc', wo', fa', en', 42000) v') (fg, ln, cm, sk2, fs, fo, cn, o, a, b, bg, ap, rg, va, hd, tn, cd, lo, hi, lr) (nI t) := by
      intro r h0 h1
      unfold wpY_greatest
      dsimp only
      refine iy_var ht (br_t rfl (iy_explore (v := 0) (w := 0) (x := 0) (y := 0) (by decide) (by decide) hcn hc (fun fg' ln' cm' sk'' fs' fo' ap' rg' va' hd' tn' cd' lo' hi' lr' hY => ?_)))
      dsimp only
      rw [hY.1]
      refine ie_bi_br (fun z => ⟨(h0 ?_).symm, i_mk (k + 5) hcn hc hX⟩) (fun z => ⟨vp_in_nI ht (by decide), ?_, i_mk (k + 5) hcn hc hX⟩)
      · have z0 : ¬ 0 < (ie_es (ie_L o a b c bg)).length := of_decide_eq_false z
        omega
      · have z' := of_decide_eq_true z
        rw [ct, h1 z']
        exact ((hY.2.2.2.2 z').1 t ht).2
    have hec := hX.2.2.1
    have hmn := fun hn0 => ie_mx_at hX (j := t) (by omega) hn0
    subst hec
    exact ix_greatest hn (by omega) rfl (fun h => Y _ (fun _ => rfl) (fun q => absurd q (by omega))) (fun h => Y _ (fun q => absurd q (by omega)) hmn)
theorem i_vc_leastRegister {k : Nat} {u : SX} {v : SY} (I : i_Rel k u v) (hk : k + 5 ≤ 2560) (v1 : Int32) (v2 : Int32) : wpX_leastRegister (fun r u' => wpY_leastRegister (fun r' v' => r' = r ∧ i_Rel (k + 5) u' v') v v1 v2) u v1 v2 := by
  have I' : i_Rel (k + 5) u v := I
  obtain ⟨ex, sk, ec, o, a, b, cn, bg, st, nc, wo, fa, en, fg, ln, cm, sk2, fs, fo, ap, rg, va, hd, tn, cd, lo, hi, lr, c, rfl, rfl, hcn, hc, hex⟩ := I
  unfold wpX_leastRegister
  dsimp only
  rcases ie_bad (x := v1) (n := 3) (by decide) with h | ⟨t, ht, rfl⟩
  · refine ix_thrN h (br_t rfl ?_)
    show wpY_leastRegister _ _ _ _
    unfold wpY_leastRegister
    dsimp only
    exact iy_thrN h (br_f (by decide) ⟨rfl, I'⟩)
  · have b1 := ie_b1_lt v2
    have e1 : 4 + nI t * 2 + (v2 &&& 1) = nI (4 + (t * 2 + ie_b1 v2)) := by
      rw [ie_b1_e]
      show nI 4 + nI t * nI 2 + nI _ = _
      rw [pk_mul, nI_add, nI_add, Nat.add_assoc]
    have e2 : nI t * 2 + (v2 &&& 1) = nI (t * 2 + ie_b1 v2) := by
      rw [ie_b1_e]
      show nI t * nI 2 + nI _ = _
      rw [pk_mul, nI_add]
    rw [e1]
    refine ix_thr ht (br_f (by decide) (ix_exp2 hcn hc hex (fun sk' ec' st' nc' wo' fa' en' hX => ?_)))
    have hn := ie_n o a b bg hc
    have ct : (nI (t * 2 + ie_b1 v2)).toNatClampNeg = t * 2 + ie_b1 v2 := nI_clamp (by omega)
    have Y : ∀ r : Int32, ((ie_es (ie_L o a b c bg)).length = 0 → r = -2147483647) → (0 < (ie_es (ie_L o a b c bg)).length → r = ie_mn (fun k => ie_E (ie_L o a b c bg) k (4 + (t * 2 + ie_b1 v2))) ((ie_es (ie_L o a b c bg)).length - 1)) → wpY_leastRegister (fun r' v' => r' = r ∧ i_Rel (k + 5) (1, sk', ec', o, a, b, cn, bg, st', nc', wo', fa', en', 42000) v') (fg, ln, cm, sk2, fs, fo, cn, o, a, b, bg, ap, rg, va, hd, tn, cd, lo, hi, lr) (nI t) v2 := by
      intro r h0 h1
      unfold wpY_leastRegister
      dsimp only
      refine iy_thr ht (br_t rfl (iy_explore (v := 0) (w := 0) (x := 0) (y := 0) (by decide) (by decide) hcn hc (fun fg' ln' cm' sk'' fs' fo' ap' rg' va' hd' tn' cd' lo' hi' lr' hY => ?_)))
      dsimp only
      rw [hY.1, e2, ct]
      refine ie_bi_br (fun z => ⟨(h0 ?_).symm, i_mk (k + 5) hcn hc hX⟩) (fun z => ⟨vp_in_nI (by omega) (by decide), ?_, i_mk (k + 5) hcn hc hX⟩)
      · have z0 : ¬ 0 < (ie_es (ie_L o a b c bg)).length := of_decide_eq_false z
        omega
      · have z' := of_decide_eq_true z
        rw [h1 z']
        exact (hY.2.2.2.2 z').2 (t * 2 + ie_b1 v2) (by omega)
    have hec := hX.2.2.1
    have hmn := fun hn0 => ie_mn_at hX (j := 4 + (t * 2 + ie_b1 v2)) (by omega) hn0
    subst hec
    exact ix_least hn (by omega) rfl (fun h => Y _ (fun _ => rfl) (fun q => absurd q (by omega))) (fun h => Y _ (fun q => absurd q (by omega)) hmn)
