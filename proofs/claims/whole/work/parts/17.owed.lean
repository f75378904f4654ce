/-! what is owed: the beginning, the changes, the questions -/
theorem i_vc0 : wpX_init (fun u => wpY_init (fun v => i_Rel 0 u v)) := by
  have h : (42000 : Int32).toNatClampNeg = 42000 := by decide
  refine ⟨by decide, nm_r h ⟨Nat.le_refl _, ?_⟩⟩
  refine i_mk0 (c := fun _ => 0) 0 (fun t _ => rfl) ⟨by decide, by decide, by decide, by decide⟩
theorem i_vc_emit {k : Nat} {u : SX} {v : SY} (I : i_Rel k u v) (hk : k + 5 ≤ 2560) (v1 : Int32) (v2 : Int32) (v3 : Int32) (v4 : Int32) : wpX_emit (fun r u' => wpY_emit (fun r' v' => r' = r ∧ i_Rel (k + 5) u' v') v v1 v2 v3 v4) u v1 v2 v3 v4 := by
  have I' : i_Rel (k + 5) u v := I
  obtain ⟨ex, sk, ec, o, a, b, cn, bg, st, nc, wo, fa, en, fg, ln, cm, sk2, fs, fo, ap, rg, va, hd, tn, cd, lo, hi, lr, c, rfl, rfl, hcn, hc, hex⟩ := I
  unfold wpX_emit
  dsimp only
  rcases ie_bad (x := v1) (n := 3) (by decide) with h | ⟨t, ht, rfl⟩
  · refine ix_thrN h (br_t rfl ?_)
    show wpY_emit _ _ _ _ _ _
    unfold wpY_emit
    dsimp only
    exact iy_thrN h (br_f (by decide) ⟨rfl, I'⟩)
  · have c5 : c t ≤ 5 := by
      obtain ⟨g0, g1, g2, g3⟩ := hc
      rcases ie_3 ht with rfl | rfl | rfl <;> omega
    have hs10 := hc.2.2.2
    have ct : (nI t).toNatClampNeg = t := nI_clamp (by omega)
    have vt : vp_in (nI t) 3 := vp_in_nI ht (by decide)
    have ec1 : cn (nI t).toNatClampNeg = nI (c t) := by rw [ct, hcn t ht]
    have es := ie_cn_sum hcn
    have e2 : nI t * 5 + nI (c t) = nI (t * 5 + c t) := by
      show nI t * nI 5 + nI (c t) = _
      rw [pk_mul, nI_add]
    refine ix_thr ht (br_f (by decide) (br_c (fun h0 => ?_) (fun h0 => br_c (fun h8 => ⟨vt, ?_⟩) (fun h8 => ?_))))
    · show wpY_emit _ _ _ _ _ _
      unfold wpY_emit
      dsimp only
      exact iy_thr ht (br_t rfl (br_t h0 ⟨rfl, I'⟩))
    · rw [ec1]
      refine pk_le 5 (c t) (fun h5 => ?_) (fun h5 => ?_)
      · show wpY_emit _ _ _ _ _ _
        unfold wpY_emit
        dsimp only
        refine iy_thr ht (br_t rfl (br_f h0 (br_t h8 ⟨vt, nm_r ec1 (br_t ?_ ⟨rfl, I'⟩)⟩)))
        rw [show c t = 5 by omega]
        rfl
      · unfold wpX_countOfAll
        dsimp only
        rw [es]
        have n5 : ¬ nI (c t) = 5 := fun z => by
          have z' : nI (c t) = nI 5 := z
          rw [nI_eq (by omega) (by decide)] at z'
          omega
        refine pk_lt (c 0 + c 1 + c 2) 10 (fun h10 => ⟨vt, nm_r e2 ?_⟩) (fun h10 => ?_)
        · have hi' : t * 5 + c t < 15 := by omega
          have vi : vp_in (nI (t * 5 + c t)) 15 := vp_in_nI hi' (by decide)
          have ci : (nI (t * 5 + c t)).toNatClampNeg = t * 5 + c t := nI_clamp (by omega)
          have n10 : ¬ nI (c 0 + c 1 + c 2) = 10 := fun z => by
            have z' : nI (c 0 + c 1 + c 2) = nI 10 := z
            rw [nI_eq (by omega) (by decide)] at z'
            omega
          rw [ci, ct, nI_1]
          refine ⟨vi, nm_e ⟨vi, nm_e ⟨vi, nm_e ⟨vt, vt, nm_e ⟨vt, ?_⟩⟩⟩⟩⟩
          rw [pk_us]
          show wpY_emit _ _ _ _ _ _
          unfold wpY_emit
          dsimp only
          refine iy_thr ht (br_t rfl (br_f h0 (br_t h8 ⟨vt, nm_r ec1 (br_f n5 ?_)⟩)))
          rw [es, e2, ci, ct, nI_1]
          refine br_f n10 ⟨vi, nm_e ⟨vi, nm_e ⟨vi, nm_e ⟨vt, nm_e ⟨rfl, ?_⟩⟩⟩⟩⟩
          exact i_mk0 (c := ie_st c t) (k + 5) (ie_cn_st hcn) (ie_cb_st hc ht (by omega) h10)
        · show wpY_emit _ _ _ _ _ _
          unfold wpY_emit
          dsimp only
          refine iy_thr ht (br_t rfl (br_f h0 (br_t h8 ⟨vt, nm_r ec1 (br_f n5 ?_)⟩)))
          rw [es, show c 0 + c 1 + c 2 = 10 by omega]
          exact br_t rfl ⟨rfl, I'⟩
    · show wpY_emit _ _ _ _ _ _
      unfold wpY_emit
      dsimp only
      exact iy_thr ht (br_t rfl (br_f h0 (br_f h8 ⟨rfl, I'⟩)))
theorem i_vc_begin {k : Nat} {u : SX} {v : SY} (I : i_Rel k u v) (hk : k + 5 ≤ 2560) (v1 : Int32) (v2 : Int32) : wpX_begin (fun r u' => wpY_begin (fun r' v' => r' = r ∧ i_Rel (k + 5) u' v') v v1 v2) u v1 v2 := by
  have I' : i_Rel (k + 5) u v := I
  obtain ⟨ex, sk, ec, o, a, b, cn, bg, st, nc, wo, fa, en, fg, ln, cm, sk2, fs, fo, ap, rg, va, hd, tn, cd, lo, hi, lr, c, rfl, rfl, hcn, hc, hex⟩ := I
  unfold wpX_begin
  dsimp only
  rcases ie_bad (x := v1) (n := 4) (by decide) with h | ⟨t, ht, rfl⟩
  · refine ix_varN h (br_t rfl ?_)
    show wpY_begin _ _ _ _
    unfold wpY_begin
    dsimp only
    exact iy_varN h (br_f (by decide) ⟨rfl, I'⟩)
  · have vt : vp_in (nI t) 4 := vp_in_nI ht (by decide)
    refine ix_var ht (br_f (by decide) ⟨vt, nm_e ⟨vt, nm_e ?_⟩⟩)
    show wpY_begin _ _ _ _
    unfold wpY_begin
    dsimp only
    exact iy_var ht (br_t rfl ⟨vt, nm_e ⟨vt, nm_e ⟨rfl, i_mk0 (k + 5) hcn hc⟩⟩⟩)
theorem i_vc_drop {k : Nat} {u : SX} {v : SY} (I : i_Rel k u v) (hk : k + 5 ≤ 2560) (v1 : Int32) : wpX_drop (fun r u' => wpY_drop (fun r' v' => r' = r ∧ i_Rel (k + 5) u' v') v v1) u v1 := by
  have I' : i_Rel (k + 5) u v := I
  obtain ⟨ex, sk, ec, o, a, b, cn, bg, st, nc, wo, fa, en, fg, ln, cm, sk2, fs, fo, ap, rg, va, hd, tn, cd, lo, hi, lr, c, rfl, rfl, hcn, hc, hex⟩ := I
  unfold wpX_drop
  dsimp only
  rcases ie_bad (x := v1) (n := 3) (by decide) with h | ⟨t, ht, rfl⟩
  · refine ix_thrN h (br_t rfl ?_)
    show wpY_drop _ _ _
    unfold wpY_drop
    dsimp only
    exact iy_thrN h (br_f (by decide) ⟨rfl, I'⟩)
  · have ct : (nI t).toNatClampNeg = t := nI_clamp (by omega)
    have vt : vp_in (nI t) 3 := vp_in_nI ht (by decide)
    refine ix_thr ht (br_f (by decide) ⟨vt, nm_e ⟨vt, nm_e ?_⟩⟩)
    show wpY_drop _ _ _
    unfold wpY_drop
    dsimp only
    refine iy_thr ht (br_t rfl ⟨vt, nm_e ⟨vt, nm_e ⟨rfl, ?_⟩⟩⟩)
    rw [ct]
    exact i_mk0 (c := ie_dr c t) (k + 5) (ie_cn_dr hcn) (ie_cb_dr hc)
theorem i_vc_canComplete {k : Nat} {u : SX} {v : SY} (I : i_Rel k u v) (hk : k + 5 ≤ 2560) : wpX_canComplete (fun r u' => wpY_canComplete (fun r' v' => r' = r ∧ i_Rel (k + 5) u' v') v) u := by
  obtain ⟨ex, sk, ec, o, a, b, cn, bg, st, nc, wo, fa, en, fg, ln, cm, sk2, fs, fo, ap, rg, va, hd, tn, cd, lo, hi, lr, c, rfl, rfl, hcn, hc, hex⟩ := I
  unfold wpX_canComplete
  dsimp only
  refine ix_exp2 hcn hc hex (fun sk' ec' st' nc' wo' fa' en' hX => ?_)
  have hn := ie_n o a b bg hc
  have hec := hX.2.2.1
  have Y : ∀ r : Int32, r = ie_bi (decide (0 < (ie_es (ie_L o a b c bg)).length)) → wpY_canComplete (fun r' v' => r' = r ∧ i_Rel (k + 5) (1, sk', ec', o, a, b, cn, bg, st', nc', wo', fa', en', 42000) v') (fg, ln, cm, sk2, fs, fo, cn, o, a, b, bg, ap, rg, va, hd, tn, cd, lo, hi, lr) := by
    intro r hr
    unfold wpY_canComplete
    dsimp only
    refine iy_explore (v := 0) (w := 0) (x := 0) (y := 0) (by decide) (by decide) hcn hc (fun fg' ln' cm' sk'' fs' fo' ap' rg' va' hd' tn' cd' lo' hi' lr' hY => ⟨?_, hY.1.trans hr.symm, i_mk (k + 5) hcn hc hX⟩)
    rw [hY.1]
    exact ie_nar _
  by_cases h : 0 < (ie_es (ie_L o a b c bg)).length
  · refine br_f ?_ (Y 1 (by rw [decide_eq_true h]; rfl))
    rw [hec]
    exact nI_nle h (by omega)
  · refine br_t ?_ (Y 0 (by rw [decide_eq_false h]; rfl))
    have hz : ec' ≤ 0 := by
      rw [hec, show (ie_es (ie_L o a b c bg)).length = 0 by omega]
      decide
    exact hz
theorem i_vc_canStick {k : Nat} {u : SX} {v : SY} (I : i_Rel k u v) (hk : k + 5 ≤ 2560) : wpX_canStick (fun r u' => wpY_canStick (fun r' v' => r' = r ∧ i_Rel (k + 5) u' v') v) u := by
  obtain ⟨ex, sk, ec, o, a, b, cn, bg, st, nc, wo, fa, en, fg, ln, cm, sk2, fs, fo, ap, rg, va, hd, tn, cd, lo, hi, lr, c, rfl, rfl, hcn, hc, hex⟩ := I
  unfold wpX_canStick
  dsimp only
  refine ix_exp2 hcn hc hex (fun sk' ec' st' nc' wo' fa' en' hX => ⟨?_, ?_⟩)
  · rw [hX.1]
    exact ie_nar _
  · show wpY_canStick _ _
    unfold wpY_canStick
    dsimp only
    refine iy_explore (v := 0) (w := 0) (x := 0) (y := 0) (by decide) (by decide) hcn hc (fun fg' ln' cm' sk'' fs' fo' ap' rg' va' hd' tn' cd' lo' hi' lr' hY => ⟨?_, hY.2.1.trans hX.1.symm, i_mk (k + 5) hcn hc hX⟩)
    rw [hY.2.1]
    exact ie_nar _
theorem i_vc_canFail {k : Nat} {u : SX} {v : SY} (I : i_Rel k u v) (hk : k + 5 ≤ 2560) (v1 : Int32) : wpX_canFail (fun r u' => wpY_canFail (fun r' v' => r' = r ∧ i_Rel (k + 5) u' v') v v1) u v1 := by
  have I' : i_Rel (k + 5) u v := I
  obtain ⟨ex, sk, ec, o, a, b, cn, bg, st, nc, wo, fa, en, fg, ln, cm, sk2, fs, fo, ap, rg, va, hd, tn, cd, lo, hi, lr, c, rfl, rfl, hcn, hc, hex⟩ := I
  unfold wpX_canFail
  dsimp only
  rcases ie_bad (x := v1) (n := 3) (by decide) with h | ⟨t, ht, rfl⟩
  · refine ix_thrN h (br_t rfl ?_)
    show wpY_canFail _ _ _
    unfold wpY_canFail
    dsimp only
    exact iy_thrN h (br_f (by decide) ⟨rfl, I'⟩)
  · have ct : (nI t).toNatClampNeg = t := nI_clamp (by omega)
    have vt : vp_in (nI t) 3 := vp_in_nI ht (by decide)
    refine ix_thr ht (br_f (by decide) (ix_exp2 hcn hc hex (fun sk' ec' st' nc' wo' fa' en' hX => ⟨vt, ?_, ?_⟩)))
    · have hz : narrow .boolean (.int (fa' (nI t).toNatClampNeg)) = .int (fa' (nI t).toNatClampNeg) := by
        rw [ct, hX.2.1 t ht]
        exact ie_nar _
      exact hz
    · show wpY_canFail _ _ _
      unfold wpY_canFail
      dsimp only
      refine iy_thr ht (br_t rfl (iy_explore (v := 0) (w := 0) (x := 0) (y := 0) (by decide) (by decide) hcn hc (fun fg' ln' cm' sk'' fs' fo' ap' rg' va' hd' tn' cd' lo' hi' lr' hY => ?_)))
      have hb := ie_fm_bit (ie_L o a b c bg) ht
      rw [← hY.2.2.1] at hb
      rw [ct, hX.2.1 t ht]
      have J : ∀ q : Bool, ie_has (2 + t) (ie_L o a b c bg) = q → i_Rel (k + 5) (1, sk', ec', o, a, b, cn, bg, st', nc', wo', fa', en', 42000) (fg', ln', cm', sk'', fs', fo', cn, o, a, b, bg, ap', rg', va', hd', tn', cd', lo', hi', lr') := fun _ _ => i_mk (k + 5) hcn hc hX
      cases hq : ie_has (2 + t) (ie_L o a b c bg)
      · rw [hq] at hb
        exact br_f (by rw [hb]; decide) ⟨rfl, J _ hq⟩
      · rw [hq] at hb
        exact br_t (by rw [hb]; decide) ⟨rfl, J _ hq⟩
