/-! what is owed: the questions on ends -/
section
variable {ex sk ec : Int32} {o a b cn bg st nc wo fa en : Nat → Int32} {fg ln cm sk2 fs fo : Int32} {ap rg va hd tn cd lo hi lr : Nat → Int32} {c : Nat → Nat}
theorem ix_some {post : Int32 → SX → Prop} {v w : Nat} {x y : Int32} (hcn : ie_cn c cn) (hc : ie_cb c) (hex : ex = 0 ∨ (ex = 1 ∧ ie_XR (ie_L o a b c bg) sk fa en ec)) (hv : v < 4) (hw : w < 4)
    (K : ∀ (sk' ec' : Int32) (st' nc' wo' fa' en' : Nat → Int32), ie_XR (ie_L o a b c bg) sk' fa' en' ec' → post (ie_bi ((ie_es (ie_L o a b c bg)).any (fun e => decide (e v = x) && decide (e w = y)))) (1, sk', ec', o, a, b, cn, bg, st', nc', wo', fa', en', 42000)) :
    wpX_someEndHas post (ex, sk, ec, o, a, b, cn, bg, st, nc, wo, fa, en, 42000) (nI v) x (nI w) y := by
  have hn := ie_n o a b bg hc
  unfold wpX_someEndHas
  dsimp only
  refine ix_var hv (br_f (by decide) (ix_var hw (br_f (by decide) (ix_exp2 hcn hc hex (fun sk' ec' st' nc' wo' fa' en' hX => ?_)))))
  have R := K sk' ec' st' nc' wo' fa' en' hX
  have hat : ∀ k j, k < (ie_es (ie_L o a b c bg)).length → j < 10 → en' (k * 10 + j) = ie_E (ie_L o a b c bg) k j := fun k j h1 h2 => ie_XR_at hX h1 h2
  obtain ⟨_, _, rfl, _⟩ := hX
  refine ⟨(ie_es (ie_L o a b c bg)).length + 1, ix_some_l hn hv hw rfl (fun h => ?_) (fun h => ?_) (ie_es (ie_L o a b c bg)).length 0 (Nat.zero_add _) _ (Nat.lt_succ_self _) (fun k hk => absurd hk (Nat.not_lt_zero k))⟩
  · obtain ⟨k, hk, h1, h2⟩ := h
    rw [(ie_anyE (ie_L o a b c bg) v w x y).mpr ⟨k, hk, (hat k v hk (by omega)).symm.trans h1, (hat k w hk (by omega)).symm.trans h2⟩] at R
    exact R
  · have hf : (ie_es (ie_L o a b c bg)).any (fun e => decide (e v = x) && decide (e w = y)) = false := by
      refine Bool.eq_false_iff.mpr (fun z => ?_)
      obtain ⟨k, hk, h1, h2⟩ := (ie_anyE (ie_L o a b c bg) v w x y).mp z
      exact h k hk ⟨(hat k v hk (by omega)).trans h1, (hat k w hk (by omega)).trans h2⟩
    rw [hf] at R
    exact R
theorem ix_someN {post : Int32 → SX → Prop} {p q x y : Int32} (h : (p < 0 ∨ nI 4 ≤ p) ∨ (q < 0 ∨ nI 4 ≤ q)) (K : post 0 (ex, sk, ec, o, a, b, cn, bg, st, nc, wo, fa, en, 42000)) :
    wpX_someEndHas post (ex, sk, ec, o, a, b, cn, bg, st, nc, wo, fa, en, 42000) p x q y := by
  unfold wpX_someEndHas
  dsimp only
  rcases ie_bad (x := p) (n := 4) (by decide) with g | ⟨t, ht, rfl⟩
  · exact ix_varN g (br_t rfl K)
  · refine ix_var ht (br_f (by decide) (ix_varN (h.resolve_left ?_) (br_t rfl K)))
    rintro (z | z)
    · exact nI_pos (by omega) z
    · exact nI_ge ht (by decide) z
theorem iy_both {post : Int32 → SY → Prop} {v w : Nat} {x y : Int32} (hcn : ie_cn c cn) (hc : ie_cb c) (hv : v < 4) (hw : w < 4)
    (K : ∀ (fg' ln' cm' sk' fs' : Int32) (ap' rg' va' hd' tn' cd' lo' hi' lr' : Nat → Int32), post (ie_bi ((ie_es (ie_L o a b c bg)).any (fun e => decide (e v = x) && decide (e w = y)))) (fg', ln', cm', sk', fs', ie_bi ((ie_es (ie_L o a b c bg)).any (fun e => decide (e v = x) && decide (e w = y))), cn, o, a, b, bg, ap', rg', va', hd', tn', cd', lo', hi', lr')) :
    wpY_canEndBoth post (fg, ln, cm, sk2, fs, fo, cn, o, a, b, bg, ap, rg, va, hd, tn, cd, lo, hi, lr) (nI v) x (nI w) y := by
  unfold wpY_canEndBoth
  dsimp only
  refine iy_var hv (br_t rfl (iy_var hw (br_t rfl (iy_explore hv hw hcn hc (fun fg' ln' cm' sk' fs' fo' ap' rg' va' hd' tn' cd' lo' hi' lr' hY => ?_)))))
  have e := hY.2.2.2.1
  rw [e]
  exact ⟨ie_nar _, K _ _ _ _ _ _ _ _ _ _ _ _ _ _⟩
theorem iy_bothN {post : Int32 → SY → Prop} {p q x y : Int32} (h : (p < 0 ∨ nI 4 ≤ p) ∨ (q < 0 ∨ nI 4 ≤ q)) (K : post 0 (fg, ln, cm, sk2, fs, fo, cn, o, a, b, bg, ap, rg, va, hd, tn, cd, lo, hi, lr)) :
    wpY_canEndBoth post (fg, ln, cm, sk2, fs, fo, cn, o, a, b, bg, ap, rg, va, hd, tn, cd, lo, hi, lr) p x q y := by
  unfold wpY_canEndBoth
  dsimp only
  rcases ie_bad (x := p) (n := 4) (by decide) with g | ⟨t, ht, rfl⟩
  · exact iy_varN g (br_f (by decide) K)
  · refine iy_var ht (br_t rfl (iy_varN (h.resolve_left ?_) (br_f (by decide) K)))
    rintro (z | z)
    · exact nI_pos (by omega) z
    · exact nI_ge ht (by decide) z
end
theorem i_vc_canEnd {k : Nat} {u : SX} {v : SY} (I : i_Rel k u v) (hk : k + 5 ≤ 2560) (v1 : Int32) (v2 : Int32) : wpX_canEnd (fun r u' => wpY_canEnd (fun r' v' => r' = r ∧ i_Rel (k + 5) u' v') v v1 v2) u v1 v2 := by
  have I' : i_Rel (k + 5) u v := I
  obtain ⟨ex, sk, ec, o, a, b, cn, bg, st, nc, wo, fa, en, fg, ln, cm, sk2, fs, fo, ap, rg, va, hd, tn, cd, lo, hi, lr, c, rfl, rfl, hcn, hc, hex⟩ := I
  unfold wpX_canEnd
  dsimp only
  rcases ie_bad (x := v1) (n := 4) (by decide) with h | ⟨t, ht, rfl⟩
  · refine ix_someN (Or.inl h) ⟨ie_nar0, ?_⟩
    show wpY_canEnd _ _ _ _
    unfold wpY_canEnd
    dsimp only
    exact iy_bothN (Or.inl h) ⟨ie_nar0, rfl, I'⟩
  · refine ix_some hcn hc hex ht ht (fun sk' ec' st' nc' wo' fa' en' hX => ⟨ie_nar _, ?_⟩)
    show wpY_canEnd _ _ _ _
    unfold wpY_canEnd
    dsimp only
    exact iy_both hcn hc ht ht (fun _ _ _ _ _ _ _ _ _ _ _ _ _ _ => ⟨ie_nar _, rfl, i_mk (k + 5) hcn hc hX⟩)
theorem i_vc_canEndBoth {k : Nat} {u : SX} {v : SY} (I : i_Rel k u v) (hk : k + 5 ≤ 2560) (v1 : Int32) (v2 : Int32) (v3 : Int32) (v4 : Int32) : wpX_canEndBoth (fun r u' => wpY_canEndBoth (fun r' v' => r' = r ∧ i_Rel (k + 5) u' v') v v1 v2 v3 v4) u v1 v2 v3 v4 := by
  have I' : i_Rel (k + 5) u v := I
  obtain ⟨ex, sk, ec, o, a, b, cn, bg, st, nc, wo, fa, en, fg, ln, cm, sk2, fs, fo, ap, rg, va, hd, tn, cd, lo, hi, lr, c, rfl, rfl, hcn, hc, hex⟩ := I
  unfold wpX_canEndBoth
  dsimp only
  rcases ie_bad (x := v1) (n := 4) (by decide) with h | ⟨t, ht, rfl⟩
  · exact ix_someN (Or.inl h) ⟨ie_nar0, iy_bothN (Or.inl h) ⟨rfl, I'⟩⟩
  · rcases ie_bad (x := v3) (n := 4) (by decide) with h | ⟨s, hs, rfl⟩
    · exact ix_someN (Or.inr h) ⟨ie_nar0, iy_bothN (Or.inr h) ⟨rfl, I'⟩⟩
    · exact ix_some hcn hc hex ht hs (fun sk' ec' st' nc' wo' fa' en' hX => ⟨ie_nar _, iy_both hcn hc ht hs (fun _ _ _ _ _ _ _ _ _ _ _ _ _ _ => ⟨rfl, i_mk (k + 5) hcn hc hX⟩)⟩)
