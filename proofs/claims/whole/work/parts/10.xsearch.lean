/-! the component's search meets the interface -/
def ix_G (post : SX → Prop) (ex : Int32) (o a b cn bg : Nat → Int32) (ne : Nat) : Nat → Int32 → (Nat → Int32) → (Nat → Int32) → (Nat → Int32) → Int32 → (Nat → Int32) → (Nat → Int32) → Int32 → Prop :=
  fun step lev st nc wo sk fa en ec => ∀ f : Nat, 1000000 < f + step → wX_explore_20 post f lev (nI step) ex sk ec o a b cn bg st nc wo fa en ne
section
variable {post : SX → Prop} {ex sk ec : Int32} {o a b cn bg st nc wo fa en : Nat → Int32} {ne : Nat} {c : Nat → Nat}
theorem ix_step {step l t : Nat} {m : Nat → Int32} {p : Nat → Nat} (hcn : ie_cn c cn) (hc : ie_cb c) (hs : step < 1000000) (hl : l ≤ 10) (ht : t < 3) (hp : ie_ok c p) (hnc : nc l = nI t) (hrow : ie_row st (l * 15) m p)
    (hl2 : ie_can o a b c m p t = true → ¬ ie_fl o a b m p t = true → l < 10)
    (K0 : ¬ ie_can o a b c m p t = true → ix_G post ex o a b cn bg ne (step + 1) (nI l) st (upd nc l (nI (t + 1))) wo sk fa en ec)
    (K1 : ie_can o a b c m p t = true → ie_fl o a b m p t = true → ix_G post ex o a b cn bg ne (step + 1) (nI l) st (upd nc l (nI (t + 1))) (upd wo l 1) sk (upd fa t 1) en ec)
    (K2 : ie_can o a b c m p t = true → ¬ ie_fl o a b m p t = true → ∀ st', (∀ j, j < (l + 1) * 15 → st' j = st j) → ie_row st' ((l + 1) * 15) (ie_nx o a b m t (t * 5 + p t)) (ie_st p t) → ix_G post ex o a b cn bg ne (step + 1) (nI (l + 1)) st' (upd (upd nc l (nI (t + 1))) (l + 1) 0) (upd (upd wo l 1) (l + 1) 0) sk fa en ec) :
    ix_G post ex o a b cn bg ne step (nI l) st nc wo sk fa en ec := by
  intro f hf
  cases f with
  | zero => omega
  | succ f =>
    have cl : (nI l).toNatClampNeg = l := nI_clamp (by omega)
    have vl : vp_in (nI l) 11 := vp_in_nI (by omega) (by decide)
    have enc : nc (nI l).toNatClampNeg = nI t := by rw [cl, hnc]
    have eup : upd nc (nI l).toNatClampNeg (nc (nI l).toNatClampNeg + 1) = upd nc l (nI (t + 1)) := by rw [cl, hnc, nI_1]
    refine br_f (nI_ge (b := 1000000) hs (by decide)) (br_f (nI_pos (by omega)) ⟨vl, nm_r enc (br_f (nI_ge (b := 3) ht (by decide)) ⟨vl, vl, nm_r eup (ix_tt hcn hc hp hrow hl ht hl2 ?_ ?_ ?_)⟩)⟩)
    · intro hcan
      exact br_t rfl (nm_r (nI_1 step) (K0 hcan f (by omega)))
    · intro hcan hfl
      exact br_t rfl (nm_r (nI_1 step) (K1 hcan hfl f (by omega)))
    · intro hcan hfl st' g1 g2
      have := hl2 hcan hfl
      exact br_f (by decide) (nm_r (nI_1 l) (ix_open (by omega) (nm_r (nI_1 step) (K2 hcan hfl st' g1 g2 f (by omega)))))
theorem ix_XG (hcn : ie_cn c cn) (hc : ie_cb c) (hne : ne = 42000) : ie_XG o a b c (ix_G post ex o a b cn bg ne) := by
  refine ⟨?_, ?_, ?_, ?_, ?_, ?_⟩
  · intro step l t m p st nc wo sk fa en ec hs hl ht hp hnc hrow hcan K
    exact ix_step hcn hc hs hl ht hp hnc hrow (fun h => absurd h hcan) (fun _ => K) (fun h => absurd h hcan) (fun h => absurd h hcan)
  · intro step l t m p st nc wo sk fa en ec hs hl ht hp hnc hrow hcan hfl K
    exact ix_step hcn hc hs hl ht hp hnc hrow (fun _ h => absurd hfl h) (fun h => absurd hcan h) (fun _ _ => K) (fun _ h => absurd hfl h)
  · intro step l t m p st nc wo sk fa en ec hs hl ht hp hnc hrow hcan hfl K
    exact ix_step hcn hc hs (by omega) ht hp hnc hrow (fun _ _ => hl) (fun h => absurd hcan h) (fun _ h => absurd h hfl) (fun _ _ => K)
  · intro step l st nc wo sk fa en ec hs hl hnc hwo K f hf
    cases f with
    | zero => omega
    | succ f =>
      have cl : (nI l).toNatClampNeg = l := nI_clamp (by omega)
      have vl : vp_in (nI l) 11 := vp_in_nI (by omega) (by decide)
      have enc : nc (nI l).toNatClampNeg = nI 3 := by rw [cl, hnc]
      have ewo : ¬ wo (nI l).toNatClampNeg = 0 := by rw [cl, hwo]; decide
      exact br_f (nI_ge (b := 1000000) hs (by decide)) (br_f (nI_pos (by omega)) ⟨vl, nm_r enc (br_t (nI_le (a := 3) (Nat.le_refl 3) (by decide)) ⟨vl, br_f ewo (nm_e (nm_r (nI_1 step) (K f (by omega))))⟩)⟩)
  · intro step l st nc wo sk fa en ec hs hl hnc hwo hlc K f hf
    cases f with
    | zero => omega
    | succ f =>
      have cl : (nI l).toNatClampNeg = l := nI_clamp (by omega)
      have vl : vp_in (nI l) 11 := vp_in_nI (by omega) (by decide)
      have enc : nc (nI l).toNatClampNeg = nI 3 := by rw [cl, hnc]
      have ewo : wo (nI l).toNatClampNeg = 0 := by rw [cl, hwo]
      exact br_f (nI_ge (b := 1000000) hs (by decide)) (br_f (nI_pos (by omega)) ⟨vl, nm_r enc (br_t (nI_le (a := 3) (Nat.le_refl 3) (by decide)) ⟨vl, br_t ewo (ix_note_s hcn hc hlc (nm_e (nm_r (nI_1 step) (K f (by omega)))))⟩)⟩)
  · intro step l e m p st nc wo sk fa en hs hl hnc hwo hlc he hrow K f hf
    cases f with
    | zero => omega
    | succ f =>
      have cl : (nI l).toNatClampNeg = l := nI_clamp (by omega)
      have vl : vp_in (nI l) 11 := vp_in_nI (by omega) (by decide)
      have enc : nc (nI l).toNatClampNeg = nI 3 := by rw [cl, hnc]
      have ewo : wo (nI l).toNatClampNeg = 0 := by rw [cl, hwo]
      refine br_f (nI_ge (b := 1000000) hs (by decide)) (br_f (nI_pos (by omega)) ⟨vl, nm_r enc (br_t (nI_le (a := 3) (Nat.le_refl 3) (by decide)) ⟨vl, br_t ewo (ix_note_e hcn hc hlc he hne hrow ?_)⟩)⟩)
      exact fun en' g1 g2 => nm_e (nm_r (nI_1 step) (K en' g1 g2 f (by omega)))
theorem ie_len11 (hc : ie_cb c) (m : Nat → Int32) : (ie_lv o a b c 11 m ie_p0).length ≤ 4200 := by
  refine Nat.le_trans (ie_len o a b c hc 11 m ie_p0 ⟨Nat.zero_le _, Nat.zero_le _, Nat.zero_le _⟩) ?_
  obtain ⟨g0, g1, g2, g3⟩ := hc
  exact ie_Mt _ (show c 0 - 0 < 6 by omega) _ (show c 1 - 0 < 6 by omega) _ (show c 2 - 0 < 6 by omega) (show c 0 - 0 + (c 1 - 0) + (c 2 - 0) ≤ 10 by omega)
theorem ix_explore (hcn : ie_cn c cn) (hc : ie_cb c) (hne : ne = 42000)
    (K : ∀ (sk' ec' : Int32) (st' nc' wo' fa' en' : Nat → Int32), ie_XR (ie_lv o a b c 11 (ie_m0 bg) ie_p0) sk' fa' en' ec' → post (1, sk', ec', o, a, b, cn, bg, st', nc', wo', fa', en', ne)) :
    wpX_explore post (0, sk, ec, o, a, b, cn, bg, st, nc, wo, fa, en, ne) := by
  unfold wpX_explore
  dsimp only
  refine br_t rfl ?_
  unfold wpX_forgetFindings
  dsimp only
  refine ⟨4, ix_forget_l ?_ 3 0 rfl 4 (by decide) fa (fun k hk => absurd hk (Nat.not_lt_zero k))⟩
  intro fa1 hfa1
  show wpX_layOutBeginning _ _
  unfold wpX_layOutBeginning
  dsimp only
  refine ⟨16, ix_lay_a ?_ 15 0 rfl 16 (by decide) st (fun k hk => absurd hk (Nat.not_lt_zero k))⟩
  intro st1 hst1
  refine ⟨1000001, ?_⟩
  have hrow : ie_row st1 (0 * 15) (ie_m0 bg) ie_p0 := by
    refine ⟨fun j hj => ?_, fun t ht => ?_⟩
    · rw [Nat.zero_mul, Nat.zero_add, hst1 j (by omega)]
      rfl
    · rw [Nat.zero_mul, Nat.zero_add, hst1 (12 + t) (by omega), if_neg (by omega)]
      rfl
  have hT := ie_T11
  refine ie_Xtree o a b c (ix_XG (post := post) (ex := 0) (bg := bg) hcn hc hne) hc 11 0 (ie_m0 bg) ie_p0 [] 0 st1 (upd nc 0 0) (upd wo 0 0) 0 fa1 en 0 rfl rfl ⟨Nat.zero_le _, Nat.zero_le _, Nat.zero_le _⟩ pk_us pk_us hrow (ie_XR_0 hfa1) ?_ (by omega) ?_ 1000001 (by omega)
  · rw [List.length_nil, Nat.zero_add]
    exact ie_len11 hc _
  · intro step' st' nc' wo' sk' fa' en' ec' h1 h2 h3 h4 h5 f hf
    cases f with
    | zero => omega
    | succ f =>
      exact br_f (nI_ge (b := 1000000) (by omega) (by decide)) (br_t (by decide) (K sk' ec' st' nc' wo' fa' en' h5))
end
