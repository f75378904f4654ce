/-! the component's turn, end and search -/
theorem ie_rowi (r t : Nat) : nI r + 12 + nI t = nI (r + (12 + t)) := by
  show nI r + nI 12 + nI t = _
  rw [nI_add, nI_add, Nat.add_assoc]
section
variable {ex sk ec : Int32} {o a b cn bg st nc wo fa en : Nat → Int32} {ne : Nat}
theorem ix_copy {post : Int32 → SX → Prop} {r t i : Nat} {m : Nat → Int32} {p : Nat → Nat} {st0 : Nat → Int32} (hrow : ie_row st0 r m p) (hr : r + 30 ≤ 165) (ht : t < 3) (hi : i < 15)
    (K : ∀ st', (∀ j, j < r + 15 → st' j = st0 j) → ie_row st' (r + 15) (ie_nx o a b m t i) (ie_st p t) → post 1 (ex, sk, ec, o, a, b, cn, bg, st', nc, wo, fa, en, ne)) :
    ∀ d j : Nat, j + d = 15 → ∀ n : Nat, d < n → ∀ st : Nat → Int32, (∀ k, k < r + 15 → st k = st0 k) → (∀ k, k < j → st (r + 15 + k) = st0 (r + k)) → wX_takesTurn_87 post (nI t) (nI r) (nI i) (nI (r + 15)) ex sk ec ne n (nI j) o a b cn bg st nc wo fa en := by
  intro d
  induction d with
  | zero =>
    intro j hj n hn st h1 h2
    obtain rfl : j = 15 := by omega
    cases n with
    | zero => omega
    | succ n =>
      have row1 : ie_row st (r + 15) m p := ie_row_c hrow (fun k hk => h2 k hk)
      have cl : (nI (r + 15 + (12 + t))).toNatClampNeg = r + 15 + (12 + t) := nI_clamp (by omega)
      have v : vp_in (nI (r + 15) + 12 + nI t) 165 := by
        rw [ie_rowi]
        exact vp_in_nI (by omega) (by decide)
      have e : upd st (nI (r + 15) + 12 + nI t).toNatClampNeg (st (nI (r + 15) + 12 + nI t).toNatClampNeg + 1) = upd st (r + 15 + (12 + t)) (nI (p t + 1)) := by
        rw [ie_rowi, cl, row1.2 t ht, nI_1]
      refine br_t (nI_le (a := 15) (Nat.le_refl 15) (by decide)) ⟨v, v, nm_r e (ix_carry (ie_row_p row1 ht) (by omega) ht hi ?_)⟩
      exact fun st' g1 g2 => K st' (fun k hk => (g1 k hk).trans ((pk_un (by omega)).trans (h1 k hk))) g2
  | succ d ih =>
    intro j hj n hn st h1 h2
    cases n with
    | zero => omega
    | succ n =>
      have v1 : vp_in (nI r + nI j) 165 := by
        rw [nI_add]
        exact vp_in_nI (by omega) (by decide)
      have v2 : vp_in (nI (r + 15) + nI j) 165 := by
        rw [nI_add]
        exact vp_in_nI (by omega) (by decide)
      have e : upd st (nI (r + 15) + nI j).toNatClampNeg (st (nI r + nI j).toNatClampNeg) = upd st (r + 15 + j) (st0 (r + j)) := by
        rw [nI_add, nI_add, nI_clamp (by omega), nI_clamp (by omega), h1 (r + j) (by omega)]
      refine br_f (nI_ge (b := 15) (by omega) (by decide)) ⟨v1, v2, nm_r e (nm_r (nI_1 j) (ih (j + 1) (by omega) n (by omega) _ ?_ ?_))⟩
      · intro k hk
        rw [pk_un (by omega)]
        exact h1 k hk
      · intro k hk
        by_cases z : k = j
        · rw [z, pk_us]
        · rw [pk_un (by omega)]
          exact h2 k (by omega)
theorem ix_tt {post : Int32 → SX → Prop} {l t : Nat} {m : Nat → Int32} {p c : Nat → Nat} (hcn : ie_cn c cn) (hc : ie_cb c) (hp : ie_ok c p) (hrow : ie_row st (l * 15) m p) (hl : l ≤ 10) (ht : t < 3)
    (hl2 : ie_can o a b c m p t = true → ¬ ie_fl o a b m p t = true → l < 10)
    (K0 : ¬ ie_can o a b c m p t = true → post 0 (ex, sk, ec, o, a, b, cn, bg, st, nc, wo, fa, en, ne))
    (K1 : ie_can o a b c m p t = true → ie_fl o a b m p t = true → post 0 (ex, sk, ec, o, a, b, cn, bg, st, nc, upd wo l 1, upd fa t 1, en, ne))
    (K2 : ie_can o a b c m p t = true → ¬ ie_fl o a b m p t = true → ∀ st', (∀ j, j < (l + 1) * 15 → st' j = st j) → ie_row st' ((l + 1) * 15) (ie_nx o a b m t (t * 5 + p t)) (ie_st p t) → post 1 (ex, sk, ec, o, a, b, cn, bg, st', nc, upd wo l 1, fa, en, ne)) :
    wpX_takesTurn post (ex, sk, ec, o, a, b, cn, bg, st, nc, wo, fa, en, ne) (nI l) (nI t) := by
  obtain ⟨q1, q2⟩ := ie_lt_c c hc hp ht
  have ct : (nI t).toNatClampNeg = t := nI_clamp (by omega)
  have cl : (nI (l * 15 + (12 + t))).toNatClampNeg = l * 15 + (12 + t) := nI_clamp (by omega)
  have vt : vp_in (nI t) 3 := vp_in_nI ht (by decide)
  have v : vp_in (nI (l * 15) + 12 + nI t) 165 := by
    rw [ie_rowi]
    exact vp_in_nI (by omega) (by decide)
  have e1 : st (nI (l * 15) + 12 + nI t).toNatClampNeg = nI (p t) := by
    rw [ie_rowi, cl, hrow.2 t ht]
  have e2 : nI t * 5 + nI (p t) = nI (t * 5 + p t) := by
    show nI t * nI 5 + nI (p t) = _
    rw [pk_mul, nI_add]
  have e3 : cn (nI t).toNatClampNeg = nI (c t) := by
    rw [ct, hcn t ht]
  have e4 : upd wo (nI l).toNatClampNeg (vp_nar .boolean 1) = upd wo l 1 := by
    rw [nI_clamp (by omega), ie_T1]
  have e5 : upd fa (nI t).toNatClampNeg (vp_nar .boolean 1) = upd fa t 1 := by
    rw [ct, ie_T1]
  have hcd : ie_can o a b c m p t = (decide (p t < c t) && ie_cd o a b m (t * 5 + p t)) := rfl
  unfold wpX_takesTurn
  dsimp only
  refine nm_r (pk_mul l 15) ⟨v, nm_r e1 ⟨vt, ?_⟩⟩
  rw [e3]
  by_cases hlt : p t < c t
  · refine br_t (nI_lt hlt (by omega)) (nm_r e2 (ix_cbc hrow (by omega) (by omega) ?_))
    rw [decide_eq_true hlt, Bool.true_and] at hcd
    by_cases hcan : ie_can o a b c m p t = true
    · rw [← hcd, hcan]
      refine br_f (by decide) ⟨vp_in_nI (by omega) (by decide), nm_r e4 (ix_fails hrow (by omega) ht (by omega) ?_)⟩
      by_cases hfl : ie_fl o a b m p t = true
      · have hf : (decide (o (t * 5 + p t) = 6) && !decide (m (4 + t * 2 + ie_b1 (a (t * 5 + p t))) = b (t * 5 + p t))) = true := hfl
        rw [hf]
        exact br_f (by decide) ⟨vt, nm_r e5 (K1 hcan hfl)⟩
      · have hf : (decide (o (t * 5 + p t) = 6) && !decide (m (4 + t * 2 + ie_b1 (a (t * 5 + p t))) = b (t * 5 + p t))) = false := Bool.eq_false_iff.mpr hfl
        rw [hf]
        have h10 := hl2 hcan hfl
        have e15 : (l + 1) * 15 = l * 15 + 15 := by omega
        rw [e15] at K2
        refine br_t rfl (nm_r (nI_add (l * 15) 15) ⟨16, ?_⟩)
        exact ix_copy hrow (by omega) ht (by omega) (K2 hcan hfl) 15 0 rfl 16 (by decide) st (fun _ _ => rfl) (fun k hk => absurd hk (Nat.not_lt_zero k))
    · rw [← hcd, Bool.eq_false_iff.mpr hcan]
      exact br_t rfl (K0 hcan)
  · refine br_f (nI_nlt (by omega) (by omega)) (K0 (fun h => hlt (ie_can_lt o a b c h)))
theorem ix_ncopy {post : SX → Prop} {e r : Nat} {m : Nat → Int32} {p : Nat → Nat} {en0 : Nat → Int32} (hrow : ie_row st r m p) (hr : r + 15 ≤ 165) (he : e * 10 + 10 ≤ ne) (hne : ne ≤ 42000)
    (K : ∀ en', (∀ j, j < e * 10 → en' j = en0 j) → (∀ j, j < 10 → en' (e * 10 + j) = m j) → post (ex, sk, nI (e + 1), o, a, b, cn, bg, st, nc, wo, fa, en', ne)) :
    ∀ d j : Nat, j + d = 10 → ∀ n : Nat, d < n → ∀ en : Nat → Int32, (∀ k, k < e * 10 → en k = en0 k) → (∀ k, k < j → en (e * 10 + k) = m k) → wX_noteEnd_41 post (nI (e * 10)) (nI r) ex sk (nI e) ne n (nI j) o a b cn bg st nc wo fa en := by
  intro d
  induction d with
  | zero =>
    intro j hj n hn en h1 h2
    obtain rfl : j = 10 := by omega
    cases n with
    | zero => omega
    | succ n => exact br_t (nI_le (a := 10) (Nat.le_refl 10) (by decide)) (nm_r (nI_1 e) (K en h1 h2))
  | succ d ih =>
    intro j hj n hn en h1 h2
    cases n with
    | zero => omega
    | succ n =>
      have v1 : vp_in (nI r + nI j) 165 := by
        rw [nI_add]
        exact vp_in_nI (by omega) (by decide)
      have v2 : vp_in (nI (e * 10) + nI j) ne := by
        rw [nI_add]
        exact vp_in_nI (by omega) (by omega)
      have eq : upd en (nI (e * 10) + nI j).toNatClampNeg (st (nI r + nI j).toNatClampNeg) = upd en (e * 10 + j) (m j) := by
        rw [nI_add, nI_add, nI_clamp (by omega), nI_clamp (by omega), hrow.1 j (by omega)]
      refine br_f (nI_ge (b := 10) (by omega) (by decide)) ⟨v1, v2, nm_r eq (nm_r (nI_1 j) (ih (j + 1) (by omega) n (by omega) _ ?_ ?_))⟩
      · intro k hk
        rw [pk_un (by omega)]
        exact h1 k hk
      · intro k hk
        by_cases z : k = j
        · rw [z, pk_us]
        · rw [pk_un (by omega)]
          exact h2 k (by omega)
theorem ix_note_s {post : SX → Prop} {l : Nat} {c : Nat → Nat} (hcn : ie_cn c cn) (hc : ie_cb c) (hl : l < c 0 + c 1 + c 2) (K : post (ex, 1, ec, o, a, b, cn, bg, st, nc, wo, fa, en, ne)) : wpX_noteEnd post (ex, sk, ec, o, a, b, cn, bg, st, nc, wo, fa, en, ne) (nI l) := by
  have := hc.2.2.2
  unfold wpX_noteEnd wpX_countOfAll
  dsimp only
  rw [ie_cn_sum hcn]
  exact br_f (nI_ge hl (by omega)) K
theorem ix_note_e {post : SX → Prop} {l e : Nat} {c : Nat → Nat} {m : Nat → Int32} {p : Nat → Nat} (hcn : ie_cn c cn) (hc : ie_cb c) (hl : l = c 0 + c 1 + c 2) (he : e < 4200) (hne : ne = 42000) (hrow : ie_row st (l * 15) m p)
    (K : ∀ en', (∀ j, j < e * 10 → en' j = en j) → (∀ j, j < 10 → en' (e * 10 + j) = m j) → post (ex, sk, nI (e + 1), o, a, b, cn, bg, st, nc, wo, fa, en', ne)) : wpX_noteEnd post (ex, sk, nI e, o, a, b, cn, bg, st, nc, wo, fa, en, ne) (nI l) := by
  have := hc.2.2.2
  unfold wpX_noteEnd wpX_countOfAll
  dsimp only
  rw [ie_cn_sum hcn]
  refine br_t (nI_le (by omega) (by omega)) (br_t (nI_lt (b := 4200) he (by decide)) (nm_r (pk_mul e 10) (nm_r (pk_mul l 15) ⟨11, ?_⟩)))
  exact ix_ncopy hrow (by omega) (by omega) (by omega) K 10 0 rfl 11 (by decide) en (fun _ _ => rfl) (fun k hk => absurd hk (Nat.not_lt_zero k))
theorem ix_open {post : SX → Prop} {l : Nat} (hl : l ≤ 10) (K : post (ex, sk, ec, o, a, b, cn, bg, st, upd nc l 0, upd wo l 0, fa, en, ne)) : wpX_openLevel post (ex, sk, ec, o, a, b, cn, bg, st, nc, wo, fa, en, ne) (nI l) := by
  have cl : (nI l).toNatClampNeg = l := nI_clamp (by omega)
  have v : vp_in (nI l) 11 := vp_in_nI (by omega) (by decide)
  unfold wpX_openLevel
  dsimp only
  rw [cl, ie_T0]
  exact ⟨v, nm_e ⟨v, nm_e K⟩⟩
theorem ix_forget_l {post : SX → Prop} (K : ∀ fa', (∀ t, t < 3 → fa' t = 0) → post (ex, sk, ec, o, a, b, cn, bg, st, nc, wo, fa', en, ne)) :
    ∀ d j : Nat, j + d = 3 → ∀ n : Nat, d < n → ∀ fa : Nat → Int32, (∀ k, k < j → fa k = 0) → wX_forgetFindings_12 post ex sk ec ne n (nI j) o a b cn bg st nc wo fa en := by
  intro d
  induction d with
  | zero =>
    intro j hj n hn fa h1
    obtain rfl : j = 3 := by omega
    cases n with
    | zero => omega
    | succ n => exact br_t (nI_le (a := 3) (Nat.le_refl 3) (by decide)) (K fa h1)
  | succ d ih =>
    intro j hj n hn fa h1
    cases n with
    | zero => omega
    | succ n =>
      have eq : upd fa (nI j).toNatClampNeg (vp_nar .boolean 0) = upd fa j 0 := by
        rw [nI_clamp (by omega), ie_T0]
      refine br_f (nI_ge (b := 3) (by omega) (by decide)) ⟨vp_in_nI (by omega) (by decide), nm_r eq (nm_r (nI_1 j) (ih (j + 1) (by omega) n (by omega) _ ?_))⟩
      intro k hk
      by_cases z : k = j
      · rw [z, pk_us]
      · rw [pk_un z]
        exact h1 k (by omega)
theorem ix_lay_b {post : SX → Prop} (K : ∀ st', (∀ k, k < 15 → st' k = if k < 4 then bg k else 0) → post (ex, sk, ec, o, a, b, cn, bg, st', upd nc 0 0, upd wo 0 0, fa, en, ne)) :
    ∀ d j : Nat, j + d = 4 → ∀ n : Nat, d < n → ∀ st : Nat → Int32, (∀ k, k < 15 → st k = if k < j then bg k else 0) → wX_layOutBeginning_23 post ex sk ec ne n (nI j) o a b cn bg st nc wo fa en := by
  intro d
  induction d with
  | zero =>
    intro j hj n hn st h1
    obtain rfl : j = 4 := by omega
    cases n with
    | zero => omega
    | succ n => exact br_t (nI_le (a := 4) (Nat.le_refl 4) (by decide)) (ix_open (l := 0) (by decide) (K st h1))
  | succ d ih =>
    intro j hj n hn st h1
    cases n with
    | zero => omega
    | succ n =>
      have eq : upd st (nI j).toNatClampNeg (bg (nI j).toNatClampNeg) = upd st j (bg j) := by
        rw [nI_clamp (by omega)]
      refine br_f (nI_ge (b := 4) (by omega) (by decide)) ⟨vp_in_nI (by omega) (by decide), vp_in_nI (by omega) (by decide), nm_r eq (nm_r (nI_1 j) (ih (j + 1) (by omega) n (by omega) _ ?_))⟩
      intro k hk
      by_cases z : k = j
      · rw [z, pk_us, if_pos (Nat.lt_succ_self j)]
      · rw [pk_un z, h1 k hk]
        by_cases y : k < j
        · rw [if_pos y, if_pos (by omega)]
        · rw [if_neg y, if_neg (by omega)]
theorem ix_lay_a {post : SX → Prop} (K : ∀ st', (∀ k, k < 15 → st' k = if k < 4 then bg k else 0) → post (ex, sk, ec, o, a, b, cn, bg, st', upd nc 0 0, upd wo 0 0, fa, en, ne)) :
    ∀ d j : Nat, j + d = 15 → ∀ n : Nat, d < n → ∀ st : Nat → Int32, (∀ k, k < j → st k = 0) → wX_layOutBeginning_2 post ex sk ec ne n (nI j) o a b cn bg st nc wo fa en := by
  intro d
  induction d with
  | zero =>
    intro j hj n hn st h1
    obtain rfl : j = 15 := by omega
    cases n with
    | zero => omega
    | succ n =>
      refine br_t (nI_le (a := 15) (Nat.le_refl 15) (by decide)) ⟨5, ?_⟩
      refine ix_lay_b K 4 0 rfl 5 (by decide) st (fun k hk => ?_)
      rw [if_neg (Nat.not_lt_zero k)]
      exact h1 k hk
  | succ d ih =>
    intro j hj n hn st h1
    cases n with
    | zero => omega
    | succ n =>
      have eq : upd st (nI j).toNatClampNeg 0 = upd st j 0 := by
        rw [nI_clamp (by omega)]
      refine br_f (nI_ge (b := 15) (by omega) (by decide)) ⟨vp_in_nI (by omega) (by decide), nm_r eq (nm_r (nI_1 j) (ih (j + 1) (by omega) n (by omega) _ ?_))⟩
      intro k hk
      by_cases z : k = j
      · rw [z, pk_us]
      · rw [pk_un z]
        exact h1 k (by omega)
end
