/-! the reference's small methods against the pure picture -/
theorem iy_thr {post : Int32 → Prop} {u : SY} {t : Nat} (ht : t < 3) (h : post 0) : wpY_badThread post u (nI t) := by
  obtain ⟨fg, ln, cm, sk, fs, fo, cn, o, a, b, bg, ap, rg, va, hd, tn, cd, lo, hi, lr⟩ := u
  exact br_f (nI_pos (by omega)) (br_t (nI_le (b := 2) (by omega) (by decide)) h)
theorem iy_lt_of {x : Int32} {n : Nat} (hn : n < 2 ^ 31 - 1) (h : nI (n + 1) ≤ x) : ¬ x ≤ nI n := by
  intro g
  have := Int32.le_trans h g
  rw [nI_leI (by omega) (by omega)] at this
  omega
theorem iy_thrN {post : Int32 → Prop} {u : SY} {x : Int32} (hx : x < 0 ∨ nI 3 ≤ x) (h : post 1) : wpY_badThread post u x := by
  obtain ⟨fg, ln, cm, sk, fs, fo, cn, o, a, b, bg, ap, rg, va, hd, tn, cd, lo, hi, lr⟩ := u
  exact br_c (fun _ => h) (fun g => br_f (iy_lt_of (n := 2) (by decide) (hx.resolve_left g)) h)
theorem iy_var {post : Int32 → Prop} {u : SY} {t : Nat} (ht : t < 4) (h : post 0) : wpY_badVariable post u (nI t) := by
  obtain ⟨fg, ln, cm, sk, fs, fo, cn, o, a, b, bg, ap, rg, va, hd, tn, cd, lo, hi, lr⟩ := u
  exact br_f (nI_pos (by omega)) (br_t (nI_le (b := 3) (by omega) (by decide)) h)
theorem iy_varN {post : Int32 → Prop} {u : SY} {x : Int32} (hx : x < 0 ∨ nI 4 ≤ x) (h : post 1) : wpY_badVariable post u x := by
  obtain ⟨fg, ln, cm, sk, fs, fo, cn, o, a, b, bg, ap, rg, va, hd, tn, cd, lo, hi, lr⟩ := u
  exact br_c (fun _ => h) (fun g => br_f (iy_lt_of (n := 3) (by decide) (hx.resolve_left g)) h)
theorem ie_upd_self (f : Nat → Int32) (k : Nat) : upd f k (f k) = f := by
  funext j
  by_cases e : j = k
  · rw [e, pk_us]
  · rw [pk_un e]
theorem ie_m1 : (-1 : Int32) < 0 := by decide
theorem ie_bi_br {z : Bool} {A B : Prop} (hA : z = false → A) (hB : z = true → B) : (ie_bi z = 0 → A) ∧ (¬ ie_bi z = 0 → B) := by
  cases z
  · exact br_t rfl (hA rfl)
  · exact br_f (by decide) (hB rfl)
section
variable {fg ln cm sk fs fo : Int32} {cn o a b bg ap rg va hd tn cd lo hi lr : Nat → Int32}
theorem iy_canGo {post : Int32 → Prop} {t : Nat} {m : Nat → Int32} {p c : Nat → Nat} (hcn : ie_cn c cn) (hc : ie_cb c) (hp : ie_ok c p) (hld : ie_ld m p ap rg va hd) (ht : t < 3) (K : post (ie_bi (ie_can o a b c m p t))) : wpY_canGo post (fg, ln, cm, sk, fs, fo, cn, o, a, b, bg, ap, rg, va, hd, tn, cd, lo, hi, lr) (nI t) := by
  obtain ⟨q1, q2⟩ := ie_lt_c c hc hp ht
  obtain ⟨l1, l2, l3, l4⟩ := hld
  have ct : (nI t).toNatClampNeg = t := nI_clamp (by omega)
  have vt : vp_in (nI t) 3 := vp_in_nI ht (by decide)
  have hcd : ie_can o a b c m p t = (decide (p t < c t) && ie_cd o a b m (t * 5 + p t)) := rfl
  have e2 : nI t * 5 + nI (p t) = nI (t * 5 + p t) := by
    show nI t * nI 5 + nI (p t) = _
    rw [pk_mul, nI_add]
  unfold wpY_canGo
  dsimp only
  rw [ct, l1 t ht, hcn t ht]
  refine ⟨vt, vt, ?_⟩
  by_cases hlt : p t < c t
  · have vi : vp_in (nI (t * 5 + p t)) 15 := vp_in_nI (by omega) (by decide)
    have ci : (nI (t * 5 + p t)).toNatClampNeg = t * 5 + p t := nI_clamp (by omega)
    have b1 := ie_b1_lt (a (t * 5 + p t))
    have b3 := ie_b3_lt (a (t * 5 + p t))
    have c1 : (nI (ie_b1 (a (t * 5 + p t)))).toNatClampNeg = ie_b1 (a (t * 5 + p t)) := nI_clamp (by omega)
    have c3 : (nI (ie_b3 (a (t * 5 + p t)))).toNatClampNeg = ie_b3 (a (t * 5 + p t)) := nI_clamp (by omega)
    refine br_t (nI_lt hlt (by omega)) ⟨vt, nm_r e2 ⟨vi, ?_⟩⟩
    rw [decide_eq_true hlt, Bool.true_and] at hcd
    rw [hcd] at K
    unfold ie_cd at K
    rw [ci, ie_b1_e, ie_b3_e, c1, c3, l3 _ b3]
    refine br_c (fun h4 => ⟨vi, vp_in_nI b1 (by decide), ?_⟩) (fun h4 => ⟨vi, br_c (fun h8 => ⟨vi, vp_in_nI b3 (by decide), vi, ?_⟩) (fun h8 => ?_)⟩)
    · rw [if_pos h4] at K
      rcases l4 _ b1 with ⟨u1, u2⟩ | ⟨s, hs, u1, u2⟩
      · rw [decide_eq_true u1] at K
        rw [u2]
        exact br_f (by decide) K
      · rw [u1, decide_eq_false (nI_ne0 (by omega) (by omega))] at K
        rw [u2]
        exact br_t (nI_pos' (by omega)) K
    · rw [if_neg h4, if_pos h8] at K
      refine br_c (fun z => ?_) (fun z => ?_)
      · rw [decide_eq_true z] at K; exact K
      · rw [decide_eq_false z] at K; exact K
    · rw [if_neg h4, if_neg h8] at K
      exact K
  · rw [decide_eq_false hlt, Bool.false_and] at hcd
    rw [hcd] at K
    exact br_f (nI_nlt (by omega) (by omega)) K
theorem iy_go {post : Int32 → SY → Prop} {t : Nat} {m : Nat → Int32} {p c : Nat → Nat} (hc : ie_cb c) (hp : ie_ok c p) (hld : ie_ld m p ap rg va hd) (ht : t < 3) (hlt : p t < c t)
    (K1 : ie_fl o a b m p t = true → ∀ ap' : Nat → Int32, post 1 (fg, ln, cm, sk, fs, fo, cn, o, a, b, bg, ap', rg, va, hd, tn, cd, lo, hi, lr))
    (K2 : ¬ ie_fl o a b m p t = true → ∀ ap' rg' va' hd' : Nat → Int32, ie_ld (ie_nx o a b m t (t * 5 + p t)) (ie_st p t) ap' rg' va' hd' → post 0 (fg, ln, cm, sk, fs, fo, cn, o, a, b, bg, ap', rg', va', hd', tn, cd, lo, hi, lr)) :
    wpY_go post (fg, ln, cm, sk, fs, fo, cn, o, a, b, bg, ap, rg, va, hd, tn, cd, lo, hi, lr) (nI t) := by
  obtain ⟨q1, q2⟩ := ie_lt_c c hc hp ht
  have hb : ie_ld m (ie_st p t) (upd ap t (nI (p t + 1))) rg va hd := ie_ld_at hld
  obtain ⟨l1, l2, l3, l4⟩ := hld
  have ct : (nI t).toNatClampNeg = t := nI_clamp (by omega)
  have vt : vp_in (nI t) 3 := vp_in_nI ht (by decide)
  have e2 : nI t * 5 + nI (p t) = nI (t * 5 + p t) := by
    show nI t * nI 5 + nI (p t) = _
    rw [pk_mul, nI_add]
  have hi' : t * 5 + p t < 15 := by omega
  have efl : ie_fl o a b m p t = (decide (o (t * 5 + p t) = 6) && !decide (m (4 + t * 2 + ie_b1 (a (t * 5 + p t))) = b (t * 5 + p t))) := rfl
  generalize t * 5 + p t = i at e2 hi' K2 efl
  have vi : vp_in (nI i) 15 := vp_in_nI hi' (by decide)
  have ci : (nI i).toNatClampNeg = i := nI_clamp (by omega)
  have b1 := ie_b1_lt (a i)
  have b3 := ie_b3_lt (b i)
  have e4 : nI t * 2 + nI (ie_b1 (a i)) = nI (t * 2 + ie_b1 (a i)) := by
    show nI t * nI 2 + nI _ = _
    rw [pk_mul, nI_add]
  have cr : (nI (t * 2 + ie_b1 (a i))).toNatClampNeg = t * 2 + ie_b1 (a i) := nI_clamp (by omega)
  have c1 : (nI (ie_b1 (a i))).toNatClampNeg = ie_b1 (a i) := nI_clamp (by omega)
  have c3 : (nI (ie_b3 (b i))).toNatClampNeg = ie_b3 (b i) := nI_clamp (by omega)
  have vr : vp_in (nI (t * 2 + ie_b1 (a i))) 6 := vp_in_nI (by omega) (by decide)
  have v1 : vp_in (nI (ie_b1 (a i))) 2 := vp_in_nI b1 (by decide)
  have v3 : vp_in (nI (ie_b3 (b i))) 4 := vp_in_nI b3 (by decide)
  have kr : t * 2 + ie_b1 (a i) < 6 := by omega
  have as : 4 + t * 2 + ie_b1 (a i) = 4 + (t * 2 + ie_b1 (a i)) := Nat.add_assoc _ _ _
  unfold wpY_go
  dsimp only
  rw [ct, l1 t ht, e2]
  refine ⟨vt, nm_e ⟨vi, ?_⟩⟩
  rw [ci, ie_b1_e, ie_b3_e, e4, nI_1]
  refine nm_e ⟨vi, nm_e ⟨vi, nm_e ⟨vi, nm_e ⟨vt, vt, nm_e ?_⟩⟩⟩⟩
  rw [cr, c1, c3, l2 _ kr, l3 _ b3]
  have nf : ¬ o i = 6 → ¬ ie_fl o a b m p t = true := fun h => by rw [efl, decide_eq_false h, Bool.false_and]; decide
  by_cases h0 : o i = 0
  · have h6 : ¬ o i = 6 := by rw [h0]; decide
    refine br_t h0 ⟨v3, vr, nm_e (br_f h6 (K2 (nf h6) _ _ _ _ ?_))⟩
    rw [ie_nx0 h0, as]
    exact ie_ld_rg _ hb kr
  by_cases h1 : o i = 1
  · have h6 : ¬ o i = 6 := by rw [h1]; decide
    refine br_f h0 (br_t h1 ⟨vr, v3, nm_e (br_f h6 (K2 (nf h6) _ _ _ _ ?_))⟩)
    rw [ie_nx1 h1, as]
    exact ie_ld_va _ hb b3
  by_cases h2 : o i = 2
  · have h6 : ¬ o i = 6 := by rw [h2]; decide
    refine br_f h0 (br_f h1 (br_t h2 ⟨vr, vi, vr, nm_e (br_f h6 (K2 (nf h6) _ _ _ _ ?_))⟩))
    rw [ie_nx2 h2, as]
    exact ie_ld_rg _ hb kr
  by_cases h3 : o i = 3
  · have h6 : ¬ o i = 6 := by rw [h3]; decide
    refine br_f h0 (br_f h1 (br_f h2 (br_t h3 ⟨vi, v3, nm_e (br_f h6 (K2 (nf h6) _ _ _ _ ?_))⟩)))
    rw [ie_nx3 h3]
    exact ie_ld_va _ hb b3
  by_cases h4 : o i = 4
  · have h6 : ¬ o i = 6 := by rw [h4]; decide
    refine br_f h0 (br_f h1 (br_f h2 (br_f h3 (br_t h4 ⟨v1, nm_e (br_f h6 (K2 (nf h6) _ _ _ _ ?_))⟩))))
    rw [ie_nx4 h4]
    exact ie_ld_hd hb b1 (Or.inr ⟨t, ht, rfl, rfl⟩)
  by_cases h5 : o i = 5
  · have h6 : ¬ o i = 6 := by rw [h5]; decide
    refine br_f h0 (br_f h1 (br_f h2 (br_f h3 (br_f h4 (br_t h5 ⟨v1, br_c (fun z => ⟨v1, nm_r (by rw [c1]) (br_f h6 (K2 (nf h6) _ _ _ _ ?_))⟩) (fun z => ⟨v1, v1, nm_r (by rw [c1, ie_upd_self]) (br_f h6 (K2 (nf h6) _ _ _ _ ?_))⟩)⟩)))))
    · have g : m (10 + ie_b1 (a i)) = nI (t + 1) := by
        rcases l4 _ b1 with ⟨u1, u2⟩ | ⟨s, hs, u1, u2⟩
        · rw [u2] at z
          exact absurd z.symm (fun w => nI_pos (n := t) (by omega) (by rw [w]; exact ie_m1))
        · rw [u2, nI_eq (by omega) (by omega)] at z
          rw [u1, z]
      rw [ie_nx5 h5 g]
      exact ie_ld_hd hb b1 (Or.inl ⟨rfl, rfl⟩)
    · have g : ¬ m (10 + ie_b1 (a i)) = nI (t + 1) := by
        intro g
        rcases l4 _ b1 with ⟨u1, u2⟩ | ⟨s, hs, u1, u2⟩
        · rw [u1] at g
          exact nI_ne0 (n := t + 1) (by omega) (by omega) g.symm
        · rw [u1, nI_eq (by omega) (by omega)] at g
          exact z (by rw [u2, show s = t by omega])
      rw [ie_nx5n h5 g]
      exact hb
  by_cases h7 : o i = 7
  · have h6 : ¬ o i = 6 := by rw [h7]; decide
    refine br_f h0 (br_f h1 (br_f h2 (br_f h3 (br_f h4 (br_f h5 (br_t h7 ⟨vr, nm_e ⟨v3, vr, nm_e ⟨v3, nm_e (br_f h6 (K2 (nf h6) _ _ _ _ ?_))⟩⟩⟩))))))
    rw [ie_nx7 h7, as]
    exact ie_ld_va _ (ie_ld_rg _ hb kr) b3
  have hx := ie_nxd (a := a) (b := b) (m := m) (t := t) h0 h1 h2 h3 h4 h5 h7
  rw [hx] at K2
  refine br_f h0 (br_f h1 (br_f h2 (br_f h3 (br_f h4 (br_f h5 (br_f h7 ?_))))))
  by_cases h6 : o i = 6
  · refine br_t h6 ⟨vr, vi, ?_⟩
    rw [cr, ci, l2 _ kr, ← as]
    rw [decide_eq_true h6, Bool.true_and] at efl
    refine br_c (fun z => ?_) (fun z => ?_)
    · rw [decide_eq_true z] at efl
      exact K2 (by rw [efl]; decide) _ _ _ _ hb
    · rw [decide_eq_false z] at efl
      exact K1 efl _
  · exact br_f h6 (K2 (nf h6) _ _ _ _ hb)
end
