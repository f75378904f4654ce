/-! the component's search over an interface of steps: G step level states nextChoice wentOn stuck failed ends endCount -/
def ie_T : Nat → Nat
  | 0 => 0
  | n + 1 => 4 + 3 * ie_T n
theorem ie_T11 : ie_T 11 ≤ 999999 := by decide
section
variable (o a b : Nat → Int32) (c : Nat → Nat)
def ie_cf (m : Nat → Int32) (p : Nat → Nat) (s : Nat) : Bool :=
  if s = 0 then ie_can o a b c m p 0 || (ie_can o a b c m p 1 || ie_can o a b c m p 2) else if s = 1 then ie_can o a b c m p 1 || ie_can o a b c m p 2 else if s = 2 then ie_can o a b c m p 2 else false
theorem ie_cf_s (m : Nat → Int32) (p : Nat → Nat) {s : Nat} (hs : s < 3) : ie_cf o a b c m p s = (ie_can o a b c m p s || ie_cf o a b c m p (s + 1)) := by
  rcases ie_3 hs with rfl | rfl | rfl
  · rfl
  · rfl
  · exact (Bool.or_false _).symm
theorem ie_cf_0 (m : Nat → Int32) (p : Nat → Nat) : ie_cf o a b c m p 0 = ie_any o a b c m p := (Bool.or_assoc _ _ _).symm
def ie_XG (G : Nat → Int32 → (Nat → Int32) → (Nat → Int32) → (Nat → Int32) → Int32 → (Nat → Int32) → (Nat → Int32) → Int32 → Prop) : Prop :=
  (∀ step l t m p st nc wo sk fa en ec, step < 1000000 → l ≤ 10 → t < 3 → ie_ok c p → nc l = nI t → ie_row st (l * 15) m p → ¬ ie_can o a b c m p t = true →
    G (step + 1) (nI l) st (upd nc l (nI (t + 1))) wo sk fa en ec → G step (nI l) st nc wo sk fa en ec) ∧
  (∀ step l t m p st nc wo sk fa en ec, step < 1000000 → l ≤ 10 → t < 3 → ie_ok c p → nc l = nI t → ie_row st (l * 15) m p → ie_can o a b c m p t = true → ie_fl o a b m p t = true →
    G (step + 1) (nI l) st (upd nc l (nI (t + 1))) (upd wo l 1) sk (upd fa t 1) en ec → G step (nI l) st nc wo sk fa en ec) ∧
  (∀ step l t m p st nc wo sk fa en ec, step < 1000000 → l < 10 → t < 3 → ie_ok c p → nc l = nI t → ie_row st (l * 15) m p → ie_can o a b c m p t = true → ¬ ie_fl o a b m p t = true →
    (∀ st', (∀ j, j < (l + 1) * 15 → st' j = st j) → ie_row st' ((l + 1) * 15) (ie_nx o a b m t (t * 5 + p t)) (ie_st p t) → G (step + 1) (nI (l + 1)) st' (upd (upd nc l (nI (t + 1))) (l + 1) 0) (upd (upd wo l 1) (l + 1) 0) sk fa en ec) → G step (nI l) st nc wo sk fa en ec) ∧
  (∀ step l st nc wo sk fa en ec, step < 1000000 → l ≤ 10 → nc l = nI 3 → wo l = 1 →
    G (step + 1) (nI l + (-1)) st nc wo sk fa en ec → G step (nI l) st nc wo sk fa en ec) ∧
  (∀ step l st nc wo sk fa en ec, step < 1000000 → l ≤ 10 → nc l = nI 3 → wo l = 0 → l < c 0 + c 1 + c 2 →
    G (step + 1) (nI l + (-1)) st nc wo 1 fa en ec → G step (nI l) st nc wo sk fa en ec) ∧
  (∀ step l e m p st nc wo sk fa en, step < 1000000 → l ≤ 10 → nc l = nI 3 → wo l = 0 → l = c 0 + c 1 + c 2 → e < 4200 → ie_row st (l * 15) m p →
    (∀ en', (∀ j, j < e * 10 → en' j = en j) → (∀ j, j < 10 → en' (e * 10 + j) = m j) → G (step + 1) (nI l + (-1)) st nc wo sk fa en' (nI (e + 1))) → G step (nI l) st nc wo sk fa en (nI e))
theorem ie_Xkids {G : Nat → Int32 → (Nat → Int32) → (Nat → Int32) → (Nat → Int32) → Int32 → (Nat → Int32) → (Nat → Int32) → Int32 → Prop} (hG : ie_XG o a b c G) (hc : ie_cb c) {n : Nat}
    (ih : ∀ (l : Nat) (m : Nat → Int32) (p : Nat → Nat) (L : List (Nat × (Nat → Int32))) (step : Nat) (st nc wo : Nat → Int32) (sk : Int32) (fa en : Nat → Int32) (ec : Int32),
      p 0 + p 1 + p 2 = l → l + n = 11 → ie_ok c p → nc l = 0 → wo l = 0 → ie_row st (l * 15) m p → ie_XR L sk fa en ec → L.length + (ie_lv o a b c n m p).length ≤ 4200 → step + ie_T n ≤ 1000000 →
      (∀ (step' : Nat) (st' nc' wo' : Nat → Int32) (sk' : Int32) (fa' en' : Nat → Int32) (ec' : Int32), step' ≤ step + ie_T n → (∀ j, j < l * 15 → st' j = st j) → (∀ j, j < l → nc' j = nc j) → (∀ j, j < l → wo' j = wo j) → ie_XR (L ++ ie_lv o a b c n m p) sk' fa' en' ec' → G step' (nI l + (-1)) st' nc' wo' sk' fa' en' ec') →
      G step (nI l) st nc wo sk fa en ec)
    {l : Nat} {m : Nat → Int32} {p : Nat → Nat} (hl : p 0 + p 1 + p 2 = l) (hn : l + (n + 1) = 11) (hp : ie_ok c p) :
    ∀ (d s : Nat), s + d = 3 → ∀ (L : List (Nat × (Nat → Int32))) (step : Nat) (st nc wo : Nat → Int32) (sk : Int32) (fa en : Nat → Int32) (ec : Int32) (w : Bool),
      nc l = nI s → wo l = ie_bi w → ie_row st (l * 15) m p → ie_XR L sk fa en ec → L.length + (ie_cs o a b c (ie_lv o a b c n) m p s).length ≤ 4200 → step + d * (1 + ie_T n) < 1000000 →
      (∀ (step' : Nat) (st' nc' wo' : Nat → Int32) (sk' : Int32) (fa' en' : Nat → Int32) (ec' : Int32), step' ≤ step + d * (1 + ie_T n) → (∀ j, j < (l + 1) * 15 → st' j = st j) → (∀ j, j < l → nc' j = nc j) → nc' l = nI 3 → (∀ j, j < l → wo' j = wo j) → wo' l = ie_bi (w || ie_cf o a b c m p s) → ie_XR (L ++ ie_cs o a b c (ie_lv o a b c n) m p s) sk' fa' en' ec' → G step' (nI l) st' nc' wo' sk' fa' en' ec') →
      G step (nI l) st nc wo sk fa en ec := by
  obtain ⟨g1, g2, g3, _, _, _⟩ := hG
  have hcs := hc.2.2.2
  intro d
  induction d with
  | zero =>
    intro s hs L step st nc wo sk fa en ec w hnc hwo hrow hXR hlen hstep K
    obtain rfl : s = 3 := by omega
    refine K step st nc wo sk fa en ec (by omega) (fun _ _ => rfl) (fun _ _ => rfl) hnc (fun _ _ => rfl) ?_ ?_
    · rw [show ie_cf o a b c m p 3 = false from rfl, Bool.or_false]
      exact hwo
    · rw [ie_cs_3, List.append_nil]
      exact hXR
  | succ d ihd =>
    intro s hs L step st nc wo sk fa en ec w hnc hwo hrow hXR hlen hstep K
    have hs3 : s < 3 := by omega
    have e1 : (d + 1) * (1 + ie_T n) = d * (1 + ie_T n) + (1 + ie_T n) := Nat.succ_mul _ _
    have e2 := ie_cs_s o a b c (ie_lv o a b c n) m p hs3
    have e3 := ie_cf_s o a b c m p hs3
    rw [e1] at hstep K
    rw [e2, List.length_append] at hlen
    rw [e2, e3] at K
    by_cases hcan : ie_can o a b c m p s = true
    · have hlt := ie_can_lt o a b c hcan
      obtain ⟨k1, k2⟩ := ie_ok_st c hp hs3 hlt
      have hl10 : l < 10 := by
        obtain ⟨q0, q1, q2⟩ := k1
        omega
      by_cases hfl : ie_fl o a b m p s = true
      · rw [ie_ch_f o a b c hcan hfl] at hlen K
        refine g2 step l s m p st nc wo sk fa en ec (by omega) (by omega) hs3 hp hnc hrow hcan hfl ?_
        refine ihd (s + 1) (by omega) (L ++ [(2 + s, m)]) (step + 1) st _ _ sk _ en ec true pk_us pk_us hrow (ie_XR_fa m hXR) ?_ (by omega) ?_
        · rw [List.length_append]
          omega
        · intro step' st' nc' wo' sk' fa' en' ec' u1 u2 u3 u4 u5 u6 u7
          refine K step' st' nc' wo' sk' fa' en' ec' (by omega) u2 (fun j hj => ?_) u4 (fun j hj => ?_) ?_ ?_
          · rw [u3 j hj, pk_un (by omega)]
          · rw [u5 j hj, pk_un (by omega)]
          · rw [u6, hcan, Bool.true_or, Bool.or_true]
          · rw [← List.append_assoc]
            exact u7
      · rw [ie_ch_g o a b c hcan hfl] at hlen K
        refine g3 step l s m p st nc wo sk fa en ec (by omega) hl10 hs3 hp hnc hrow hcan hfl ?_
        intro st1 hst1 hrow1
        refine ih (l + 1) _ _ L (step + 1) st1 _ _ sk fa en ec (by omega) (by omega) k1 pk_us pk_us hrow1 hXR (by omega) (by omega) ?_
        intro step2 st2 nc2 wo2 sk2 fa2 en2 ec2 v1 v2 v3 v4 v5
        rw [pk_m1]
        refine ihd (s + 1) (by omega) _ step2 st2 nc2 wo2 sk2 fa2 en2 ec2 true ?_ ?_ ?_ v5 ?_ (by omega) ?_
        · rw [v3 l (by omega), pk_un (by omega), pk_us]
        · rw [v4 l (by omega), pk_un (by omega), pk_us]
          rfl
        · refine ie_row_c hrow (fun j hj => ?_)
          rw [v2 _ (by omega), hst1 _ (by omega)]
        · rw [List.length_append]
          omega
        · intro step' st' nc' wo' sk' fa' en' ec' u1 u2 u3 u4 u5 u6 u7
          refine K step' st' nc' wo' sk' fa' en' ec' (by omega) (fun j hj => ?_) (fun j hj => ?_) u4 (fun j hj => ?_) ?_ ?_
          · rw [u2 j hj, v2 j hj, hst1 j hj]
          · rw [u3 j hj, v3 j (by omega), pk_un (by omega), pk_un (by omega)]
          · rw [u5 j hj, v4 j (by omega), pk_un (by omega), pk_un (by omega)]
          · rw [u6, hcan, Bool.true_or, Bool.or_true]
          · rw [← List.append_assoc]
            exact u7
    · rw [ie_ch_n o a b c hcan] at hlen K
      rw [List.nil_append] at K
      have hcan' : ie_can o a b c m p s = false := by
        cases h : ie_can o a b c m p s
        · rfl
        · exact absurd h hcan
      rw [hcan', Bool.false_or] at K
      refine g1 step l s m p st nc wo sk fa en ec (by omega) (by omega) hs3 hp hnc hrow hcan ?_
      refine ihd (s + 1) (by omega) L (step + 1) st _ wo sk fa en ec w pk_us hwo hrow hXR (by rw [List.length_nil] at hlen; omega) (by omega) ?_
      intro step' st' nc' wo' sk' fa' en' ec' u1 u2 u3 u4 u5 u6 u7
      refine K step' st' nc' wo' sk' fa' en' ec' (by omega) u2 (fun j hj => ?_) u4 u5 u6 u7
      rw [u3 j hj, pk_un (by omega)]
theorem ie_Xtree {G : Nat → Int32 → (Nat → Int32) → (Nat → Int32) → (Nat → Int32) → Int32 → (Nat → Int32) → (Nat → Int32) → Int32 → Prop} (hG : ie_XG o a b c G) (hc : ie_cb c) : ∀ (n l : Nat) (m : Nat → Int32) (p : Nat → Nat) (L : List (Nat × (Nat → Int32))) (step : Nat) (st nc wo : Nat → Int32) (sk : Int32) (fa en : Nat → Int32) (ec : Int32),
      p 0 + p 1 + p 2 = l → l + n = 11 → ie_ok c p → nc l = 0 → wo l = 0 → ie_row st (l * 15) m p → ie_XR L sk fa en ec → L.length + (ie_lv o a b c n m p).length ≤ 4200 → step + ie_T n ≤ 1000000 →
      (∀ (step' : Nat) (st' nc' wo' : Nat → Int32) (sk' : Int32) (fa' en' : Nat → Int32) (ec' : Int32), step' ≤ step + ie_T n → (∀ j, j < l * 15 → st' j = st j) → (∀ j, j < l → nc' j = nc j) → (∀ j, j < l → wo' j = wo j) → ie_XR (L ++ ie_lv o a b c n m p) sk' fa' en' ec' → G step' (nI l + (-1)) st' nc' wo' sk' fa' en' ec') →
      G step (nI l) st nc wo sk fa en ec := by
  intro n
  induction n with
  | zero =>
    intro l m p L step st nc wo sk fa en ec hl hn hp
    obtain ⟨h0, h1, h2⟩ := hp
    obtain ⟨_, _, _, g⟩ := hc
    omega
  | succ n ih =>
    intro l m p L step st nc wo sk fa en ec hl hn hp hnc hwo hrow hXR hlen hstep K
    have eT : ie_T (n + 1) = 4 + 3 * ie_T n := rfl
    rw [eT] at hstep K
    by_cases q : ie_any o a b c m p = true
    · rw [ie_cs_lv o a b c q] at hlen K
      refine ie_Xkids o a b c hG hc ih hl hn hp 3 0 rfl L step st nc wo sk fa en ec false hnc hwo hrow hXR hlen (by omega) ?_
      intro step' st' nc' wo' sk' fa' en' ec' u1 u2 u3 u4 u5 u6 u7
      rw [ie_cf_0, q, Bool.or_true, ie_bi_t] at u6
      refine hG.2.2.2.1 step' l st' nc' wo' sk' fa' en' ec' (by omega) (by omega) u4 u6 ?_
      exact K (step' + 1) st' nc' wo' sk' fa' en' ec' (by omega) (fun j hj => u2 j (by omega)) u3 u5 u7
    · rw [ie_lv_f o a b c q] at hlen K
      have qf : ie_any o a b c m p = false := by
        cases h : ie_any o a b c m p
        · rfl
        · exact absurd h q
      have e0 : ie_cs o a b c (ie_lv o a b c n) m p 0 = [] := by
        show ie_ch o a b c (ie_lv o a b c n) m p 0 ++ (ie_ch o a b c (ie_lv o a b c n) m p 1 ++ ie_ch o a b c (ie_lv o a b c n) m p 2) = []
        rw [ie_ch_n o a b c (fun h => q (ie_any_of o a b c (by decide) h)), ie_ch_n o a b c (fun h => q (ie_any_of o a b c (by decide) h)), ie_ch_n o a b c (fun h => q (ie_any_of o a b c (by decide) h))]
        rfl
      refine ie_Xkids o a b c hG hc ih hl hn hp 3 0 rfl L step st nc wo sk fa en ec false hnc hwo hrow hXR (by rw [e0]; rw [List.length_singleton] at hlen; show L.length + 0 ≤ 4200; omega) (by omega) ?_
      intro step' st' nc' wo' sk' fa' en' ec' u1 u2 u3 u4 u5 u6 u7
      rw [ie_cf_0, qf, Bool.or_false, ie_bi_f] at u6
      rw [e0, List.append_nil] at u7
      rw [List.length_singleton] at hlen
      obtain ⟨h0, h1, h2⟩ := hp
      by_cases z : l < c 0 + c 1 + c 2
      · have ez : ie_lc c p = 1 := if_neg (fun h => by omega)
        rw [ez] at K
        refine hG.2.2.2.2.1 step' l st' nc' wo' sk' fa' en' ec' (by omega) (by omega) u4 u6 z ?_
        exact K (step' + 1) st' nc' wo' 1 fa' en' ec' (by omega) (fun j hj => u2 j (by omega)) u3 u5 (ie_XR_sk m u7)
      · have ez : ie_lc c p = 0 := if_pos (by omega)
        rw [ez] at K
        have hlc : l = c 0 + c 1 + c 2 := by omega
        have hec := u7.2.2.1
        have hle := ie_es_len L
        have hrow' : ie_row st' (l * 15) m p := ie_row_c hrow (fun j hj => u2 _ (by omega))
        rw [hec]
        refine hG.2.2.2.2.2 step' l (ie_es L).length m p st' nc' wo' sk' fa' en' (by omega) (by omega) u4 u6 hlc (by omega) hrow' ?_
        intro en2 w1 w2
        exact K (step' + 1) st' nc' wo' sk' fa' en2 _ (by omega) (fun j hj => u2 j (by omega)) u3 u5 (ie_XR_en u7 w1 w2)
end
