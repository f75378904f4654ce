/-! the reference's search over an interface of steps: Mid k l: run k, at the l-th turn of it; C k l t: there, thread t is about to go; Nx k l: k runs noted, the orders from turn l on are used up; In k l s: at turn l the threads from s on are looked at -/
section
variable (o a b : Nat → Int32) (c : Nat → Nat) (g : Nat → Int32) {σ : Type} (tn cd : σ → Nat → Int32) (LD : (Nat → Int32) → (Nat → Nat) → σ → Prop) (YR : List (Nat × (Nat → Int32)) → σ → Prop) (Mid : Nat → Nat → σ → Prop) (C : Nat → Nat → Nat → σ → Prop) (Nx : Nat → Nat → σ → Prop) (In : Nat → Nat → Nat → σ → Prop)
def ie_ag (l : Nat) (v v' : σ) : Prop := (∀ j, j < l → tn v' j = tn v j) ∧ ∀ j, j < l → cd v' j = cd v j
def ie_YG : Prop :=
  (∀ k l m p v L, L.length = k → k < 4200 → l ≤ 10 → ie_ok c p → p 0 + p 1 + p 2 = l → LD m p v → YR L v → ¬ ie_any o a b c m p = true →
    (∀ v', ie_ag tn cd l v v' → YR (L ++ [(ie_lc c p, m)]) v' → Nx (k + 1) l v') → Mid k l v) ∧
  (∀ k l m p v L, L.length = k → k < 4200 → l < 10 → ie_ok c p → p 0 + p 1 + p 2 = l → LD m p v → YR L v → ie_any o a b c m p = true →
    (∀ v', ie_ag tn cd l v v' → tn v' l = nI (ie_t0 o a b c m p) → cd v' l = nI (ie_mk o a b c m p) → LD m p v' → YR L v' → C k l (ie_t0 o a b c m p) v') → Mid k l v) ∧
  (∀ k l t m p v L, L.length = k → k < 4200 → l < 10 → t < 3 → ie_ok c p → LD m p v → YR L v → tn v l = nI t → ie_can o a b c m p t = true → ie_fl o a b m p t = true →
    (∀ v', ie_ag tn cd (l + 1) v v' → YR (L ++ [(2 + t, m)]) v' → Nx (k + 1) (l + 1) v') → C k l t v) ∧
  (∀ k l t m p v L, L.length = k → k < 4200 → l < 10 → t < 3 → ie_ok c p → LD m p v → YR L v → tn v l = nI t → ie_can o a b c m p t = true → ¬ ie_fl o a b m p t = true →
    (∀ v', ie_ag tn cd (l + 1) v v' → LD (ie_nx o a b m t (t * 5 + p t)) (ie_st p t) v' → YR L v' → Mid k (l + 1) v') → C k l t v) ∧
  (∀ k l t v, l < 10 → t < 3 → tn v l = nI t → In k l (t + 1) v → Nx k (l + 1) v) ∧
  (∀ k l v, l < 10 → Nx k l v → In k l 3 v) ∧
  (∀ k l s m p v, l < 10 → s < 3 → cd v l = nI (ie_mk o a b c m p) → ¬ ie_can o a b c m p s = true → In k l (s + 1) v → In k l s v) ∧
  (∀ k l s m p v L, L.length = k → k < 4200 → l < 10 → s < 3 → ie_ok c p → p 0 + p 1 + p 2 = l → ie_path o a b c g l (tn v) (cd v) m p → cd v l = nI (ie_mk o a b c m p) → ie_can o a b c m p s = true → YR L v →
    (∀ v', ie_ag tn cd l v v' → tn v' l = nI s → cd v' l = nI (ie_mk o a b c m p) → LD m p v' → YR L v' → C k l s v') → In k l s v)
theorem ie_Ychild (hG : ie_YG o a b c g tn cd LD YR Mid C Nx In) (hc : ie_cb c) {n : Nat}
    (ih : ∀ (l : Nat) (m : Nat → Int32) (p : Nat → Nat) (L : List (Nat × (Nat → Int32))) (v : σ), ie_path o a b c g l (tn v) (cd v) m p → LD m p v → YR L v → ie_ok c p → p 0 + p 1 + p 2 = l → l + n = 11 → L.length + (ie_lv o a b c n m p).length ≤ 4200 →
      (∀ v', ie_ag tn cd l v v' → YR (L ++ ie_lv o a b c n m p) v' → Nx (L ++ ie_lv o a b c n m p).length l v') → Mid L.length l v)
    {l : Nat} {m : Nat → Int32} {p : Nat → Nat} (hl : p 0 + p 1 + p 2 = l) (hn : l + (n + 1) = 11) (hp : ie_ok c p)
    {t : Nat} {L : List (Nat × (Nat → Int32))} {v : σ} (ht : t < 3) (hcan : ie_can o a b c m p t = true) (hpath : ie_path o a b c g l (tn v) (cd v) m p) (hLD : LD m p v) (hYR : YR L v) (htn : tn v l = nI t) (hcd : cd v l = nI (ie_mk o a b c m p)) (hlen : L.length + (ie_ch o a b c (ie_lv o a b c n) m p t).length ≤ 4200)
    (K : ∀ v', ie_ag tn cd (l + 1) v v' → YR (L ++ ie_ch o a b c (ie_lv o a b c n) m p t) v' → Nx (L ++ ie_ch o a b c (ie_lv o a b c n) m p t).length (l + 1) v') : C L.length l t v := by
  obtain ⟨_, _, g3, g4, _⟩ := hG
  have hpos := ie_ch_pos o a b c hc hp (by omega : p 0 + p 1 + p 2 + (n + 1) = 11) ht hcan
  have hcs := hc.2.2.2
  obtain ⟨k1, k2⟩ := ie_ok_st c hp ht (ie_can_lt o a b c hcan)
  have hl10 : l < 10 := by
    obtain ⟨q0, q1, q2⟩ := k1
    omega
  by_cases hfl : ie_fl o a b m p t = true
  · rw [ie_ch_f o a b c hcan hfl] at K hpos hlen
    refine g3 L.length l t m p v L rfl (by omega) hl10 ht hp hLD hYR htn hcan hfl (fun v' h1 h2 => ?_)
    have := K v' h1 h2
    rw [List.length_append] at this
    exact this
  · rw [ie_ch_g o a b c hcan hfl] at K hpos hlen
    refine g4 L.length l t m p v L rfl (by omega) hl10 ht hp hLD hYR htn hcan hfl (fun v' h1 h2 h3 => ?_)
    refine ih (l + 1) _ _ L v' ⟨m, p, t, ie_path_c o a b c l hpath (fun j hj => h1.1 j (by omega)) (fun j hj => h1.2 j (by omega)), ht, (h1.1 l (by omega)).trans htn, (h1.2 l (by omega)).trans hcd, hcan, hfl, rfl, rfl⟩ h2 h3 k1 (by omega) (by omega) hlen (fun v2 q1 q2 => ?_)
    exact K v2 ⟨fun j hj => (q1.1 j hj).trans (h1.1 j hj), fun j hj => (q1.2 j hj).trans (h1.2 j hj)⟩ q2
theorem ie_Ykids (hG : ie_YG o a b c g tn cd LD YR Mid C Nx In) (hc : ie_cb c) {n : Nat}
    (ih : ∀ (l : Nat) (m : Nat → Int32) (p : Nat → Nat) (L : List (Nat × (Nat → Int32))) (v : σ), ie_path o a b c g l (tn v) (cd v) m p → LD m p v → YR L v → ie_ok c p → p 0 + p 1 + p 2 = l → l + n = 11 → L.length + (ie_lv o a b c n m p).length ≤ 4200 →
      (∀ v', ie_ag tn cd l v v' → YR (L ++ ie_lv o a b c n m p) v' → Nx (L ++ ie_lv o a b c n m p).length l v') → Mid L.length l v)
    {l : Nat} {m : Nat → Int32} {p : Nat → Nat} (hl : p 0 + p 1 + p 2 = l) (hn : l + (n + 1) = 11) (hp : ie_ok c p) (hl10 : l < 10) :
    ∀ (d s : Nat), s + d = 3 → ∀ (L : List (Nat × (Nat → Int32))) (v : σ), ie_path o a b c g l (tn v) (cd v) m p → YR L v → cd v l = nI (ie_mk o a b c m p) → L.length + (ie_cs o a b c (ie_lv o a b c n) m p s).length ≤ 4200 →
      (∀ v', ie_ag tn cd l v v' → YR (L ++ ie_cs o a b c (ie_lv o a b c n) m p s) v' → Nx (L ++ ie_cs o a b c (ie_lv o a b c n) m p s).length l v') → In L.length l s v := by
  have hG' := hG
  obtain ⟨_, _, _, _, g5, g6, g7, g8⟩ := hG'
  intro d
  induction d with
  | zero =>
    intro s hs L v hpath hYR hcd hlen K
    obtain rfl : s = 3 := by omega
    rw [ie_cs_3, List.append_nil] at K
    exact g6 _ l v hl10 (K v ⟨fun _ _ => rfl, fun _ _ => rfl⟩ hYR)
  | succ d ihd =>
    intro s hs L v hpath hYR hcd hlen K
    have hs3 : s < 3 := by omega
    have e2 := ie_cs_s o a b c (ie_lv o a b c n) m p hs3
    rw [e2, List.length_append] at hlen
    rw [e2] at K
    by_cases hcan : ie_can o a b c m p s = true
    · have hpos := ie_ch_pos o a b c hc hp (by omega : p 0 + p 1 + p 2 + (n + 1) = 11) hs3 hcan
      refine g8 _ l s m p v L rfl (by omega) hl10 hs3 hp hl hpath hcd hcan hYR (fun v1 h1 h2 h3 h4 h5 => ?_)
      have hpath1 : ie_path o a b c g l (tn v1) (cd v1) m p := ie_path_c o a b c l hpath h1.1 h1.2
      refine ie_Ychild o a b c g tn cd LD YR Mid C Nx In hG hc ih hl hn hp hs3 hcan hpath1 h4 h5 h2 h3 (by omega) (fun v2 q1 q2 => ?_)
      refine g5 _ l s v2 hl10 hs3 ((q1.1 l (by omega)).trans h2) ?_
      refine ihd (s + 1) (by omega) _ v2 (ie_path_c o a b c l hpath1 (fun j hj => q1.1 j (by omega)) (fun j hj => q1.2 j (by omega))) q2 ((q1.2 l (by omega)).trans h3) (by rw [List.length_append]; omega) (fun v3 r1 r2 => ?_)
      rw [List.append_assoc] at r2 ⊢
      exact K v3 ⟨fun j hj => (r1.1 j hj).trans ((q1.1 j (by omega)).trans (h1.1 j hj)), fun j hj => (r1.2 j hj).trans ((q1.2 j (by omega)).trans (h1.2 j hj))⟩ r2
    · rw [ie_ch_n o a b c hcan, List.nil_append] at K
      rw [ie_ch_n o a b c hcan, List.length_nil] at hlen
      exact g7 _ l s m p v hl10 hs3 hcd hcan (ihd (s + 1) (by omega) L v hpath hYR hcd (by omega) K)
theorem ie_Ytree (hG : ie_YG o a b c g tn cd LD YR Mid C Nx In) (hc : ie_cb c) : ∀ (n l : Nat) (m : Nat → Int32) (p : Nat → Nat) (L : List (Nat × (Nat → Int32))) (v : σ), ie_path o a b c g l (tn v) (cd v) m p → LD m p v → YR L v → ie_ok c p → p 0 + p 1 + p 2 = l → l + n = 11 → L.length + (ie_lv o a b c n m p).length ≤ 4200 →
      (∀ v', ie_ag tn cd l v v' → YR (L ++ ie_lv o a b c n m p) v' → Nx (L ++ ie_lv o a b c n m p).length l v') → Mid L.length l v := by
  intro n
  induction n with
  | zero =>
    intro l m p L v _ _ _ hp hl hn
    obtain ⟨h0, h1, h2⟩ := hp
    obtain ⟨_, _, _, q⟩ := hc
    omega
  | succ n ih =>
    intro l m p L v hpath hLD hYR hp hl hn hlen K
    have hpos := ie_pos o a b c hc (n + 1) m p hp (by omega)
    by_cases q : ie_any o a b c m p = true
    · have hcan := ie_t0_can o a b c q
      have ht := ie_t0_lt o a b c m p
      have hl10 : l < 10 := by
        obtain ⟨k1, k2⟩ := ie_ok_st c hp ht (ie_can_lt o a b c hcan)
        obtain ⟨q0, q1, q2⟩ := k1
        have := hc.2.2.2
        omega
      have e : ie_lv o a b c (n + 1) m p = ie_ch o a b c (ie_lv o a b c n) m p (ie_t0 o a b c m p) ++ ie_cs o a b c (ie_lv o a b c n) m p (ie_t0 o a b c m p + 1) := by
        rw [ie_cs_lv o a b c q, ie_t0_cs, ie_cs_s o a b c _ m p ht]
      rw [e] at K
      rw [e, List.length_append] at hlen
      have hposc := ie_ch_pos o a b c hc hp (by omega : p 0 + p 1 + p 2 + (n + 1) = 11) ht hcan
      refine hG.2.1 _ l m p v L rfl (by omega) hl10 hp hl hLD hYR q (fun v1 h1 h2 h3 h4 h5 => ?_)
      have hpath1 : ie_path o a b c g l (tn v1) (cd v1) m p := ie_path_c o a b c l hpath h1.1 h1.2
      refine ie_Ychild o a b c g tn cd LD YR Mid C Nx In hG hc ih hl hn hp ht hcan hpath1 h4 h5 h2 h3 (by omega) (fun v2 q1 q2 => ?_)
      refine hG.2.2.2.2.1 _ l _ v2 hl10 ht ((q1.1 l (by omega)).trans h2) ?_
      refine ie_Ykids o a b c g tn cd LD YR Mid C Nx In hG hc ih hl hn hp hl10 (2 - ie_t0 o a b c m p) (ie_t0 o a b c m p + 1) (by omega) _ v2 (ie_path_c o a b c l hpath1 (fun j hj => q1.1 j (by omega)) (fun j hj => q1.2 j (by omega))) q2 ((q1.2 l (by omega)).trans h3) (by rw [List.length_append]; omega) (fun v3 r1 r2 => ?_)
      rw [List.append_assoc] at r2 ⊢
      exact K v3 ⟨fun j hj => (r1.1 j hj).trans ((q1.1 j (by omega)).trans (h1.1 j hj)), fun j hj => (r1.2 j hj).trans ((q1.2 j (by omega)).trans (h1.2 j hj))⟩ r2
    · rw [ie_lv_f o a b c q] at K hlen
      rw [List.length_singleton] at hlen
      refine hG.1 _ l m p v L rfl (by omega) (by omega) hp hl hLD hYR q (fun v' h1 h2 => ?_)
      have := K v' h1 h2
      rw [List.length_append] at this
      exact this
end
