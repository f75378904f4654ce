/-! what is gathered over a list of leaves: the code 0 is an end with its memory, 1 stuck, 2 + t thread t failed -/
def ie_es (L : List (Nat × (Nat → Int32))) : List (Nat → Int32) := L.filterMap (fun x => if x.1 = 0 then some x.2 else none)
theorem ie_es_app (L K : List (Nat × (Nat → Int32))) : ie_es (L ++ K) = ie_es L ++ ie_es K := List.filterMap_append
theorem ie_es_0 (m : Nat → Int32) : ie_es [(0, m)] = [m] := rfl
theorem ie_es_n {k : Nat} (m : Nat → Int32) (h : k ≠ 0) : ie_es [(k, m)] = [] := by simp [ie_es, h]
theorem ie_es_len (L : List (Nat × (Nat → Int32))) : (ie_es L).length ≤ L.length := List.length_filterMap_le _ _
def ie_has (k : Nat) (L : List (Nat × (Nat → Int32))) : Bool := L.any (fun x => x.1 == k)
theorem ie_has_app (k : Nat) (L K : List (Nat × (Nat → Int32))) : ie_has k (L ++ K) = (ie_has k L || ie_has k K) := List.any_append
theorem ie_has_1 (k j : Nat) (m : Nat → Int32) : ie_has k [(j, m)] = (j == k) := by simp [ie_has]
theorem ie_has_no {k j : Nat} {m : Nat → Int32} {L : List (Nat × (Nat → Int32))} (h : j ≠ k) : ie_has k (L ++ [(j, m)]) = ie_has k L := by
  rw [ie_has_app, ie_has_1, beq_false_of_ne h, Bool.or_false]
theorem ie_has_yes {k : Nat} {m : Nat → Int32} {L : List (Nat × (Nat → Int32))} : ie_has k (L ++ [(k, m)]) = true := by
  rw [ie_has_app, ie_has_1, beq_self_eq_true, Bool.or_true]
theorem ie_es_no {j : Nat} {m : Nat → Int32} {L : List (Nat × (Nat → Int32))} (h : j ≠ 0) : ie_es (L ++ [(j, m)]) = ie_es L := by
  rw [ie_es_app, ie_es_n m h, List.append_nil]
theorem ie_es_yes {m : Nat → Int32} {L : List (Nat × (Nat → Int32))} : ie_es (L ++ [(0, m)]) = ie_es L ++ [m] := by
  rw [ie_es_app, ie_es_0]
theorem ie_bi_t : ie_bi true = 1 := rfl
theorem ie_bi_f : ie_bi false = 0 := rfl
/-- the component's findings over the leaves L -/
def ie_XR (L : List (Nat × (Nat → Int32))) (sk : Int32) (fa en : Nat → Int32) (ec : Int32) : Prop :=
  sk = ie_bi (ie_has 1 L) ∧ (∀ t, t < 3 → fa t = ie_bi (ie_has (2 + t) L)) ∧ ec = nI (ie_es L).length ∧ ∀ k e, (ie_es L)[k]? = some e → ∀ j, j < 10 → en (k * 10 + j) = e j
theorem ie_XR_0 {fa en : Nat → Int32} (h : ∀ t, t < 3 → fa t = 0) : ie_XR [] 0 fa en 0 :=
  ⟨rfl, fun t ht => h t ht, rfl, fun k e he => by rw [show ie_es [] = [] from rfl] at he; simp at he⟩
theorem ie_XR_sk {L : List (Nat × (Nat → Int32))} {sk ec : Int32} {fa en : Nat → Int32} (m : Nat → Int32) (h : ie_XR L sk fa en ec) : ie_XR (L ++ [(1, m)]) 1 fa en ec := by
  obtain ⟨_, h2, h3, h4⟩ := h
  refine ⟨by rw [ie_has_yes]; rfl, fun t ht => ?_, ?_, ?_⟩
  · rw [ie_has_no (show 1 ≠ 2 + t by omega)]
    exact h2 t ht
  · rw [ie_es_no (by decide)]
    exact h3
  · rw [ie_es_no (by decide)]
    exact h4
theorem ie_XR_fa {L : List (Nat × (Nat → Int32))} {sk ec : Int32} {fa en : Nat → Int32} (m : Nat → Int32) {t : Nat} (h : ie_XR L sk fa en ec) : ie_XR (L ++ [(2 + t, m)]) sk (upd fa t 1) en ec := by
  obtain ⟨h1, h2, h3, h4⟩ := h
  refine ⟨by rw [ie_has_no (show 2 + t ≠ 1 by omega)]; exact h1, fun s hs => ?_, ?_, ?_⟩
  · by_cases e : s = t
    · subst e
      rw [pk_us, ie_has_yes]
      rfl
    · rw [pk_un e, ie_has_no (show 2 + t ≠ 2 + s by omega)]
      exact h2 s hs
  · rw [ie_es_no (show 2 + t ≠ 0 by omega)]
    exact h3
  · rw [ie_es_no (show 2 + t ≠ 0 by omega)]
    exact h4
theorem ie_XR_en {L : List (Nat × (Nat → Int32))} {sk ec : Int32} {fa en en' : Nat → Int32} {m : Nat → Int32} (h : ie_XR L sk fa en ec) (hl : ∀ j, j < (ie_es L).length * 10 → en' j = en j) (hn : ∀ j, j < 10 → en' ((ie_es L).length * 10 + j) = m j) : ie_XR (L ++ [(0, m)]) sk fa en' (nI ((ie_es L).length + 1)) := by
  obtain ⟨h1, h2, h3, h4⟩ := h
  refine ⟨by rw [ie_has_no (by decide)]; exact h1, fun t ht => by rw [ie_has_no (show 0 ≠ 2 + t by omega)]; exact h2 t ht, by rw [ie_es_yes, List.length_append]; rfl, ?_⟩
  intro k e he j hj
  rw [ie_es_yes] at he
  by_cases g : k < (ie_es L).length
  · rw [List.getElem?_append_left g] at he
    rw [hl _ (by omega)]
    exact h4 k e he j hj
  · rw [List.getElem?_append_right (by omega)] at he
    by_cases z : k - (ie_es L).length = 0
    · rw [z] at he
      have he' : m = e := Option.some.inj he
      rw [← he', show k = (ie_es L).length by omega]
      exact hn j hj
    · obtain ⟨q, hq⟩ : ∃ q, k - (ie_es L).length = q + 1 := ⟨k - (ie_es L).length - 1, by omega⟩
      rw [hq] at he
      simp at he
def ie_E (L : List (Nat × (Nat → Int32))) (k : Nat) : Nat → Int32 := (ie_es L).getD k (fun _ => 0)
theorem ie_E_lo {L : List (Nat × (Nat → Int32))} {m : Nat → Int32} {k : Nat} (h : k < (ie_es L).length) : ie_E (L ++ [(0, m)]) k = ie_E L k := by
  unfold ie_E
  rw [ie_es_yes, List.getD_eq_getElem?_getD, List.getD_eq_getElem?_getD, List.getElem?_append_left h]
theorem ie_E_hi {L : List (Nat × (Nat → Int32))} {m : Nat → Int32} : ie_E (L ++ [(0, m)]) (ie_es L).length = m := by
  unfold ie_E
  rw [ie_es_yes, List.getD_eq_getElem?_getD, List.getElem?_append_right (Nat.le_refl _), Nat.sub_self]
  rfl
theorem ie_E_at {L : List (Nat × (Nat → Int32))} {k : Nat} (h : k < (ie_es L).length) : (ie_es L)[k]? = some (ie_E L k) := by
  unfold ie_E
  rw [List.getD_eq_getElem?_getD, List.getElem?_eq_getElem h]
  rfl
theorem ie_E_no {j : Nat} {m : Nat → Int32} {L : List (Nat × (Nat → Int32))} (h : j ≠ 0) : ie_E (L ++ [(j, m)]) = ie_E L := by
  funext k
  unfold ie_E
  rw [ie_es_no h]
theorem ie_XR_at {L : List (Nat × (Nat → Int32))} {sk ec : Int32} {fa en : Nat → Int32} (h : ie_XR L sk fa en ec) {k j : Nat} (hk : k < (ie_es L).length) (hj : j < 10) : en (k * 10 + j) = ie_E L k j := h.2.2.2 k _ (ie_E_at hk) j hj
def ie_mn (f : Nat → Int32) : Nat → Int32
  | 0 => f 0
  | k + 1 => if f (k + 1) < ie_mn f k then f (k + 1) else ie_mn f k
def ie_mx (f : Nat → Int32) : Nat → Int32
  | 0 => f 0
  | k + 1 => if ie_mx f k < f (k + 1) then f (k + 1) else ie_mx f k
theorem ie_mn_c {f g : Nat → Int32} : ∀ n : Nat, (∀ k, k ≤ n → f k = g k) → ie_mn f n = ie_mn g n := by
  intro n
  induction n with
  | zero => exact fun h => h 0 (Nat.le_refl 0)
  | succ n ih =>
    intro h
    show (if f (n + 1) < ie_mn f n then f (n + 1) else ie_mn f n) = if g (n + 1) < ie_mn g n then g (n + 1) else ie_mn g n
    rw [ih (fun k hk => h k (by omega)), h (n + 1) (Nat.le_refl _)]
theorem ie_mx_c {f g : Nat → Int32} : ∀ n : Nat, (∀ k, k ≤ n → f k = g k) → ie_mx f n = ie_mx g n := by
  intro n
  induction n with
  | zero => exact fun h => h 0 (Nat.le_refl 0)
  | succ n ih =>
    intro h
    show (if ie_mx f n < f (n + 1) then f (n + 1) else ie_mx f n) = if ie_mx g n < g (n + 1) then g (n + 1) else ie_mx g n
    rw [ih (fun k hk => h k (by omega)), h (n + 1) (Nat.le_refl _)]
def ie_fm (L : List (Nat × (Nat → Int32))) : Int32 := nI ((if ie_has 2 L = true then 1 else 0) + (if ie_has 3 L = true then 2 else 0) + (if ie_has 4 L = true then 4 else 0))
/-- the reference's findings over the leaves L -/
def ie_YR (v w : Nat) (x y : Int32) (L : List (Nat × (Nat → Int32))) (cm sk fs fo : Int32) (lo hi lr : Nat → Int32) : Prop :=
  cm = ie_bi (decide (0 < (ie_es L).length)) ∧ sk = ie_bi (ie_has 1 L) ∧ fs = ie_fm L ∧ fo = ie_bi ((ie_es L).any (fun e => decide (e v = x) && decide (e w = y))) ∧
  (0 < (ie_es L).length → (∀ i, i < 4 → lo i = ie_mn (fun k => ie_E L k i) ((ie_es L).length - 1) ∧ hi i = ie_mx (fun k => ie_E L k i) ((ie_es L).length - 1)) ∧ ∀ i, i < 6 → lr i = ie_mn (fun k => ie_E L k (4 + i)) ((ie_es L).length - 1))
theorem ie_YR_0 (v w : Nat) (x y : Int32) (lo hi lr : Nat → Int32) : ie_YR v w x y [] 0 0 0 0 lo hi lr :=
  ⟨rfl, rfl, rfl, rfl, fun h => absurd h (Nat.lt_irrefl 0)⟩
theorem ie_fm_no {j : Nat} {m : Nat → Int32} {L : List (Nat × (Nat → Int32))} (h : j < 2) : ie_fm (L ++ [(j, m)]) = ie_fm L := by
  unfold ie_fm
  rw [ie_has_no (show j ≠ 2 by omega), ie_has_no (show j ≠ 3 by omega), ie_has_no (show j ≠ 4 by omega)]
theorem ie_YR_sk {v w : Nat} {x y : Int32} {L : List (Nat × (Nat → Int32))} {cm sk fs fo : Int32} {lo hi lr : Nat → Int32} (m : Nat → Int32) (h : ie_YR v w x y L cm sk fs fo lo hi lr) : ie_YR v w x y (L ++ [(1, m)]) cm 1 fs fo lo hi lr := by
  obtain ⟨h1, _, h3, h4, h5⟩ := h
  unfold ie_YR
  rw [ie_es_no (by decide), ie_has_yes, ie_fm_no (by decide), ie_E_no (by decide)]
  exact ⟨h1, rfl, h3, h4, h5⟩
def ie_or (s t : Nat) : Nat := s ||| (2 ^ t)
theorem ie_fm_or : ∀ (p q r : Bool) (t : Nat), t < 3 → ie_or ((if p = true then 1 else 0) + (if q = true then 2 else 0) + (if r = true then 4 else 0)) t = (if (p || t == 0) = true then 1 else 0) + (if (q || t == 1) = true then 2 else 0) + (if (r || t == 2) = true then 4 else 0) := by
  intro p q r t ht
  rcases ie_3 ht with rfl | rfl | rfl <;> cases p <;> cases q <;> cases r <;> decide
theorem ie_fm_yes {t : Nat} (ht : t < 3) {m : Nat → Int32} {L : List (Nat × (Nat → Int32))} : ie_fm (L ++ [(2 + t, m)]) = nI (ie_or ((if ie_has 2 L = true then 1 else 0) + (if ie_has 3 L = true then 2 else 0) + (if ie_has 4 L = true then 4 else 0)) t) := by
  unfold ie_fm
  rw [ie_fm_or _ _ _ t ht, ie_has_app, ie_has_app, ie_has_app, ie_has_1, ie_has_1, ie_has_1]
  rcases ie_3 ht with rfl | rfl | rfl <;> rfl
theorem ie_YR_fa {v w : Nat} {x y : Int32} {L : List (Nat × (Nat → Int32))} {cm sk fs fo : Int32} {lo hi lr : Nat → Int32} (m : Nat → Int32) {t : Nat} (h : ie_YR v w x y L cm sk fs fo lo hi lr) : ie_YR v w x y (L ++ [(2 + t, m)]) cm sk (ie_fm (L ++ [(2 + t, m)])) fo lo hi lr := by
  obtain ⟨h1, h2, h3, h4, h5⟩ := h
  unfold ie_YR
  rw [ie_es_no (show 2 + t ≠ 0 by omega), ie_has_no (show 2 + t ≠ 1 by omega), ie_E_no (show 2 + t ≠ 0 by omega)]
  exact ⟨h1, h2, rfl, h4, h5⟩
/-- the new least and greatest, as the reference stores them -/
def ie_l1 (cm : Int32) (x y : Int32) : Int32 := if cm = 0 ∨ x < y then x else y
def ie_h1 (cm : Int32) (x y : Int32) : Int32 := if cm = 0 ∨ y < x then x else y
theorem ie_YR_mn {L : List (Nat × (Nat → Int32))} {cm z : Int32} {m : Nat → Int32} {i : Nat} (h1 : cm = ie_bi (decide (0 < (ie_es L).length))) (h5 : 0 < (ie_es L).length → z = ie_mn (fun k => ie_E L k i) ((ie_es L).length - 1)) : ie_l1 cm (m i) z = ie_mn (fun k => ie_E (L ++ [(0, m)]) k i) (ie_es L).length := by
  unfold ie_l1
  by_cases g : 0 < (ie_es L).length
  · rw [decide_eq_true g] at h1
    have hz := h5 g
    obtain ⟨n, hn⟩ : ∃ n, (ie_es L).length = n + 1 := ⟨(ie_es L).length - 1, by omega⟩
    have e1 : ie_mn (fun k => ie_E (L ++ [(0, m)]) k i) n = ie_mn (fun k => ie_E L k i) n := ie_mn_c n (fun k hk => by show ie_E (L ++ [(0, m)]) k i = ie_E L k i; rw [ie_E_lo (by omega)])
    have e2 : ie_E (L ++ [(0, m)]) (n + 1) = m := by rw [← hn]; exact ie_E_hi
    rw [hn, Nat.add_sub_cancel] at hz
    rw [hn]
    show _ = if ie_E (L ++ [(0, m)]) (n + 1) i < ie_mn (fun k => ie_E (L ++ [(0, m)]) k i) n then ie_E (L ++ [(0, m)]) (n + 1) i else ie_mn (fun k => ie_E (L ++ [(0, m)]) k i) n
    rw [e1, e2, ← hz]
    have h1' : ¬ cm = 0 := by rw [h1]; decide
    by_cases q : m i < z
    · rw [if_pos (Or.inr q), if_pos q]
    · rw [if_neg (fun r => r.elim h1' q), if_neg q]
  · rw [decide_eq_false g, ie_bi_f] at h1
    have hn : (ie_es L).length = 0 := by omega
    have e2 : ie_E (L ++ [(0, m)]) (ie_es L).length = m := ie_E_hi
    rw [hn] at e2 ⊢
    rw [if_pos (Or.inl h1)]
    show _ = ie_E (L ++ [(0, m)]) 0 i
    rw [e2]
theorem ie_YR_mx {L : List (Nat × (Nat → Int32))} {cm z : Int32} {m : Nat → Int32} {i : Nat} (h1 : cm = ie_bi (decide (0 < (ie_es L).length))) (h5 : 0 < (ie_es L).length → z = ie_mx (fun k => ie_E L k i) ((ie_es L).length - 1)) : ie_h1 cm (m i) z = ie_mx (fun k => ie_E (L ++ [(0, m)]) k i) (ie_es L).length := by
  unfold ie_h1
  by_cases g : 0 < (ie_es L).length
  · rw [decide_eq_true g] at h1
    have hz := h5 g
    obtain ⟨n, hn⟩ : ∃ n, (ie_es L).length = n + 1 := ⟨(ie_es L).length - 1, by omega⟩
    have e1 : ie_mx (fun k => ie_E (L ++ [(0, m)]) k i) n = ie_mx (fun k => ie_E L k i) n := ie_mx_c n (fun k hk => by show ie_E (L ++ [(0, m)]) k i = ie_E L k i; rw [ie_E_lo (by omega)])
    have e2 : ie_E (L ++ [(0, m)]) (n + 1) = m := by rw [← hn]; exact ie_E_hi
    rw [hn, Nat.add_sub_cancel] at hz
    rw [hn]
    show _ = if ie_mx (fun k => ie_E (L ++ [(0, m)]) k i) n < ie_E (L ++ [(0, m)]) (n + 1) i then ie_E (L ++ [(0, m)]) (n + 1) i else ie_mx (fun k => ie_E (L ++ [(0, m)]) k i) n
    rw [e1, e2, ← hz]
    have h1' : ¬ cm = 0 := by rw [h1]; decide
    by_cases q : z < m i
    · rw [if_pos (Or.inr q), if_pos q]
    · rw [if_neg (fun r => r.elim h1' q), if_neg q]
  · rw [decide_eq_false g, ie_bi_f] at h1
    have hn : (ie_es L).length = 0 := by omega
    have e2 : ie_E (L ++ [(0, m)]) (ie_es L).length = m := ie_E_hi
    rw [hn] at e2 ⊢
    rw [if_pos (Or.inl h1)]
    show _ = ie_E (L ++ [(0, m)]) 0 i
    rw [e2]
theorem ie_YR_en {v w : Nat} {x y : Int32} {L : List (Nat × (Nat → Int32))} {cm sk fs fo : Int32} {lo hi lr lo' hi' lr' : Nat → Int32} {m : Nat → Int32} (h : ie_YR v w x y L cm sk fs fo lo hi lr) (hlo : ∀ i, i < 4 → lo' i = ie_l1 cm (m i) (lo i)) (hhi : ∀ i, i < 4 → hi' i = ie_h1 cm (m i) (hi i)) (hlr : ∀ i, i < 6 → lr' i = ie_l1 cm (m (4 + i)) (lr i)) : ie_YR v w x y (L ++ [(0, m)]) 1 sk fs (if m v = x ∧ m w = y then 1 else fo) lo' hi' lr' := by
  obtain ⟨h1, h2, h3, h4, h5⟩ := h
  have hlen : (ie_es (L ++ [(0, m)])).length = (ie_es L).length + 1 := by rw [ie_es_yes, List.length_append]; rfl
  unfold ie_YR
  rw [hlen, ie_has_no (by decide), ie_fm_no (by decide), Nat.add_sub_cancel]
  refine ⟨by rw [decide_eq_true (Nat.succ_pos _)]; rfl, h2, h3, ?_, fun _ => ⟨fun i hi4 => ⟨?_, ?_⟩, fun i hi6 => ?_⟩⟩
  · rw [ie_es_yes, List.any_append]
    have e : ([m] : List (Nat → Int32)).any (fun e => decide (e v = x) && decide (e w = y)) = (decide (m v = x) && decide (m w = y)) := by simp
    rw [e]
    by_cases q : m v = x ∧ m w = y
    · rw [if_pos q, decide_eq_true q.1, decide_eq_true q.2, Bool.and_true, Bool.or_true]
      rfl
    · rw [if_neg q]
      have q' : (decide (m v = x) && decide (m w = y)) = false := by
        rw [Bool.and_eq_false_iff]
        by_cases q1 : m v = x
        · exact Or.inr (decide_eq_false (fun q2 => q ⟨q1, q2⟩))
        · exact Or.inl (decide_eq_false q1)
      rw [q', Bool.or_false]
      exact h4
  · rw [hlo i hi4]
    exact ie_YR_mn h1 (fun g => ((h5 g).1 i hi4).1)
  · rw [hhi i hi4]
    exact ie_YR_mx h1 (fun g => ((h5 g).1 i hi4).2)
  · rw [hlr i hi6]
    exact ie_YR_mn h1 (fun g => (h5 g).2 i hi6)
theorem ie_all0 : ∀ L : List (Nat × (Nat → Int32)), (∀ x, x ∈ L → x.1 ≤ 4) → ie_has 1 L = false → ie_has 2 L = false → ie_has 3 L = false → ie_has 4 L = false → 0 < L.length → 0 < (ie_es L).length := by
  intro L hc h1 h2 h3 h4 hl
  cases L with
  | nil => exact absurd hl (Nat.lt_irrefl 0)
  | cons x K =>
    have g : ∀ k, ie_has k (x :: K) = false → x.1 ≠ k := by
      intro k hk
      unfold ie_has at hk
      rw [List.any_cons, Bool.or_eq_false_iff] at hk
      intro e
      rw [e, beq_self_eq_true] at hk
      exact absurd hk.1 (by decide)
    have hx := hc x List.mem_cons_self
    have e0 : x.1 = 0 := by
      have := g 1 h1
      have := g 2 h2
      have := g 3 h3
      have := g 4 h4
      omega
    have e1 : ie_es (x :: K) = x.2 :: ie_es K := by
      unfold ie_es
      rw [List.filterMap_cons, if_pos e0]
    rw [e1]
    exact Nat.succ_pos _
