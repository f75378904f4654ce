/-! the pure picture of the tree of turns: a memory m (0..3 variables, 4..9 registers, 10 and 11 locks: 0 free, else the holder's number plus 1), how far each thread has come p -/
theorem ie_3 {t : Nat} (h : t < 3) : t = 0 ∨ t = 1 ∨ t = 2 := by omega
def ie_b1 (x : Int32) : Nat := x.toBitVec.toNat % 2
def ie_b3 (x : Int32) : Nat := x.toBitVec.toNat % 4
theorem ie_b1_lt (x : Int32) : ie_b1 x < 2 := Nat.mod_lt _ (by decide)
theorem ie_b3_lt (x : Int32) : ie_b3 x < 4 := Nat.mod_lt _ (by decide)
theorem ie_b1_e (x : Int32) : x &&& 1 = nI (ie_b1 x) := pk_and x 1 (by decide)
theorem ie_b3_e (x : Int32) : x &&& 3 = nI (ie_b3 x) := pk_and x 2 (by decide)
def ie_bi (z : Bool) : Int32 := if z = true then 1 else 0
section
variable (o a b : Nat → Int32) (c : Nat → Nat)
def ie_can (m : Nat → Int32) (p : Nat → Nat) (t : Nat) : Bool :=
  decide (p t < c t) && (if o (t * 5 + p t) = 4 then decide (m (10 + ie_b1 (a (t * 5 + p t))) = 0) else if o (t * 5 + p t) = 8 then decide (m (ie_b3 (a (t * 5 + p t))) = b (t * 5 + p t)) else true)
def ie_fl (m : Nat → Int32) (p : Nat → Nat) (t : Nat) : Bool :=
  decide (o (t * 5 + p t) = 6) && !decide (m (4 + t * 2 + ie_b1 (a (t * 5 + p t))) = b (t * 5 + p t))
def ie_nx (m : Nat → Int32) (t i : Nat) : Nat → Int32 :=
  if o i = 0 then upd m (4 + t * 2 + ie_b1 (a i)) (m (ie_b3 (b i)))
  else if o i = 1 then upd m (ie_b3 (b i)) (m (4 + t * 2 + ie_b1 (a i)))
  else if o i = 2 then upd m (4 + t * 2 + ie_b1 (a i)) (m (4 + t * 2 + ie_b1 (a i)) + b i)
  else if o i = 3 then upd m (ie_b3 (b i)) (a i)
  else if o i = 4 then upd m (10 + ie_b1 (a i)) (nI (t + 1))
  else if o i = 5 then (if m (10 + ie_b1 (a i)) = nI (t + 1) then upd m (10 + ie_b1 (a i)) 0 else m)
  else if o i = 7 then upd (upd m (4 + t * 2 + ie_b1 (a i)) (m (ie_b3 (b i)))) (ie_b3 (b i)) (m (4 + t * 2 + ie_b1 (a i)))
  else m
def ie_st (p : Nat → Nat) (t : Nat) : Nat → Nat := fun j => if j = t then p t + 1 else p j
def ie_lc (p : Nat → Nat) : Nat := if p 0 = c 0 ∧ p 1 = c 1 ∧ p 2 = c 2 then 0 else 1
def ie_ch (f : (Nat → Int32) → (Nat → Nat) → List (Nat × (Nat → Int32))) (m : Nat → Int32) (p : Nat → Nat) (t : Nat) : List (Nat × (Nat → Int32)) :=
  if ie_can o a b c m p t = true then (if ie_fl o a b m p t = true then [(2 + t, m)] else f (ie_nx o a b m t (t * 5 + p t)) (ie_st p t)) else []
def ie_any (m : Nat → Int32) (p : Nat → Nat) : Bool := ie_can o a b c m p 0 || ie_can o a b c m p 1 || ie_can o a b c m p 2
def ie_lv : Nat → (Nat → Int32) → (Nat → Nat) → List (Nat × (Nat → Int32))
  | 0 => fun _ _ => []
  | n + 1 => fun m p => if ie_any o a b c m p = true then ie_ch o a b c (ie_lv n) m p 0 ++ (ie_ch o a b c (ie_lv n) m p 1 ++ ie_ch o a b c (ie_lv n) m p 2) else [(ie_lc c p, m)]
theorem ie_lv_t {n : Nat} {m : Nat → Int32} {p : Nat → Nat} (h : ie_any o a b c m p = true) : ie_lv o a b c (n + 1) m p = ie_ch o a b c (ie_lv o a b c n) m p 0 ++ (ie_ch o a b c (ie_lv o a b c n) m p 1 ++ ie_ch o a b c (ie_lv o a b c n) m p 2) := if_pos h
theorem ie_lv_f {n : Nat} {m : Nat → Int32} {p : Nat → Nat} (h : ¬ ie_any o a b c m p = true) : ie_lv o a b c (n + 1) m p = [(ie_lc c p, m)] := if_neg h
theorem ie_ch_n {f : (Nat → Int32) → (Nat → Nat) → List (Nat × (Nat → Int32))} {m : Nat → Int32} {p : Nat → Nat} {t : Nat} (h : ¬ ie_can o a b c m p t = true) : ie_ch o a b c f m p t = [] := if_neg h
theorem ie_ch_f {f : (Nat → Int32) → (Nat → Nat) → List (Nat × (Nat → Int32))} {m : Nat → Int32} {p : Nat → Nat} {t : Nat} (h : ie_can o a b c m p t = true) (g : ie_fl o a b m p t = true) : ie_ch o a b c f m p t = [(2 + t, m)] := (if_pos h).trans (if_pos g)
theorem ie_ch_g {f : (Nat → Int32) → (Nat → Nat) → List (Nat × (Nat → Int32))} {m : Nat → Int32} {p : Nat → Nat} {t : Nat} (h : ie_can o a b c m p t = true) (g : ¬ ie_fl o a b m p t = true) : ie_ch o a b c f m p t = f (ie_nx o a b m t (t * 5 + p t)) (ie_st p t) := (if_pos h).trans (if_neg g)
theorem ie_any_of {m : Nat → Int32} {p : Nat → Nat} {t : Nat} (ht : t < 3) (h : ie_can o a b c m p t = true) : ie_any o a b c m p = true := by
  unfold ie_any
  rcases ie_3 ht with rfl | rfl | rfl <;> rw [h] <;> simp
theorem ie_any_ex {m : Nat → Int32} {p : Nat → Nat} (h : ie_any o a b c m p = true) : ∃ t, t < 3 ∧ ie_can o a b c m p t = true := by
  unfold ie_any at h
  rw [Bool.or_eq_true, Bool.or_eq_true] at h
  rcases h with (h | h) | h
  · exact ⟨0, by decide, h⟩
  · exact ⟨1, by decide, h⟩
  · exact ⟨2, by decide, h⟩
def ie_ok (p : Nat → Nat) : Prop := p 0 ≤ c 0 ∧ p 1 ≤ c 1 ∧ p 2 ≤ c 2
def ie_cb : Prop := c 0 ≤ 5 ∧ c 1 ≤ 5 ∧ c 2 ≤ 5 ∧ c 0 + c 1 + c 2 ≤ 10
theorem ie_can_lt {m : Nat → Int32} {p : Nat → Nat} {t : Nat} (h : ie_can o a b c m p t = true) : p t < c t := by
  unfold ie_can at h
  rw [Bool.and_eq_true] at h
  exact of_decide_eq_true h.1
theorem ie_st_s (p : Nat → Nat) (t : Nat) : ie_st p t t = p t + 1 := if_pos rfl
theorem ie_st_n (p : Nat → Nat) {t j : Nat} (h : j ≠ t) : ie_st p t j = p j := if_neg h
theorem ie_ok_st {p : Nat → Nat} {t : Nat} (hp : ie_ok c p) (ht : t < 3) (h : p t < c t) : ie_ok c (ie_st p t) ∧ ie_st p t 0 + ie_st p t 1 + ie_st p t 2 = p 0 + p 1 + p 2 + 1 := by
  obtain ⟨h0, h1, h2⟩ := hp
  unfold ie_ok
  rcases ie_3 ht with rfl | rfl | rfl
  · rw [ie_st_s, ie_st_n p (show (1 : Nat) ≠ 0 by decide), ie_st_n p (show (2 : Nat) ≠ 0 by decide)]; omega
  · rw [ie_st_s, ie_st_n p (show (0 : Nat) ≠ 1 by decide), ie_st_n p (show (2 : Nat) ≠ 1 by decide)]; omega
  · rw [ie_st_s, ie_st_n p (show (0 : Nat) ≠ 2 by decide), ie_st_n p (show (1 : Nat) ≠ 2 by decide)]; omega
theorem ie_lt_c {p : Nat → Nat} (hc : ie_cb c) (hp : ie_ok c p) {t : Nat} (ht : t < 3) : p t ≤ c t ∧ c t ≤ 5 := by
  obtain ⟨h0, h1, h2⟩ := hp
  obtain ⟨g0, g1, g2, _⟩ := hc
  rcases ie_3 ht with rfl | rfl | rfl <;> omega
def ie_f : Nat → Nat
  | 0 => 1
  | n + 1 => (n + 1) * ie_f n
def ie_M (x y z : Nat) : Nat := ie_f (x + y + z) / (ie_f x * ie_f y * ie_f z)
theorem ie_M1 : ∀ x, x < 6 → ∀ y, y < 6 → ∀ z, z < 6 → 1 ≤ ie_M x y z := by decide +kernel
theorem ie_Ms : ∀ x, x < 6 → ∀ y, y < 6 → ∀ z, z < 6 → (0 < x ∨ 0 < y ∨ 0 < z) → (if 0 < x then ie_M (x - 1) y z else 0) + ((if 0 < y then ie_M x (y - 1) z else 0) + (if 0 < z then ie_M x y (z - 1) else 0)) ≤ ie_M x y z := by decide +kernel
theorem ie_Mt : ∀ x, x < 6 → ∀ y, y < 6 → ∀ z, z < 6 → x + y + z ≤ 10 → ie_M x y z ≤ 4200 := by decide +kernel
theorem ie_len (hc : ie_cb c) : ∀ (n : Nat) (m : Nat → Int32) (p : Nat → Nat), ie_ok c p → (ie_lv o a b c n m p).length ≤ ie_M (c 0 - p 0) (c 1 - p 1) (c 2 - p 2) := by
  obtain ⟨g0, g1, g2, _⟩ := hc
  intro n
  induction n with
  | zero => exact fun m p _ => Nat.zero_le _
  | succ n ih =>
    intro m p hp
    have k0 : (ie_ch o a b c (ie_lv o a b c n) m p 0).length ≤ if 0 < c 0 - p 0 then ie_M (c 0 - p 0 - 1) (c 1 - p 1) (c 2 - p 2) else 0 := by
      by_cases g : ie_can o a b c m p 0 = true
      · have hl := ie_can_lt o a b c g
        rw [if_pos (show 0 < c 0 - p 0 by omega)]
        by_cases f : ie_fl o a b m p 0 = true
        · rw [ie_ch_f o a b c g f]
          exact ie_M1 _ (by omega) _ (by omega) _ (by omega)
        · rw [ie_ch_g o a b c g f]
          have := ih (ie_nx o a b m 0 (0 * 5 + p 0)) (ie_st p 0) (ie_ok_st c hp (by decide) hl).1
          rw [ie_st_s, ie_st_n p (show (1 : Nat) ≠ 0 by decide), ie_st_n p (show (2 : Nat) ≠ 0 by decide), Nat.sub_add_eq] at this
          exact this
      · rw [ie_ch_n o a b c g]
        exact Nat.zero_le _
    have k1 : (ie_ch o a b c (ie_lv o a b c n) m p 1).length ≤ if 0 < c 1 - p 1 then ie_M (c 0 - p 0) (c 1 - p 1 - 1) (c 2 - p 2) else 0 := by
      by_cases g : ie_can o a b c m p 1 = true
      · have hl := ie_can_lt o a b c g
        rw [if_pos (show 0 < c 1 - p 1 by omega)]
        by_cases f : ie_fl o a b m p 1 = true
        · rw [ie_ch_f o a b c g f]
          exact ie_M1 _ (by omega) _ (by omega) _ (by omega)
        · rw [ie_ch_g o a b c g f]
          have := ih (ie_nx o a b m 1 (1 * 5 + p 1)) (ie_st p 1) (ie_ok_st c hp (by decide) hl).1
          rw [ie_st_s, ie_st_n p (show (0 : Nat) ≠ 1 by decide), ie_st_n p (show (2 : Nat) ≠ 1 by decide), Nat.sub_add_eq] at this
          exact this
      · rw [ie_ch_n o a b c g]
        exact Nat.zero_le _
    have k2 : (ie_ch o a b c (ie_lv o a b c n) m p 2).length ≤ if 0 < c 2 - p 2 then ie_M (c 0 - p 0) (c 1 - p 1) (c 2 - p 2 - 1) else 0 := by
      by_cases g : ie_can o a b c m p 2 = true
      · have hl := ie_can_lt o a b c g
        rw [if_pos (show 0 < c 2 - p 2 by omega)]
        by_cases f : ie_fl o a b m p 2 = true
        · rw [ie_ch_f o a b c g f]
          exact ie_M1 _ (by omega) _ (by omega) _ (by omega)
        · rw [ie_ch_g o a b c g f]
          have := ih (ie_nx o a b m 2 (2 * 5 + p 2)) (ie_st p 2) (ie_ok_st c hp (by decide) hl).1
          rw [ie_st_s, ie_st_n p (show (0 : Nat) ≠ 2 by decide), ie_st_n p (show (1 : Nat) ≠ 2 by decide), Nat.sub_add_eq] at this
          exact this
      · rw [ie_ch_n o a b c g]
        exact Nat.zero_le _
    by_cases q : ie_any o a b c m p = true
    · rw [ie_lv_t o a b c q, List.length_append, List.length_append]
      have hx : 0 < c 0 - p 0 ∨ 0 < c 1 - p 1 ∨ 0 < c 2 - p 2 := by
        obtain ⟨t, ht, hcan⟩ := ie_any_ex o a b c q
        have hl := ie_can_lt o a b c hcan
        rcases ie_3 ht with rfl | rfl | rfl <;> omega
      exact Nat.le_trans (Nat.add_le_add k0 (Nat.add_le_add k1 k2)) (ie_Ms _ (by omega) _ (by omega) _ (by omega) hx)
    · rw [ie_lv_f o a b c q]
      exact ie_M1 _ (by omega) _ (by omega) _ (by omega)
theorem ie_pos (hc : ie_cb c) : ∀ (n : Nat) (m : Nat → Int32) (p : Nat → Nat), ie_ok c p → p 0 + p 1 + p 2 + n = 11 → 0 < (ie_lv o a b c n m p).length := by
  intro n
  induction n with
  | zero =>
    intro m p hp hs
    obtain ⟨h0, h1, h2⟩ := hp
    obtain ⟨_, _, _, g⟩ := hc
    omega
  | succ n ih =>
    intro m p hp hs
    by_cases q : ie_any o a b c m p = true
    · obtain ⟨t, ht, hcan⟩ := ie_any_ex o a b c q
      have hl := ie_can_lt o a b c hcan
      have k : 0 < (ie_ch o a b c (ie_lv o a b c n) m p t).length := by
        by_cases f : ie_fl o a b m p t = true
        · rw [ie_ch_f o a b c hcan f]
          exact Nat.zero_lt_one
        · rw [ie_ch_g o a b c hcan f]
          obtain ⟨u1, u2⟩ := ie_ok_st c hp ht hl
          exact ih _ _ u1 (by omega)
      rw [ie_lv_t o a b c q, List.length_append, List.length_append]
      rcases ie_3 ht with rfl | rfl | rfl <;> omega
    · rw [ie_lv_f o a b c q]
      exact Nat.zero_lt_one
theorem ie_ch_pos (hc : ie_cb c) {n : Nat} {m : Nat → Int32} {p : Nat → Nat} {t : Nat} (hp : ie_ok c p) (hs : p 0 + p 1 + p 2 + (n + 1) = 11) (ht : t < 3) (h : ie_can o a b c m p t = true) : 0 < (ie_ch o a b c (ie_lv o a b c n) m p t).length := by
  by_cases f : ie_fl o a b m p t = true
  · rw [ie_ch_f o a b c h f]
    exact Nat.zero_lt_one
  · rw [ie_ch_g o a b c h f]
    obtain ⟨u1, u2⟩ := ie_ok_st c hp ht (ie_can_lt o a b c h)
    exact ie_pos o a b c hc _ _ _ u1 (by omega)
theorem ie_code : ∀ (n : Nat) (m : Nat → Int32) (p : Nat → Nat) (x : Nat × (Nat → Int32)), x ∈ ie_lv o a b c n m p → x.1 ≤ 4 := by
  intro n
  induction n with
  | zero => exact fun m p x h => absurd h List.not_mem_nil
  | succ n ih =>
    intro m p x h
    have k : ∀ t, t < 3 → x ∈ ie_ch o a b c (ie_lv o a b c n) m p t → x.1 ≤ 4 := by
      intro t ht hx
      by_cases g : ie_can o a b c m p t = true
      · by_cases f : ie_fl o a b m p t = true
        · rw [ie_ch_f o a b c g f, List.mem_singleton] at hx
          rw [hx]
          show 2 + t ≤ 4
          omega
        · rw [ie_ch_g o a b c g f] at hx
          exact ih _ _ _ hx
      · rw [ie_ch_n o a b c g] at hx
        exact absurd hx List.not_mem_nil
    by_cases q : ie_any o a b c m p = true
    · rw [ie_lv_t o a b c q, List.mem_append, List.mem_append] at h
      rcases h with h | h | h
      · exact k 0 (by decide) h
      · exact k 1 (by decide) h
      · exact k 2 (by decide) h
    · rw [ie_lv_f o a b c q, List.mem_singleton] at h
      rw [h]
      show ie_lc c p ≤ 4
      unfold ie_lc
      split <;> decide
end
