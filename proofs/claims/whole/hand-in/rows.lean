section
/-! rows of the kit, pasted from kit/rows/PURE-ROWS -/
theorem pk_us {f : Nat → Int32} {k : Nat} {x : Int32} : upd f k x k = x := if_pos rfl
theorem pk_un {f : Nat → Int32} {k j : Nat} {x : Int32} (h : j ≠ k) : upd f k x j = f j := if_neg h
theorem pk_sub {a b : Nat} (h : b ≤ a) : nI a - nI b = nI (a - b) := by
  obtain ⟨c, rfl⟩ : ∃ c, a = c + b := ⟨a - b, by omega⟩
  rw [← nI_add, Int32.add_sub_cancel, Nat.add_sub_cancel]
theorem pk_m1 (n : Nat) : nI (n + 1) + (-1) = nI n := by
  rw [← nI_1, Int32.add_assoc, show (1 : Int32) + (-1) = 0 from rfl, Int32.add_zero]
theorem pk_mul (a b : Nat) : nI a * nI b = nI (a * b) := (Int32.ofNat_mul a b).symm
theorem pk_ix (x : Int32) {n : Nat} (hn : n < 2 ^ 31) : x < 0 ∨ nI n ≤ x ∨ ∃ j : Nat, j < n ∧ x = nI j := by
  by_cases h : x < 0
  · exact Or.inl h
  · obtain ⟨j, hj, rfl⟩ := nI_of h
    by_cases h2 : j < n
    · exact Or.inr (Or.inr ⟨j, h2, rfl⟩)
    · exact Or.inr (Or.inl (nI_le (by omega) hj))
theorem pk_le {x y : Int32} {A B : Prop} (a b : Nat) (f : a ≤ b → A) (g : b < a → B) (hx : x = nI a := by rfl) (hy : y = nI b := by rfl) (ha : a < 2 ^ 31 := by omega) (hb : b < 2 ^ 31 := by omega) : (x ≤ y → A) ∧ (¬ x ≤ y → B) := by
  subst hx hy
  rw [nI_leI ha hb]
  exact ⟨f, fun z => g (by omega)⟩
theorem pk_lt {x y : Int32} {A B : Prop} (a b : Nat) (f : a < b → A) (g : b ≤ a → B) (hx : x = nI a := by rfl) (hy : y = nI b := by rfl) (ha : a < 2 ^ 31 := by omega) (hb : b < 2 ^ 31 := by omega) : (x < y → A) ∧ (¬ x < y → B) := by
  subst hx hy
  rw [nI_ltI ha hb]
  exact ⟨f, fun z => g (by omega)⟩
theorem pk_eq {x y : Int32} {A B : Prop} (a b : Nat) (f : a = b → A) (g : a ≠ b → B) (hx : x = nI a := by rfl) (hy : y = nI b := by rfl) (ha : a < 2 ^ 31 := by omega) (hb : b < 2 ^ 31 := by omega) : (x = y → A) ∧ (¬ x = y → B) := by
  subst hx hy
  rw [nI_eq ha hb]
  exact ⟨f, g⟩
theorem pk_in {x : Int32} (n N : Nat) (h : n < N) (hx : x = nI n := by rfl) (hN : N < 2 ^ 31 := by omega) : vp_in x N := by
  subst hx
  exact vp_in_nI h hN
theorem pk_cl {x : Int32} (n : Nat) (hx : x = nI n := by rfl) (h : n < 2 ^ 31 := by omega) : x.toNatClampNeg = n := by
  subst hx
  exact nI_clamp h
theorem pk_tn {n : Nat} (h : n < 2 ^ 32) : (nI n).toBitVec.toNat = n := Nat.mod_eq_of_lt h
theorem pk_and (x : Int32) {m : Int32} (k : Nat) (hm : m.toBitVec.toNat = 2 ^ k - 1) : x &&& m = nI (x.toBitVec.toNat % 2 ^ k) := by
  apply Int32.toBitVec_inj.mp
  apply BitVec.eq_of_toNat_eq
  rw [Int32.toBitVec_and, BitVec.toNat_and, hm, Nat.and_two_pow_sub_one_eq_mod]
  show _ = (BitVec.ofNat 32 _).toNat
  rw [BitVec.toNat_ofNat]
  exact (Nat.mod_eq_of_lt (Nat.lt_of_le_of_lt (Nat.mod_le _ _) x.toBitVec.isLt)).symm
theorem pk_andN {n : Nat} (h : n < 2 ^ 32) {m : Int32} (k : Nat) (hm : m.toBitVec.toNat = 2 ^ k - 1) : nI n &&& m = nI (n % 2 ^ k) := by
  rw [pk_and _ k hm, pk_tn h]
theorem pk_andE (x : Int32) {m : Int32} (k : Nat) (hm : m.toBitVec.toNat = 2 ^ k - 1) : ∃ j : Nat, j < 2 ^ k ∧ x &&& m = nI j := ⟨_, Nat.mod_lt _ (Nat.two_pow_pos k), pk_and x k hm⟩
theorem pk_shl (a s : Int32) (k : Nat) (hs : (s.toBitVec.smod 32).toNat = k) : (a <<< s).toBitVec.toNat = a.toBitVec.toNat * 2 ^ k % 2 ^ 32 := by
  show (a.toBitVec <<< (s.toBitVec.smod 32).toNat).toNat = _
  rw [hs, BitVec.toNat_shiftLeft, Nat.shiftLeft_eq]
theorem pk_shlN {n : Nat} (s : Int32) (k : Nat) (hs : (s.toBitVec.smod 32).toNat = k) (h : n * 2 ^ k < 2 ^ 32) : nI n <<< s = nI (n * 2 ^ k) := by
  apply Int32.toBitVec_inj.mp
  apply BitVec.eq_of_toNat_eq
  have hn : n < 2 ^ 32 := Nat.lt_of_le_of_lt (Nat.le_mul_of_pos_right n (Nat.two_pow_pos k)) h
  rw [pk_shl _ _ k hs, pk_tn hn, pk_tn h, Nat.mod_eq_of_lt h]
theorem pk_shr (a s : Int32) (k : Nat) (hs : (s.toBitVec.smod 32).toNat = k) : (a >>> s).toInt = a.toInt >>> k := by
  show (a.toBitVec.sshiftRight (s.toBitVec.smod 32).toNat).toInt = _
  rw [hs, BitVec.toInt_sshiftRight]
  rfl
theorem pk_shrN {n : Nat} (h : n < 2 ^ 31) (s : Int32) (k : Nat) (hs : (s.toBitVec.smod 32).toNat = k) : nI n >>> s = nI (n / 2 ^ k) := by
  apply Int32.toInt_inj.mp
  have h2 : n / 2 ^ k ≤ n := Nat.div_le_self _ _
  rw [pk_shr _ _ k hs, nI_toInt h, nI_toInt (by omega), Int.shiftRight_eq_div_pow]
  rfl
theorem pk_loop {σ : Type} (W : Nat → Nat → σ → Prop) (I : Nat → σ → Prop) (e i0 : Nat) (s : σ) (hi : i0 ≤ e) (h0 : I i0 s) (hx : ∀ n s, I e s → W (n + 1) e s)
    (hs : ∀ n i s, i < e → I i s → (∀ s', I (i + 1) s' → W n (i + 1) s') → W (n + 1) i s) : ∃ n, W n i0 s :=
  ⟨e + 1, loop_i W I e hx hs (e + 1) i0 s hi (by omega) h0⟩
end
section
/-! the pure picture of the tree of turns: a memory m (0..3 variables, 4..9 registers, 10 and 11 locks: 0 free, else the holder's number plus 1), how far each thread has come p -/
theorem ie_3 {t : Nat} (h : t < 3) : t = 0 ∨ t = 1 ∨ t = 2 := by omega
def ie_b1 (x : Int32) : Nat := x.toBitVec.toNat % 2
def ie_b3 (x : Int32) : Nat := x.toBitVec.toNat % 4
theorem ie_b1_lt (x : Int32) : ie_b1 x < 2 := Nat.mod_lt _ (by decide)
theorem ie_b3_lt (x : Int32) : ie_b3 x < 4 := Nat.mod_lt _ (by decide)
theorem ie_b1_e (x : Int32) : x &&& 1 = nI (ie_b1 x) := pk_and x 1 (by decide)
theorem ie_b3_e (x : Int32) : x &&& 3 = nI (ie_b3 x) := pk_and x 2 (by decide)
def ie_bi (z : Bool) : Int32 := if z = true then 1 else 0
section
variable (o a b : Nat → Int32) (c : Nat → Nat)
def ie_can (m : Nat → Int32) (p : Nat → Nat) (t : Nat) : Bool :=
  decide (p t < c t) && (if o (t * 5 + p t) = 4 then decide (m (10 + ie_b1 (a (t * 5 + p t))) = 0) else if o (t * 5 + p t) = 8 then decide (m (ie_b3 (a (t * 5 + p t))) = b (t * 5 + p t)) else true)
def ie_fl (m : Nat → Int32) (p : Nat → Nat) (t : Nat) : Bool :=
  decide (o (t * 5 + p t) = 6) && !decide (m (4 + t * 2 + ie_b1 (a (t * 5 + p t))) = b (t * 5 + p t))
def ie_nx (m : Nat → Int32) (t i : Nat) : Nat → Int32 :=
  if o i = 0 then upd m (4 + t * 2 + ie_b1 (a i)) (m (ie_b3 (b i)))
  else if o i = 1 then upd m (ie_b3 (b i)) (m (4 + t * 2 + ie_b1 (a i)))
  else if o i = 2 then upd m (4 + t * 2 + ie_b1 (a i)) (m (4 + t * 2 + ie_b1 (a i)) + b i)
  else if o i = 3 then upd m (ie_b3 (b i)) (a i)
  else if o i = 4 then upd m (10 + ie_b1 (a i)) (nI (t + 1))
  else if o i = 5 then (if m (10 + ie_b1 (a i)) = nI (t + 1) then upd m (10 + ie_b1 (a i)) 0 else m)
  else if o i = 7 then upd (upd m (4 + t * 2 + ie_b1 (a i)) (m (ie_b3 (b i)))) (ie_b3 (b i)) (m (4 + t * 2 + ie_b1 (a i)))
  else m
def ie_st (p : Nat → Nat) (t : Nat) : Nat → Nat := fun j => if j = t then p t + 1 else p j
def ie_lc (p : Nat → Nat) : Nat := if p 0 = c 0 ∧ p 1 = c 1 ∧ p 2 = c 2 then 0 else 1
def ie_ch (f : (Nat → Int32) → (Nat → Nat) → List (Nat × (Nat → Int32))) (m : Nat → Int32) (p : Nat → Nat) (t : Nat) : List (Nat × (Nat → Int32)) :=
  if ie_can o a b c m p t = true then (if ie_fl o a b m p t = true then [(2 + t, m)] else f (ie_nx o a b m t (t * 5 + p t)) (ie_st p t)) else []
def ie_any (m : Nat → Int32) (p : Nat → Nat) : Bool := ie_can o a b c m p 0 || ie_can o a b c m p 1 || ie_can o a b c m p 2
def ie_lv : Nat → (Nat → Int32) → (Nat → Nat) → List (Nat × (Nat → Int32))
  | 0 => fun _ _ => []
  | n + 1 => fun m p => if ie_any o a b c m p = true then ie_ch o a b c (ie_lv n) m p 0 ++ (ie_ch o a b c (ie_lv n) m p 1 ++ ie_ch o a b c (ie_lv n) m p 2) else [(ie_lc c p, m)]
theorem ie_lv_t {n : Nat} {m : Nat → Int32} {p : Nat → Nat} (h : ie_any o a b c m p = true) : ie_lv o a b c (n + 1) m p = ie_ch o a b c (ie_lv o a b c n) m p 0 ++ (ie_ch o a b c (ie_lv o a b c n) m p 1 ++ ie_ch o a b c (ie_lv o a b c n) m p 2) := if_pos h
theorem ie_lv_f {n : Nat} {m : Nat → Int32} {p : Nat → Nat} (h : ¬ ie_any o a b c m p = true) : ie_lv o a b c (n + 1) m p = [(ie_lc c p, m)] := if_neg h
theorem ie_ch_n {f : (Nat → Int32) → (Nat → Nat) → List (Nat × (Nat → Int32))} {m : Nat → Int32} {p : Nat → Nat} {t : Nat} (h : ¬ ie_can o a b c m p t = true) : ie_ch o a b c f m p t = [] := if_neg h
theorem ie_ch_f {f : (Nat → Int32) → (Nat → Nat) → List (Nat × (Nat → Int32))} {m : Nat → Int32} {p : Nat → Nat} {t : Nat} (h : ie_can o a b c m p t = true) (g : ie_fl o a b m p t = true) : ie_ch o a b c f m p t = [(2 + t, m)] := (if_pos h).trans (if_pos g)
theorem ie_ch_g {f : (Nat → Int32) → (Nat → Nat) → List (Nat × (Nat → Int32))} {m : Nat → Int32} {p : Nat → Nat} {t : Nat} (h : ie_can o a b c m p t = true) (g : ¬ ie_fl o a b m p t = true) : ie_ch o a b c f m p t = f (ie_nx o a b m t (t * 5 + p t)) (ie_st p t) := (if_pos h).trans (if_neg g)
theorem ie_any_of {m : Nat → Int32} {p : Nat → Nat} {t : Nat} (ht : t < 3) (h : ie_can o a b c m p t = true) : ie_any o a b c m p = true := by
  unfold ie_any
  rcases ie_3 ht with rfl | rfl | rfl <;> rw [h] <;> simp
theorem ie_any_ex {m : Nat → Int32} {p : Nat → Nat} (h : ie_any o a b c m p = true) : ∃ t, t < 3 ∧ ie_can o a b c m p t = true := by
  unfold ie_any at h
  rw [Bool.or_eq_true, Bool.or_eq_true] at h
  rcases h with (h | h) | h
  · exact ⟨0, by decide, h⟩
  · exact ⟨1, by decide, h⟩
  · exact ⟨2, by decide, h⟩
def ie_ok (p : Nat → Nat) : Prop := p 0 ≤ c 0 ∧ p 1 ≤ c 1 ∧ p 2 ≤ c 2
def ie_cb : Prop := c 0 ≤ 5 ∧ c 1 ≤ 5 ∧ c 2 ≤ 5 ∧ c 0 + c 1 + c 2 ≤ 10
theorem ie_can_lt {m : Nat → Int32} {p : Nat → Nat} {t : Nat} (h : ie_can o a b c m p t = true) : p t < c t := by
  unfold ie_can at h
  rw [Bool.and_eq_true] at h
  exact of_decide_eq_true h.1
theorem ie_st_s (p : Nat → Nat) (t : Nat) : ie_st p t t = p t + 1 := if_pos rfl
theorem ie_st_n (p : Nat → Nat) {t j : Nat} (h : j ≠ t) : ie_st p t j = p j := if_neg h
theorem ie_ok_st {p : Nat → Nat} {t : Nat} (hp : ie_ok c p) (ht : t < 3) (h : p t < c t) : ie_ok c (ie_st p t) ∧ ie_st p t 0 + ie_st p t 1 + ie_st p t 2 = p 0 + p 1 + p 2 + 1 := by
  obtain ⟨h0, h1, h2⟩ := hp
  unfold ie_ok
  rcases ie_3 ht with rfl | rfl | rfl
  · rw [ie_st_s, ie_st_n p (show (1 : Nat) ≠ 0 by decide), ie_st_n p (show (2 : Nat) ≠ 0 by decide)]; omega
  · rw [ie_st_s, ie_st_n p (show (0 : Nat) ≠ 1 by decide), ie_st_n p (show (2 : Nat) ≠ 1 by decide)]; omega
  · rw [ie_st_s, ie_st_n p (show (0 : Nat) ≠ 2 by decide), ie_st_n p (show (1 : Nat) ≠ 2 by decide)]; omega
theorem ie_lt_c {p : Nat → Nat} (hc : ie_cb c) (hp : ie_ok c p) {t : Nat} (ht : t < 3) : p t ≤ c t ∧ c t ≤ 5 := by
  obtain ⟨h0, h1, h2⟩ := hp
  obtain ⟨g0, g1, g2, _⟩ := hc
  rcases ie_3 ht with rfl | rfl | rfl <;> omega
def ie_f : Nat → Nat
  | 0 => 1
  | n + 1 => (n + 1) * ie_f n
def ie_M (x y z : Nat) : Nat := ie_f (x + y + z) / (ie_f x * ie_f y * ie_f z)
theorem ie_M1 : ∀ x, x < 6 → ∀ y, y < 6 → ∀ z, z < 6 → 1 ≤ ie_M x y z := by decide +kernel
theorem ie_Ms : ∀ x, x < 6 → ∀ y, y < 6 → ∀ z, z < 6 → (0 < x ∨ 0 < y ∨ 0 < z) → (if 0 < x then ie_M (x - 1) y z else 0) + ((if 0 < y then ie_M x (y - 1) z else 0) + (if 0 < z then ie_M x y (z - 1) else 0)) ≤ ie_M x y z := by decide +kernel
theorem ie_Mt : ∀ x, x < 6 → ∀ y, y < 6 → ∀ z, z < 6 → x + y + z ≤ 10 → ie_M x y z ≤ 4200 := by decide +kernel
theorem ie_len (hc : ie_cb c) : ∀ (n : Nat) (m : Nat → Int32) (p : Nat → Nat), ie_ok c p → (ie_lv o a b c n m p).length ≤ ie_M (c 0 - p 0) (c 1 - p 1) (c 2 - p 2) := by
  obtain ⟨g0, g1, g2, _⟩ := hc
  intro n
  induction n with
  | zero => exact fun m p _ => Nat.zero_le _
  | succ n ih =>
    intro m p hp
    have k0 : (ie_ch o a b c (ie_lv o a b c n) m p 0).length ≤ if 0 < c 0 - p 0 then ie_M (c 0 - p 0 - 1) (c 1 - p 1) (c 2 - p 2) else 0 := by
      by_cases g : ie_can o a b c m p 0 = true
      · have hl := ie_can_lt o a b c g
        rw [if_pos (show 0 < c 0 - p 0 by omega)]
        by_cases f : ie_fl o a b m p 0 = true
        · rw [ie_ch_f o a b c g f]
          exact ie_M1 _ (by omega) _ (by omega) _ (by omega)
        · rw [ie_ch_g o a b c g f]
          have := ih (ie_nx o a b m 0 (0 * 5 + p 0)) (ie_st p 0) (ie_ok_st c hp (by decide) hl).1
          rw [ie_st_s, ie_st_n p (show (1 : Nat) ≠ 0 by decide), ie_st_n p (show (2 : Nat) ≠ 0 by decide), Nat.sub_add_eq] at this
          exact this
      · rw [ie_ch_n o a b c g]
        exact Nat.zero_le _
    have k1 : (ie_ch o a b c (ie_lv o a b c n) m p 1).length ≤ if 0 < c 1 - p 1 then ie_M (c 0 - p 0) (c 1 - p 1 - 1) (c 2 - p 2) else 0 := by
      by_cases g : ie_can o a b c m p 1 = true
      · have hl := ie_can_lt o a b c g
        rw [if_pos (show 0 < c 1 - p 1 by omega)]
        by_cases f : ie_fl o a b m p 1 = true
        · rw [ie_ch_f o a b c g f]
          exact ie_M1 _ (by omega) _ (by omega) _ (by omega)
        · rw [ie_ch_g o a b c g f]
          have := ih (ie_nx o a b m 1 (1 * 5 + p 1)) (ie_st p 1) (ie_ok_st c hp (by decide) hl).1
          rw [ie_st_s, ie_st_n p (show (0 : Nat) ≠ 1 by decide), ie_st_n p (show (2 : Nat) ≠ 1 by decide), Nat.sub_add_eq] at this
          exact this
      · rw [ie_ch_n o a b c g]
        exact Nat.zero_le _
    have k2 : (ie_ch o a b c (ie_lv o a b c n) m p 2).length ≤ if 0 < c 2 - p 2 then ie_M (c 0 - p 0) (c 1 - p 1) (c 2 - p 2 - 1) else 0 := by
      by_cases g : ie_can o a b c m p 2 = true
      · have hl := ie_can_lt o a b c g
        rw [if_pos (show 0 < c 2 - p 2 by omega)]
        by_cases f : ie_fl o a b m p 2 = true
        · rw [ie_ch_f o a b c g f]
          exact ie_M1 _ (by omega) _ (by omega) _ (by omega)
        · rw [ie_ch_g o a b c g f]
          have := ih (ie_nx o a b m 2 (2 * 5 + p 2)) (ie_st p 2) (ie_ok_st c hp (by decide) hl).1
          rw [ie_st_s, ie_st_n p (show (0 : Nat) ≠ 2 by decide), ie_st_n p (show (1 : Nat) ≠ 2 by decide), Nat.sub_add_eq] at this
          exact this
      · rw [ie_ch_n o a b c g]
        exact Nat.zero_le _
    by_cases q : ie_any o a b c m p = true
    · rw [ie_lv_t o a b c q, List.length_append, List.length_append]
      have hx : 0 < c 0 - p 0 ∨ 0 < c 1 - p 1 ∨ 0 < c 2 - p 2 := by
        obtain ⟨t, ht, hcan⟩ := ie_any_ex o a b c q
        have hl := ie_can_lt o a b c hcan
        rcases ie_3 ht with rfl | rfl | rfl <;> omega
      exact Nat.le_trans (Nat.add_le_add k0 (Nat.add_le_add k1 k2)) (ie_Ms _ (by omega) _ (by omega) _ (by omega) hx)
    · rw [ie_lv_f o a b c q]
      exact ie_M1 _ (by omega) _ (by omega) _ (by omega)
theorem ie_pos (hc : ie_cb c) : ∀ (n : Nat) (m : Nat → Int32) (p : Nat → Nat), ie_ok c p → p 0 + p 1 + p 2 + n = 11 → 0 < (ie_lv o a b c n m p).length := by
  intro n
  induction n with
  | zero =>
    intro m p hp hs
    obtain ⟨h0, h1, h2⟩ := hp
    obtain ⟨_, _, _, g⟩ := hc
    omega
  | succ n ih =>
    intro m p hp hs
    by_cases q : ie_any o a b c m p = true
    · obtain ⟨t, ht, hcan⟩ := ie_any_ex o a b c q
      have hl := ie_can_lt o a b c hcan
      have k : 0 < (ie_ch o a b c (ie_lv o a b c n) m p t).length := by
        by_cases f : ie_fl o a b m p t = true
        · rw [ie_ch_f o a b c hcan f]
          exact Nat.zero_lt_one
        · rw [ie_ch_g o a b c hcan f]
          obtain ⟨u1, u2⟩ := ie_ok_st c hp ht hl
          exact ih _ _ u1 (by omega)
      rw [ie_lv_t o a b c q, List.length_append, List.length_append]
      rcases ie_3 ht with rfl | rfl | rfl <;> omega
    · rw [ie_lv_f o a b c q]
      exact Nat.zero_lt_one
theorem ie_ch_pos (hc : ie_cb c) {n : Nat} {m : Nat → Int32} {p : Nat → Nat} {t : Nat} (hp : ie_ok c p) (hs : p 0 + p 1 + p 2 + (n + 1) = 11) (ht : t < 3) (h : ie_can o a b c m p t = true) : 0 < (ie_ch o a b c (ie_lv o a b c n) m p t).length := by
  by_cases f : ie_fl o a b m p t = true
  · rw [ie_ch_f o a b c h f]
    exact Nat.zero_lt_one
  · rw [ie_ch_g o a b c h f]
    obtain ⟨u1, u2⟩ := ie_ok_st c hp ht (ie_can_lt o a b c h)
    exact ie_pos o a b c hc _ _ _ u1 (by omega)
theorem ie_code : ∀ (n : Nat) (m : Nat → Int32) (p : Nat → Nat) (x : Nat × (Nat → Int32)), x ∈ ie_lv o a b c n m p → x.1 ≤ 4 := by
  intro n
  induction n with
  | zero => exact fun m p x h => absurd h List.not_mem_nil
  | succ n ih =>
    intro m p x h
    have k : ∀ t, t < 3 → x ∈ ie_ch o a b c (ie_lv o a b c n) m p t → x.1 ≤ 4 := by
      intro t ht hx
      by_cases g : ie_can o a b c m p t = true
      · by_cases f : ie_fl o a b m p t = true
        · rw [ie_ch_f o a b c g f, List.mem_singleton] at hx
          rw [hx]
          show 2 + t ≤ 4
          omega
        · rw [ie_ch_g o a b c g f] at hx
          exact ih _ _ _ hx
      · rw [ie_ch_n o a b c g] at hx
        exact absurd hx List.not_mem_nil
    by_cases q : ie_any o a b c m p = true
    · rw [ie_lv_t o a b c q, List.mem_append, List.mem_append] at h
      rcases h with h | h | h
      · exact k 0 (by decide) h
      · exact k 1 (by decide) h
      · exact k 2 (by decide) h
    · rw [ie_lv_f o a b c q, List.mem_singleton] at h
      rw [h]
      show ie_lc c p ≤ 4
      unfold ie_lc
      split <;> decide
end
end
section
/-! what is gathered over a list of leaves: the code 0 is an end with its memory, 1 stuck, 2 + t thread t failed -/
def ie_es (L : List (Nat × (Nat → Int32))) : List (Nat → Int32) := L.filterMap (fun x => if x.1 = 0 then some x.2 else none)
theorem ie_es_app (L K : List (Nat × (Nat → Int32))) : ie_es (L ++ K) = ie_es L ++ ie_es K := List.filterMap_append
theorem ie_es_0 (m : Nat → Int32) : ie_es [(0, m)] = [m] := rfl
theorem ie_es_n {k : Nat} (m : Nat → Int32) (h : k ≠ 0) : ie_es [(k, m)] = [] := by simp [ie_es, h]
theorem ie_es_len (L : List (Nat × (Nat → Int32))) : (ie_es L).length ≤ L.length := List.length_filterMap_le _ _
def ie_has (k : Nat) (L : List (Nat × (Nat → Int32))) : Bool := L.any (fun x => x.1 == k)
theorem ie_has_app (k : Nat) (L K : List (Nat × (Nat → Int32))) : ie_has k (L ++ K) = (ie_has k L || ie_has k K) := List.any_append
theorem ie_has_1 (k j : Nat) (m : Nat → Int32) : ie_has k [(j, m)] = (j == k) := by simp [ie_has]
theorem ie_has_no {k j : Nat} {m : Nat → Int32} {L : List (Nat × (Nat → Int32))} (h : j ≠ k) : ie_has k (L ++ [(j, m)]) = ie_has k L := by
  rw [ie_has_app, ie_has_1, beq_false_of_ne h, Bool.or_false]
theorem ie_has_yes {k : Nat} {m : Nat → Int32} {L : List (Nat × (Nat → Int32))} : ie_has k (L ++ [(k, m)]) = true := by
  rw [ie_has_app, ie_has_1, beq_self_eq_true, Bool.or_true]
theorem ie_es_no {j : Nat} {m : Nat → Int32} {L : List (Nat × (Nat → Int32))} (h : j ≠ 0) : ie_es (L ++ [(j, m)]) = ie_es L := by
  rw [ie_es_app, ie_es_n m h, List.append_nil]
theorem ie_es_yes {m : Nat → Int32} {L : List (Nat × (Nat → Int32))} : ie_es (L ++ [(0, m)]) = ie_es L ++ [m] := by
  rw [ie_es_app, ie_es_0]
theorem ie_bi_t : ie_bi true = 1 := rfl
theorem ie_bi_f : ie_bi false = 0 := rfl
/-- the component's findings over the leaves L -/
def ie_XR (L : List (Nat × (Nat → Int32))) (sk : Int32) (fa en : Nat → Int32) (ec : Int32) : Prop :=
  sk = ie_bi (ie_has 1 L) ∧ (∀ t, t < 3 → fa t = ie_bi (ie_has (2 + t) L)) ∧ ec = nI (ie_es L).length ∧ ∀ k e, (ie_es L)[k]? = some e → ∀ j, j < 10 → en (k * 10 + j) = e j
theorem ie_XR_0 {fa en : Nat → Int32} (h : ∀ t, t < 3 → fa t = 0) : ie_XR [] 0 fa en 0 :=
  ⟨rfl, fun t ht => h t ht, rfl, fun k e he => by rw [show ie_es [] = [] from rfl] at he; simp at he⟩
theorem ie_XR_sk {L : List (Nat × (Nat → Int32))} {sk ec : Int32} {fa en : Nat → Int32} (m : Nat → Int32) (h : ie_XR L sk fa en ec) : ie_XR (L ++ [(1, m)]) 1 fa en ec := by
  obtain ⟨_, h2, h3, h4⟩ := h
  refine ⟨by rw [ie_has_yes]; rfl, fun t ht => ?_, ?_, ?_⟩
  · rw [ie_has_no (show 1 ≠ 2 + t by omega)]
    exact h2 t ht
  · rw [ie_es_no (by decide)]
    exact h3
  · rw [ie_es_no (by decide)]
    exact h4
theorem ie_XR_fa {L : List (Nat × (Nat → Int32))} {sk ec : Int32} {fa en : Nat → Int32} (m : Nat → Int32) {t : Nat} (h : ie_XR L sk fa en ec) : ie_XR (L ++ [(2 + t, m)]) sk (upd fa t 1) en ec := by
  obtain ⟨h1, h2, h3, h4⟩ := h
  refine ⟨by rw [ie_has_no (show 2 + t ≠ 1 by omega)]; exact h1, fun s hs => ?_, ?_, ?_⟩
  · by_cases e : s = t
    · subst e
      rw [pk_us, ie_has_yes]
      rfl
    · rw [pk_un e, ie_has_no (show 2 + t ≠ 2 + s by omega)]
      exact h2 s hs
  · rw [ie_es_no (show 2 + t ≠ 0 by omega)]
    exact h3
  · rw [ie_es_no (show 2 + t ≠ 0 by omega)]
    exact h4
theorem ie_XR_en {L : List (Nat × (Nat → Int32))} {sk ec : Int32} {fa en en' : Nat → Int32} {m : Nat → Int32} (h : ie_XR L sk fa en ec) (hl : ∀ j, j < (ie_es L).length * 10 → en' j = en j) (hn : ∀ j, j < 10 → en' ((ie_es L).length * 10 + j) = m j) : ie_XR (L ++ [(0, m)]) sk fa en' (nI ((ie_es L).length + 1)) := by
  obtain ⟨h1, h2, h3, h4⟩ := h
  refine ⟨by rw [ie_has_no (by decide)]; exact h1, fun t ht => by rw [ie_has_no (show 0 ≠ 2 + t by omega)]; exact h2 t ht, by rw [ie_es_yes, List.length_append]; rfl, ?_⟩
  intro k e he j hj
  rw [ie_es_yes] at he
  by_cases g : k < (ie_es L).length
  · rw [List.getElem?_append_left g] at he
    rw [hl _ (by omega)]
    exact h4 k e he j hj
  · rw [List.getElem?_append_right (by omega)] at he
    by_cases z : k - (ie_es L).length = 0
    · rw [z] at he
      have he' : m = e := Option.some.inj he
      rw [← he', show k = (ie_es L).length by omega]
      exact hn j hj
    · obtain ⟨q, hq⟩ : ∃ q, k - (ie_es L).length = q + 1 := ⟨k - (ie_es L).length - 1, by omega⟩
      rw [hq] at he
      simp at he
def ie_E (L : List (Nat × (Nat → Int32))) (k : Nat) : Nat → Int32 := (ie_es L).getD k (fun _ => 0)
theorem ie_E_lo {L : List (Nat × (Nat → Int32))} {m : Nat → Int32} {k : Nat} (h : k < (ie_es L).length) : ie_E (L ++ [(0, m)]) k = ie_E L k := by
  unfold ie_E
  rw [ie_es_yes, List.getD_eq_getElem?_getD, List.getD_eq_getElem?_getD, List.getElem?_append_left h]
theorem ie_E_hi {L : List (Nat × (Nat → Int32))} {m : Nat → Int32} : ie_E (L ++ [(0, m)]) (ie_es L).length = m := by
  unfold ie_E
  rw [ie_es_yes, List.getD_eq_getElem?_getD, List.getElem?_append_right (Nat.le_refl _), Nat.sub_self]
  rfl
theorem ie_E_at {L : List (Nat × (Nat → Int32))} {k : Nat} (h : k < (ie_es L).length) : (ie_es L)[k]? = some (ie_E L k) := by
  unfold ie_E
  rw [List.getD_eq_getElem?_getD, List.getElem?_eq_getElem h]
  rfl
theorem ie_E_no {j : Nat} {m : Nat → Int32} {L : List (Nat × (Nat → Int32))} (h : j ≠ 0) : ie_E (L ++ [(j, m)]) = ie_E L := by
  funext k
  unfold ie_E
  rw [ie_es_no h]
theorem ie_XR_at {L : List (Nat × (Nat → Int32))} {sk ec : Int32} {fa en : Nat → Int32} (h : ie_XR L sk fa en ec) {k j : Nat} (hk : k < (ie_es L).length) (hj : j < 10) : en (k * 10 + j) = ie_E L k j := h.2.2.2 k _ (ie_E_at hk) j hj
def ie_mn (f : Nat → Int32) : Nat → Int32
  | 0 => f 0
  | k + 1 => if f (k + 1) < ie_mn f k then f (k + 1) else ie_mn f k
def ie_mx (f : Nat → Int32) : Nat → Int32
  | 0 => f 0
  | k + 1 => if ie_mx f k < f (k + 1) then f (k + 1) else ie_mx f k
theorem ie_mn_c {f g : Nat → Int32} : ∀ n : Nat, (∀ k, k ≤ n → f k = g k) → ie_mn f n = ie_mn g n := by
  intro n
  induction n with
  | zero => exact fun h => h 0 (Nat.le_refl 0)
  | succ n ih =>
    intro h
    show (if f (n + 1) < ie_mn f n then f (n + 1) else ie_mn f n) = if g (n + 1) < ie_mn g n then g (n + 1) else ie_mn g n
    rw [ih (fun k hk => h k (by omega)), h (n + 1) (Nat.le_refl _)]
theorem ie_mx_c {f g : Nat → Int32} : ∀ n : Nat, (∀ k, k ≤ n → f k = g k) → ie_mx f n = ie_mx g n := by
  intro n
  induction n with
  | zero => exact fun h => h 0 (Nat.le_refl 0)
  | succ n ih =>
    intro h
    show (if ie_mx f n < f (n + 1) then f (n + 1) else ie_mx f n) = if ie_mx g n < g (n + 1) then g (n + 1) else ie_mx g n
    rw [ih (fun k hk => h k (by omega)), h (n + 1) (Nat.le_refl _)]
def ie_fm (L : List (Nat × (Nat → Int32))) : Int32 := nI ((if ie_has 2 L = true then 1 else 0) + (if ie_has 3 L = true then 2 else 0) + (if ie_has 4 L = true then 4 else 0))
/-- the reference's findings over the leaves L -/
def ie_YR (v w : Nat) (x y : Int32) (L : List (Nat × (Nat → Int32))) (cm sk fs fo : Int32) (lo hi lr : Nat → Int32) : Prop :=
  cm = ie_bi (decide (0 < (ie_es L).length)) ∧ sk = ie_bi (ie_has 1 L) ∧ fs = ie_fm L ∧ fo = ie_bi ((ie_es L).any (fun e => decide (e v = x) && decide (e w = y))) ∧
  (0 < (ie_es L).length → (∀ i, i < 4 → lo i = ie_mn (fun k => ie_E L k i) ((ie_es L).length - 1) ∧ hi i = ie_mx (fun k => ie_E L k i) ((ie_es L).length - 1)) ∧ ∀ i, i < 6 → lr i = ie_mn (fun k => ie_E L k (4 + i)) ((ie_es L).length - 1))
theorem ie_YR_0 (v w : Nat) (x y : Int32) (lo hi lr : Nat → Int32) : ie_YR v w x y [] 0 0 0 0 lo hi lr :=
  ⟨rfl, rfl, rfl, rfl, fun h => absurd h (Nat.lt_irrefl 0)⟩
theorem ie_fm_no {j : Nat} {m : Nat → Int32} {L : List (Nat × (Nat → Int32))} (h : j < 2) : ie_fm (L ++ [(j, m)]) = ie_fm L := by
  unfold ie_fm
  rw [ie_has_no (show j ≠ 2 by omega), ie_has_no (show j ≠ 3 by omega), ie_has_no (show j ≠ 4 by omega)]
theorem ie_YR_sk {v w : Nat} {x y : Int32} {L : List (Nat × (Nat → Int32))} {cm sk fs fo : Int32} {lo hi lr : Nat → Int32} (m : Nat → Int32) (h : ie_YR v w x y L cm sk fs fo lo hi lr) : ie_YR v w x y (L ++ [(1, m)]) cm 1 fs fo lo hi lr := by
  obtain ⟨h1, _, h3, h4, h5⟩ := h
  unfold ie_YR
  rw [ie_es_no (by decide), ie_has_yes, ie_fm_no (by decide), ie_E_no (by decide)]
  exact ⟨h1, rfl, h3, h4, h5⟩
def ie_or (s t : Nat) : Nat := s ||| (2 ^ t)
theorem ie_fm_or : ∀ (p q r : Bool) (t : Nat), t < 3 → ie_or ((if p = true then 1 else 0) + (if q = true then 2 else 0) + (if r = true then 4 else 0)) t = (if (p || t == 0) = true then 1 else 0) + (if (q || t == 1) = true then 2 else 0) + (if (r || t == 2) = true then 4 else 0) := by
  intro p q r t ht
  rcases ie_3 ht with rfl | rfl | rfl <;> cases p <;> cases q <;> cases r <;> decide
theorem ie_fm_yes {t : Nat} (ht : t < 3) {m : Nat → Int32} {L : List (Nat × (Nat → Int32))} : ie_fm (L ++ [(2 + t, m)]) = nI (ie_or ((if ie_has 2 L = true then 1 else 0) + (if ie_has 3 L = true then 2 else 0) + (if ie_has 4 L = true then 4 else 0)) t) := by
  unfold ie_fm
  rw [ie_fm_or _ _ _ t ht, ie_has_app, ie_has_app, ie_has_app, ie_has_1, ie_has_1, ie_has_1]
  rcases ie_3 ht with rfl | rfl | rfl <;> rfl
theorem ie_YR_fa {v w : Nat} {x y : Int32} {L : List (Nat × (Nat → Int32))} {cm sk fs fo : Int32} {lo hi lr : Nat → Int32} (m : Nat → Int32) {t : Nat} (h : ie_YR v w x y L cm sk fs fo lo hi lr) : ie_YR v w x y (L ++ [(2 + t, m)]) cm sk (ie_fm (L ++ [(2 + t, m)])) fo lo hi lr := by
  obtain ⟨h1, h2, h3, h4, h5⟩ := h
  unfold ie_YR
  rw [ie_es_no (show 2 + t ≠ 0 by omega), ie_has_no (show 2 + t ≠ 1 by omega), ie_E_no (show 2 + t ≠ 0 by omega)]
  exact ⟨h1, h2, rfl, h4, h5⟩
/-- the new least and greatest, as the reference stores them -/
def ie_l1 (cm : Int32) (x y : Int32) : Int32 := if cm = 0 ∨ x < y then x else y
def ie_h1 (cm : Int32) (x y : Int32) : Int32 := if cm = 0 ∨ y < x then x else y
theorem ie_YR_mn {L : List (Nat × (Nat → Int32))} {cm z : Int32} {m : Nat → Int32} {i : Nat} (h1 : cm = ie_bi (decide (0 < (ie_es L).length))) (h5 : 0 < (ie_es L).length → z = ie_mn (fun k => ie_E L k i) ((ie_es L).length - 1)) : ie_l1 cm (m i) z = ie_mn (fun k => ie_E (L ++ [(0, m)]) k i) (ie_es L).length := by
  unfold ie_l1
  by_cases g : 0 < (ie_es L).length
  · rw [decide_eq_true g] at h1
    have hz := h5 g
    obtain ⟨n, hn⟩ : ∃ n, (ie_es L).length = n + 1 := ⟨(ie_es L).length - 1, by omega⟩
    have e1 : ie_mn (fun k => ie_E (L ++ [(0, m)]) k i) n = ie_mn (fun k => ie_E L k i) n := ie_mn_c n (fun k hk => by show ie_E (L ++ [(0, m)]) k i = ie_E L k i; rw [ie_E_lo (by omega)])
    have e2 : ie_E (L ++ [(0, m)]) (n + 1) = m := by rw [← hn]; exact ie_E_hi
    rw [hn, Nat.add_sub_cancel] at hz
    rw [hn]
    show _ = if ie_E (L ++ [(0, m)]) (n + 1) i < ie_mn (fun k => ie_E (L ++ [(0, m)]) k i) n then ie_E (L ++ [(0, m)]) (n + 1) i else ie_mn (fun k => ie_E (L ++ [(0, m)]) k i) n
    rw [e1, e2, ← hz]
    have h1' : ¬ cm = 0 := by rw [h1]; decide
    by_cases q : m i < z
    · rw [if_pos (Or.inr q), if_pos q]
    · rw [if_neg (fun r => r.elim h1' q), if_neg q]
  · rw [decide_eq_false g, ie_bi_f] at h1
    have hn : (ie_es L).length = 0 := by omega
    have e2 : ie_E (L ++ [(0, m)]) (ie_es L).length = m := ie_E_hi
    rw [hn] at e2 ⊢
    rw [if_pos (Or.inl h1)]
    show _ = ie_E (L ++ [(0, m)]) 0 i
    rw [e2]
theorem ie_YR_mx {L : List (Nat × (Nat → Int32))} {cm z : Int32} {m : Nat → Int32} {i : Nat} (h1 : cm = ie_bi (decide (0 < (ie_es L).length))) (h5 : 0 < (ie_es L).length → z = ie_mx (fun k => ie_E L k i) ((ie_es L).length - 1)) : ie_h1 cm (m i) z = ie_mx (fun k => ie_E (L ++ [(0, m)]) k i) (ie_es L).length := by
  unfold ie_h1
  by_cases g : 0 < (ie_es L).length
  · rw [decide_eq_true g] at h1
    have hz := h5 g
    obtain ⟨n, hn⟩ : ∃ n, (ie_es L).length = n + 1 := ⟨(ie_es L).length - 1, by omega⟩
    have e1 : ie_mx (fun k => ie_E (L ++ [(0, m)]) k i) n = ie_mx (fun k => ie_E L k i) n := ie_mx_c n (fun k hk => by show ie_E (L ++ [(0, m)]) k i = ie_E L k i; rw [ie_E_lo (by omega)])
    have e2 : ie_E (L ++ [(0, m)]) (n + 1) = m := by rw [← hn]; exact ie_E_hi
    rw [hn, Nat.add_sub_cancel] at hz
    rw [hn]
    show _ = if ie_mx (fun k => ie_E (L ++ [(0, m)]) k i) n < ie_E (L ++ [(0, m)]) (n + 1) i then ie_E (L ++ [(0, m)]) (n + 1) i else ie_mx (fun k => ie_E (L ++ [(0, m)]) k i) n
    rw [e1, e2, ← hz]
    have h1' : ¬ cm = 0 := by rw [h1]; decide
    by_cases q : z < m i
    · rw [if_pos (Or.inr q), if_pos q]
    · rw [if_neg (fun r => r.elim h1' q), if_neg q]
  · rw [decide_eq_false g, ie_bi_f] at h1
    have hn : (ie_es L).length = 0 := by omega
    have e2 : ie_E (L ++ [(0, m)]) (ie_es L).length = m := ie_E_hi
    rw [hn] at e2 ⊢
    rw [if_pos (Or.inl h1)]
    show _ = ie_E (L ++ [(0, m)]) 0 i
    rw [e2]
theorem ie_YR_en {v w : Nat} {x y : Int32} {L : List (Nat × (Nat → Int32))} {cm sk fs fo : Int32} {lo hi lr lo' hi' lr' : Nat → Int32} {m : Nat → Int32} (h : ie_YR v w x y L cm sk fs fo lo hi lr) (hlo : ∀ i, i < 4 → lo' i = ie_l1 cm (m i) (lo i)) (hhi : ∀ i, i < 4 → hi' i = ie_h1 cm (m i) (hi i)) (hlr : ∀ i, i < 6 → lr' i = ie_l1 cm (m (4 + i)) (lr i)) : ie_YR v w x y (L ++ [(0, m)]) 1 sk fs (if m v = x ∧ m w = y then 1 else fo) lo' hi' lr' := by
  obtain ⟨h1, h2, h3, h4, h5⟩ := h
  have hlen : (ie_es (L ++ [(0, m)])).length = (ie_es L).length + 1 := by rw [ie_es_yes, List.length_append]; rfl
  unfold ie_YR
  rw [hlen, ie_has_no (by decide), ie_fm_no (by decide), Nat.add_sub_cancel]
  refine ⟨by rw [decide_eq_true (Nat.succ_pos _)]; rfl, h2, h3, ?_, fun _ => ⟨fun i hi4 => ⟨?_, ?_⟩, fun i hi6 => ?_⟩⟩
  · rw [ie_es_yes, List.any_append]
    have e : ([m] : List (Nat → Int32)).any (fun e => decide (e v = x) && decide (e w = y)) = (decide (m v = x) && decide (m w = y)) := by simp
    rw [e]
    by_cases q : m v = x ∧ m w = y
    · rw [if_pos q, decide_eq_true q.1, decide_eq_true q.2, Bool.and_true, Bool.or_true]
      rfl
    · rw [if_neg q]
      have q' : (decide (m v = x) && decide (m w = y)) = false := by
        rw [Bool.and_eq_false_iff]
        by_cases q1 : m v = x
        · exact Or.inr (decide_eq_false (fun q2 => q ⟨q1, q2⟩))
        · exact Or.inl (decide_eq_false q1)
      rw [q', Bool.or_false]
      exact h4
  · rw [hlo i hi4]
    exact ie_YR_mn h1 (fun g => ((h5 g).1 i hi4).1)
  · rw [hhi i hi4]
    exact ie_YR_mx h1 (fun g => ((h5 g).1 i hi4).2)
  · rw [hlr i hi6]
    exact ie_YR_mn h1 (fun g => (h5 g).2 i hi6)
theorem ie_all0 : ∀ L : List (Nat × (Nat → Int32)), (∀ x, x ∈ L → x.1 ≤ 4) → ie_has 1 L = false → ie_has 2 L = false → ie_has 3 L = false → ie_has 4 L = false → 0 < L.length → 0 < (ie_es L).length := by
  intro L hc h1 h2 h3 h4 hl
  cases L with
  | nil => exact absurd hl (Nat.lt_irrefl 0)
  | cons x K =>
    have g : ∀ k, ie_has k (x :: K) = false → x.1 ≠ k := by
      intro k hk
      unfold ie_has at hk
      rw [List.any_cons, Bool.or_eq_false_iff] at hk
      intro e
      rw [e, beq_self_eq_true] at hk
      exact absurd hk.1 (by decide)
    have hx := hc x List.mem_cons_self
    have e0 : x.1 = 0 := by
      have := g 1 h1
      have := g 2 h2
      have := g 3 h3
      have := g 4 h4
      omega
    have e1 : ie_es (x :: K) = x.2 :: ie_es K := by
      unfold ie_es
      rw [List.filterMap_cons, if_pos e0]
    rw [e1]
    exact Nat.succ_pos _
end
section
/-! the children of a node from one thread on; the mask of those that can go; the path to a node; a row of the component's states -/
section
variable (o a b : Nat → Int32) (c : Nat → Nat)
def ie_cs (f : (Nat → Int32) → (Nat → Nat) → List (Nat × (Nat → Int32))) (m : Nat → Int32) (p : Nat → Nat) (s : Nat) : List (Nat × (Nat → Int32)) :=
  if s = 0 then ie_ch o a b c f m p 0 ++ (ie_ch o a b c f m p 1 ++ ie_ch o a b c f m p 2) else if s = 1 then ie_ch o a b c f m p 1 ++ ie_ch o a b c f m p 2 else if s = 2 then ie_ch o a b c f m p 2 else []
theorem ie_cs_3 (f : (Nat → Int32) → (Nat → Nat) → List (Nat × (Nat → Int32))) (m : Nat → Int32) (p : Nat → Nat) : ie_cs o a b c f m p 3 = [] := rfl
theorem ie_cs_s (f : (Nat → Int32) → (Nat → Nat) → List (Nat × (Nat → Int32))) (m : Nat → Int32) (p : Nat → Nat) {s : Nat} (hs : s < 3) : ie_cs o a b c f m p s = ie_ch o a b c f m p s ++ ie_cs o a b c f m p (s + 1) := by
  rcases ie_3 hs with rfl | rfl | rfl
  · rfl
  · rfl
  · exact (List.append_nil _).symm
theorem ie_cs_lv {n : Nat} {m : Nat → Int32} {p : Nat → Nat} (h : ie_any o a b c m p = true) : ie_lv o a b c (n + 1) m p = ie_cs o a b c (ie_lv o a b c n) m p 0 := ie_lv_t o a b c h
def ie_mk (m : Nat → Int32) (p : Nat → Nat) : Nat := (if ie_can o a b c m p 0 = true then 1 else 0) + (if ie_can o a b c m p 1 = true then 2 else 0) + (if ie_can o a b c m p 2 = true then 4 else 0)
theorem ie_mk_lt (m : Nat → Int32) (p : Nat → Nat) : ie_mk o a b c m p < 8 := by
  unfold ie_mk
  split <;> split <;> split <;> decide
theorem ie_bits : ∀ (x y z : Bool) (t : Nat), t < 3 → ((if x = true then 1 else 0) + (if y = true then 2 else 0) + (if z = true then 4 else 0)) / 2 ^ t % 2 = if (if t = 0 then x else if t = 1 then y else z) = true then 1 else 0 := by
  intro x y z t ht
  rcases ie_3 ht with rfl | rfl | rfl <;> cases x <;> cases y <;> cases z <;> decide
theorem ie_mk_bit (m : Nat → Int32) (p : Nat → Nat) {t : Nat} (ht : t < 3) : ie_mk o a b c m p / 2 ^ t % 2 = if ie_can o a b c m p t = true then 1 else 0 := by
  unfold ie_mk
  rw [ie_bits _ _ _ t ht]
  rcases ie_3 ht with rfl | rfl | rfl <;> rfl
theorem ie_mk_0 (m : Nat → Int32) (p : Nat → Nat) : ie_mk o a b c m p = 0 ↔ ¬ ie_any o a b c m p = true := by
  unfold ie_mk ie_any
  cases ie_can o a b c m p 0 <;> cases ie_can o a b c m p 1 <;> cases ie_can o a b c m p 2 <;> decide
/-- the first thread that can go -/
def ie_t0 (m : Nat → Int32) (p : Nat → Nat) : Nat := if ie_can o a b c m p 0 = true then 0 else if ie_can o a b c m p 1 = true then 1 else 2
theorem ie_t0_lt (m : Nat → Int32) (p : Nat → Nat) : ie_t0 o a b c m p < 3 := by
  unfold ie_t0
  split
  · decide
  · split <;> decide
theorem ie_t0_can {m : Nat → Int32} {p : Nat → Nat} (h : ie_any o a b c m p = true) : ie_can o a b c m p (ie_t0 o a b c m p) = true := by
  unfold ie_any at h
  unfold ie_t0
  by_cases h0 : ie_can o a b c m p 0 = true
  · rw [if_pos h0]; exact h0
  · by_cases h1 : ie_can o a b c m p 1 = true
    · rw [if_neg h0, if_pos h1]; exact h1
    · rw [if_neg h0, if_neg h1]
      rw [Bool.or_eq_true, Bool.or_eq_true] at h
      rcases h with (h | h) | h
      · exact absurd h h0
      · exact absurd h h1
      · exact h
theorem ie_t0_cs (f : (Nat → Int32) → (Nat → Nat) → List (Nat × (Nat → Int32))) (m : Nat → Int32) (p : Nat → Nat) : ie_cs o a b c f m p 0 = ie_cs o a b c f m p (ie_t0 o a b c m p) := by
  unfold ie_t0
  by_cases h0 : ie_can o a b c m p 0 = true
  · rw [if_pos h0]
  · rw [ie_cs_s o a b c f m p (show 0 < 3 by decide), ie_ch_n o a b c h0, List.nil_append, if_neg h0]
    by_cases h1 : ie_can o a b c m p 1 = true
    · rw [if_pos h1]
    · rw [ie_cs_s o a b c f m p (show 0 + 1 < 3 by decide), ie_ch_n o a b c h1, List.nil_append, if_neg h1]
/-- the beginning -/
def ie_m0 (g : Nat → Int32) : Nat → Int32 := fun j => if j < 4 then g j else 0
def ie_p0 : Nat → Nat := fun _ => 0
def ie_path (g : Nat → Int32) : Nat → (Nat → Int32) → (Nat → Int32) → (Nat → Int32) → (Nat → Nat) → Prop
  | 0 => fun _ _ m p => m = ie_m0 g ∧ p = ie_p0
  | l + 1 => fun tn cd m p => ∃ m1 p1 t, ie_path g l tn cd m1 p1 ∧ t < 3 ∧ tn l = nI t ∧ cd l = nI (ie_mk o a b c m1 p1) ∧ ie_can o a b c m1 p1 t = true ∧ (¬ ie_fl o a b m1 p1 t = true) ∧ m = ie_nx o a b m1 t (t * 5 + p1 t) ∧ p = ie_st p1 t
theorem ie_path_c {g : Nat → Int32} : ∀ (l : Nat) {tn cd tn' cd' : Nat → Int32} {m : Nat → Int32} {p : Nat → Nat}, ie_path o a b c g l tn cd m p → (∀ j, j < l → tn' j = tn j) → (∀ j, j < l → cd' j = cd j) → ie_path o a b c g l tn' cd' m p := by
  intro l
  induction l with
  | zero => exact fun h _ _ => h
  | succ l ih =>
    intro tn cd tn' cd' m p h ht hd
    obtain ⟨m1, p1, t, h1, h2, h3, h4, h5⟩ := h
    exact ⟨m1, p1, t, ih h1 (fun j hj => ht j (by omega)) (fun j hj => hd j (by omega)), h2, (ht l (by omega)).trans h3, (hd l (by omega)).trans h4, h5⟩
end
/-- a row of states from r on holds the memory m and the progress p -/
def ie_row (s : Nat → Int32) (r : Nat) (m : Nat → Int32) (p : Nat → Nat) : Prop := (∀ j, j < 12 → s (r + j) = m j) ∧ ∀ t, t < 3 → s (r + (12 + t)) = nI (p t)
theorem ie_row_u {s m : Nat → Int32} {r k : Nat} {p : Nat → Nat} (x : Int32) (h : ie_row s r m p) (hk : k < 12) : ie_row (upd s (r + k) x) r (upd m k x) p := by
  refine ⟨fun j hj => ?_, fun t ht => ?_⟩
  · by_cases e : j = k
    · subst e
      rw [pk_us, pk_us]
    · rw [pk_un e, pk_un (show r + j ≠ r + k by omega)]
      exact h.1 j hj
  · rw [pk_un (show r + (12 + t) ≠ r + k by omega)]
    exact h.2 t ht
theorem ie_row_c {s s' m : Nat → Int32} {r r' : Nat} {p : Nat → Nat} (h : ie_row s r m p) (e : ∀ j, j < 15 → s' (r' + j) = s (r + j)) : ie_row s' r' m p :=
  ⟨fun j hj => (e j (by omega)).trans (h.1 j hj), fun t ht => (e (12 + t) (by omega)).trans (h.2 t ht)⟩
theorem ie_row_p {s m : Nat → Int32} {r t : Nat} {p : Nat → Nat} (h : ie_row s r m p) (ht : t < 3) : ie_row (upd s (r + (12 + t)) (nI (p t + 1))) r m (ie_st p t) := by
  refine ⟨fun j hj => ?_, fun q hq => ?_⟩
  · rw [pk_un (show r + j ≠ r + (12 + t) by omega)]
    exact h.1 j hj
  · by_cases e : q = t
    · subst e
      rw [pk_us, ie_st_s]
    · rw [pk_un (show r + (12 + q) ≠ r + (12 + t) by omega), ie_st_n p e]
      exact h.2 q hq
theorem ie_reg (r t : Nat) (x : Int32) : nI r + 4 + nI t * 2 + (x &&& 1) = nI (r + (4 + t * 2 + ie_b1 x)) := by
  rw [ie_b1_e]
  show nI r + nI 4 + nI t * nI 2 + nI _ = _
  rw [pk_mul, nI_add, nI_add, nI_add]
  exact congrArg nI (by omega)
theorem ie_lock (r : Nat) (x : Int32) : nI r + 10 + (x &&& 1) = nI (r + (10 + ie_b1 x)) := by
  rw [ie_b1_e]
  show nI r + nI 10 + nI _ = _
  rw [nI_add, nI_add]
  exact congrArg nI (by omega)
theorem ie_var (r : Nat) (x : Int32) : nI r + (x &&& 3) = nI (r + ie_b3 x) := by
  rw [ie_b3_e, nI_add]
theorem ie_T0 : vp_nar .boolean 0 = 0 := rfl
theorem ie_T1 : vp_nar .boolean 1 = 1 := rfl
/-- the reference's arrays hold the memory m and the progress p -/
def ie_ld (m : Nat → Int32) (p : Nat → Nat) (at' rg va hd : Nat → Int32) : Prop :=
  (∀ t, t < 3 → at' t = nI (p t)) ∧ (∀ i, i < 6 → rg i = m (4 + i)) ∧ (∀ i, i < 4 → va i = m i) ∧ ∀ i, i < 2 → (m (10 + i) = 0 ∧ hd i = -1) ∨ ∃ t, t < 3 ∧ m (10 + i) = nI (t + 1) ∧ hd i = nI t
theorem ie_ld_rg {m : Nat → Int32} {p : Nat → Nat} {at' rg va hd : Nat → Int32} {k : Nat} (x : Int32) (h : ie_ld m p at' rg va hd) (hk : k < 6) : ie_ld (upd m (4 + k) x) p at' (upd rg k x) va hd := by
  obtain ⟨h1, h2, h3, h4⟩ := h
  refine ⟨h1, fun i hi => ?_, fun i hi => ?_, fun i hi => ?_⟩
  · by_cases e : i = k
    · subst e
      rw [pk_us, pk_us]
    · rw [pk_un e, pk_un (show 4 + i ≠ 4 + k by omega)]
      exact h2 i hi
  · rw [pk_un (show i ≠ 4 + k by omega)]
    exact h3 i hi
  · rw [pk_un (show 10 + i ≠ 4 + k by omega)]
    exact h4 i hi
theorem ie_ld_va {m : Nat → Int32} {p : Nat → Nat} {at' rg va hd : Nat → Int32} {k : Nat} (x : Int32) (h : ie_ld m p at' rg va hd) (hk : k < 4) : ie_ld (upd m k x) p at' rg (upd va k x) hd := by
  obtain ⟨h1, h2, h3, h4⟩ := h
  refine ⟨h1, fun i hi => ?_, fun i hi => ?_, fun i hi => ?_⟩
  · rw [pk_un (show 4 + i ≠ k by omega)]
    exact h2 i hi
  · by_cases e : i = k
    · subst e
      rw [pk_us, pk_us]
    · rw [pk_un e, pk_un e]
      exact h3 i hi
  · rw [pk_un (show 10 + i ≠ k by omega)]
    exact h4 i hi
theorem ie_ld_hd {m : Nat → Int32} {p : Nat → Nat} {at' rg va hd : Nat → Int32} {k : Nat} {x y : Int32} (h : ie_ld m p at' rg va hd) (hk : k < 2) (hx : (x = 0 ∧ y = -1) ∨ ∃ t, t < 3 ∧ x = nI (t + 1) ∧ y = nI t) : ie_ld (upd m (10 + k) x) p at' rg va (upd hd k y) := by
  obtain ⟨h1, h2, h3, h4⟩ := h
  refine ⟨h1, fun i hi => ?_, fun i hi => ?_, fun i hi => ?_⟩
  · rw [pk_un (show 4 + i ≠ 10 + k by omega)]
    exact h2 i hi
  · rw [pk_un (show i ≠ 10 + k by omega)]
    exact h3 i hi
  · by_cases e : i = k
    · subst e
      rw [pk_us, pk_us]
      exact hx
    · rw [pk_un e, pk_un (show 10 + i ≠ 10 + k by omega)]
      exact h4 i hi
theorem ie_ld_at {m : Nat → Int32} {p : Nat → Nat} {at' rg va hd : Nat → Int32} {t : Nat} (h : ie_ld m p at' rg va hd) : ie_ld m (ie_st p t) (upd at' t (nI (p t + 1))) rg va hd := by
  obtain ⟨h1, h2, h3, h4⟩ := h
  refine ⟨fun i hi => ?_, h2, h3, h4⟩
  by_cases e : i = t
  · subst e
    rw [pk_us, ie_st_s]
  · rw [pk_un e, ie_st_n p e]
    exact h1 i hi
end
section
/-! the component's search over an interface of steps: G step level states nextChoice wentOn stuck failed ends endCount -/
def ie_T : Nat → Nat
  | 0 => 0
  | n + 1 => 4 + 3 * ie_T n
theorem ie_T11 : ie_T 11 ≤ 999999 := by decide
section
variable (o a b : Nat → Int32) (c : Nat → Nat)
def ie_cf (m : Nat → Int32) (p : Nat → Nat) (s : Nat) : Bool :=
  if s = 0 then ie_can o a b c m p 0 || (ie_can o a b c m p 1 || ie_can o a b c m p 2) else if s = 1 then ie_can o a b c m p 1 || ie_can o a b c m p 2 else if s = 2 then ie_can o a b c m p 2 else false
theorem ie_cf_s (m : Nat → Int32) (p : Nat → Nat) {s : Nat} (hs : s < 3) : ie_cf o a b c m p s = (ie_can o a b c m p s || ie_cf o a b c m p (s + 1)) := by
  rcases ie_3 hs with rfl | rfl | rfl
  · rfl
  · rfl
  · exact (Bool.or_false _).symm
theorem ie_cf_0 (m : Nat → Int32) (p : Nat → Nat) : ie_cf o a b c m p 0 = ie_any o a b c m p := (Bool.or_assoc _ _ _).symm
def ie_XG (G : Nat → Int32 → (Nat → Int32) → (Nat → Int32) → (Nat → Int32) → Int32 → (Nat → Int32) → (Nat → Int32) → Int32 → Prop) : Prop :=
  (∀ step l t m p st nc wo sk fa en ec, step < 1000000 → l ≤ 10 → t < 3 → ie_ok c p → nc l = nI t → ie_row st (l * 15) m p → ¬ ie_can o a b c m p t = true →
    G (step + 1) (nI l) st (upd nc l (nI (t + 1))) wo sk fa en ec → G step (nI l) st nc wo sk fa en ec) ∧
  (∀ step l t m p st nc wo sk fa en ec, step < 1000000 → l ≤ 10 → t < 3 → ie_ok c p → nc l = nI t → ie_row st (l * 15) m p → ie_can o a b c m p t = true → ie_fl o a b m p t = true →
    G (step + 1) (nI l) st (upd nc l (nI (t + 1))) (upd wo l 1) sk (upd fa t 1) en ec → G step (nI l) st nc wo sk fa en ec) ∧
  (∀ step l t m p st nc wo sk fa en ec, step < 1000000 → l < 10 → t < 3 → ie_ok c p → nc l = nI t → ie_row st (l * 15) m p → ie_can o a b c m p t = true → ¬ ie_fl o a b m p t = true →
    (∀ st', (∀ j, j < (l + 1) * 15 → st' j = st j) → ie_row st' ((l + 1) * 15) (ie_nx o a b m t (t * 5 + p t)) (ie_st p t) → G (step + 1) (nI (l + 1)) st' (upd (upd nc l (nI (t + 1))) (l + 1) 0) (upd (upd wo l 1) (l + 1) 0) sk fa en ec) → G step (nI l) st nc wo sk fa en ec) ∧
  (∀ step l st nc wo sk fa en ec, step < 1000000 → l ≤ 10 → nc l = nI 3 → wo l = 1 →
    G (step + 1) (nI l + (-1)) st nc wo sk fa en ec → G step (nI l) st nc wo sk fa en ec) ∧
  (∀ step l st nc wo sk fa en ec, step < 1000000 → l ≤ 10 → nc l = nI 3 → wo l = 0 → l < c 0 + c 1 + c 2 →
    G (step + 1) (nI l + (-1)) st nc wo 1 fa en ec → G step (nI l) st nc wo sk fa en ec) ∧
  (∀ step l e m p st nc wo sk fa en, step < 1000000 → l ≤ 10 → nc l = nI 3 → wo l = 0 → l = c 0 + c 1 + c 2 → e < 4200 → ie_row st (l * 15) m p →
    (∀ en', (∀ j, j < e * 10 → en' j = en j) → (∀ j, j < 10 → en' (e * 10 + j) = m j) → G (step + 1) (nI l + (-1)) st nc wo sk fa en' (nI (e + 1))) → G step (nI l) st nc wo sk fa en (nI e))
theorem ie_Xkids {G : Nat → Int32 → (Nat → Int32) → (Nat → Int32) → (Nat → Int32) → Int32 → (Nat → Int32) → (Nat → Int32) → Int32 → Prop} (hG : ie_XG o a b c G) (hc : ie_cb c) {n : Nat}
    (ih : ∀ (l : Nat) (m : Nat → Int32) (p : Nat → Nat) (L : List (Nat × (Nat → Int32))) (step : Nat) (st nc wo : Nat → Int32) (sk : Int32) (fa en : Nat → Int32) (ec : Int32),
      p 0 + p 1 + p 2 = l → l + n = 11 → ie_ok c p → nc l = 0 → wo l = 0 → ie_row st (l * 15) m p → ie_XR L sk fa en ec → L.length + (ie_lv o a b c n m p).length ≤ 4200 → step + ie_T n ≤ 1000000 →
      (∀ (step' : Nat) (st' nc' wo' : Nat → Int32) (sk' : Int32) (fa' en' : Nat → Int32) (ec' : Int32), step' ≤ step + ie_T n → (∀ j, j < l * 15 → st' j = st j) → (∀ j, j < l → nc' j = nc j) → (∀ j, j < l → wo' j = wo j) → ie_XR (L ++ ie_lv o a b c n m p) sk' fa' en' ec' → G step' (nI l + (-1)) st' nc' wo' sk' fa' en' ec') →
      G step (nI l) st nc wo sk fa en ec)
    {l : Nat} {m : Nat → Int32} {p : Nat → Nat} (hl : p 0 + p 1 + p 2 = l) (hn : l + (n + 1) = 11) (hp : ie_ok c p) :
    ∀ (d s : Nat), s + d = 3 → ∀ (L : List (Nat × (Nat → Int32))) (step : Nat) (st nc wo : Nat → Int32) (sk : Int32) (fa en : Nat → Int32) (ec : Int32) (w : Bool),
      nc l = nI s → wo l = ie_bi w → ie_row st (l * 15) m p → ie_XR L sk fa en ec → L.length + (ie_cs o a b c (ie_lv o a b c n) m p s).length ≤ 4200 → step + d * (1 + ie_T n) < 1000000 →
      (∀ (step' : Nat) (st' nc' wo' : Nat → Int32) (sk' : Int32) (fa' en' : Nat → Int32) (ec' : Int32), step' ≤ step + d * (1 + ie_T n) → (∀ j, j < (l + 1) * 15 → st' j = st j) → (∀ j, j < l → nc' j = nc j) → nc' l = nI 3 → (∀ j, j < l → wo' j = wo j) → wo' l = ie_bi (w || ie_cf o a b c m p s) → ie_XR (L ++ ie_cs o a b c (ie_lv o a b c n) m p s) sk' fa' en' ec' → G step' (nI l) st' nc' wo' sk' fa' en' ec') →
      G step (nI l) st nc wo sk fa en ec := by
  obtain ⟨g1, g2, g3, _, _, _⟩ := hG
  have hcs := hc.2.2.2
  intro d
  induction d with
  | zero =>
    intro s hs L step st nc wo sk fa en ec w hnc hwo hrow hXR hlen hstep K
    obtain rfl : s = 3 := by omega
    refine K step st nc wo sk fa en ec (by omega) (fun _ _ => rfl) (fun _ _ => rfl) hnc (fun _ _ => rfl) ?_ ?_
    · rw [show ie_cf o a b c m p 3 = false from rfl, Bool.or_false]
      exact hwo
    · rw [ie_cs_3, List.append_nil]
      exact hXR
  | succ d ihd =>
    intro s hs L step st nc wo sk fa en ec w hnc hwo hrow hXR hlen hstep K
    have hs3 : s < 3 := by omega
    have e1 : (d + 1) * (1 + ie_T n) = d * (1 + ie_T n) + (1 + ie_T n) := Nat.succ_mul _ _
    have e2 := ie_cs_s o a b c (ie_lv o a b c n) m p hs3
    have e3 := ie_cf_s o a b c m p hs3
    rw [e1] at hstep K
    rw [e2, List.length_append] at hlen
    rw [e2, e3] at K
    by_cases hcan : ie_can o a b c m p s = true
    · have hlt := ie_can_lt o a b c hcan
      obtain ⟨k1, k2⟩ := ie_ok_st c hp hs3 hlt
      have hl10 : l < 10 := by
        obtain ⟨q0, q1, q2⟩ := k1
        omega
      by_cases hfl : ie_fl o a b m p s = true
      · rw [ie_ch_f o a b c hcan hfl] at hlen K
        refine g2 step l s m p st nc wo sk fa en ec (by omega) (by omega) hs3 hp hnc hrow hcan hfl ?_
        refine ihd (s + 1) (by omega) (L ++ [(2 + s, m)]) (step + 1) st _ _ sk _ en ec true pk_us pk_us hrow (ie_XR_fa m hXR) ?_ (by omega) ?_
        · rw [List.length_append]
          omega
        · intro step' st' nc' wo' sk' fa' en' ec' u1 u2 u3 u4 u5 u6 u7
          refine K step' st' nc' wo' sk' fa' en' ec' (by omega) u2 (fun j hj => ?_) u4 (fun j hj => ?_) ?_ ?_
          · rw [u3 j hj, pk_un (by omega)]
          · rw [u5 j hj, pk_un (by omega)]
          · rw [u6, hcan, Bool.true_or, Bool.or_true]
          · rw [← List.append_assoc]
            exact u7
      · rw [ie_ch_g o a b c hcan hfl] at hlen K
        refine g3 step l s m p st nc wo sk fa en ec (by omega) hl10 hs3 hp hnc hrow hcan hfl ?_
        intro st1 hst1 hrow1
        refine ih (l + 1) _ _ L (step + 1) st1 _ _ sk fa en ec (by omega) (by omega) k1 pk_us pk_us hrow1 hXR (by omega) (by omega) ?_
        intro step2 st2 nc2 wo2 sk2 fa2 en2 ec2 v1 v2 v3 v4 v5
        rw [pk_m1]
        refine ihd (s + 1) (by omega) _ step2 st2 nc2 wo2 sk2 fa2 en2 ec2 true ?_ ?_ ?_ v5 ?_ (by omega) ?_
        · rw [v3 l (by omega), pk_un (by omega), pk_us]
        · rw [v4 l (by omega), pk_un (by omega), pk_us]
          rfl
        · refine ie_row_c hrow (fun j hj => ?_)
          rw [v2 _ (by omega), hst1 _ (by omega)]
        · rw [List.length_append]
          omega
        · intro step' st' nc' wo' sk' fa' en' ec' u1 u2 u3 u4 u5 u6 u7
          refine K step' st' nc' wo' sk' fa' en' ec' (by omega) (fun j hj => ?_) (fun j hj => ?_) u4 (fun j hj => ?_) ?_ ?_
          · rw [u2 j hj, v2 j hj, hst1 j hj]
          · rw [u3 j hj, v3 j (by omega), pk_un (by omega), pk_un (by omega)]
          · rw [u5 j hj, v4 j (by omega), pk_un (by omega), pk_un (by omega)]
          · rw [u6, hcan, Bool.true_or, Bool.or_true]
          · rw [← List.append_assoc]
            exact u7
    · rw [ie_ch_n o a b c hcan] at hlen K
      rw [List.nil_append] at K
      have hcan' : ie_can o a b c m p s = false := by
        cases h : ie_can o a b c m p s
        · rfl
        · exact absurd h hcan
      rw [hcan', Bool.false_or] at K
      refine g1 step l s m p st nc wo sk fa en ec (by omega) (by omega) hs3 hp hnc hrow hcan ?_
      refine ihd (s + 1) (by omega) L (step + 1) st _ wo sk fa en ec w pk_us hwo hrow hXR (by rw [List.length_nil] at hlen; omega) (by omega) ?_
      intro step' st' nc' wo' sk' fa' en' ec' u1 u2 u3 u4 u5 u6 u7
      refine K step' st' nc' wo' sk' fa' en' ec' (by omega) u2 (fun j hj => ?_) u4 u5 u6 u7
      rw [u3 j hj, pk_un (by omega)]
theorem ie_Xtree {G : Nat → Int32 → (Nat → Int32) → (Nat → Int32) → (Nat → Int32) → Int32 → (Nat → Int32) → (Nat → Int32) → Int32 → Prop} (hG : ie_XG o a b c G) (hc : ie_cb c) : ∀ (n l : Nat) (m : Nat → Int32) (p : Nat → Nat) (L : List (Nat × (Nat → Int32))) (step : Nat) (st nc wo : Nat → Int32) (sk : Int32) (fa en : Nat → Int32) (ec : Int32),
      p 0 + p 1 + p 2 = l → l + n = 11 → ie_ok c p → nc l = 0 → wo l = 0 → ie_row st (l * 15) m p → ie_XR L sk fa en ec → L.length + (ie_lv o a b c n m p).length ≤ 4200 → step + ie_T n ≤ 1000000 →
      (∀ (step' : Nat) (st' nc' wo' : Nat → Int32) (sk' : Int32) (fa' en' : Nat → Int32) (ec' : Int32), step' ≤ step + ie_T n → (∀ j, j < l * 15 → st' j = st j) → (∀ j, j < l → nc' j = nc j) → (∀ j, j < l → wo' j = wo j) → ie_XR (L ++ ie_lv o a b c n m p) sk' fa' en' ec' → G step' (nI l + (-1)) st' nc' wo' sk' fa' en' ec') →
      G step (nI l) st nc wo sk fa en ec := by
  intro n
  induction n with
  | zero =>
    intro l m p L step st nc wo sk fa en ec hl hn hp
    obtain ⟨h0, h1, h2⟩ := hp
    obtain ⟨_, _, _, g⟩ := hc
    omega
  | succ n ih =>
    intro l m p L step st nc wo sk fa en ec hl hn hp hnc hwo hrow hXR hlen hstep K
    have eT : ie_T (n + 1) = 4 + 3 * ie_T n := rfl
    rw [eT] at hstep K
    by_cases q : ie_any o a b c m p = true
    · rw [ie_cs_lv o a b c q] at hlen K
      refine ie_Xkids o a b c hG hc ih hl hn hp 3 0 rfl L step st nc wo sk fa en ec false hnc hwo hrow hXR hlen (by omega) ?_
      intro step' st' nc' wo' sk' fa' en' ec' u1 u2 u3 u4 u5 u6 u7
      rw [ie_cf_0, q, Bool.or_true, ie_bi_t] at u6
      refine hG.2.2.2.1 step' l st' nc' wo' sk' fa' en' ec' (by omega) (by omega) u4 u6 ?_
      exact K (step' + 1) st' nc' wo' sk' fa' en' ec' (by omega) (fun j hj => u2 j (by omega)) u3 u5 u7
    · rw [ie_lv_f o a b c q] at hlen K
      have qf : ie_any o a b c m p = false := by
        cases h : ie_any o a b c m p
        · rfl
        · exact absurd h q
      have e0 : ie_cs o a b c (ie_lv o a b c n) m p 0 = [] := by
        show ie_ch o a b c (ie_lv o a b c n) m p 0 ++ (ie_ch o a b c (ie_lv o a b c n) m p 1 ++ ie_ch o a b c (ie_lv o a b c n) m p 2) = []
        rw [ie_ch_n o a b c (fun h => q (ie_any_of o a b c (by decide) h)), ie_ch_n o a b c (fun h => q (ie_any_of o a b c (by decide) h)), ie_ch_n o a b c (fun h => q (ie_any_of o a b c (by decide) h))]
        rfl
      refine ie_Xkids o a b c hG hc ih hl hn hp 3 0 rfl L step st nc wo sk fa en ec false hnc hwo hrow hXR (by rw [e0]; rw [List.length_singleton] at hlen; show L.length + 0 ≤ 4200; omega) (by omega) ?_
      intro step' st' nc' wo' sk' fa' en' ec' u1 u2 u3 u4 u5 u6 u7
      rw [ie_cf_0, qf, Bool.or_false, ie_bi_f] at u6
      rw [e0, List.append_nil] at u7
      rw [List.length_singleton] at hlen
      obtain ⟨h0, h1, h2⟩ := hp
      by_cases z : l < c 0 + c 1 + c 2
      · have ez : ie_lc c p = 1 := if_neg (fun h => by omega)
        rw [ez] at K
        refine hG.2.2.2.2.1 step' l st' nc' wo' sk' fa' en' ec' (by omega) (by omega) u4 u6 z ?_
        exact K (step' + 1) st' nc' wo' 1 fa' en' ec' (by omega) (fun j hj => u2 j (by omega)) u3 u5 (ie_XR_sk m u7)
      · have ez : ie_lc c p = 0 := if_pos (by omega)
        rw [ez] at K
        have hlc : l = c 0 + c 1 + c 2 := by omega
        have hec := u7.2.2.1
        have hle := ie_es_len L
        have hrow' : ie_row st' (l * 15) m p := ie_row_c hrow (fun j hj => u2 _ (by omega))
        rw [hec]
        refine hG.2.2.2.2.2 step' l (ie_es L).length m p st' nc' wo' sk' fa' en' (by omega) (by omega) u4 u6 hlc (by omega) hrow' ?_
        intro en2 w1 w2
        exact K (step' + 1) st' nc' wo' sk' fa' en2 _ (by omega) (fun j hj => u2 j (by omega)) u3 u5 (ie_XR_en u7 w1 w2)
end
end
section
/-! the reference's search over an interface of steps: Mid k l: run k, at the l-th turn of it; C k l t: there, thread t is about to go; Nx k l: k runs noted, the orders from turn l on are used up; In k l s: at turn l the threads from s on are looked at -/
section
variable (o a b : Nat → Int32) (c : Nat → Nat) (g : Nat → Int32) {σ : Type} (tn cd : σ → Nat → Int32) (LD : (Nat → Int32) → (Nat → Nat) → σ → Prop) (YR : List (Nat × (Nat → Int32)) → σ → Prop) (Mid : Nat → Nat → σ → Prop) (C : Nat → Nat → Nat → σ → Prop) (Nx : Nat → Nat → σ → Prop) (In : Nat → Nat → Nat → σ → Prop)
def ie_ag (l : Nat) (v v' : σ) : Prop := (∀ j, j < l → tn v' j = tn v j) ∧ ∀ j, j < l → cd v' j = cd v j
def ie_YG : Prop :=
  (∀ k l m p v L, L.length = k → k < 4200 → l ≤ 10 → ie_ok c p → p 0 + p 1 + p 2 = l → LD m p v → YR L v → ¬ ie_any o a b c m p = true →
    (∀ v', ie_ag tn cd l v v' → YR (L ++ [(ie_lc c p, m)]) v' → Nx (k + 1) l v') → Mid k l v) ∧
  (∀ k l m p v L, L.length = k → k < 4200 → l < 10 → ie_ok c p → p 0 + p 1 + p 2 = l → LD m p v → YR L v → ie_any o a b c m p = true →
    (∀ v', ie_ag tn cd l v v' → tn v' l = nI (ie_t0 o a b c m p) → cd v' l = nI (ie_mk o a b c m p) → LD m p v' → YR L v' → C k l (ie_t0 o a b c m p) v') → Mid k l v) ∧
  (∀ k l t m p v L, L.length = k → k < 4200 → l < 10 → t < 3 → ie_ok c p → LD m p v → YR L v → tn v l = nI t → ie_can o a b c m p t = true → ie_fl o a b m p t = true →
    (∀ v', ie_ag tn cd (l + 1) v v' → YR (L ++ [(2 + t, m)]) v' → Nx (k + 1) (l + 1) v') → C k l t v) ∧
  (∀ k l t m p v L, L.length = k → k < 4200 → l < 10 → t < 3 → ie_ok c p → LD m p v → YR L v → tn v l = nI t → ie_can o a b c m p t = true → ¬ ie_fl o a b m p t = true →
    (∀ v', ie_ag tn cd (l + 1) v v' → LD (ie_nx o a b m t (t * 5 + p t)) (ie_st p t) v' → YR L v' → Mid k (l + 1) v') → C k l t v) ∧
  (∀ k l t v, l < 10 → t < 3 → tn v l = nI t → In k l (t + 1) v → Nx k (l + 1) v) ∧
  (∀ k l v, l < 10 → Nx k l v → In k l 3 v) ∧
  (∀ k l s m p v, l < 10 → s < 3 → cd v l = nI (ie_mk o a b c m p) → ¬ ie_can o a b c m p s = true → In k l (s + 1) v → In k l s v) ∧
  (∀ k l s m p v L, L.length = k → k < 4200 → l < 10 → s < 3 → ie_ok c p → p 0 + p 1 + p 2 = l → ie_path o a b c g l (tn v) (cd v) m p → cd v l = nI (ie_mk o a b c m p) → ie_can o a b c m p s = true → YR L v →
    (∀ v', ie_ag tn cd l v v' → tn v' l = nI s → cd v' l = nI (ie_mk o a b c m p) → LD m p v' → YR L v' → C k l s v') → In k l s v)
theorem ie_Ychild (hG : ie_YG o a b c g tn cd LD YR Mid C Nx In) (hc : ie_cb c) {n : Nat}
    (ih : ∀ (l : Nat) (m : Nat → Int32) (p : Nat → Nat) (L : List (Nat × (Nat → Int32))) (v : σ), ie_path o a b c g l (tn v) (cd v) m p → LD m p v → YR L v → ie_ok c p → p 0 + p 1 + p 2 = l → l + n = 11 → L.length + (ie_lv o a b c n m p).length ≤ 4200 →
      (∀ v', ie_ag tn cd l v v' → YR (L ++ ie_lv o a b c n m p) v' → Nx (L ++ ie_lv o a b c n m p).length l v') → Mid L.length l v)
    {l : Nat} {m : Nat → Int32} {p : Nat → Nat} (hl : p 0 + p 1 + p 2 = l) (hn : l + (n + 1) = 11) (hp : ie_ok c p)
    {t : Nat} {L : List (Nat × (Nat → Int32))} {v : σ} (ht : t < 3) (hcan : ie_can o a b c m p t = true) (hpath : ie_path o a b c g l (tn v) (cd v) m p) (hLD : LD m p v) (hYR : YR L v) (htn : tn v l = nI t) (hcd : cd v l = nI (ie_mk o a b c m p)) (hlen : L.length + (ie_ch o a b c (ie_lv o a b c n) m p t).length ≤ 4200)
    (K : ∀ v', ie_ag tn cd (l + 1) v v' → YR (L ++ ie_ch o a b c (ie_lv o a b c n) m p t) v' → Nx (L ++ ie_ch o a b c (ie_lv o a b c n) m p t).length (l + 1) v') : C L.length l t v := by
  obtain ⟨_, _, g3, g4, _⟩ := hG
  have hpos := ie_ch_pos o a b c hc hp (by omega : p 0 + p 1 + p 2 + (n + 1) = 11) ht hcan
  have hcs := hc.2.2.2
  obtain ⟨k1, k2⟩ := ie_ok_st c hp ht (ie_can_lt o a b c hcan)
  have hl10 : l < 10 := by
    obtain ⟨q0, q1, q2⟩ := k1
    omega
  by_cases hfl : ie_fl o a b m p t = true
  · rw [ie_ch_f o a b c hcan hfl] at K hpos hlen
    refine g3 L.length l t m p v L rfl (by omega) hl10 ht hp hLD hYR htn hcan hfl (fun v' h1 h2 => ?_)
    have := K v' h1 h2
    rw [List.length_append] at this
    exact this
  · rw [ie_ch_g o a b c hcan hfl] at K hpos hlen
    refine g4 L.length l t m p v L rfl (by omega) hl10 ht hp hLD hYR htn hcan hfl (fun v' h1 h2 h3 => ?_)
    refine ih (l + 1) _ _ L v' ⟨m, p, t, ie_path_c o a b c l hpath (fun j hj => h1.1 j (by omega)) (fun j hj => h1.2 j (by omega)), ht, (h1.1 l (by omega)).trans htn, (h1.2 l (by omega)).trans hcd, hcan, hfl, rfl, rfl⟩ h2 h3 k1 (by omega) (by omega) hlen (fun v2 q1 q2 => ?_)
    exact K v2 ⟨fun j hj => (q1.1 j hj).trans (h1.1 j hj), fun j hj => (q1.2 j hj).trans (h1.2 j hj)⟩ q2
theorem ie_Ykids (hG : ie_YG o a b c g tn cd LD YR Mid C Nx In) (hc : ie_cb c) {n : Nat}
    (ih : ∀ (l : Nat) (m : Nat → Int32) (p : Nat → Nat) (L : List (Nat × (Nat → Int32))) (v : σ), ie_path o a b c g l (tn v) (cd v) m p → LD m p v → YR L v → ie_ok c p → p 0 + p 1 + p 2 = l → l + n = 11 → L.length + (ie_lv o a b c n m p).length ≤ 4200 →
      (∀ v', ie_ag tn cd l v v' → YR (L ++ ie_lv o a b c n m p) v' → Nx (L ++ ie_lv o a b c n m p).length l v') → Mid L.length l v)
    {l : Nat} {m : Nat → Int32} {p : Nat → Nat} (hl : p 0 + p 1 + p 2 = l) (hn : l + (n + 1) = 11) (hp : ie_ok c p) (hl10 : l < 10) :
    ∀ (d s : Nat), s + d = 3 → ∀ (L : List (Nat × (Nat → Int32))) (v : σ), ie_path o a b c g l (tn v) (cd v) m p → YR L v → cd v l = nI (ie_mk o a b c m p) → L.length + (ie_cs o a b c (ie_lv o a b c n) m p s).length ≤ 4200 →
      (∀ v', ie_ag tn cd l v v' → YR (L ++ ie_cs o a b c (ie_lv o a b c n) m p s) v' → Nx (L ++ ie_cs o a b c (ie_lv o a b c n) m p s).length l v') → In L.length l s v := by
  have hG' := hG
  obtain ⟨_, _, _, _, g5, g6, g7, g8⟩ := hG'
  intro d
  induction d with
  | zero =>
    intro s hs L v hpath hYR hcd hlen K
    obtain rfl : s = 3 := by omega
    rw [ie_cs_3, List.append_nil] at K
    exact g6 _ l v hl10 (K v ⟨fun _ _ => rfl, fun _ _ => rfl⟩ hYR)
  | succ d ihd =>
    intro s hs L v hpath hYR hcd hlen K
    have hs3 : s < 3 := by omega
    have e2 := ie_cs_s o a b c (ie_lv o a b c n) m p hs3
    rw [e2, List.length_append] at hlen
    rw [e2] at K
    by_cases hcan : ie_can o a b c m p s = true
    · have hpos := ie_ch_pos o a b c hc hp (by omega : p 0 + p 1 + p 2 + (n + 1) = 11) hs3 hcan
      refine g8 _ l s m p v L rfl (by omega) hl10 hs3 hp hl hpath hcd hcan hYR (fun v1 h1 h2 h3 h4 h5 => ?_)
      have hpath1 : ie_path o a b c g l (tn v1) (cd v1) m p := ie_path_c o a b c l hpath h1.1 h1.2
      refine ie_Ychild o a b c g tn cd LD YR Mid C Nx In hG hc ih hl hn hp hs3 hcan hpath1 h4 h5 h2 h3 (by omega) (fun v2 q1 q2 => ?_)
      refine g5 _ l s v2 hl10 hs3 ((q1.1 l (by omega)).trans h2) ?_
      refine ihd (s + 1) (by omega) _ v2 (ie_path_c o a b c l hpath1 (fun j hj => q1.1 j (by omega)) (fun j hj => q1.2 j (by omega))) q2 ((q1.2 l (by omega)).trans h3) (by rw [List.length_append]; omega) (fun v3 r1 r2 => ?_)
      rw [List.append_assoc] at r2 ⊢
      exact K v3 ⟨fun j hj => (r1.1 j hj).trans ((q1.1 j (by omega)).trans (h1.1 j hj)), fun j hj => (r1.2 j hj).trans ((q1.2 j (by omega)).trans (h1.2 j hj))⟩ r2
    · rw [ie_ch_n o a b c hcan, List.nil_append] at K
      rw [ie_ch_n o a b c hcan, List.length_nil] at hlen
      exact g7 _ l s m p v hl10 hs3 hcd hcan (ihd (s + 1) (by omega) L v hpath hYR hcd (by omega) K)
theorem ie_Ytree (hG : ie_YG o a b c g tn cd LD YR Mid C Nx In) (hc : ie_cb c) : ∀ (n l : Nat) (m : Nat → Int32) (p : Nat → Nat) (L : List (Nat × (Nat → Int32))) (v : σ), ie_path o a b c g l (tn v) (cd v) m p → LD m p v → YR L v → ie_ok c p → p 0 + p 1 + p 2 = l → l + n = 11 → L.length + (ie_lv o a b c n m p).length ≤ 4200 →
      (∀ v', ie_ag tn cd l v v' → YR (L ++ ie_lv o a b c n m p) v' → Nx (L ++ ie_lv o a b c n m p).length l v') → Mid L.length l v := by
  intro n
  induction n with
  | zero =>
    intro l m p L v _ _ _ hp hl hn
    obtain ⟨h0, h1, h2⟩ := hp
    obtain ⟨_, _, _, q⟩ := hc
    omega
  | succ n ih =>
    intro l m p L v hpath hLD hYR hp hl hn hlen K
    have hpos := ie_pos o a b c hc (n + 1) m p hp (by omega)
    by_cases q : ie_any o a b c m p = true
    · have hcan := ie_t0_can o a b c q
      have ht := ie_t0_lt o a b c m p
      have hl10 : l < 10 := by
        obtain ⟨k1, k2⟩ := ie_ok_st c hp ht (ie_can_lt o a b c hcan)
        obtain ⟨q0, q1, q2⟩ := k1
        have := hc.2.2.2
        omega
      have e : ie_lv o a b c (n + 1) m p = ie_ch o a b c (ie_lv o a b c n) m p (ie_t0 o a b c m p) ++ ie_cs o a b c (ie_lv o a b c n) m p (ie_t0 o a b c m p + 1) := by
        rw [ie_cs_lv o a b c q, ie_t0_cs, ie_cs_s o a b c _ m p ht]
      rw [e] at K
      rw [e, List.length_append] at hlen
      have hposc := ie_ch_pos o a b c hc hp (by omega : p 0 + p 1 + p 2 + (n + 1) = 11) ht hcan
      refine hG.2.1 _ l m p v L rfl (by omega) hl10 hp hl hLD hYR q (fun v1 h1 h2 h3 h4 h5 => ?_)
      have hpath1 : ie_path o a b c g l (tn v1) (cd v1) m p := ie_path_c o a b c l hpath h1.1 h1.2
      refine ie_Ychild o a b c g tn cd LD YR Mid C Nx In hG hc ih hl hn hp ht hcan hpath1 h4 h5 h2 h3 (by omega) (fun v2 q1 q2 => ?_)
      refine hG.2.2.2.2.1 _ l _ v2 hl10 ht ((q1.1 l (by omega)).trans h2) ?_
      refine ie_Ykids o a b c g tn cd LD YR Mid C Nx In hG hc ih hl hn hp hl10 (2 - ie_t0 o a b c m p) (ie_t0 o a b c m p + 1) (by omega) _ v2 (ie_path_c o a b c l hpath1 (fun j hj => q1.1 j (by omega)) (fun j hj => q1.2 j (by omega))) q2 ((q1.2 l (by omega)).trans h3) (by rw [List.length_append]; omega) (fun v3 r1 r2 => ?_)
      rw [List.append_assoc] at r2 ⊢
      exact K v3 ⟨fun j hj => (r1.1 j hj).trans ((q1.1 j (by omega)).trans (h1.1 j hj)), fun j hj => (r1.2 j hj).trans ((q1.2 j (by omega)).trans (h1.2 j hj))⟩ r2
    · rw [ie_lv_f o a b c q] at K hlen
      rw [List.length_singleton] at hlen
      refine hG.1 _ l m p v L rfl (by omega) (by omega) hp hl hLD hYR q (fun v' h1 h2 => ?_)
      have := K v' h1 h2
      rw [List.length_append] at this
      exact this
end
end
section
/-! bits of small masks -/
theorem ie_shr1 : ∀ n, n < 8 → ∀ t, t < 3 → ((nI n) >>> ((nI t) &&& 31)) &&& 1 = nI (n / 2 ^ t % 2) := by decide +kernel
theorem ie_shlo : ∀ n, n < 8 → ∀ t, t < 3 → nI n ||| ((1 : Int32) <<< ((nI t) &&& 31)) = nI (ie_or n t) := by decide +kernel
theorem ie_and1 : ∀ n, n < 8 → ((nI n &&& 1 = 1) ↔ n % 2 = 1) := by decide +kernel
theorem ie_and2 : ∀ n, n < 8 → ((nI n &&& 2 = 2) ↔ n / 2 % 2 = 1) := by decide +kernel
theorem ie_fm_lt (L : List (Nat × (Nat → Int32))) : (if ie_has 2 L = true then 1 else 0) + (if ie_has 3 L = true then 2 else 0) + (if ie_has 4 L = true then 4 else 0) < 8 := by
  split <;> split <;> split <;> decide
theorem ie_fm_bit (L : List (Nat × (Nat → Int32))) {t : Nat} (ht : t < 3) : (ie_fm L >>> ((nI t) &&& 31)) &&& 1 = ie_bi (ie_has (2 + t) L) := by
  unfold ie_fm
  rw [ie_shr1 _ (ie_fm_lt L) t ht, ie_bits _ _ _ t ht]
  rcases ie_3 ht with rfl | rfl | rfl
  · cases ie_has 2 L <;> rfl
  · cases ie_has 3 L <;> rfl
  · cases ie_has 4 L <;> rfl
theorem ie_fm_0 (L : List (Nat × (Nat → Int32))) : ie_fm L = 0 ↔ ie_has 2 L = false ∧ ie_has 3 L = false ∧ ie_has 4 L = false := by
  unfold ie_fm
  cases ie_has 2 L <;> cases ie_has 3 L <;> cases ie_has 4 L <;> decide
end
section
/-! the component's private methods against the pure picture -/
theorem ix_thr {post : Int32 → Prop} {u : SX} {t : Nat} (ht : t < 3) (h : post 1) : wpX_isThread post u (nI t) := by
  obtain ⟨ex, sk, ec, o, a, b, cn, bg, st, nc, wo, fa, en, ne⟩ := u
  exact br_f (nI_pos (by omega)) (br_f (nI_ge (b := 3) ht (by decide)) h)
theorem ix_thrN {post : Int32 → Prop} {u : SX} {x : Int32} (hx : x < 0 ∨ nI 3 ≤ x) (h : post 0) : wpX_isThread post u x := by
  obtain ⟨ex, sk, ec, o, a, b, cn, bg, st, nc, wo, fa, en, ne⟩ := u
  exact br_c (fun _ => h) (fun g => br_t (hx.resolve_left g) h)
theorem ix_var {post : Int32 → Prop} {u : SX} {t : Nat} (ht : t < 4) (h : post 1) : wpX_isVariable post u (nI t) := by
  obtain ⟨ex, sk, ec, o, a, b, cn, bg, st, nc, wo, fa, en, ne⟩ := u
  exact br_f (nI_pos (by omega)) (br_f (nI_ge (b := 4) ht (by decide)) h)
theorem ix_varN {post : Int32 → Prop} {u : SX} {x : Int32} (hx : x < 0 ∨ nI 4 ≤ x) (h : post 0) : wpX_isVariable post u x := by
  obtain ⟨ex, sk, ec, o, a, b, cn, bg, st, nc, wo, fa, en, ne⟩ := u
  exact br_c (fun _ => h) (fun g => br_t (hx.resolve_left g) h)
def ie_cn (c : Nat → Nat) (cn : Nat → Int32) : Prop := ∀ t, t < 3 → cn t = nI (c t)
theorem ie_cn_sum {c : Nat → Nat} {cn : Nat → Int32} (h : ie_cn c cn) : cn 0 + cn 1 + cn 2 = nI (c 0 + c 1 + c 2) := by
  rw [h 0 (by decide), h 1 (by decide), h 2 (by decide), nI_add, nI_add]
section
variable {o a b : Nat → Int32} {m : Nat → Int32} {t i : Nat}
theorem ie_nx0 (h : o i = 0) : ie_nx o a b m t i = upd m (4 + t * 2 + ie_b1 (a i)) (m (ie_b3 (b i))) := if_pos h
theorem ie_nx1 (h : o i = 1) : ie_nx o a b m t i = upd m (ie_b3 (b i)) (m (4 + t * 2 + ie_b1 (a i))) := by simp [ie_nx, h]
theorem ie_nx2 (h : o i = 2) : ie_nx o a b m t i = upd m (4 + t * 2 + ie_b1 (a i)) (m (4 + t * 2 + ie_b1 (a i)) + b i) := by simp [ie_nx, h]
theorem ie_nx3 (h : o i = 3) : ie_nx o a b m t i = upd m (ie_b3 (b i)) (a i) := by simp [ie_nx, h]
theorem ie_nx4 (h : o i = 4) : ie_nx o a b m t i = upd m (10 + ie_b1 (a i)) (nI (t + 1)) := by simp [ie_nx, h]
theorem ie_nx5 (h : o i = 5) (g : m (10 + ie_b1 (a i)) = nI (t + 1)) : ie_nx o a b m t i = upd m (10 + ie_b1 (a i)) 0 := by simp [ie_nx, h, g]
theorem ie_nx5n (h : o i = 5) (g : ¬ m (10 + ie_b1 (a i)) = nI (t + 1)) : ie_nx o a b m t i = m := by simp [ie_nx, h, g]
theorem ie_nx7 (h : o i = 7) : ie_nx o a b m t i = upd (upd m (4 + t * 2 + ie_b1 (a i)) (m (ie_b3 (b i)))) (ie_b3 (b i)) (m (4 + t * 2 + ie_b1 (a i))) := by simp [ie_nx, h]
theorem ie_nxd (h0 : ¬ o i = 0) (h1 : ¬ o i = 1) (h2 : ¬ o i = 2) (h3 : ¬ o i = 3) (h4 : ¬ o i = 4) (h5 : ¬ o i = 5) (h7 : ¬ o i = 7) : ie_nx o a b m t i = m := by simp [ie_nx, h0, h1, h2, h3, h4, h5, h7]
end
section
variable {ex sk ec : Int32} {o a b cn bg st nc wo fa en : Nat → Int32} {ne : Nat}
def ie_cd (o a b m : Nat → Int32) (i : Nat) : Bool := if o i = 4 then decide (m (10 + ie_b1 (a i)) = 0) else if o i = 8 then decide (m (ie_b3 (a i)) = b i) else true
theorem ix_cbc {post : Int32 → Prop} {r i : Nat} {m : Nat → Int32} {p : Nat → Nat} (hrow : ie_row st r m p) (hr : r + 15 ≤ 165) (hi : i < 15) (K : post (ie_bi (ie_cd o a b m i))) : wpX_canBeCarriedOut post (ex, sk, ec, o, a, b, cn, bg, st, nc, wo, fa, en, ne) (nI r) (nI i) := by
  have vi : vp_in (nI i) 15 := vp_in_nI hi (by decide)
  have ci : (nI i).toNatClampNeg = i := nI_clamp (by omega)
  have b1 := ie_b1_lt (a i)
  have b3 := ie_b3_lt (a i)
  have cl : (nI (r + (10 + ie_b1 (a i)))).toNatClampNeg = r + (10 + ie_b1 (a i)) := nI_clamp (by omega)
  have cv : (nI (r + ie_b3 (a i))).toNatClampNeg = r + ie_b3 (a i) := nI_clamp (by omega)
  have s1 := hrow.1 (10 + ie_b1 (a i)) (by omega)
  have s2 := hrow.1 (ie_b3 (a i)) (by omega)
  unfold wpX_canBeCarriedOut
  dsimp only
  rw [ci, ie_lock, ie_var, cl, cv, s1, s2]
  unfold ie_cd at K
  refine ⟨vi, br_c (fun h4 => ⟨vi, vp_in_nI (by omega) (by decide), ?_⟩) (fun h4 => ⟨vi, br_c (fun h8 => ⟨vi, vp_in_nI (by omega) (by decide), vi, ?_⟩) (fun h8 => ?_)⟩)⟩
  · rw [if_pos h4] at K
    refine br_c (fun z => ?_) (fun z => ?_)
    · rw [decide_eq_true z] at K; exact K
    · rw [decide_eq_false z] at K; exact K
  · rw [if_neg h4, if_pos h8] at K
    refine br_c (fun z => ?_) (fun z => ?_)
    · rw [decide_eq_true z] at K; exact K
    · rw [decide_eq_false z] at K; exact K
  · rw [if_neg h4, if_neg h8] at K
    exact K
theorem ix_fails {post : Int32 → Prop} {r t i : Nat} {m : Nat → Int32} {p : Nat → Nat} (hrow : ie_row st r m p) (hr : r + 15 ≤ 165) (ht : t < 3) (hi : i < 15) (K : post (ie_bi (decide (o i = 6) && !decide (m (4 + t * 2 + ie_b1 (a i)) = b i)))) : wpX_fails post (ex, sk, ec, o, a, b, cn, bg, st, nc, wo, fa, en, ne) (nI r) (nI t) (nI i) := by
  have vi : vp_in (nI i) 15 := vp_in_nI hi (by decide)
  have ci : (nI i).toNatClampNeg = i := nI_clamp (by omega)
  have b1 := ie_b1_lt (a i)
  have cl : (nI (r + (4 + t * 2 + ie_b1 (a i)))).toNatClampNeg = r + (4 + t * 2 + ie_b1 (a i)) := nI_clamp (by omega)
  have s1 := hrow.1 (4 + t * 2 + ie_b1 (a i)) (by omega)
  unfold wpX_fails
  dsimp only
  rw [ci, ie_reg]
  refine ⟨vi, nm_e ⟨vi, br_c (fun h6 => ⟨vp_in_nI (by omega) (by decide), vi, ?_⟩) (fun h6 => ?_)⟩⟩
  · rw [cl, s1]
    rw [decide_eq_true h6, Bool.true_and] at K
    refine br_c (fun z => ?_) (fun z => ?_)
    · rw [decide_eq_true z] at K; exact K
    · rw [decide_eq_false z] at K; exact K
  · rw [decide_eq_false h6, Bool.false_and] at K
    exact K
theorem ix_carry {post : SX → Prop} {r t i : Nat} {m : Nat → Int32} {p : Nat → Nat} (hrow : ie_row st r m p) (hr : r + 15 ≤ 165) (ht : t < 3) (hi : i < 15) (K : ∀ st', (∀ j, j < r → st' j = st j) → ie_row st' r (ie_nx o a b m t i) p → post (ex, sk, ec, o, a, b, cn, bg, st', nc, wo, fa, en, ne)) : wpX_carryOut post (ex, sk, ec, o, a, b, cn, bg, st, nc, wo, fa, en, ne) (nI r) (nI t) (nI i) := by
  have vi : vp_in (nI i) 15 := vp_in_nI hi (by decide)
  have ci : (nI i).toNatClampNeg = i := nI_clamp (by omega)
  have b1 := ie_b1_lt (a i)
  have b3 := ie_b3_lt (b i)
  have cr : (nI (r + (4 + t * 2 + ie_b1 (a i)))).toNatClampNeg = r + (4 + t * 2 + ie_b1 (a i)) := nI_clamp (by omega)
  have cv : (nI (r + ie_b3 (b i))).toNatClampNeg = r + ie_b3 (b i) := nI_clamp (by omega)
  have cl : (nI (r + (10 + ie_b1 (a i)))).toNatClampNeg = r + (10 + ie_b1 (a i)) := nI_clamp (by omega)
  have vr : vp_in (nI (r + (4 + t * 2 + ie_b1 (a i)))) 165 := vp_in_nI (by omega) (by decide)
  have vv : vp_in (nI (r + ie_b3 (b i))) 165 := vp_in_nI (by omega) (by decide)
  have vl : vp_in (nI (r + (10 + ie_b1 (a i)))) 165 := vp_in_nI (by omega) (by decide)
  have sr := hrow.1 (4 + t * 2 + ie_b1 (a i)) (by omega)
  have sv := hrow.1 (ie_b3 (b i)) (by omega)
  have sl := hrow.1 (10 + ie_b1 (a i)) (by omega)
  have kr : 4 + t * 2 + ie_b1 (a i) < 12 := by omega
  have kv : ie_b3 (b i) < 12 := by omega
  have kl : 10 + ie_b1 (a i) < 12 := by omega
  have U : ∀ (s : Nat → Int32) (k : Nat) (x : Int32) (j : Nat), j < r → upd s (r + k) x j = s j := fun s k x j hj => pk_un (by omega)
  unfold wpX_carryOut
  dsimp only
  rw [ci, ie_reg, ie_lock, ie_var]
  refine ⟨vi, nm_e ⟨vi, nm_e ⟨vi, nm_e ⟨vi, ?_⟩⟩⟩⟩
  rw [cr, cv, cl, sr, sv, sl, nI_1]
  by_cases h0 : o i = 0
  · refine nm_r h0 (br_f (by decide) (br_f (by decide) (br_t rfl ⟨vv, vr, nm_e (K _ (fun j hj => U _ _ _ j hj) ?_)⟩)))
    rw [ie_nx0 h0]
    exact ie_row_u _ hrow kr
  by_cases h1 : o i = 1
  · refine nm_r h1 (br_f (by decide) (br_f (by decide) (br_f (by decide) (br_t rfl ⟨vr, vv, nm_e (K _ (fun j hj => U _ _ _ j hj) ?_)⟩))))
    rw [ie_nx1 h1]
    exact ie_row_u _ hrow kv
  by_cases h2 : o i = 2
  · refine nm_r h2 (br_f (by decide) (br_f (by decide) (br_f (by decide) (br_f (by decide) (br_t rfl ⟨vr, vi, vr, nm_e (K _ (fun j hj => U _ _ _ j hj) ?_)⟩)))))
    rw [ie_nx2 h2]
    exact ie_row_u _ hrow kr
  by_cases h3 : o i = 3
  · refine nm_r h3 (br_f (by decide) (br_f (by decide) (br_f (by decide) (br_f (by decide) (br_f (by decide) (br_t rfl ⟨vi, vv, nm_e (K _ (fun j hj => U _ _ _ j hj) ?_)⟩))))))
    rw [ie_nx3 h3]
    exact ie_row_u _ hrow kv
  by_cases h4 : o i = 4
  · refine nm_r h4 (br_f (by decide) (br_f (by decide) (br_f (by decide) (br_f (by decide) (br_f (by decide) (br_f (by decide) (br_t rfl ⟨vl, nm_e (K _ (fun j hj => U _ _ _ j hj) ?_)⟩)))))))
    rw [ie_nx4 h4]
    exact ie_row_u _ hrow kl
  by_cases h5 : o i = 5
  · refine nm_r h5 (br_f (by decide) (br_f (by decide) (br_f (by decide) (br_f (by decide) (br_f (by decide) (br_f (by decide) (br_f (by decide) (br_t rfl ⟨vl, br_c (fun z => ⟨vl, nm_e (K _ (fun j hj => U _ _ _ j hj) ?_)⟩) (fun z => K _ (fun j hj => rfl) ?_)⟩))))))))
    · rw [ie_nx5 h5 z]
      exact ie_row_u _ hrow kl
    · rw [ie_nx5n h5 z]
      exact hrow
  by_cases h7 : o i = 7
  · refine nm_r h7 (br_f (by decide) (br_f (by decide) (br_f (by decide) (br_f (by decide) (br_f (by decide) (br_f (by decide) (br_f (by decide) (br_f (by decide) (br_f (by decide) (br_t rfl ⟨vr, nm_e ⟨vv, vr, nm_e ⟨vv, nm_e (K _ (fun j hj => (U _ _ _ j hj).trans (U _ _ _ j hj)) ?_)⟩⟩⟩))))))))))
    rw [ie_nx7 h7]
    exact ie_row_u _ (ie_row_u _ hrow kr) kv
  have hd : post (ex, sk, ec, o, a, b, cn, bg, st, nc, wo, fa, en, ne) := K _ (fun j hj => rfl) (by rw [ie_nxd h0 h1 h2 h3 h4 h5 h7]; exact hrow)
  exact nm_e (br_c (fun _ => hd) (fun _ => br_c (fun _ => hd) (fun _ => br_f h0 (br_f h1 (br_f h2 (br_f h3 (br_f h4 (br_f h5 (br_c (fun _ => hd) (fun _ => br_f h7 trivial))))))))))
end
end
section
/-! the component's turn, end and search -/
theorem ie_rowi (r t : Nat) : nI r + 12 + nI t = nI (r + (12 + t)) := by
  show nI r + nI 12 + nI t = _
  rw [nI_add, nI_add, Nat.add_assoc]
section
variable {ex sk ec : Int32} {o a b cn bg st nc wo fa en : Nat → Int32} {ne : Nat}
theorem ix_copy {post : Int32 → SX → Prop} {r t i : Nat} {m : Nat → Int32} {p : Nat → Nat} {st0 : Nat → Int32} (hrow : ie_row st0 r m p) (hr : r + 30 ≤ 165) (ht : t < 3) (hi : i < 15)
    (K : ∀ st', (∀ j, j < r + 15 → st' j = st0 j) → ie_row st' (r + 15) (ie_nx o a b m t i) (ie_st p t) → post 1 (ex, sk, ec, o, a, b, cn, bg, st', nc, wo, fa, en, ne)) :
    ∀ d j : Nat, j + d = 15 → ∀ n : Nat, d < n → ∀ st : Nat → Int32, (∀ k, k < r + 15 → st k = st0 k) → (∀ k, k < j → st (r + 15 + k) = st0 (r + k)) → wX_takesTurn_87 post (nI t) (nI r) (nI i) (nI (r + 15)) ex sk ec ne n (nI j) o a b cn bg st nc wo fa en := by
  intro d
  induction d with
  | zero =>
    intro j hj n hn st h1 h2
    obtain rfl : j = 15 := by omega
    cases n with
    | zero => omega
    | succ n =>
      have row1 : ie_row st (r + 15) m p := ie_row_c hrow (fun k hk => h2 k hk)
      have cl : (nI (r + 15 + (12 + t))).toNatClampNeg = r + 15 + (12 + t) := nI_clamp (by omega)
      have v : vp_in (nI (r + 15) + 12 + nI t) 165 := by
        rw [ie_rowi]
        exact vp_in_nI (by omega) (by decide)
      have e : upd st (nI (r + 15) + 12 + nI t).toNatClampNeg (st (nI (r + 15) + 12 + nI t).toNatClampNeg + 1) = upd st (r + 15 + (12 + t)) (nI (p t + 1)) := by
        rw [ie_rowi, cl, row1.2 t ht, nI_1]
      refine br_t (nI_le (a := 15) (Nat.le_refl 15) (by decide)) ⟨v, v, nm_r e (ix_carry (ie_row_p row1 ht) (by omega) ht hi ?_)⟩
      exact fun st' g1 g2 => K st' (fun k hk => (g1 k hk).trans ((pk_un (by omega)).trans (h1 k hk))) g2
  | succ d ih =>
    intro j hj n hn st h1 h2
    cases n with
    | zero => omega
    | succ n =>
      have v1 : vp_in (nI r + nI j) 165 := by
        rw [nI_add]
        exact vp_in_nI (by omega) (by decide)
      have v2 : vp_in (nI (r + 15) + nI j) 165 := by
        rw [nI_add]
        exact vp_in_nI (by omega) (by decide)
      have e : upd st (nI (r + 15) + nI j).toNatClampNeg (st (nI r + nI j).toNatClampNeg) = upd st (r + 15 + j) (st0 (r + j)) := by
        rw [nI_add, nI_add, nI_clamp (by omega), nI_clamp (by omega), h1 (r + j) (by omega)]
      refine br_f (nI_ge (b := 15) (by omega) (by decide)) ⟨v1, v2, nm_r e (nm_r (nI_1 j) (ih (j + 1) (by omega) n (by omega) _ ?_ ?_))⟩
      · intro k hk
        rw [pk_un (by omega)]
        exact h1 k hk
      · intro k hk
        by_cases z : k = j
        · rw [z, pk_us]
        · rw [pk_un (by omega)]
          exact h2 k (by omega)
theorem ix_tt {post : Int32 → SX → Prop} {l t : Nat} {m : Nat → Int32} {p c : Nat → Nat} (hcn : ie_cn c cn) (hc : ie_cb c) (hp : ie_ok c p) (hrow : ie_row st (l * 15) m p) (hl : l ≤ 10) (ht : t < 3)
    (hl2 : ie_can o a b c m p t = true → ¬ ie_fl o a b m p t = true → l < 10)
    (K0 : ¬ ie_can o a b c m p t = true → post 0 (ex, sk, ec, o, a, b, cn, bg, st, nc, wo, fa, en, ne))
    (K1 : ie_can o a b c m p t = true → ie_fl o a b m p t = true → post 0 (ex, sk, ec, o, a, b, cn, bg, st, nc, upd wo l 1, upd fa t 1, en, ne))
    (K2 : ie_can o a b c m p t = true → ¬ ie_fl o a b m p t = true → ∀ st', (∀ j, j < (l + 1) * 15 → st' j = st j) → ie_row st' ((l + 1) * 15) (ie_nx o a b m t (t * 5 + p t)) (ie_st p t) → post 1 (ex, sk, ec, o, a, b, cn, bg, st', nc, upd wo l 1, fa, en, ne)) :
    wpX_takesTurn post (ex, sk, ec, o, a, b, cn, bg, st, nc, wo, fa, en, ne) (nI l) (nI t) := by
  obtain ⟨q1, q2⟩ := ie_lt_c c hc hp ht
  have ct : (nI t).toNatClampNeg = t := nI_clamp (by omega)
  have cl : (nI (l * 15 + (12 + t))).toNatClampNeg = l * 15 + (12 + t) := nI_clamp (by omega)
  have vt : vp_in (nI t) 3 := vp_in_nI ht (by decide)
  have v : vp_in (nI (l * 15) + 12 + nI t) 165 := by
    rw [ie_rowi]
    exact vp_in_nI (by omega) (by decide)
  have e1 : st (nI (l * 15) + 12 + nI t).toNatClampNeg = nI (p t) := by
    rw [ie_rowi, cl, hrow.2 t ht]
  have e2 : nI t * 5 + nI (p t) = nI (t * 5 + p t) := by
    show nI t * nI 5 + nI (p t) = _
    rw [pk_mul, nI_add]
  have e3 : cn (nI t).toNatClampNeg = nI (c t) := by
    rw [ct, hcn t ht]
  have e4 : upd wo (nI l).toNatClampNeg (vp_nar .boolean 1) = upd wo l 1 := by
    rw [nI_clamp (by omega), ie_T1]
  have e5 : upd fa (nI t).toNatClampNeg (vp_nar .boolean 1) = upd fa t 1 := by
    rw [ct, ie_T1]
  have hcd : ie_can o a b c m p t = (decide (p t < c t) && ie_cd o a b m (t * 5 + p t)) := rfl
  unfold wpX_takesTurn
  dsimp only
  refine nm_r (pk_mul l 15) ⟨v, nm_r e1 ⟨vt, ?_⟩⟩
  rw [e3]
  by_cases hlt : p t < c t
  · refine br_t (nI_lt hlt (by omega)) (nm_r e2 (ix_cbc hrow (by omega) (by omega) ?_))
    rw [decide_eq_true hlt, Bool.true_and] at hcd
    by_cases hcan : ie_can o a b c m p t = true
    · rw [← hcd, hcan]
      refine br_f (by decide) ⟨vp_in_nI (by omega) (by decide), nm_r e4 (ix_fails hrow (by omega) ht (by omega) ?_)⟩
      by_cases hfl : ie_fl o a b m p t = true
      · have hf : (decide (o (t * 5 + p t) = 6) && !decide (m (4 + t * 2 + ie_b1 (a (t * 5 + p t))) = b (t * 5 + p t))) = true := hfl
        rw [hf]
        exact br_f (by decide) ⟨vt, nm_r e5 (K1 hcan hfl)⟩
      · have hf : (decide (o (t * 5 + p t) = 6) && !decide (m (4 + t * 2 + ie_b1 (a (t * 5 + p t))) = b (t * 5 + p t))) = false := Bool.eq_false_iff.mpr hfl
        rw [hf]
        have h10 := hl2 hcan hfl
        have e15 : (l + 1) * 15 = l * 15 + 15 := by omega
        rw [e15] at K2
        refine br_t rfl (nm_r (nI_add (l * 15) 15) ⟨16, ?_⟩)
        exact ix_copy hrow (by omega) ht (by omega) (K2 hcan hfl) 15 0 rfl 16 (by decide) st (fun _ _ => rfl) (fun k hk => absurd hk (Nat.not_lt_zero k))
    · rw [← hcd, Bool.eq_false_iff.mpr hcan]
      exact br_t rfl (K0 hcan)
  · refine br_f (nI_nlt (by omega) (by omega)) (K0 (fun h => hlt (ie_can_lt o a b c h)))
theorem ix_ncopy {post : SX → Prop} {e r : Nat} {m : Nat → Int32} {p : Nat → Nat} {en0 : Nat → Int32} (hrow : ie_row st r m p) (hr : r + 15 ≤ 165) (he : e * 10 + 10 ≤ ne) (hne : ne ≤ 42000)
    (K : ∀ en', (∀ j, j < e * 10 → en' j = en0 j) → (∀ j, j < 10 → en' (e * 10 + j) = m j) → post (ex, sk, nI (e + 1), o, a, b, cn, bg, st, nc, wo, fa, en', ne)) :
    ∀ d j : Nat, j + d = 10 → ∀ n : Nat, d < n → ∀ en : Nat → Int32, (∀ k, k < e * 10 → en k = en0 k) → (∀ k, k < j → en (e * 10 + k) = m k) → wX_noteEnd_41 post (nI (e * 10)) (nI r) ex sk (nI e) ne n (nI j) o a b cn bg st nc wo fa en := by
  intro d
  induction d with
  | zero =>
    intro j hj n hn en h1 h2
    obtain rfl : j = 10 := by omega
    cases n with
    | zero => omega
    | succ n => exact br_t (nI_le (a := 10) (Nat.le_refl 10) (by decide)) (nm_r (nI_1 e) (K en h1 h2))
  | succ d ih =>
    intro j hj n hn en h1 h2
    cases n with
    | zero => omega
    | succ n =>
      have v1 : vp_in (nI r + nI j) 165 := by
        rw [nI_add]
        exact vp_in_nI (by omega) (by decide)
      have v2 : vp_in (nI (e * 10) + nI j) ne := by
        rw [nI_add]
        exact vp_in_nI (by omega) (by omega)
      have eq : upd en (nI (e * 10) + nI j).toNatClampNeg (st (nI r + nI j).toNatClampNeg) = upd en (e * 10 + j) (m j) := by
        rw [nI_add, nI_add, nI_clamp (by omega), nI_clamp (by omega), hrow.1 j (by omega)]
      refine br_f (nI_ge (b := 10) (by omega) (by decide)) ⟨v1, v2, nm_r eq (nm_r (nI_1 j) (ih (j + 1) (by omega) n (by omega) _ ?_ ?_))⟩
      · intro k hk
        rw [pk_un (by omega)]
        exact h1 k hk
      · intro k hk
        by_cases z : k = j
        · rw [z, pk_us]
        · rw [pk_un (by omega)]
          exact h2 k (by omega)
theorem ix_note_s {post : SX → Prop} {l : Nat} {c : Nat → Nat} (hcn : ie_cn c cn) (hc : ie_cb c) (hl : l < c 0 + c 1 + c 2) (K : post (ex, 1, ec, o, a, b, cn, bg, st, nc, wo, fa, en, ne)) : wpX_noteEnd post (ex, sk, ec, o, a, b, cn, bg, st, nc, wo, fa, en, ne) (nI l) := by
  have := hc.2.2.2
  unfold wpX_noteEnd wpX_countOfAll
  dsimp only
  rw [ie_cn_sum hcn]
  exact br_f (nI_ge hl (by omega)) K
theorem ix_note_e {post : SX → Prop} {l e : Nat} {c : Nat → Nat} {m : Nat → Int32} {p : Nat → Nat} (hcn : ie_cn c cn) (hc : ie_cb c) (hl : l = c 0 + c 1 + c 2) (he : e < 4200) (hne : ne = 42000) (hrow : ie_row st (l * 15) m p)
    (K : ∀ en', (∀ j, j < e * 10 → en' j = en j) → (∀ j, j < 10 → en' (e * 10 + j) = m j) → post (ex, sk, nI (e + 1), o, a, b, cn, bg, st, nc, wo, fa, en', ne)) : wpX_noteEnd post (ex, sk, nI e, o, a, b, cn, bg, st, nc, wo, fa, en, ne) (nI l) := by
  have := hc.2.2.2
  unfold wpX_noteEnd wpX_countOfAll
  dsimp only
  rw [ie_cn_sum hcn]
  refine br_t (nI_le (by omega) (by omega)) (br_t (nI_lt (b := 4200) he (by decide)) (nm_r (pk_mul e 10) (nm_r (pk_mul l 15) ⟨11, ?_⟩)))
  exact ix_ncopy hrow (by omega) (by omega) (by omega) K 10 0 rfl 11 (by decide) en (fun _ _ => rfl) (fun k hk => absurd hk (Nat.not_lt_zero k))
theorem ix_open {post : SX → Prop} {l : Nat} (hl : l ≤ 10) (K : post (ex, sk, ec, o, a, b, cn, bg, st, upd nc l 0, upd wo l 0, fa, en, ne)) : wpX_openLevel post (ex, sk, ec, o, a, b, cn, bg, st, nc, wo, fa, en, ne) (nI l) := by
  have cl : (nI l).toNatClampNeg = l := nI_clamp (by omega)
  have v : vp_in (nI l) 11 := vp_in_nI (by omega) (by decide)
  unfold wpX_openLevel
  dsimp only
  rw [cl, ie_T0]
  exact ⟨v, nm_e ⟨v, nm_e K⟩⟩
theorem ix_forget_l {post : SX → Prop} (K : ∀ fa', (∀ t, t < 3 → fa' t = 0) → post (ex, sk, ec, o, a, b, cn, bg, st, nc, wo, fa', en, ne)) :
    ∀ d j : Nat, j + d = 3 → ∀ n : Nat, d < n → ∀ fa : Nat → Int32, (∀ k, k < j → fa k = 0) → wX_forgetFindings_12 post ex sk ec ne n (nI j) o a b cn bg st nc wo fa en := by
  intro d
  induction d with
  | zero =>
    intro j hj n hn fa h1
    obtain rfl : j = 3 := by omega
    cases n with
    | zero => omega
    | succ n => exact br_t (nI_le (a := 3) (Nat.le_refl 3) (by decide)) (K fa h1)
  | succ d ih =>
    intro j hj n hn fa h1
    cases n with
    | zero => omega
    | succ n =>
      have eq : upd fa (nI j).toNatClampNeg (vp_nar .boolean 0) = upd fa j 0 := by
        rw [nI_clamp (by omega), ie_T0]
      refine br_f (nI_ge (b := 3) (by omega) (by decide)) ⟨vp_in_nI (by omega) (by decide), nm_r eq (nm_r (nI_1 j) (ih (j + 1) (by omega) n (by omega) _ ?_))⟩
      intro k hk
      by_cases z : k = j
      · rw [z, pk_us]
      · rw [pk_un z]
        exact h1 k (by omega)
theorem ix_lay_b {post : SX → Prop} (K : ∀ st', (∀ k, k < 15 → st' k = if k < 4 then bg k else 0) → post (ex, sk, ec, o, a, b, cn, bg, st', upd nc 0 0, upd wo 0 0, fa, en, ne)) :
    ∀ d j : Nat, j + d = 4 → ∀ n : Nat, d < n → ∀ st : Nat → Int32, (∀ k, k < 15 → st k = if k < j then bg k else 0) → wX_layOutBeginning_23 post ex sk ec ne n (nI j) o a b cn bg st nc wo fa en := by
  intro d
  induction d with
  | zero =>
    intro j hj n hn st h1
    obtain rfl : j = 4 := by omega
    cases n with
    | zero => omega
    | succ n => exact br_t (nI_le (a := 4) (Nat.le_refl 4) (by decide)) (ix_open (l := 0) (by decide) (K st h1))
  | succ d ih =>
    intro j hj n hn st h1
    cases n with
    | zero => omega
    | succ n =>
      have eq : upd st (nI j).toNatClampNeg (bg (nI j).toNatClampNeg) = upd st j (bg j) := by
        rw [nI_clamp (by omega)]
      refine br_f (nI_ge (b := 4) (by omega) (by decide)) ⟨vp_in_nI (by omega) (by decide), vp_in_nI (by omega) (by decide), nm_r eq (nm_r (nI_1 j) (ih (j + 1) (by omega) n (by omega) _ ?_))⟩
      intro k hk
      by_cases z : k = j
      · rw [z, pk_us, if_pos (Nat.lt_succ_self j)]
      · rw [pk_un z, h1 k hk]
        by_cases y : k < j
        · rw [if_pos y, if_pos (by omega)]
        · rw [if_neg y, if_neg (by omega)]
theorem ix_lay_a {post : SX → Prop} (K : ∀ st', (∀ k, k < 15 → st' k = if k < 4 then bg k else 0) → post (ex, sk, ec, o, a, b, cn, bg, st', upd nc 0 0, upd wo 0 0, fa, en, ne)) :
    ∀ d j : Nat, j + d = 15 → ∀ n : Nat, d < n → ∀ st : Nat → Int32, (∀ k, k < j → st k = 0) → wX_layOutBeginning_2 post ex sk ec ne n (nI j) o a b cn bg st nc wo fa en := by
  intro d
  induction d with
  | zero =>
    intro j hj n hn st h1
    obtain rfl : j = 15 := by omega
    cases n with
    | zero => omega
    | succ n =>
      refine br_t (nI_le (a := 15) (Nat.le_refl 15) (by decide)) ⟨5, ?_⟩
      refine ix_lay_b K 4 0 rfl 5 (by decide) st (fun k hk => ?_)
      rw [if_neg (Nat.not_lt_zero k)]
      exact h1 k hk
  | succ d ih =>
    intro j hj n hn st h1
    cases n with
    | zero => omega
    | succ n =>
      have eq : upd st (nI j).toNatClampNeg 0 = upd st j 0 := by
        rw [nI_clamp (by omega)]
      refine br_f (nI_ge (b := 15) (by omega) (by decide)) ⟨vp_in_nI (by omega) (by decide), nm_r eq (nm_r (nI_1 j) (ih (j + 1) (by omega) n (by omega) _ ?_))⟩
      intro k hk
      by_cases z : k = j
      · rw [z, pk_us]
      · rw [pk_un z]
        exact h1 k (by omega)
end
end
section
/-! the component's search meets the interface -/
def ix_G (post : SX → Prop) (ex : Int32) (o a b cn bg : Nat → Int32) (ne : Nat) : Nat → Int32 → (Nat → Int32) → (Nat → Int32) → (Nat → Int32) → Int32 → (Nat → Int32) → (Nat → Int32) → Int32 → Prop :=
  fun step lev st nc wo sk fa en ec => ∀ f : Nat, 1000000 < f + step → wX_explore_20 post f lev (nI step) ex sk ec o a b cn bg st nc wo fa en ne
section
variable {post : SX → Prop} {ex sk ec : Int32} {o a b cn bg st nc wo fa en : Nat → Int32} {ne : Nat} {c : Nat → Nat}
theorem ix_step {step l t : Nat} {m : Nat → Int32} {p : Nat → Nat} (hcn : ie_cn c cn) (hc : ie_cb c) (hs : step < 1000000) (hl : l ≤ 10) (ht : t < 3) (hp : ie_ok c p) (hnc : nc l = nI t) (hrow : ie_row st (l * 15) m p)
    (hl2 : ie_can o a b c m p t = true → ¬ ie_fl o a b m p t = true → l < 10)
    (K0 : ¬ ie_can o a b c m p t = true → ix_G post ex o a b cn bg ne (step + 1) (nI l) st (upd nc l (nI (t + 1))) wo sk fa en ec)
    (K1 : ie_can o a b c m p t = true → ie_fl o a b m p t = true → ix_G post ex o a b cn bg ne (step + 1) (nI l) st (upd nc l (nI (t + 1))) (upd wo l 1) sk (upd fa t 1) en ec)
    (K2 : ie_can o a b c m p t = true → ¬ ie_fl o a b m p t = true → ∀ st', (∀ j, j < (l + 1) * 15 → st' j = st j) → ie_row st' ((l + 1) * 15) (ie_nx o a b m t (t * 5 + p t)) (ie_st p t) → ix_G post ex o a b cn bg ne (step + 1) (nI (l + 1)) st' (upd (upd nc l (nI (t + 1))) (l + 1) 0) (upd (upd wo l 1) (l + 1) 0) sk fa en ec) :
    ix_G post ex o a b cn bg ne step (nI l) st nc wo sk fa en ec := by
  intro f hf
  cases f with
  | zero => omega
  | succ f =>
    have cl : (nI l).toNatClampNeg = l := nI_clamp (by omega)
    have vl : vp_in (nI l) 11 := vp_in_nI (by omega) (by decide)
    have enc : nc (nI l).toNatClampNeg = nI t := by rw [cl, hnc]
    have eup : upd nc (nI l).toNatClampNeg (nc (nI l).toNatClampNeg + 1) = upd nc l (nI (t + 1)) := by rw [cl, hnc, nI_1]
    refine br_f (nI_ge (b := 1000000) hs (by decide)) (br_f (nI_pos (by omega)) ⟨vl, nm_r enc (br_f (nI_ge (b := 3) ht (by decide)) ⟨vl, vl, nm_r eup (ix_tt hcn hc hp hrow hl ht hl2 ?_ ?_ ?_)⟩)⟩)
    · intro hcan
      exact br_t rfl (nm_r (nI_1 step) (K0 hcan f (by omega)))
    · intro hcan hfl
      exact br_t rfl (nm_r (nI_1 step) (K1 hcan hfl f (by omega)))
    · intro hcan hfl st' g1 g2
      have := hl2 hcan hfl
      exact br_f (by decide) (nm_r (nI_1 l) (ix_open (by omega) (nm_r (nI_1 step) (K2 hcan hfl st' g1 g2 f (by omega)))))
theorem ix_XG (hcn : ie_cn c cn) (hc : ie_cb c) (hne : ne = 42000) : ie_XG o a b c (ix_G post ex o a b cn bg ne) := by
  refine ⟨?_, ?_, ?_, ?_, ?_, ?_⟩
  · intro step l t m p st nc wo sk fa en ec hs hl ht hp hnc hrow hcan K
    exact ix_step hcn hc hs hl ht hp hnc hrow (fun h => absurd h hcan) (fun _ => K) (fun h => absurd h hcan) (fun h => absurd h hcan)
  · intro step l t m p st nc wo sk fa en ec hs hl ht hp hnc hrow hcan hfl K
    exact ix_step hcn hc hs hl ht hp hnc hrow (fun _ h => absurd hfl h) (fun h => absurd hcan h) (fun _ _ => K) (fun _ h => absurd hfl h)
  · intro step l t m p st nc wo sk fa en ec hs hl ht hp hnc hrow hcan hfl K
    exact ix_step hcn hc hs (by omega) ht hp hnc hrow (fun _ _ => hl) (fun h => absurd hcan h) (fun _ h => absurd h hfl) (fun _ _ => K)
  · intro step l st nc wo sk fa en ec hs hl hnc hwo K f hf
    cases f with
    | zero => omega
    | succ f =>
      have cl : (nI l).toNatClampNeg = l := nI_clamp (by omega)
      have vl : vp_in (nI l) 11 := vp_in_nI (by omega) (by decide)
      have enc : nc (nI l).toNatClampNeg = nI 3 := by rw [cl, hnc]
      have ewo : ¬ wo (nI l).toNatClampNeg = 0 := by rw [cl, hwo]; decide
      exact br_f (nI_ge (b := 1000000) hs (by decide)) (br_f (nI_pos (by omega)) ⟨vl, nm_r enc (br_t (nI_le (a := 3) (Nat.le_refl 3) (by decide)) ⟨vl, br_f ewo (nm_e (nm_r (nI_1 step) (K f (by omega))))⟩)⟩)
  · intro step l st nc wo sk fa en ec hs hl hnc hwo hlc K f hf
    cases f with
    | zero => omega
    | succ f =>
      have cl : (nI l).toNatClampNeg = l := nI_clamp (by omega)
      have vl : vp_in (nI l) 11 := vp_in_nI (by omega) (by decide)
      have enc : nc (nI l).toNatClampNeg = nI 3 := by rw [cl, hnc]
      have ewo : wo (nI l).toNatClampNeg = 0 := by rw [cl, hwo]
      exact br_f (nI_ge (b := 1000000) hs (by decide)) (br_f (nI_pos (by omega)) ⟨vl, nm_r enc (br_t (nI_le (a := 3) (Nat.le_refl 3) (by decide)) ⟨vl, br_t ewo (ix_note_s hcn hc hlc (nm_e (nm_r (nI_1 step) (K f (by omega)))))⟩)⟩)
  · intro step l e m p st nc wo sk fa en hs hl hnc hwo hlc he hrow K f hf
    cases f with
    | zero => omega
    | succ f =>
      have cl : (nI l).toNatClampNeg = l := nI_clamp (by omega)
      have vl : vp_in (nI l) 11 := vp_in_nI (by omega) (by decide)
      have enc : nc (nI l).toNatClampNeg = nI 3 := by rw [cl, hnc]
      have ewo : wo (nI l).toNatClampNeg = 0 := by rw [cl, hwo]
      refine br_f (nI_ge (b := 1000000) hs (by decide)) (br_f (nI_pos (by omega)) ⟨vl, nm_r enc (br_t (nI_le (a := 3) (Nat.le_refl 3) (by decide)) ⟨vl, br_t ewo (ix_note_e hcn hc hlc he hne hrow ?_)⟩)⟩)
      exact fun en' g1 g2 => nm_e (nm_r (nI_1 step) (K en' g1 g2 f (by omega)))
theorem ie_len11 (hc : ie_cb c) (m : Nat → Int32) : (ie_lv o a b c 11 m ie_p0).length ≤ 4200 := by
  refine Nat.le_trans (ie_len o a b c hc 11 m ie_p0 ⟨Nat.zero_le _, Nat.zero_le _, Nat.zero_le _⟩) ?_
  obtain ⟨g0, g1, g2, g3⟩ := hc
  exact ie_Mt _ (show c 0 - 0 < 6 by omega) _ (show c 1 - 0 < 6 by omega) _ (show c 2 - 0 < 6 by omega) (show c 0 - 0 + (c 1 - 0) + (c 2 - 0) ≤ 10 by omega)
theorem ix_explore (hcn : ie_cn c cn) (hc : ie_cb c) (hne : ne = 42000)
    (K : ∀ (sk' ec' : Int32) (st' nc' wo' fa' en' : Nat → Int32), ie_XR (ie_lv o a b c 11 (ie_m0 bg) ie_p0) sk' fa' en' ec' → post (1, sk', ec', o, a, b, cn, bg, st', nc', wo', fa', en', ne)) :
    wpX_explore post (0, sk, ec, o, a, b, cn, bg, st, nc, wo, fa, en, ne) := by
  unfold wpX_explore
  dsimp only
  refine br_t rfl ?_
  unfold wpX_forgetFindings
  dsimp only
  refine ⟨4, ix_forget_l ?_ 3 0 rfl 4 (by decide) fa (fun k hk => absurd hk (Nat.not_lt_zero k))⟩
  intro fa1 hfa1
  show wpX_layOutBeginning _ _
  unfold wpX_layOutBeginning
  dsimp only
  refine ⟨16, ix_lay_a ?_ 15 0 rfl 16 (by decide) st (fun k hk => absurd hk (Nat.not_lt_zero k))⟩
  intro st1 hst1
  refine ⟨1000001, ?_⟩
  have hrow : ie_row st1 (0 * 15) (ie_m0 bg) ie_p0 := by
    refine ⟨fun j hj => ?_, fun t ht => ?_⟩
    · rw [Nat.zero_mul, Nat.zero_add, hst1 j (by omega)]
      rfl
    · rw [Nat.zero_mul, Nat.zero_add, hst1 (12 + t) (by omega), if_neg (by omega)]
      rfl
  have hT := ie_T11
  refine ie_Xtree o a b c (ix_XG (post := post) (ex := 0) (bg := bg) hcn hc hne) hc 11 0 (ie_m0 bg) ie_p0 [] 0 st1 (upd nc 0 0) (upd wo 0 0) 0 fa1 en 0 rfl rfl ⟨Nat.zero_le _, Nat.zero_le _, Nat.zero_le _⟩ pk_us pk_us hrow (ie_XR_0 hfa1) ?_ (by omega) ?_ 1000001 (by omega)
  · rw [List.length_nil, Nat.zero_add]
    exact ie_len11 hc _
  · intro step' st' nc' wo' sk' fa' en' ec' h1 h2 h3 h4 h5 f hf
    cases f with
    | zero => omega
    | succ f =>
      exact br_f (nI_ge (b := 1000000) (by omega) (by decide)) (br_t (by decide) (K sk' ec' st' nc' wo' fa' en' h5))
end
end
section
/-! the reference's small methods against the pure picture -/
theorem iy_thr {post : Int32 → Prop} {u : SY} {t : Nat} (ht : t < 3) (h : post 0) : wpY_badThread post u (nI t) := by
  obtain ⟨fg, ln, cm, sk, fs, fo, cn, o, a, b, bg, ap, rg, va, hd, tn, cd, lo, hi, lr⟩ := u
  exact br_f (nI_pos (by omega)) (br_t (nI_le (b := 2) (by omega) (by decide)) h)
theorem iy_lt_of {x : Int32} {n : Nat} (hn : n < 2 ^ 31 - 1) (h : nI (n + 1) ≤ x) : ¬ x ≤ nI n := by
  intro g
  have := Int32.le_trans h g
  rw [nI_leI (by omega) (by omega)] at this
  omega
theorem iy_thrN {post : Int32 → Prop} {u : SY} {x : Int32} (hx : x < 0 ∨ nI 3 ≤ x) (h : post 1) : wpY_badThread post u x := by
  obtain ⟨fg, ln, cm, sk, fs, fo, cn, o, a, b, bg, ap, rg, va, hd, tn, cd, lo, hi, lr⟩ := u
  exact br_c (fun _ => h) (fun g => br_f (iy_lt_of (n := 2) (by decide) (hx.resolve_left g)) h)
theorem iy_var {post : Int32 → Prop} {u : SY} {t : Nat} (ht : t < 4) (h : post 0) : wpY_badVariable post u (nI t) := by
  obtain ⟨fg, ln, cm, sk, fs, fo, cn, o, a, b, bg, ap, rg, va, hd, tn, cd, lo, hi, lr⟩ := u
  exact br_f (nI_pos (by omega)) (br_t (nI_le (b := 3) (by omega) (by decide)) h)
theorem iy_varN {post : Int32 → Prop} {u : SY} {x : Int32} (hx : x < 0 ∨ nI 4 ≤ x) (h : post 1) : wpY_badVariable post u x := by
  obtain ⟨fg, ln, cm, sk, fs, fo, cn, o, a, b, bg, ap, rg, va, hd, tn, cd, lo, hi, lr⟩ := u
  exact br_c (fun _ => h) (fun g => br_f (iy_lt_of (n := 3) (by decide) (hx.resolve_left g)) h)
theorem ie_upd_self (f : Nat → Int32) (k : Nat) : upd f k (f k) = f := by
  funext j
  by_cases e : j = k
  · rw [e, pk_us]
  · rw [pk_un e]
theorem ie_m1 : (-1 : Int32) < 0 := by decide
theorem ie_bi_br {z : Bool} {A B : Prop} (hA : z = false → A) (hB : z = true → B) : (ie_bi z = 0 → A) ∧ (¬ ie_bi z = 0 → B) := by
  cases z
  · exact br_t rfl (hA rfl)
  · exact br_f (by decide) (hB rfl)
section
variable {fg ln cm sk fs fo : Int32} {cn o a b bg ap rg va hd tn cd lo hi lr : Nat → Int32}
theorem iy_canGo {post : Int32 → Prop} {t : Nat} {m : Nat → Int32} {p c : Nat → Nat} (hcn : ie_cn c cn) (hc : ie_cb c) (hp : ie_ok c p) (hld : ie_ld m p ap rg va hd) (ht : t < 3) (K : post (ie_bi (ie_can o a b c m p t))) : wpY_canGo post (fg, ln, cm, sk, fs, fo, cn, o, a, b, bg, ap, rg, va, hd, tn, cd, lo, hi, lr) (nI t) := by
  obtain ⟨q1, q2⟩ := ie_lt_c c hc hp ht
  obtain ⟨l1, l2, l3, l4⟩ := hld
  have ct : (nI t).toNatClampNeg = t := nI_clamp (by omega)
  have vt : vp_in (nI t) 3 := vp_in_nI ht (by decide)
  have hcd : ie_can o a b c m p t = (decide (p t < c t) && ie_cd o a b m (t * 5 + p t)) := rfl
  have e2 : nI t * 5 + nI (p t) = nI (t * 5 + p t) := by
    show nI t * nI 5 + nI (p t) = _
    rw [pk_mul, nI_add]
  unfold wpY_canGo
  dsimp only
  rw [ct, l1 t ht, hcn t ht]
  refine ⟨vt, vt, ?_⟩
  by_cases hlt : p t < c t
  · have vi : vp_in (nI (t * 5 + p t)) 15 := vp_in_nI (by omega) (by decide)
    have ci : (nI (t * 5 + p t)).toNatClampNeg = t * 5 + p t := nI_clamp (by omega)
    have b1 := ie_b1_lt (a (t * 5 + p t))
    have b3 := ie_b3_lt (a (t * 5 + p t))
    have c1 : (nI (ie_b1 (a (t * 5 + p t)))).toNatClampNeg = ie_b1 (a (t * 5 + p t)) := nI_clamp (by omega)
    have c3 : (nI (ie_b3 (a (t * 5 + p t)))).toNatClampNeg = ie_b3 (a (t * 5 + p t)) := nI_clamp (by omega)
    refine br_t (nI_lt hlt (by omega)) ⟨vt, nm_r e2 ⟨vi, ?_⟩⟩
    rw [decide_eq_true hlt, Bool.true_and] at hcd
    rw [hcd] at K
    unfold ie_cd at K
    rw [ci, ie_b1_e, ie_b3_e, c1, c3, l3 _ b3]
    refine br_c (fun h4 => ⟨vi, vp_in_nI b1 (by decide), ?_⟩) (fun h4 => ⟨vi, br_c (fun h8 => ⟨vi, vp_in_nI b3 (by decide), vi, ?_⟩) (fun h8 => ?_)⟩)
    · rw [if_pos h4] at K
      rcases l4 _ b1 with ⟨u1, u2⟩ | ⟨s, hs, u1, u2⟩
      · rw [decide_eq_true u1] at K
        rw [u2]
        exact br_f (by decide) K
      · rw [u1, decide_eq_false (nI_ne0 (by omega) (by omega))] at K
        rw [u2]
        exact br_t (nI_pos' (by omega)) K
    · rw [if_neg h4, if_pos h8] at K
      refine br_c (fun z => ?_) (fun z => ?_)
      · rw [decide_eq_true z] at K; exact K
      · rw [decide_eq_false z] at K; exact K
    · rw [if_neg h4, if_neg h8] at K
      exact K
  · rw [decide_eq_false hlt, Bool.false_and] at hcd
    rw [hcd] at K
    exact br_f (nI_nlt (by omega) (by omega)) K
theorem iy_go {post : Int32 → SY → Prop} {t : Nat} {m : Nat → Int32} {p c : Nat → Nat} (hc : ie_cb c) (hp : ie_ok c p) (hld : ie_ld m p ap rg va hd) (ht : t < 3) (hlt : p t < c t)
    (K1 : ie_fl o a b m p t = true → ∀ ap' : Nat → Int32, post 1 (fg, ln, cm, sk, fs, fo, cn, o, a, b, bg, ap', rg, va, hd, tn, cd, lo, hi, lr))
    (K2 : ¬ ie_fl o a b m p t = true → ∀ ap' rg' va' hd' : Nat → Int32, ie_ld (ie_nx o a b m t (t * 5 + p t)) (ie_st p t) ap' rg' va' hd' → post 0 (fg, ln, cm, sk, fs, fo, cn, o, a, b, bg, ap', rg', va', hd', tn, cd, lo, hi, lr)) :
    wpY_go post (fg, ln, cm, sk, fs, fo, cn, o, a, b, bg, ap, rg, va, hd, tn, cd, lo, hi, lr) (nI t) := by
  obtain ⟨q1, q2⟩ := ie_lt_c c hc hp ht
  have hb : ie_ld m (ie_st p t) (upd ap t (nI (p t + 1))) rg va hd := ie_ld_at hld
  obtain ⟨l1, l2, l3, l4⟩ := hld
  have ct : (nI t).toNatClampNeg = t := nI_clamp (by omega)
  have vt : vp_in (nI t) 3 := vp_in_nI ht (by decide)
  have e2 : nI t * 5 + nI (p t) = nI (t * 5 + p t) := by
    show nI t * nI 5 + nI (p t) = _
    rw [pk_mul, nI_add]
  have hi' : t * 5 + p t < 15 := by omega
  have efl : ie_fl o a b m p t = (decide (o (t * 5 + p t) = 6) && !decide (m (4 + t * 2 + ie_b1 (a (t * 5 + p t))) = b (t * 5 + p t))) := rfl
  generalize t * 5 + p t = i at e2 hi' K2 efl
  have vi : vp_in (nI i) 15 := vp_in_nI hi' (by decide)
  have ci : (nI i).toNatClampNeg = i := nI_clamp (by omega)
  have b1 := ie_b1_lt (a i)
  have b3 := ie_b3_lt (b i)
  have e4 : nI t * 2 + nI (ie_b1 (a i)) = nI (t * 2 + ie_b1 (a i)) := by
    show nI t * nI 2 + nI _ = _
    rw [pk_mul, nI_add]
  have cr : (nI (t * 2 + ie_b1 (a i))).toNatClampNeg = t * 2 + ie_b1 (a i) := nI_clamp (by omega)
  have c1 : (nI (ie_b1 (a i))).toNatClampNeg = ie_b1 (a i) := nI_clamp (by omega)
  have c3 : (nI (ie_b3 (b i))).toNatClampNeg = ie_b3 (b i) := nI_clamp (by omega)
  have vr : vp_in (nI (t * 2 + ie_b1 (a i))) 6 := vp_in_nI (by omega) (by decide)
  have v1 : vp_in (nI (ie_b1 (a i))) 2 := vp_in_nI b1 (by decide)
  have v3 : vp_in (nI (ie_b3 (b i))) 4 := vp_in_nI b3 (by decide)
  have kr : t * 2 + ie_b1 (a i) < 6 := by omega
  have as : 4 + t * 2 + ie_b1 (a i) = 4 + (t * 2 + ie_b1 (a i)) := Nat.add_assoc _ _ _
  unfold wpY_go
  dsimp only
  rw [ct, l1 t ht, e2]
  refine ⟨vt, nm_e ⟨vi, ?_⟩⟩
  rw [ci, ie_b1_e, ie_b3_e, e4, nI_1]
  refine nm_e ⟨vi, nm_e ⟨vi, nm_e ⟨vi, nm_e ⟨vt, vt, nm_e ?_⟩⟩⟩⟩
  rw [cr, c1, c3, l2 _ kr, l3 _ b3]
  have nf : ¬ o i = 6 → ¬ ie_fl o a b m p t = true := fun h => by rw [efl, decide_eq_false h, Bool.false_and]; decide
  by_cases h0 : o i = 0
  · have h6 : ¬ o i = 6 := by rw [h0]; decide
    refine br_t h0 ⟨v3, vr, nm_e (br_f h6 (K2 (nf h6) _ _ _ _ ?_))⟩
    rw [ie_nx0 h0, as]
    exact ie_ld_rg _ hb kr
  by_cases h1 : o i = 1
  · have h6 : ¬ o i = 6 := by rw [h1]; decide
    refine br_f h0 (br_t h1 ⟨vr, v3, nm_e (br_f h6 (K2 (nf h6) _ _ _ _ ?_))⟩)
    rw [ie_nx1 h1, as]
    exact ie_ld_va _ hb b3
  by_cases h2 : o i = 2
  · have h6 : ¬ o i = 6 := by rw [h2]; decide
    refine br_f h0 (br_f h1 (br_t h2 ⟨vr, vi, vr, nm_e (br_f h6 (K2 (nf h6) _ _ _ _ ?_))⟩))
    rw [ie_nx2 h2, as]
    exact ie_ld_rg _ hb kr
  by_cases h3 : o i = 3
  · have h6 : ¬ o i = 6 := by rw [h3]; decide
    refine br_f h0 (br_f h1 (br_f h2 (br_t h3 ⟨vi, v3, nm_e (br_f h6 (K2 (nf h6) _ _ _ _ ?_))⟩)))
    rw [ie_nx3 h3]
    exact ie_ld_va _ hb b3
  by_cases h4 : o i = 4
  · have h6 : ¬ o i = 6 := by rw [h4]; decide
    refine br_f h0 (br_f h1 (br_f h2 (br_f h3 (br_t h4 ⟨v1, nm_e (br_f h6 (K2 (nf h6) _ _ _ _ ?_))⟩))))
    rw [ie_nx4 h4]
    exact ie_ld_hd hb b1 (Or.inr ⟨t, ht, rfl, rfl⟩)
  by_cases h5 : o i = 5
  · have h6 : ¬ o i = 6 := by rw [h5]; decide
    refine br_f h0 (br_f h1 (br_f h2 (br_f h3 (br_f h4 (br_t h5 ⟨v1, br_c (fun z => ⟨v1, nm_r (by rw [c1]) (br_f h6 (K2 (nf h6) _ _ _ _ ?_))⟩) (fun z => ⟨v1, v1, nm_r (by rw [c1, ie_upd_self]) (br_f h6 (K2 (nf h6) _ _ _ _ ?_))⟩)⟩)))))
    · have g : m (10 + ie_b1 (a i)) = nI (t + 1) := by
        rcases l4 _ b1 with ⟨u1, u2⟩ | ⟨s, hs, u1, u2⟩
        · rw [u2] at z
          exact absurd z.symm (fun w => nI_pos (n := t) (by omega) (by rw [w]; exact ie_m1))
        · rw [u2, nI_eq (by omega) (by omega)] at z
          rw [u1, z]
      rw [ie_nx5 h5 g]
      exact ie_ld_hd hb b1 (Or.inl ⟨rfl, rfl⟩)
    · have g : ¬ m (10 + ie_b1 (a i)) = nI (t + 1) := by
        intro g
        rcases l4 _ b1 with ⟨u1, u2⟩ | ⟨s, hs, u1, u2⟩
        · rw [u1] at g
          exact nI_ne0 (n := t + 1) (by omega) (by omega) g.symm
        · rw [u1, nI_eq (by omega) (by omega)] at g
          exact z (by rw [u2, show s = t by omega])
      rw [ie_nx5n h5 g]
      exact hb
  by_cases h7 : o i = 7
  · have h6 : ¬ o i = 6 := by rw [h7]; decide
    refine br_f h0 (br_f h1 (br_f h2 (br_f h3 (br_f h4 (br_f h5 (br_t h7 ⟨vr, nm_e ⟨v3, vr, nm_e ⟨v3, nm_e (br_f h6 (K2 (nf h6) _ _ _ _ ?_))⟩⟩⟩))))))
    rw [ie_nx7 h7, as]
    exact ie_ld_va _ (ie_ld_rg _ hb kr) b3
  have hx := ie_nxd (a := a) (b := b) (m := m) (t := t) h0 h1 h2 h3 h4 h5 h7
  rw [hx] at K2
  refine br_f h0 (br_f h1 (br_f h2 (br_f h3 (br_f h4 (br_f h5 (br_f h7 ?_))))))
  by_cases h6 : o i = 6
  · refine br_t h6 ⟨vr, vi, ?_⟩
    rw [cr, ci, l2 _ kr, ← as]
    rw [decide_eq_true h6, Bool.true_and] at efl
    refine br_c (fun z => ?_) (fun z => ?_)
    · rw [decide_eq_true z] at efl
      exact K2 (by rw [efl]; decide) _ _ _ _ hb
    · rw [decide_eq_false z] at efl
      exact K1 efl _
  · exact br_f h6 (K2 (nf h6) _ _ _ _ hb)
end
end
section
/-! the reference notes an end; it starts a run -/
section
variable {fg ln cm sk fs fo : Int32} {cn o a b bg ap rg va hd tn cd lo hi lr : Nat → Int32}
theorem iy_87 {post : SY → Prop} {J : Int32 → (Nat → Int32) → (Nat → Int32) → (Nat → Int32) → (Nat → Int32) → (Nat → Int32) → (Nat → Int32) → (Nat → Int32) → (Nat → Int32) → (Nat → Int32) → (Nat → Int32) → (Nat → Int32) → (Nat → Int32) → (Nat → Int32) → (Nat → Int32) → Prop} {x1 x2 x3 x4 : Int32} {j : Nat} (hj : j < 4)
    (K : J (nI (j + 1)) cn o a b bg ap rg va hd tn cd lo (upd hi j (va j)) lr) :
    wY_note_87 post J x1 x2 x3 x4 (nI j) (nI j) fg ln cm sk fs fo cn o a b bg ap rg va hd tn cd lo hi lr := by
  have cj : (nI j).toNatClampNeg = j := nI_clamp (by omega)
  have vj : vp_in (nI j) 4 := vp_in_nI hj (by decide)
  unfold wY_note_87
  rw [cj]
  exact ⟨vj, vj, nm_e (nm_r (nI_1 j) K)⟩
theorem iy_56 {post : SY → Prop} {J : Int32 → (Nat → Int32) → (Nat → Int32) → (Nat → Int32) → (Nat → Int32) → (Nat → Int32) → (Nat → Int32) → (Nat → Int32) → (Nat → Int32) → (Nat → Int32) → (Nat → Int32) → (Nat → Int32) → (Nat → Int32) → (Nat → Int32) → (Nat → Int32) → Prop} {x1 x2 x3 x4 z : Int32} {j : Nat} (hj : j < 4)
    (K : J (nI (j + 1)) cn o a b bg ap rg va hd tn cd (upd lo j z) (upd hi j (ie_h1 cm (va j) (hi j))) lr) :
    wY_note_56 post J x1 x2 x3 x4 (nI j) z (nI j) fg ln cm sk fs fo cn o a b bg ap rg va hd tn cd lo hi lr := by
  have cj : (nI j).toNatClampNeg = j := nI_clamp (by omega)
  have vj : vp_in (nI j) 4 := vp_in_nI hj (by decide)
  unfold ie_h1 at K
  unfold wY_note_56
  rw [cj]
  refine ⟨vj, nm_e (br_c (fun h0 => ?_) (fun h0 => ⟨vj, vj, br_c (fun z => ⟨vj, vj, nm_e (nm_r (nI_1 j) ?_)⟩) (fun z => ?_)⟩))⟩
  · rw [if_pos (Or.inl h0)] at K
    exact iy_87 hj K
  · rw [if_neg (fun r => r.elim h0 (Int32.not_lt.mpr z))] at K
    exact K
  · rw [if_pos (Or.inr (Int32.not_le.mp z))] at K
    exact iy_87 hj K
theorem iy_3 {post : SY → Prop} {x1 x2 x3 x4 : Int32} {lo0 hi0 : Nat → Int32}
    (K : ∀ lo' hi', (∀ i, i < 4 → lo' i = ie_l1 cm (va i) (lo0 i)) → (∀ i, i < 4 → hi' i = ie_h1 cm (va i) (hi0 i)) → ∃ n, wY_note_114 post x1 x2 x3 x4 fg ln cm sk fs fo n 0 cn o a b bg ap rg va hd tn cd lo' hi' lr) :
    ∀ d j : Nat, j + d = 4 → ∀ n : Nat, d < n → ∀ lo hi : Nat → Int32, (∀ i, i < 4 → lo i = if i < j then ie_l1 cm (va i) (lo0 i) else lo0 i) → (∀ i, i < 4 → hi i = if i < j then ie_h1 cm (va i) (hi0 i) else hi0 i) →
      wY_note_3 post x1 x2 x3 x4 fg ln cm sk fs fo n (nI j) cn o a b bg ap rg va hd tn cd lo hi lr := by
  intro d
  induction d with
  | zero =>
    intro j hj n hn lo hi h1 h2
    obtain rfl : j = 4 := by omega
    cases n with
    | zero => omega
    | succ n => exact br_t (nI_le (a := 4) (Nat.le_refl 4) (by decide)) (K lo hi (fun i hi4 => (h1 i hi4).trans (if_pos hi4)) (fun i hi4 => (h2 i hi4).trans (if_pos hi4)))
  | succ d ih =>
    intro j hj n hn lo hi h1 h2
    cases n with
    | zero => omega
    | succ n =>
      have cj : (nI j).toNatClampNeg = j := nI_clamp (by omega)
      have vj : vp_in (nI j) 4 := vp_in_nI (by omega) (by decide)
      have el : lo j = lo0 j := (h1 j (by omega)).trans (if_neg (Nat.lt_irrefl j))
      have eh : hi j = hi0 j := (h2 j (by omega)).trans (if_neg (Nat.lt_irrefl j))
      have R := ih (j + 1) (by omega) n (by omega) (upd lo j (ie_l1 cm (va j) (lo j))) (upd hi j (ie_h1 cm (va j) (hi j))) (fun i hi4 => by
          by_cases z : i = j
          · rw [z, pk_us, if_pos (Nat.lt_succ_self j), el]
          · rw [pk_un z, h1 i hi4]
            by_cases y : i < j
            · rw [if_pos y, if_pos (by omega)]
            · rw [if_neg y, if_neg (by omega)]) (fun i hi4 => by
          by_cases z : i = j
          · rw [z, pk_us, if_pos (Nat.lt_succ_self j), eh]
          · rw [pk_un z, h2 i hi4]
            by_cases y : i < j
            · rw [if_pos y, if_pos (by omega)]
            · rw [if_neg y, if_neg (by omega)])
      have e1 : va (nI j).toNatClampNeg = va j := by rw [cj]
      have e2 : lo (nI j).toNatClampNeg = lo j := by rw [cj]
      unfold ie_l1 at R
      refine br_f (nI_ge (b := 4) (by omega) (by decide)) (br_c (fun h0 => ⟨vj, ?_⟩) (fun h0 => ⟨vj, vj, br_c (fun z => ⟨vj, ?_⟩) (fun z => ⟨vj, ?_⟩)⟩))
      · rw [if_pos (Or.inl h0)] at R
        rw [e1]
        exact iy_56 (by omega) R
      · rw [e1, e2] at z
        rw [if_neg (fun r => r.elim h0 (Int32.not_lt.mpr z))] at R
        rw [e2]
        exact iy_56 (by omega) R
      · rw [e1, e2] at z
        rw [if_pos (Or.inr (Int32.not_le.mp z))] at R
        rw [e1]
        exact iy_56 (by omega) R
theorem iy_151 {post : SY → Prop} {J : Int32 → (Nat → Int32) → (Nat → Int32) → (Nat → Int32) → (Nat → Int32) → (Nat → Int32) → (Nat → Int32) → (Nat → Int32) → (Nat → Int32) → (Nat → Int32) → (Nat → Int32) → (Nat → Int32) → (Nat → Int32) → (Nat → Int32) → (Nat → Int32) → Prop} {x1 x2 x3 x4 : Int32} {j : Nat} (hj : j < 6)
    (K : J (nI (j + 1)) cn o a b bg ap rg va hd tn cd lo hi (upd lr j (rg j))) :
    wY_note_151 post J x1 x2 x3 x4 (nI j) (nI j) fg ln cm sk fs fo cn o a b bg ap rg va hd tn cd lo hi lr := by
  have cj : (nI j).toNatClampNeg = j := nI_clamp (by omega)
  have vj : vp_in (nI j) 6 := vp_in_nI hj (by decide)
  unfold wY_note_151
  rw [cj]
  exact ⟨vj, vj, nm_e (nm_r (nI_1 j) K)⟩
theorem iy_114 {post : SY → Prop} {v w : Nat} {x y : Int32} {lr0 : Nat → Int32} (hv : v < 4) (hw : w < 4)
    (K : ∀ lr', (∀ i, i < 6 → lr' i = ie_l1 cm (rg i) (lr0 i)) → post (fg, ln, 1, sk, fs, if va v = x ∧ va w = y then 1 else fo, cn, o, a, b, bg, ap, rg, va, hd, tn, cd, lo, hi, lr')) :
    ∀ d j : Nat, j + d = 6 → ∀ n : Nat, d < n → ∀ lr : Nat → Int32, (∀ i, i < 6 → lr i = if i < j then ie_l1 cm (rg i) (lr0 i) else lr0 i) →
      wY_note_114 post (nI v) x (nI w) y fg ln cm sk fs fo n (nI j) cn o a b bg ap rg va hd tn cd lo hi lr := by
  intro d
  induction d with
  | zero =>
    intro j hj n hn lr h1
    obtain rfl : j = 6 := by omega
    cases n with
    | zero => omega
    | succ n =>
      have cv : (nI v).toNatClampNeg = v := nI_clamp (by omega)
      have cw : (nI w).toNatClampNeg = w := nI_clamp (by omega)
      have e1 : va (nI v).toNatClampNeg = va v := by rw [cv]
      have e2 : va (nI w).toNatClampNeg = va w := by rw [cw]
      have R := K lr (fun i hi6 => (h1 i hi6).trans (if_pos hi6))
      refine br_t (nI_le (a := 6) (Nat.le_refl 6) (by decide)) ⟨vp_in_nI hv (by decide), br_c (fun z1 => ⟨vp_in_nI hw (by decide), br_c (fun z2 => ?_) (fun z2 => ?_)⟩) (fun z1 => ?_)⟩
      · rw [e1] at z1
        rw [e2] at z2
        rw [if_pos ⟨z1, z2⟩] at R
        exact R
      · rw [e2] at z2
        rw [if_neg (fun r => z2 r.2)] at R
        exact R
      · rw [e1] at z1
        rw [if_neg (fun r => z1 r.1)] at R
        exact R
  | succ d ih =>
    intro j hj n hn lr h1
    cases n with
    | zero => omega
    | succ n =>
      have cj : (nI j).toNatClampNeg = j := nI_clamp (by omega)
      have vj : vp_in (nI j) 6 := vp_in_nI (by omega) (by decide)
      have el : lr j = lr0 j := (h1 j (by omega)).trans (if_neg (Nat.lt_irrefl j))
      have R := ih (j + 1) (by omega) n (by omega) (upd lr j (ie_l1 cm (rg j) (lr j))) (fun i hi4 => by
          by_cases z : i = j
          · rw [z, pk_us, if_pos (Nat.lt_succ_self j), el]
          · rw [pk_un z, h1 i hi4]
            by_cases y : i < j
            · rw [if_pos y, if_pos (by omega)]
            · rw [if_neg y, if_neg (by omega)])
      have e1 : rg (nI j).toNatClampNeg = rg j := by rw [cj]
      have e2 : lr (nI j).toNatClampNeg = lr j := by rw [cj]
      unfold ie_l1 at R
      refine br_f (nI_ge (b := 6) (by omega) (by decide)) (br_c (fun h0 => ?_) (fun h0 => ⟨vj, vj, br_c (fun z => ⟨vj, vj, nm_r (by rw [cj]) (nm_r (nI_1 j) ?_)⟩) (fun z => ?_)⟩))
      · rw [if_pos (Or.inl h0)] at R
        exact iy_151 (by omega) R
      · rw [e1, e2] at z
        rw [if_neg (fun r => r.elim h0 (Int32.not_lt.mpr z))] at R
        exact R
      · rw [e1, e2] at z
        rw [if_pos (Or.inr (Int32.not_le.mp z))] at R
        exact iy_151 (by omega) R
theorem iy_note {post : SY → Prop} {v w : Nat} {x y : Int32} {L : List (Nat × (Nat → Int32))} {m : Nat → Int32} {p : Nat → Nat} (hv : v < 4) (hw : w < 4) (hld : ie_ld m p ap rg va hd) (hYR : ie_YR v w x y L cm sk fs fo lo hi lr)
    (K : ∀ fo' lo' hi' lr', ie_YR v w x y (L ++ [(0, m)]) 1 sk fs fo' lo' hi' lr' → post (fg, ln, 1, sk, fs, fo', cn, o, a, b, bg, ap, rg, va, hd, tn, cd, lo', hi', lr')) :
    wpY_note post (fg, ln, cm, sk, fs, fo, cn, o, a, b, bg, ap, rg, va, hd, tn, cd, lo, hi, lr) (nI v) x (nI w) y := by
  obtain ⟨l1, l2, l3, l4⟩ := hld
  unfold wpY_note
  dsimp only
  refine ⟨5, iy_3 (lo0 := lo) (hi0 := hi) (fun lo' hi' g1 g2 => ⟨7, iy_114 (lr0 := lr) hv hw (fun lr' g3 => ?_) 6 0 rfl 7 (by decide) lr (fun i _ => (if_neg (Nat.not_lt_zero i)).symm)⟩) 4 0 rfl 5 (by decide) lo hi (fun i _ => (if_neg (Nat.not_lt_zero i)).symm) (fun i _ => (if_neg (Nat.not_lt_zero i)).symm)⟩
  rw [l3 v hv, l3 w hw]
  refine K _ lo' hi' lr' (ie_YR_en hYR (fun i hi4 => ?_) (fun i hi4 => ?_) (fun i hi6 => ?_))
  · rw [g1 i hi4, l3 i hi4]
  · rw [g2 i hi4, l3 i hi4]
  · rw [g3 i hi6, l2 i hi6]
theorem iy_s43 {post : SY → Prop} (K : ∀ va', (∀ i, i < 4 → va' i = bg i) → post (fg, ln, cm, sk, fs, fo, cn, o, a, b, bg, ap, rg, va', upd (upd hd 0 (-1)) 1 (-1), tn, cd, lo, hi, lr)) :
    ∀ d j : Nat, j + d = 4 → ∀ n : Nat, d < n → ∀ va : Nat → Int32, (∀ i, i < j → va i = bg i) → wY_startRun_43 post fg ln cm sk fs fo n (nI j) cn o a b bg ap rg va hd tn cd lo hi lr := by
  intro d
  induction d with
  | zero =>
    intro j hj n hn va h1
    obtain rfl : j = 4 := by omega
    cases n with
    | zero => omega
    | succ n => exact br_t (nI_le (a := 4) (Nat.le_refl 4) (by decide)) (nm_e (nm_e (K va h1)))
  | succ d ih =>
    intro j hj n hn va h1
    cases n with
    | zero => omega
    | succ n =>
      have cj : (nI j).toNatClampNeg = j := nI_clamp (by omega)
      have vj : vp_in (nI j) 4 := vp_in_nI (by omega) (by decide)
      have e : upd va (nI j).toNatClampNeg (bg (nI j).toNatClampNeg) = upd va j (bg j) := by rw [cj]
      refine br_f (nI_ge (b := 4) (by omega) (by decide)) ⟨vj, vj, nm_r e (nm_r (nI_1 j) (ih (j + 1) (by omega) n (by omega) _ ?_))⟩
      intro i hi4
      by_cases z : i = j
      · rw [z, pk_us]
      · rw [pk_un z]
        exact h1 i (by omega)
theorem iy_s22 {post : SY → Prop} (K : ∀ rg', (∀ i, i < 6 → rg' i = 0) → ∃ n, wY_startRun_43 post fg ln cm sk fs fo n 0 cn o a b bg ap rg' va hd tn cd lo hi lr) :
    ∀ d j : Nat, j + d = 6 → ∀ n : Nat, d < n → ∀ rg : Nat → Int32, (∀ i, i < j → rg i = 0) → wY_startRun_22 post fg ln cm sk fs fo n (nI j) cn o a b bg ap rg va hd tn cd lo hi lr := by
  intro d
  induction d with
  | zero =>
    intro j hj n hn rg h1
    obtain rfl : j = 6 := by omega
    cases n with
    | zero => omega
    | succ n => exact br_t (nI_le (a := 6) (Nat.le_refl 6) (by decide)) (K rg h1)
  | succ d ih =>
    intro j hj n hn rg h1
    cases n with
    | zero => omega
    | succ n =>
      have cj : (nI j).toNatClampNeg = j := nI_clamp (by omega)
      have vj : vp_in (nI j) 6 := vp_in_nI (by omega) (by decide)
      have e : upd rg (nI j).toNatClampNeg 0 = upd rg j 0 := by rw [cj]
      refine br_f (nI_ge (b := 6) (by omega) (by decide)) ⟨vj, nm_r e (nm_r (nI_1 j) (ih (j + 1) (by omega) n (by omega) _ ?_))⟩
      intro i hi4
      by_cases z : i = j
      · rw [z, pk_us]
      · rw [pk_un z]
        exact h1 i (by omega)
theorem iy_s2 {post : SY → Prop} (K : ∀ ap', (∀ i, i < 3 → ap' i = 0) → ∃ n, wY_startRun_22 post fg ln cm sk fs fo n 0 cn o a b bg ap' rg va hd tn cd lo hi lr) :
    ∀ d j : Nat, j + d = 3 → ∀ n : Nat, d < n → ∀ ap : Nat → Int32, (∀ i, i < j → ap i = 0) → wY_startRun_2 post fg ln cm sk fs fo n (nI j) cn o a b bg ap rg va hd tn cd lo hi lr := by
  intro d
  induction d with
  | zero =>
    intro j hj n hn ap h1
    obtain rfl : j = 3 := by omega
    cases n with
    | zero => omega
    | succ n => exact br_t (nI_le (a := 3) (Nat.le_refl 3) (by decide)) (K ap h1)
  | succ d ih =>
    intro j hj n hn ap h1
    cases n with
    | zero => omega
    | succ n =>
      have cj : (nI j).toNatClampNeg = j := nI_clamp (by omega)
      have vj : vp_in (nI j) 3 := vp_in_nI (by omega) (by decide)
      have e : upd ap (nI j).toNatClampNeg 0 = upd ap j 0 := by rw [cj]
      refine br_f (nI_ge (b := 3) (by omega) (by decide)) ⟨vj, nm_r e (nm_r (nI_1 j) (ih (j + 1) (by omega) n (by omega) _ ?_))⟩
      intro i hi4
      by_cases z : i = j
      · rw [z, pk_us]
      · rw [pk_un z]
        exact h1 i (by omega)
theorem iy_start {post : SY → Prop} (K : ∀ ap' rg' va' hd', ie_ld (ie_m0 bg) ie_p0 ap' rg' va' hd' → post (fg, ln, cm, sk, fs, fo, cn, o, a, b, bg, ap', rg', va', hd', tn, cd, lo, hi, lr)) :
    wpY_startRun post (fg, ln, cm, sk, fs, fo, cn, o, a, b, bg, ap, rg, va, hd, tn, cd, lo, hi, lr) := by
  unfold wpY_startRun
  dsimp only
  refine ⟨4, iy_s2 (fun ap' g1 => ⟨7, iy_s22 (fun rg' g2 => ⟨5, iy_s43 (fun va' g3 => K ap' rg' va' _ ⟨g1, fun i hi6 => ?_, fun i hi4 => ?_, fun i hi2 => ?_⟩) 4 0 rfl 5 (by decide) va (fun i hi0 => absurd hi0 (Nat.not_lt_zero i))⟩) 6 0 rfl 7 (by decide) rg (fun i hi0 => absurd hi0 (Nat.not_lt_zero i))⟩) 3 0 rfl 4 (by decide) ap (fun i hi0 => absurd hi0 (Nat.not_lt_zero i))⟩
  · rw [g2 i hi6]
    exact (if_neg (show ¬ 4 + i < 4 by omega)).symm
  · rw [g3 i hi4]
    exact (if_pos hi4).symm
  · refine Or.inl ⟨if_neg (by omega), ?_⟩
    by_cases z : i = 1
    · rw [z, pk_us]
    · rw [pk_un z, show i = 0 by omega, pk_us]
end
end
section
/-! the reference's run and next order against the pure picture -/
abbrev iy_V : Type := Int32 × Int32 × Int32 × Int32 × Int32 × Int32 × (Nat → Int32) × (Nat → Int32) × (Nat → Int32) × (Nat → Int32) × (Nat → Int32) × (Nat → Int32) × (Nat → Int32) × (Nat → Int32) × (Nat → Int32)
def iy_tn : iy_V → Nat → Int32
  | (_, _, _, _, _, _, _, _, _, _, tn, _, _, _, _) => tn
def iy_cd : iy_V → Nat → Int32
  | (_, _, _, _, _, _, _, _, _, _, _, cd, _, _, _) => cd
def iy_LD (m : Nat → Int32) (p : Nat → Nat) : iy_V → Prop
  | (_, _, _, _, _, _, ap, rg, va, hd, _, _, _, _, _) => ie_ld m p ap rg va hd
def iy_YR (v w : Nat) (x y : Int32) (L : List (Nat × (Nat → Int32))) : iy_V → Prop
  | (_, _, cm, sk, fs, fo, _, _, _, _, _, _, lo, hi, lr) => ie_YR v w x y L cm sk fs fo lo hi lr
section
variable (post : SY → Prop) (v w : Nat) (x y : Int32) (cn o a b bg : Nat → Int32)
def iy_GQ (f k : Nat) (Q : Int32 → SY → Prop) : Prop :=
  (∀ (fg ln cm sk fs fo : Int32) (ap rg va hd tn cd lo hi lr m : Nat → Int32) (p : Nat → Nat) (L : List (Nat × (Nat → Int32))), ie_ld m p ap rg va hd → ie_YR v w x y L cm sk fs fo lo hi lr →
    (∀ fo' lo' hi' lr', ie_YR v w x y (L ++ [(0, m)]) 1 sk fs fo' lo' hi' lr' → wY_explore_97 post (wY_explore_29 post (nI v) x (nI w) y f) (nI v) x (nI w) y (nI k) fg ln 1 sk fs fo' cn o a b bg ap rg va hd tn cd lo' hi' lr') →
    Q 1 (fg, ln, cm, sk, fs, fo, cn, o, a, b, bg, ap, rg, va, hd, tn, cd, lo, hi, lr)) ∧
  (∀ (fg ln cm sk fs fo : Int32) (ap rg va hd tn cd lo hi lr : Nat → Int32), wY_explore_97 post (wY_explore_29 post (nI v) x (nI w) y f) (nI v) x (nI w) y (nI k) fg ln cm 1 fs fo cn o a b bg ap rg va hd tn cd lo hi lr →
    Q 2 (fg, ln, cm, sk, fs, fo, cn, o, a, b, bg, ap, rg, va, hd, tn, cd, lo, hi, lr)) ∧
  (∀ (fg ln cm sk fs fo : Int32) (ap rg va hd tn cd lo hi lr : Nat → Int32), wY_explore_97 post (wY_explore_29 post (nI v) x (nI w) y f) (nI v) x (nI w) y (nI k) fg ln cm sk (fs ||| ((1 : Int32) <<< (fg &&& 31))) fo cn o a b bg ap rg va hd tn cd lo hi lr →
    Q 3 (fg, ln, cm, sk, fs, fo, cn, o, a, b, bg, ap, rg, va, hd, tn, cd, lo, hi, lr))
def iy_GR (f K : Nat) (R : Int32 → SY → Prop) : Prop :=
  (∀ (fg ln cm sk fs fo : Int32) (ap rg va hd tn cd lo hi lr : Nat → Int32), wY_explore_29 post (nI v) x (nI w) y f 0 0 (nI K) fg ln cm sk fs fo cn o a b bg ap rg va hd tn cd lo hi lr →
    R 0 (fg, ln, cm, sk, fs, fo, cn, o, a, b, bg, ap, rg, va, hd, tn, cd, lo, hi, lr)) ∧
  (∀ (g : Nat) (fg ln cm sk fs fo : Int32) (ap rg va hd tn cd lo hi lr : Nat → Int32), 0 < g → g ≤ 11 → wY_explore_29 post (nI v) x (nI w) y f (nI g) 1 (nI K) fg ln cm sk fs fo cn o a b bg ap rg va hd tn cd lo hi lr →
    R (nI g) (fg, ln, cm, sk, fs, fo, cn, o, a, b, bg, ap, rg, va, hd, tn, cd, lo, hi, lr))
def iy_Mid (k l : Nat) : iy_V → Prop
  | (fg, ln, cm, sk, fs, fo, ap, rg, va, hd, tn, cd, lo, hi, lr) => ∀ (f : Nat) (Q : Int32 → SY → Prop), 4200 < f + (k + 1) → iy_GQ post v w x y cn o a b bg f k Q → ∀ f2 : Nat, 11 < f2 + l → ∀ gv : Nat, gv ≤ l → wY_makeRun_8 Q (nI gv) f2 0 (nI l) fg ln cm sk fs fo cn o a b bg ap rg va hd tn cd lo hi lr
def iy_C (k l _t : Nat) : iy_V → Prop
  | (fg, ln, cm, sk, fs, fo, ap, rg, va, hd, tn, cd, lo, hi, lr) => ∀ (f : Nat) (Q : Int32 → SY → Prop), 4200 < f + (k + 1) → iy_GQ post v w x y cn o a b bg f k Q → ∀ f2 : Nat, 11 < f2 + (l + 1) → ∀ gv : Nat, gv ≤ l + 1 → wY_makeRun_181 Q (wY_makeRun_8 Q (nI gv) f2) (nI gv) 0 (nI l) fg ln cm sk fs fo cn o a b bg ap rg va hd tn cd lo hi lr
def iy_Nx (K l : Nat) : iy_V → Prop
  | (fg, ln, cm, sk, fs, fo, ap, rg, va, hd, tn, cd, lo, hi, lr) => ∀ (f : Nat) (R : Int32 → SY → Prop), 4200 < f + K → iy_GR post v w x y cn o a b bg f K R → ∀ f2 : Nat, l < f2 → wY_nextOrder_7 R fg ln cm sk fs fo cn o a b bg ap rg va hd tn cd lo hi lr f2 (nI l + (-1))
def iy_In (K l s : Nat) : iy_V → Prop
  | (fg, ln, cm, sk, fs, fo, ap, rg, va, hd, tn, cd, lo, hi, lr) => ∀ (f : Nat) (R : Int32 → SY → Prop), 4200 < f + K → iy_GR post v w x y cn o a b bg f K R → ∀ f2 : Nat, l < f2 → ∀ f3 : Nat, 3 < f3 + s → wY_nextOrder_20 R (wY_nextOrder_7 R fg ln cm sk fs fo cn o a b bg ap rg va hd tn cd lo hi lr f2) (nI l) fg ln cm sk fs fo cn o a b bg ap rg va hd tn cd lo hi lr f3 (nI s)
end
section
variable {post : SY → Prop} {v w : Nat} {x y : Int32} {fg ln cm sk fs fo : Int32} {cn o a b bg ap rg va hd tn cd lo hi lr : Nat → Int32} {c : Nat → Nat}
theorem iy_97 {f k l : Nat} (hf : 4200 < f + (k + 1)) (hl : l ≤ 11) (H : iy_Nx post v w x y cn o a b bg (k + 1) l (fg, nI l, cm, sk, fs, fo, ap, rg, va, hd, tn, cd, lo, hi, lr)) :
    wY_explore_97 post (wY_explore_29 post (nI v) x (nI w) y f) (nI v) x (nI w) y (nI k) fg (nI l) cm sk fs fo cn o a b bg ap rg va hd tn cd lo hi lr := by
  have e : nI l - 1 = nI l + (-1) := Int32.sub_eq_add_neg _ _
  unfold wY_explore_97 wpY_nextOrder
  dsimp only
  refine nm_r e ⟨l + 1, H f _ hf ⟨?_, ?_⟩ (l + 1) (Nat.lt_succ_self l)⟩
  · intro fg ln cm sk fs fo ap rg va hd tn cd lo hi lr h
    exact br_t (by decide) (nm_r (nI_1 k) h)
  · intro g fg ln cm sk fs fo ap rg va hd tn cd lo hi lr hg hg2 h
    exact br_f (nI_nle hg (by omega)) (nm_r (nI_1 k) h)
theorem iy_tail {Q : Int32 → SY → Prop} {how g : Int32} (hh : ¬ how = 0) (hQ : Q how (fg, ln, cm, sk, fs, fo, cn, o, a, b, bg, ap, rg, va, hd, tn, cd, lo, hi, lr)) :
    ∀ d l : Nat, l + d = 11 → ∀ f2 : Nat, d < f2 → wY_makeRun_8 Q g f2 how (nI l) fg ln cm sk fs fo cn o a b bg ap rg va hd tn cd lo hi lr := by
  intro d
  induction d with
  | zero =>
    intro l hl f2 hf2
    obtain rfl : l = 11 := by omega
    cases f2 with
    | zero => omega
    | succ f2 => exact br_t (nI_le (a := 11) (Nat.le_refl 11) (by decide)) hQ
  | succ d ih =>
    intro l hl f2 hf2
    cases f2 with
    | zero => omega
    | succ f2 => exact br_f (nI_ge (b := 11) (by omega) (by decide)) (br_f hh (nm_r (nI_1 l) (ih (l + 1) (by omega) f2 (by omega))))
theorem ie_mk_i (p q r : Bool) : (if p = true then (1 : Int32) else 0) + (if q = true then 2 else 0) + (if r = true then 4 else 0) = nI ((if p = true then 1 else 0) + (if q = true then 2 else 0) + (if r = true then 4 else 0)) := by
  cases p <;> cases q <;> cases r <;> decide
theorem iy_head {Q : Int32 → SY → Prop} {g : Int32} {n l : Nat} {m : Nat → Int32} {p : Nat → Nat} (hcn : ie_cn c cn) (hc : ie_cb c) (hp : ie_ok c p) (hld : ie_ld m p ap rg va hd) (hl : l < 11)
    (H : ∀ z0 z1 : Int32, z1 + z0 = nI (ie_mk o a b c m p) → wY_makeRun_58 Q (wY_makeRun_8 Q g n) g 0 (nI l) z0 z1 fg ln cm sk fs fo cn o a b bg ap rg va hd tn cd lo hi lr) :
    wY_makeRun_8 Q g (n + 1) 0 (nI l) fg ln cm sk fs fo cn o a b bg ap rg va hd tn cd lo hi lr := by
  have e : (if ie_can o a b c m p 0 = true then (1 : Int32) else 0) + (if ie_can o a b c m p 1 = true then 2 else 0) + (if ie_can o a b c m p 2 = true then 4 else 0) = nI (ie_mk o a b c m p) := ie_mk_i (ie_can o a b c m p 0) (ie_can o a b c m p 1) (ie_can o a b c m p 2)
  have H44 : ∀ z0 z1 : Int32, z1 + z0 + (if ie_can o a b c m p 2 = true then 4 else 0) = nI (ie_mk o a b c m p) → wY_makeRun_44 Q (wY_makeRun_8 Q g n) g 0 (nI l) z0 z1 fg ln cm sk fs fo cn o a b bg ap rg va hd tn cd lo hi lr := by
    intro z0 z1 hz
    refine iy_canGo (t := 2) hcn hc hp hld (by decide) (ie_bi_br (fun h => H _ _ ?_) (fun h => H _ _ ?_))
    · rw [h] at hz; exact hz
    · rw [h] at hz; exact hz
  have H31 : ∀ z0 : Int32, z0 + (if ie_can o a b c m p 1 = true then 2 else 0) + (if ie_can o a b c m p 2 = true then 4 else 0) = nI (ie_mk o a b c m p) → wY_makeRun_31 Q (wY_makeRun_8 Q g n) g 0 (nI l) z0 fg ln cm sk fs fo cn o a b bg ap rg va hd tn cd lo hi lr := by
    intro z0 hz
    refine iy_canGo (t := 1) hcn hc hp hld (by decide) (ie_bi_br (fun h => H44 _ _ ?_) (fun h => H44 _ _ ?_))
    · rw [h] at hz; exact hz
    · rw [h] at hz; exact hz
  refine br_f (nI_ge (b := 11) hl (by decide)) (br_t rfl (iy_canGo (t := 0) hcn hc hp hld (by decide) (ie_bi_br (fun h => H31 _ ?_) (fun h => H31 _ ?_))))
  · rw [h] at e; exact e
  · rw [h] at e; exact e
theorem ie_path_ok (hc : ie_cb c) : ∀ (l : Nat) {tn cd m : Nat → Int32} {p : Nat → Nat}, ie_path o a b c bg l tn cd m p → ie_ok c p ∧ p 0 + p 1 + p 2 = l := by
  intro l
  induction l with
  | zero =>
    intro tn cd m p h
    rw [h.2]
    exact ⟨⟨Nat.zero_le _, Nat.zero_le _, Nat.zero_le _⟩, rfl⟩
  | succ l ih =>
    intro tn cd m p h
    obtain ⟨m1, p1, t, h1, ht, _, _, hcan, _, _, rfl⟩ := h
    obtain ⟨k1, k2⟩ := ih h1
    obtain ⟨j1, j2⟩ := ie_ok_st c k1 ht (ie_can_lt o a b c hcan)
    exact ⟨j1, by omega⟩
theorem iy_at {Q : Int32 → SY → Prop} {n l g : Nat} {m : Nat → Int32} {p : Nat → Nat} (hcn : ie_cn c cn) (hc : ie_cb c) (hp : ie_ok c p) (hld : ie_ld m p ap rg va hd) (hl : l < 11) (hg : l < g) (hg2 : g ≤ 11) (hany : ie_any o a b c m p = true)
    (H : wY_makeRun_181 Q (wY_makeRun_8 Q (nI g) n) (nI g) 0 (nI l) fg (nI l) cm sk fs fo cn o a b bg ap rg va hd tn (upd cd l (nI (ie_mk o a b c m p))) lo hi lr) :
    wY_makeRun_8 Q (nI g) (n + 1) 0 (nI l) fg ln cm sk fs fo cn o a b bg ap rg va hd tn cd lo hi lr := by
  have cl : (nI l).toNatClampNeg = l := nI_clamp (by omega)
  have vl : vp_in (nI l) 11 := vp_in_nI hl (by decide)
  have hm : ¬ nI (ie_mk o a b c m p) = 0 := by
    have h8 := ie_mk_lt o a b c m p
    intro z
    rw [← nI_0, nI_eq (by omega) (by omega)] at z
    exact (ie_mk_0 o a b c m p).mp z hany
  refine iy_head hcn hc hp hld hl (fun z0 z1 hz => ?_)
  refine nm_r hz ⟨vl, nm_r (by rw [cl]) (br_f hm (br_t (nI_lt hg (by omega)) H))⟩
theorem iy_go181 {Q : Int32 → SY → Prop} {l t : Nat} {g : Int32} {J : Int32 → Int32 → Int32 → Int32 → Int32 → Int32 → Int32 → Int32 → (Nat → Int32) → (Nat → Int32) → (Nat → Int32) → (Nat → Int32) → (Nat → Int32) → (Nat → Int32) → (Nat → Int32) → (Nat → Int32) → (Nat → Int32) → (Nat → Int32) → (Nat → Int32) → (Nat → Int32) → (Nat → Int32) → (Nat → Int32) → Prop} {m : Nat → Int32} {p : Nat → Nat} (hc : ie_cb c) (hp : ie_ok c p) (hld : ie_ld m p ap rg va hd) (hl : l < 11) (ht : t < 3) (htn : tn l = nI t) (hcan : ie_can o a b c m p t = true)
    (K1 : ie_fl o a b m p t = true → ∀ ap', J 3 (nI (l + 1)) (nI t) (nI (l + 1)) cm sk fs fo cn o a b bg ap' rg va hd tn cd lo hi lr)
    (K2 : ¬ ie_fl o a b m p t = true → ∀ ap' rg' va' hd', ie_ld (ie_nx o a b m t (t * 5 + p t)) (ie_st p t) ap' rg' va' hd' → J 0 (nI (l + 1)) fg (nI (l + 1)) cm sk fs fo cn o a b bg ap' rg' va' hd' tn cd lo hi lr) :
    wY_makeRun_181 Q J g 0 (nI l) fg ln cm sk fs fo cn o a b bg ap rg va hd tn cd lo hi lr := by
  have cl : (nI l).toNatClampNeg = l := nI_clamp (by omega)
  have vl : vp_in (nI l) 11 := vp_in_nI hl (by decide)
  unfold wY_makeRun_181
  rw [cl, htn, nI_1]
  refine nm_e ⟨vl, iy_go hc hp hld ht (ie_can_lt o a b c hcan) (fun hfl ap' => ?_) (fun hfl ap' rg' va' hd' g1 => ?_)⟩
  · exact br_f (by decide) ⟨vl, nm_r htn (nm_e (K1 hfl ap'))⟩
  · exact br_t rfl (nm_e (K2 hfl ap' rg' va' hd' g1))
theorem iy_replay {Q : Int32 → SY → Prop} {g : Nat} {cd0 : Nat → Int32} (hcn : ie_cn c cn) (hc : ie_cb c) (hg2 : g ≤ 11) :
    ∀ (l : Nat) (m : Nat → Int32) (p : Nat → Nat), l ≤ g → ie_path o a b c bg l tn cd0 m p →
      (∀ (fg ln : Int32) (ap rg va hd cd : Nat → Int32) (f2 : Nat), (∀ j, j < l → cd j = cd0 j) → ie_ld m p ap rg va hd → 11 < f2 + l → wY_makeRun_8 Q (nI g) f2 0 (nI l) fg ln cm sk fs fo cn o a b bg ap rg va hd tn cd lo hi lr) →
      ∀ (fg ln : Int32) (ap rg va hd cd : Nat → Int32) (f2 : Nat), ie_ld (ie_m0 bg) ie_p0 ap rg va hd → 11 < f2 → wY_makeRun_8 Q (nI g) f2 0 0 fg ln cm sk fs fo cn o a b bg ap rg va hd tn cd lo hi lr := by
  intro l
  induction l with
  | zero =>
    intro m p _ h K fg ln ap rg va hd cd f2 hld hf2
    obtain ⟨rfl, rfl⟩ := h
    exact K fg ln ap rg va hd cd f2 (fun j hj => absurd hj (Nat.not_lt_zero j)) hld hf2
  | succ l ih =>
    intro m p hlg h K
    obtain ⟨m1, p1, t, h1, ht, htn, hcd, hcan, hfl, rfl, rfl⟩ := h
    refine ih m1 p1 (by omega) h1 (fun fg ln ap rg va hd cd f2 hag hld hf2 => ?_)
    obtain ⟨k1, k2⟩ := ie_path_ok hc l h1
    cases f2 with
    | zero => omega
    | succ f2 =>
      refine iy_at hcn hc k1 hld (by omega) (by omega) hg2 (ie_any_of o a b c ht hcan) ?_
      refine iy_go181 hc k1 hld (by omega) ht htn hcan (fun h => absurd h hfl) (fun _ ap' rg' va' hd' g1 => ?_)
      refine K fg (nI (l + 1)) ap' rg' va' hd' _ f2 (fun j hj => ?_) g1 (by omega)
      by_cases z : j = l
      · rw [z, pk_us, hcd]
      · rw [pk_un z]
        exact hag j (by omega)
theorem iy_iter {f k : Nat} {g : Int32} (hv : v < 4) (hw : w < 4) (hk : k < 4200)
    (H : ∀ (Q : Int32 → SY → Prop), iy_GQ post v w x y cn o a b bg f k Q → ∀ ap' rg' va' hd', ie_ld (ie_m0 bg) ie_p0 ap' rg' va' hd' → wY_makeRun_8 Q g 12 0 0 fg ln cm sk fs fo cn o a b bg ap' rg' va' hd' tn cd lo hi lr) :
    wY_explore_29 post (nI v) x (nI w) y (f + 1) g 1 (nI k) fg ln cm sk fs fo cn o a b bg ap rg va hd tn cd lo hi lr := by
  refine br_f (nI_ge (b := 4200) hk (by decide)) (br_f (by decide) ?_)
  unfold wpY_makeRun
  dsimp only
  refine iy_start (fun ap' rg' va' hd' hld => ⟨12, H _ ⟨?_, ?_, ?_⟩ ap' rg' va' hd' hld⟩)
  · intro fg ln cm sk fs fo ap rg va hd tn cd lo hi lr m p L hld hYR K
    exact br_t rfl (iy_note hv hw hld hYR K)
  · intro fg ln cm sk fs fo ap rg va hd tn cd lo hi lr h
    exact br_f (by decide) (br_t rfl h)
  · intro fg ln cm sk fs fo ap rg va hd tn cd lo hi lr h
    exact br_f (by decide) (br_f (by decide) (nm_e h))
end
end
section
/-! the reference's search meets the interface -/
section
variable {post : SY → Prop} {v w : Nat} {x y : Int32} {cn o a b bg : Nat → Int32} {c : Nat → Nat}
theorem iy_r1 (hcn : ie_cn c cn) (hc : ie_cb c) (k l : Nat) (m : Nat → Int32) (p : Nat → Nat) (z : iy_V) (L : List (Nat × (Nat → Int32))) (hk : k < 4200) (hl : l ≤ 10) (hp : ie_ok c p) (hLD : iy_LD m p z) (hYR : iy_YR v w x y L z) (hany : ¬ ie_any o a b c m p = true)
    (K : ∀ z', ie_ag iy_tn iy_cd l z z' → iy_YR v w x y (L ++ [(ie_lc c p, m)]) z' → iy_Nx post v w x y cn o a b bg (k + 1) l z') : iy_Mid post v w x y cn o a b bg k l z := by
  obtain ⟨fg, ln, cm, sk, fs, fo, ap, rg, va, hd, tn, cd, lo, hi, lr⟩ := z
  intro f Q hf hQ f2 hf2 gv hgv
  have hld : ie_ld m p ap rg va hd := hLD
  have hyr : ie_YR v w x y L cm sk fs fo lo hi lr := hYR
  have cl : (nI l).toNatClampNeg = l := nI_clamp (by omega)
  have vl : vp_in (nI l) 11 := vp_in_nI (by omega) (by decide)
  have hm0 : ie_mk o a b c m p = 0 := (ie_mk_0 o a b c m p).mpr hany
  obtain ⟨h0, h1, h2⟩ := hp
  obtain ⟨g0, g1, g2, g3⟩ := hc
  have q0 : ap 0 = cn 0 ↔ p 0 = c 0 := by
    rw [hld.1 0 (by decide), hcn 0 (by decide), nI_eq (by omega) (by omega)]
  have q1 : ap 1 = cn 1 ↔ p 1 = c 1 := by
    rw [hld.1 1 (by decide), hcn 1 (by decide), nI_eq (by omega) (by omega)]
  have q2 : ap 2 = cn 2 ↔ p 2 = c 2 := by
    rw [hld.1 2 (by decide), hcn 2 (by decide), nI_eq (by omega) (by omega)]
  have ag : ∀ (fg' ln' cm' sk' fs' fo' : Int32) (lo' hi' lr' : Nat → Int32), ie_ag iy_tn iy_cd l (fg, ln, cm, sk, fs, fo, ap, rg, va, hd, tn, cd, lo, hi, lr) (fg', ln', cm', sk', fs', fo', ap, rg, va, hd, tn, upd cd l 0, lo', hi', lr') := fun _ _ _ _ _ _ _ _ _ => ⟨fun j hj => rfl, fun j hj => pk_un (by omega)⟩
  cases f2 with
  | zero => omega
  | succ f2 =>
    have HC : p 0 = c 0 ∧ p 1 = c 1 ∧ p 2 = c 2 → wY_makeRun_8 Q (nI gv) f2 1 (nI (l + 1)) fg (nI l) cm sk fs fo cn o a b bg ap rg va hd tn (upd cd l 0) lo hi lr := by
      intro e
      rw [show ie_lc c p = 0 from if_pos e] at K
      exact iy_tail (by decide) (hQ.1 fg (nI l) cm sk fs fo ap rg va hd tn _ lo hi lr m p L hld hyr (fun fo' lo' hi' lr' h => iy_97 hf (by omega) (K (fg, nI l, 1, sk, fs, fo', ap, rg, va, hd, tn, upd cd l 0, lo', hi', lr') (ag _ _ _ _ _ _ _ _ _) h))) (10 - l) (l + 1) (by omega) f2 (by omega)
    have HS : ¬ (p 0 = c 0 ∧ p 1 = c 1 ∧ p 2 = c 2) → wY_makeRun_128 Q (wY_makeRun_8 Q (nI gv) f2) (nI gv) (nI l) fg (nI l) cm sk fs fo cn o a b bg ap rg va hd tn (upd cd l 0) lo hi lr := by
      intro e
      rw [show ie_lc c p = 1 from if_neg e] at K
      exact br_t rfl (nm_r (nI_1 l) (iy_tail (by decide) (hQ.2.1 fg (nI l) cm sk fs fo ap rg va hd tn _ lo hi lr (iy_97 hf (by omega) (K (fg, nI l, cm, 1, fs, fo, ap, rg, va, hd, tn, upd cd l 0, lo, hi, lr) (ag _ _ _ _ _ _ _ _ _) (ie_YR_sk m hyr)))) (10 - l) (l + 1) (by omega) f2 (by omega)))
    refine iy_head hcn ⟨g0, g1, g2, g3⟩ ⟨h0, h1, h2⟩ hld (by omega) (fun z0 z1 hz => ?_)
    rw [hm0] at hz
    refine nm_r (hz.trans nI_0) ⟨vl, nm_r (by rw [cl]) (br_t rfl (br_c (fun e0 => br_c (fun e1 => br_c (fun e2 => ?_) (fun e2 => ?_)) (fun e1 => ?_)) (fun e0 => ?_)))⟩
    · exact br_f (by decide) (nm_r (nI_1 l) (HC ⟨q0.mp e0, q1.mp e1, q2.mp e2⟩))
    · exact HS (fun e => e2 (q2.mpr e.2.2))
    · exact HS (fun e => e1 (q1.mpr e.2.1))
    · exact HS (fun e => e0 (q0.mpr e.1))
theorem iy_r2 (hcn : ie_cn c cn) (hc : ie_cb c) (k l : Nat) (m : Nat → Int32) (p : Nat → Nat) (z : iy_V) (L : List (Nat × (Nat → Int32))) (hl : l < 10) (hp : ie_ok c p) (hLD : iy_LD m p z) (hYR : iy_YR v w x y L z) (hany : ie_any o a b c m p = true)
    (K : ∀ z', ie_ag iy_tn iy_cd l z z' → iy_tn z' l = nI (ie_t0 o a b c m p) → iy_cd z' l = nI (ie_mk o a b c m p) → iy_LD m p z' → iy_YR v w x y L z' → iy_C post v w x y cn o a b bg k l (ie_t0 o a b c m p) z') : iy_Mid post v w x y cn o a b bg k l z := by
  obtain ⟨fg, ln, cm, sk, fs, fo, ap, rg, va, hd, tn, cd, lo, hi, lr⟩ := z
  intro f Q hf hQ f2 hf2 gv hgv
  have hld : ie_ld m p ap rg va hd := hLD
  have hyr : ie_YR v w x y L cm sk fs fo lo hi lr := hYR
  have cl : (nI l).toNatClampNeg = l := nI_clamp (by omega)
  have vl : vp_in (nI l) 11 := vp_in_nI (by omega) (by decide)
  have h8 := ie_mk_lt o a b c m p
  have hm : ¬ nI (ie_mk o a b c m p) = 0 := by
    intro z
    rw [← nI_0, nI_eq (by omega) (by omega)] at z
    exact (ie_mk_0 o a b c m p).mp z hany
  have B0 := ie_mk_bit o a b c m p (show 0 < 3 by decide)
  have B1 := ie_mk_bit o a b c m p (show 1 < 3 by decide)
  rw [Nat.pow_zero, Nat.div_one] at B0
  rw [Nat.pow_one] at B1
  cases f2 with
  | zero => omega
  | succ f2 =>
    have R : ∀ t0 : Nat, ie_t0 o a b c m p = t0 → wY_makeRun_180 Q (wY_makeRun_8 Q (nI gv) f2) (nI gv) 0 (nI l) (nI t0) (nI l) fg (nI l) cm sk fs fo cn o a b bg ap rg va hd tn (upd cd l (nI (ie_mk o a b c m p))) lo hi lr := by
      intro t0 ht0
      refine ⟨vl, nm_r (by rw [cl]) ?_⟩
      rw [← ht0]
      exact K (fg, nI l, cm, sk, fs, fo, ap, rg, va, hd, upd tn l (nI (ie_t0 o a b c m p)), upd cd l (nI (ie_mk o a b c m p)), lo, hi, lr) ⟨fun j hj => pk_un (by omega), fun j hj => pk_un (by omega)⟩ pk_us pk_us hld hyr f Q hf hQ f2 (by omega) gv (by omega)
    refine iy_head hcn hc hp hld (by omega) (fun z0 z1 hz => ?_)
    refine nm_r hz ⟨vl, nm_r (by rw [cl]) (br_f hm (br_f (nI_nlt hgv (by omega)) (br_c (fun e0 => ?_) (fun e0 => br_c (fun e1 => ?_) (fun e1 => ?_)))))⟩
    · rw [ie_and1 _ h8, B0] at e0
      refine R 0 ?_
      by_cases hc0 : ie_can o a b c m p 0 = true
      · exact if_pos hc0
      · rw [if_neg hc0] at e0
        exact absurd e0 (by decide)
    · rw [ie_and1 _ h8, B0] at e0
      rw [ie_and2 _ h8, B1] at e1
      have hc0 : ¬ ie_can o a b c m p 0 = true := fun h => e0 (if_pos h)
      refine R 1 ?_
      by_cases hc1 : ie_can o a b c m p 1 = true
      · exact (if_neg hc0).trans (if_pos hc1)
      · rw [if_neg hc1] at e1
        exact absurd e1 (by decide)
    · rw [ie_and1 _ h8, B0] at e0
      rw [ie_and2 _ h8, B1] at e1
      have hc0 : ¬ ie_can o a b c m p 0 = true := fun h => e0 (if_pos h)
      have hc1 : ¬ ie_can o a b c m p 1 = true := fun h => e1 (if_pos h)
      exact R 2 ((if_neg hc0).trans (if_neg hc1))
theorem iy_r3 (hc : ie_cb c) (k l t : Nat) (m : Nat → Int32) (p : Nat → Nat) (z : iy_V) (L : List (Nat × (Nat → Int32))) (hl : l < 10) (ht : t < 3) (hp : ie_ok c p) (hLD : iy_LD m p z) (hYR : iy_YR v w x y L z) (htn : iy_tn z l = nI t) (hcan : ie_can o a b c m p t = true)
    (K1 : ie_fl o a b m p t = true → ∀ z', ie_ag iy_tn iy_cd (l + 1) z z' → iy_YR v w x y (L ++ [(2 + t, m)]) z' → iy_Nx post v w x y cn o a b bg (k + 1) (l + 1) z')
    (K2 : ¬ ie_fl o a b m p t = true → ∀ z', ie_ag iy_tn iy_cd (l + 1) z z' → iy_LD (ie_nx o a b m t (t * 5 + p t)) (ie_st p t) z' → iy_YR v w x y L z' → iy_Mid post v w x y cn o a b bg k (l + 1) z') : iy_C post v w x y cn o a b bg k l t z := by
  obtain ⟨fg, ln, cm, sk, fs, fo, ap, rg, va, hd, tn, cd, lo, hi, lr⟩ := z
  intro f Q hf hQ f2 hf2 gv hgv
  have hld : ie_ld m p ap rg va hd := hLD
  have hyr : ie_YR v w x y L cm sk fs fo lo hi lr := hYR
  refine iy_go181 hc hp hld (by omega) ht htn hcan (fun hfl ap' => ?_) (fun hfl ap' rg' va' hd' g1 => ?_)
  · have efs : fs ||| ((1 : Int32) <<< (nI t &&& 31)) = ie_fm (L ++ [(2 + t, m)]) := by
      rw [hyr.2.2.1, ie_fm_yes ht]
      exact ie_shlo _ (ie_fm_lt L) t ht
    refine iy_tail (by decide) (hQ.2.2 (nI t) (nI (l + 1)) cm sk fs fo ap' rg va hd tn cd lo hi lr ?_) (10 - l) (l + 1) (by omega) f2 (by omega)
    rw [efs]
    exact iy_97 hf (by omega) (K1 hfl (nI t, nI (l + 1), cm, sk, _, fo, ap', rg, va, hd, tn, cd, lo, hi, lr) ⟨fun _ _ => rfl, fun _ _ => rfl⟩ (ie_YR_fa m hyr))
  · exact K2 hfl (fg, nI (l + 1), cm, sk, fs, fo, ap', rg', va', hd', tn, cd, lo, hi, lr) ⟨fun _ _ => rfl, fun _ _ => rfl⟩ g1 hyr f Q hf hQ f2 hf2 gv hgv
theorem iy_r5 (k l t : Nat) (z : iy_V) (hl : l < 10) (ht : t < 3) (htn : iy_tn z l = nI t) (K : iy_In post v w x y cn o a b bg k l (t + 1) z) : iy_Nx post v w x y cn o a b bg k (l + 1) z := by
  obtain ⟨fg, ln, cm, sk, fs, fo, ap, rg, va, hd, tn, cd, lo, hi, lr⟩ := z
  intro f R hf hR f2 hf2
  have htn' : tn l = nI t := htn
  have cl : (nI l).toNatClampNeg = l := nI_clamp (by omega)
  have vl : vp_in (nI l) 11 := vp_in_nI (by omega) (by decide)
  rw [pk_m1]
  cases f2 with
  | zero => omega
  | succ f2 => exact br_f (nI_pos (by omega)) ⟨vl, nm_r (by rw [cl, htn', nI_1]) ⟨4, K f R hf hR f2 (by omega) 4 (by omega)⟩⟩
theorem iy_r6 (k l : Nat) (z : iy_V) (K : iy_Nx post v w x y cn o a b bg k l z) : iy_In post v w x y cn o a b bg k l 3 z := by
  obtain ⟨fg, ln, cm, sk, fs, fo, ap, rg, va, hd, tn, cd, lo, hi, lr⟩ := z
  intro f R hf hR f2 hf2 f3 hf3
  cases f3 with
  | zero => omega
  | succ f3 => exact br_t (nI_le (a := 3) (Nat.le_refl 3) (by decide)) (nm_e (K f R hf hR f2 hf2))
theorem iy_r7 (k l s : Nat) (m : Nat → Int32) (p : Nat → Nat) (z : iy_V) (hl : l < 10) (hs : s < 3) (hcd : iy_cd z l = nI (ie_mk o a b c m p)) (hcan : ¬ ie_can o a b c m p s = true) (K : iy_In post v w x y cn o a b bg k l (s + 1) z) : iy_In post v w x y cn o a b bg k l s z := by
  obtain ⟨fg, ln, cm, sk, fs, fo, ap, rg, va, hd, tn, cd, lo, hi, lr⟩ := z
  intro f R hf hR f2 hf2 f3 hf3
  have hcd' : cd l = nI (ie_mk o a b c m p) := hcd
  have cl : (nI l).toNatClampNeg = l := nI_clamp (by omega)
  have vl : vp_in (nI l) 11 := vp_in_nI (by omega) (by decide)
  have hb : ¬ ((cd (nI l).toNatClampNeg) >>> (nI s &&& 31)) &&& 1 = 1 := by
    rw [cl, hcd', ie_shr1 _ (ie_mk_lt o a b c m p) s hs, ie_mk_bit o a b c m p hs, if_neg hcan]
    decide
  cases f3 with
  | zero => omega
  | succ f3 => exact br_f (nI_ge (b := 3) hs (by decide)) ⟨vl, br_f hb (nm_r (nI_1 s) (K f R hf hR f2 hf2 f3 (by omega)))⟩
theorem iy_r8 (hv : v < 4) (hw : w < 4) (hcn : ie_cn c cn) (hc : ie_cb c) (k l s : Nat) (m : Nat → Int32) (p : Nat → Nat) (z : iy_V) (L : List (Nat × (Nat → Int32))) (hk : k < 4200) (hl : l < 10) (hs : s < 3) (hp : ie_ok c p) (hpath : ie_path o a b c bg l (iy_tn z) (iy_cd z) m p) (hcd : iy_cd z l = nI (ie_mk o a b c m p)) (hcan : ie_can o a b c m p s = true) (hYR : iy_YR v w x y L z)
    (K : ∀ z', ie_ag iy_tn iy_cd l z z' → iy_tn z' l = nI s → iy_cd z' l = nI (ie_mk o a b c m p) → iy_LD m p z' → iy_YR v w x y L z' → iy_C post v w x y cn o a b bg k l s z') : iy_In post v w x y cn o a b bg k l s z := by
  obtain ⟨fg, ln, cm, sk, fs, fo, ap, rg, va, hd, tn, cd, lo, hi, lr⟩ := z
  intro f R hf hR f2 hf2 f3 hf3
  have hyr : ie_YR v w x y L cm sk fs fo lo hi lr := hYR
  have hcd' : cd l = nI (ie_mk o a b c m p) := hcd
  have hpath' : ie_path o a b c bg l tn cd m p := hpath
  have cl : (nI l).toNatClampNeg = l := nI_clamp (by omega)
  have vl : vp_in (nI l) 11 := vp_in_nI (by omega) (by decide)
  have hb : ((cd (nI l).toNatClampNeg) >>> (nI s &&& 31)) &&& 1 = 1 := by
    rw [cl, hcd', ie_shr1 _ (ie_mk_lt o a b c m p) s hs, ie_mk_bit o a b c m p hs, if_pos hcan]
    rfl
  cases f3 with
  | zero => omega
  | succ f3 =>
    refine br_f (nI_ge (b := 3) hs (by decide)) ⟨vl, br_t hb ⟨vl, nm_r (by rw [cl]) ?_⟩⟩
    rw [nI_1]
    refine hR.2 (l + 1) fg ln cm sk fs fo ap rg va hd (upd tn l (nI s)) cd lo hi lr (by omega) (by omega) ?_
    cases f with
    | zero => omega
    | succ f =>
      refine iy_iter hv hw hk (fun Q hQ ap' rg' va' hd' hld0 => ?_)
      have hpath2 : ie_path o a b c bg l (upd tn l (nI s)) cd m p := ie_path_c o a b c l hpath' (fun j hj => pk_un (by omega)) (fun j hj => rfl)
      refine iy_replay (cd0 := cd) hcn hc (by omega) l m p (by omega) hpath2 (fun fg1 ln1 ap1 rg1 va1 hd1 cd1 f4 hag hld1 hf4 => ?_) fg ln ap' rg' va' hd' cd 12 hld0 (by decide)
      cases f4 with
      | zero => omega
      | succ f4 =>
        refine iy_at hcn hc hp hld1 (by omega) (by omega) (by omega) (ie_any_of o a b c hs hcan) ?_
        exact K (fg1, nI l, cm, sk, fs, fo, ap1, rg1, va1, hd1, upd tn l (nI s), upd cd1 l (nI (ie_mk o a b c m p)), lo, hi, lr) ⟨fun j hj => pk_un (by omega), fun j hj => (pk_un (by omega)).trans (hag j hj)⟩ pk_us pk_us hld1 hyr f Q (by omega) hQ f4 (by omega) (l + 1) (by omega)
theorem iy_YG (hv : v < 4) (hw : w < 4) (hcn : ie_cn c cn) (hc : ie_cb c) : ie_YG o a b c bg iy_tn iy_cd iy_LD (iy_YR v w x y) (iy_Mid post v w x y cn o a b bg) (iy_C post v w x y cn o a b bg) (iy_Nx post v w x y cn o a b bg) (iy_In post v w x y cn o a b bg) := by
  refine ⟨?_, ?_, ?_, ?_, ?_, ?_, ?_, ?_⟩
  · intro k l m p z L _ hk hl hp _ hLD hYR hany K
    exact iy_r1 hcn hc k l m p z L hk hl hp hLD hYR hany K
  · intro k l m p z L _ hk hl hp _ hLD hYR hany K
    exact iy_r2 hcn hc k l m p z L hl hp hLD hYR hany K
  · intro k l t m p z L _ hk hl ht hp hLD hYR htn hcan hfl K
    exact iy_r3 hc k l t m p z L hl ht hp hLD hYR htn hcan (fun _ => K) (fun h => absurd hfl h)
  · intro k l t m p z L _ hk hl ht hp hLD hYR htn hcan hfl K
    exact iy_r3 hc k l t m p z L hl ht hp hLD hYR htn hcan (fun h => absurd h hfl) (fun _ => K)
  · intro k l t z hl ht htn K
    exact iy_r5 k l t z hl ht htn K
  · intro k l z hl K
    exact iy_r6 k l z K
  · intro k l s m p z hl hs hcd hcan K
    exact iy_r7 k l s m p z hl hs hcd hcan K
  · intro k l s m p z L _ hk hl hs hp _ hpath hcd hcan hYR K
    exact iy_r8 hv hw hcn hc k l s m p z L hk hl hs hp hpath hcd hcan hYR K
theorem iy_explore {fg ln cm sk fs fo : Int32} {ap rg va hd tn cd lo hi lr : Nat → Int32} (hv : v < 4) (hw : w < 4) (hcn : ie_cn c cn) (hc : ie_cb c)
    (K : ∀ (fg' ln' cm' sk' fs' fo' : Int32) (ap' rg' va' hd' tn' cd' lo' hi' lr' : Nat → Int32), ie_YR v w x y (ie_lv o a b c 11 (ie_m0 bg) ie_p0) cm' sk' fs' fo' lo' hi' lr' → post (fg', ln', cm', sk', fs', fo', cn, o, a, b, bg, ap', rg', va', hd', tn', cd', lo', hi', lr')) :
    wpY_explore post (fg, ln, cm, sk, fs, fo, cn, o, a, b, bg, ap, rg, va, hd, tn, cd, lo, hi, lr) (nI v) x (nI w) y := by
  unfold wpY_explore
  dsimp only
  refine ⟨4201, ?_⟩
  refine iy_iter (k := 0) (f := 4200) hv hw (by decide) (fun Q hQ ap' rg' va' hd' hld => ?_)
  have h11 := ie_len11 (o := o) (a := a) (b := b) hc (ie_m0 bg)
  refine ie_Ytree o a b c bg iy_tn iy_cd iy_LD (iy_YR v w x y) (iy_Mid post v w x y cn o a b bg) (iy_C post v w x y cn o a b bg) (iy_Nx post v w x y cn o a b bg) (iy_In post v w x y cn o a b bg) (iy_YG hv hw hcn hc) hc 11 0 (ie_m0 bg) ie_p0 [] (fg, ln, 0, 0, 0, 0, ap', rg', va', hd', tn, cd, lo, hi, lr) ⟨rfl, rfl⟩ hld (ie_YR_0 v w x y lo hi lr) ⟨Nat.zero_le _, Nat.zero_le _, Nat.zero_le _⟩ rfl rfl (by rw [List.length_nil, Nat.zero_add]; exact h11) ?_ 4200 Q (by decide) hQ 12 (by decide) 0 (by decide)
  intro z _ hYR
  obtain ⟨fg, ln, cm, sk, fs, fo, ap, rg, va, hd, tn, cd, lo, hi, lr⟩ := z
  intro f R hf hR f2 hf2
  rw [List.nil_append] at hf hR hYR
  cases f2 with
  | zero => omega
  | succ f2 =>
    refine br_t (by decide) (hR.1 fg ln cm sk fs fo ap rg va hd tn cd lo hi lr ?_)
    have hP := K fg ln cm sk fs fo ap rg va hd tn cd lo hi lr hYR
    cases f with
    | zero => omega
    | succ f => exact br_c (fun _ => hP) (fun _ => br_t rfl hP)
end
end
section
/-! what the component reads out of its ends -/
theorem ie_nar (z : Bool) : narrow .boolean (.int (ie_bi z)) = .int (ie_bi z) := by cases z <;> rfl
theorem ie_nar0 : narrow .boolean (.int (0 : Int32)) = .int 0 := rfl
theorem ie_nar1 : narrow .boolean (.int (1 : Int32)) = .int 1 := rfl
theorem ie_col (i j : Nat) : nI i * 10 + nI j = nI (i * 10 + j) := by
  show nI i * nI 10 + nI j = _
  rw [pk_mul, nI_add]
section
variable {ex sk : Int32} {o a b cn bg st nc wo fa en : Nat → Int32} {ne : Nat}
theorem ix_least_l {post : Int32 → Prop} {n j : Nat} (hn : n ≤ 4200) (hj : j < 10) (hne : ne = 42000) (K : post (ie_mn (fun k => en (k * 10 + j)) (n - 1))) :
    ∀ d i : Nat, i + 1 + d = n → ∀ f : Nat, d < f → wX_leastInColumn_19 post (nI j) ex sk (nI n) o a b cn bg st nc wo fa en ne f (ie_mn (fun k => en (k * 10 + j)) i) (nI (i + 1)) := by
  intro d
  induction d with
  | zero =>
    intro i hi f hf
    cases f with
    | zero => omega
    | succ f =>
      have e : n - 1 = i := by omega
      rw [e] at K
      exact br_t (nI_le (by omega) (by omega)) K
  | succ d ih =>
    intro i hi f hf
    cases f with
    | zero => omega
    | succ f =>
      have v : vp_in (nI (i + 1) * 10 + nI j) ne := by
        rw [ie_col]
        exact vp_in_nI (by omega) (by omega)
      have e : en (nI (i + 1) * 10 + nI j).toNatClampNeg = en ((i + 1) * 10 + j) := by
        rw [ie_col, nI_clamp (by omega)]
      have R := ih (i + 1) (by omega) f (by omega)
      have em : ie_mn (fun k => en (k * 10 + j)) (i + 1) = if en ((i + 1) * 10 + j) < ie_mn (fun k => en (k * 10 + j)) i then en ((i + 1) * 10 + j) else ie_mn (fun k => en (k * 10 + j)) i := rfl
      rw [em] at R
      refine br_f (nI_ge (by omega) (by omega)) ⟨v, nm_r e (br_c (fun z => nm_r (nI_1 (i + 1)) ?_) (fun z => nm_r (nI_1 (i + 1)) ?_))⟩
      · rw [if_neg (Int32.not_lt.mpr z)] at R
        exact R
      · rw [if_pos (Int32.not_le.mp z)] at R
        exact R
theorem ix_greatest_l {post : Int32 → Prop} {n j : Nat} (hn : n ≤ 4200) (hj : j < 10) (hne : ne = 42000) (K : post (ie_mx (fun k => en (k * 10 + j)) (n - 1))) :
    ∀ d i : Nat, i + 1 + d = n → ∀ f : Nat, d < f → wX_greatestInColumn_19 post (nI j) ex sk (nI n) o a b cn bg st nc wo fa en ne f (ie_mx (fun k => en (k * 10 + j)) i) (nI (i + 1)) := by
  intro d
  induction d with
  | zero =>
    intro i hi f hf
    cases f with
    | zero => omega
    | succ f =>
      have e : n - 1 = i := by omega
      rw [e] at K
      exact br_t (nI_le (by omega) (by omega)) K
  | succ d ih =>
    intro i hi f hf
    cases f with
    | zero => omega
    | succ f =>
      have v : vp_in (nI (i + 1) * 10 + nI j) ne := by
        rw [ie_col]
        exact vp_in_nI (by omega) (by omega)
      have e : en (nI (i + 1) * 10 + nI j).toNatClampNeg = en ((i + 1) * 10 + j) := by
        rw [ie_col, nI_clamp (by omega)]
      have R := ih (i + 1) (by omega) f (by omega)
      have em : ie_mx (fun k => en (k * 10 + j)) (i + 1) = if ie_mx (fun k => en (k * 10 + j)) i < en ((i + 1) * 10 + j) then en ((i + 1) * 10 + j) else ie_mx (fun k => en (k * 10 + j)) i := rfl
      rw [em] at R
      refine br_f (nI_ge (by omega) (by omega)) ⟨v, nm_r e (br_c (fun z => nm_r (nI_1 (i + 1)) ?_) (fun z => nm_r (nI_1 (i + 1)) ?_))⟩
      · rw [if_neg (Int32.not_lt.mpr z)] at R
        exact R
      · rw [if_pos (Int32.not_le.mp z)] at R
        exact R
theorem ix_least {post : Int32 → Prop} {n j : Nat} (hn : n ≤ 4200) (hj : j < 10) (hne : ne = 42000) (K0 : n = 0 → post (-2147483647)) (K : 0 < n → post (ie_mn (fun k => en (k * 10 + j)) (n - 1))) :
    wpX_leastInColumn post (ex, sk, nI n, o, a, b, cn, bg, st, nc, wo, fa, en, ne) (nI j) := by
  unfold wpX_leastInColumn
  dsimp only
  by_cases h : n = 0
  · subst h
    exact br_t rfl (K0 rfl)
  · have e : en (nI j).toNatClampNeg = ie_mn (fun k => en (k * 10 + j)) 0 := by
      show _ = en (0 * 10 + j)
      rw [nI_clamp (by omega), Nat.zero_mul, Nat.zero_add]
    exact br_f (nI_ne0 (by omega) (by omega)) ⟨vp_in_nI (by omega) (by omega), nm_r e ⟨n, ix_least_l hn hj hne (K (by omega)) (n - 1) 0 (by omega) n (by omega)⟩⟩
theorem ix_greatest {post : Int32 → Prop} {n j : Nat} (hn : n ≤ 4200) (hj : j < 10) (hne : ne = 42000) (K0 : n = 0 → post (-2147483647)) (K : 0 < n → post (ie_mx (fun k => en (k * 10 + j)) (n - 1))) :
    wpX_greatestInColumn post (ex, sk, nI n, o, a, b, cn, bg, st, nc, wo, fa, en, ne) (nI j) := by
  unfold wpX_greatestInColumn
  dsimp only
  by_cases h : n = 0
  · subst h
    exact br_t rfl (K0 rfl)
  · have e : en (nI j).toNatClampNeg = ie_mx (fun k => en (k * 10 + j)) 0 := by
      show _ = en (0 * 10 + j)
      rw [nI_clamp (by omega), Nat.zero_mul, Nat.zero_add]
    exact br_f (nI_ne0 (by omega) (by omega)) ⟨vp_in_nI (by omega) (by omega), nm_r e ⟨n, ix_greatest_l hn hj hne (K (by omega)) (n - 1) 0 (by omega) n (by omega)⟩⟩
theorem ix_some_l {post : Int32 → SX → Prop} {n v w : Nat} {x y : Int32} (hn : n ≤ 4200) (hv : v < 4) (hw : w < 4) (hne : ne = 42000)
    (K1 : (∃ k, k < n ∧ en (k * 10 + v) = x ∧ en (k * 10 + w) = y) → post 1 (ex, sk, nI n, o, a, b, cn, bg, st, nc, wo, fa, en, ne))
    (K0 : (∀ k, k < n → ¬ (en (k * 10 + v) = x ∧ en (k * 10 + w) = y)) → post 0 (ex, sk, nI n, o, a, b, cn, bg, st, nc, wo, fa, en, ne)) :
    ∀ d i : Nat, i + d = n → ∀ f : Nat, d < f → (∀ k, k < i → ¬ (en (k * 10 + v) = x ∧ en (k * 10 + w) = y)) → wX_someEndHas_25 post (nI v) x (nI w) y ex sk (nI n) o a b cn bg st nc wo fa en ne f (nI i) := by
  intro d
  induction d with
  | zero =>
    intro i hi f hf hno
    cases f with
    | zero => omega
    | succ f => exact br_t (nI_le (by omega) (by omega)) (K0 (fun k hk => hno k (by omega)))
  | succ d ih =>
    intro i hi f hf hno
    cases f with
    | zero => omega
    | succ f =>
      have e1 : nI (i * 10) + nI v = nI (i * 10 + v) := nI_add _ _
      have e2 : nI (i * 10) + nI w = nI (i * 10 + w) := nI_add _ _
      have v1 : vp_in (nI (i * 10) + nI v) ne := by
        rw [e1]
        exact vp_in_nI (by omega) (by omega)
      have v2 : vp_in (nI (i * 10) + nI w) ne := by
        rw [e2]
        exact vp_in_nI (by omega) (by omega)
      have d1 : en (nI (i * 10) + nI v).toNatClampNeg = en (i * 10 + v) := by
        rw [e1, nI_clamp (by omega)]
      have d2 : en (nI (i * 10) + nI w).toNatClampNeg = en (i * 10 + w) := by
        rw [e2, nI_clamp (by omega)]
      have R : ¬ (en (i * 10 + v) = x ∧ en (i * 10 + w) = y) → wX_someEndHas_25 post (nI v) x (nI w) y ex sk (nI n) o a b cn bg st nc wo fa en ne f (nI (i + 1)) := by
        intro h
        refine ih (i + 1) (by omega) f (by omega) (fun k hk => ?_)
        by_cases z : k = i
        · rw [z]
          exact h
        · exact hno k (by omega)
      refine br_f (nI_ge (by omega) (by omega)) (nm_r (pk_mul i 10) ⟨v1, br_c (fun z1 => ⟨v2, br_c (fun z2 => ?_) (fun z2 => nm_r (nI_1 i) ?_)⟩) (fun z1 => nm_r (nI_1 i) ?_)⟩)
      · rw [d1] at z1
        rw [d2] at z2
        exact K1 ⟨i, by omega, z1, z2⟩
      · rw [d2] at z2
        exact R (fun h => z2 h.2)
      · rw [d1] at z1
        exact R (fun h => z1 h.1)
end
theorem ie_anyE (L : List (Nat × (Nat → Int32))) (v w : Nat) (x y : Int32) : ((ie_es L).any (fun e => decide (e v = x) && decide (e w = y)) = true) ↔ ∃ k, k < (ie_es L).length ∧ ie_E L k v = x ∧ ie_E L k w = y := by
  rw [List.any_eq_true]
  constructor
  · rintro ⟨e, he, hp⟩
    rw [Bool.and_eq_true] at hp
    obtain ⟨k, hk⟩ := List.mem_iff_getElem?.mp he
    have hlt : k < (ie_es L).length := by
      obtain ⟨h, _⟩ := List.getElem?_eq_some_iff.mp hk
      exact h
    have hE : ie_E L k = e := Option.some.inj ((ie_E_at hlt).symm.trans hk)
    exact ⟨k, hlt, by rw [hE]; exact of_decide_eq_true hp.1, by rw [hE]; exact of_decide_eq_true hp.2⟩
  · rintro ⟨k, hk, h1, h2⟩
    refine ⟨ie_E L k, List.mem_iff_getElem?.mpr ⟨k, ie_E_at hk⟩, ?_⟩
    rw [Bool.and_eq_true]
    exact ⟨decide_eq_true h1, decide_eq_true h2⟩
end
section
/-! the relation, and what the two sides need for each call -/
abbrev ie_L (o a b : Nat → Int32) (c : Nat → Nat) (bg : Nat → Int32) : List (Nat × (Nat → Int32)) := ie_lv o a b c 11 (ie_m0 bg) ie_p0
theorem ie_n (o a b : Nat → Int32) (bg : Nat → Int32) {c : Nat → Nat} (hc : ie_cb c) : (ie_es (ie_L o a b c bg)).length ≤ 4200 := Nat.le_trans (ie_es_len _) (ie_len11 hc _)
/-- the same program, counts and beginnings on both sides; if the component has explored, its findings are those of the leaves -/
def i_Rel (_k : Nat) (u : SX) (v : SY) : Prop :=
  ∃ (ex sk ec : Int32) (o a b cn bg st nc wo fa en : Nat → Int32) (fg ln cm sk2 fs fo : Int32) (ap rg va hd tn cd lo hi lr : Nat → Int32) (c : Nat → Nat),
    u = (ex, sk, ec, o, a, b, cn, bg, st, nc, wo, fa, en, 42000) ∧ v = (fg, ln, cm, sk2, fs, fo, cn, o, a, b, bg, ap, rg, va, hd, tn, cd, lo, hi, lr) ∧ ie_cn c cn ∧ ie_cb c ∧ (ex = 0 ∨ (ex = 1 ∧ ie_XR (ie_L o a b c bg) sk fa en ec))
theorem i_up {k : Nat} {u : SX} {v : SY} (h : i_Rel k u v) : i_Rel (k + 5) u v := h
section
variable {ex sk ec : Int32} {o a b cn bg st nc wo fa en : Nat → Int32} {fg ln cm sk2 fs fo : Int32} {ap rg va hd tn cd lo hi lr : Nat → Int32} {c : Nat → Nat}
theorem i_mk (k : Nat) (hcn : ie_cn c cn) (hc : ie_cb c) (hX : ie_XR (ie_L o a b c bg) sk fa en ec) : i_Rel k (1, sk, ec, o, a, b, cn, bg, st, nc, wo, fa, en, 42000) (fg, ln, cm, sk2, fs, fo, cn, o, a, b, bg, ap, rg, va, hd, tn, cd, lo, hi, lr) :=
  ⟨1, sk, ec, o, a, b, cn, bg, st, nc, wo, fa, en, fg, ln, cm, sk2, fs, fo, ap, rg, va, hd, tn, cd, lo, hi, lr, c, rfl, rfl, hcn, hc, Or.inr ⟨rfl, hX⟩⟩
theorem i_mk0 (k : Nat) (hcn : ie_cn c cn) (hc : ie_cb c) : i_Rel k (0, sk, ec, o, a, b, cn, bg, st, nc, wo, fa, en, 42000) (fg, ln, cm, sk2, fs, fo, cn, o, a, b, bg, ap, rg, va, hd, tn, cd, lo, hi, lr) :=
  ⟨0, sk, ec, o, a, b, cn, bg, st, nc, wo, fa, en, fg, ln, cm, sk2, fs, fo, ap, rg, va, hd, tn, cd, lo, hi, lr, c, rfl, rfl, hcn, hc, Or.inl rfl⟩
theorem ix_exp2 {post : SX → Prop} (hcn : ie_cn c cn) (hc : ie_cb c) (hex : ex = 0 ∨ (ex = 1 ∧ ie_XR (ie_L o a b c bg) sk fa en ec))
    (K : ∀ (sk' ec' : Int32) (st' nc' wo' fa' en' : Nat → Int32), ie_XR (ie_L o a b c bg) sk' fa' en' ec' → post (1, sk', ec', o, a, b, cn, bg, st', nc', wo', fa', en', 42000)) :
    wpX_explore post (ex, sk, ec, o, a, b, cn, bg, st, nc, wo, fa, en, 42000) := by
  rcases hex with rfl | ⟨rfl, hX⟩
  · exact ix_explore hcn hc rfl K
  · exact br_f (by decide) (K sk ec st nc wo fa en hX)
end
theorem ie_cb_st {c : Nat → Nat} {t : Nat} (hc : ie_cb c) (ht : t < 3) (h5 : c t < 5) (h10 : c 0 + c 1 + c 2 < 10) : ie_cb (ie_st c t) := by
  obtain ⟨g0, g1, g2, g3⟩ := hc
  unfold ie_cb
  rcases ie_3 ht with rfl | rfl | rfl
  · rw [ie_st_s, ie_st_n c (show (1 : Nat) ≠ 0 by decide), ie_st_n c (show (2 : Nat) ≠ 0 by decide)]; omega
  · rw [ie_st_s, ie_st_n c (show (0 : Nat) ≠ 1 by decide), ie_st_n c (show (2 : Nat) ≠ 1 by decide)]; omega
  · rw [ie_st_s, ie_st_n c (show (0 : Nat) ≠ 2 by decide), ie_st_n c (show (1 : Nat) ≠ 2 by decide)]; omega
theorem ie_cn_st {c : Nat → Nat} {cn : Nat → Int32} {t : Nat} (h : ie_cn c cn) : ie_cn (ie_st c t) (upd cn t (nI (c t + 1))) := by
  intro s hs
  by_cases e : s = t
  · rw [e, pk_us, ie_st_s]
  · rw [pk_un e, ie_st_n c e]
    exact h s hs
def ie_dr (c : Nat → Nat) (t : Nat) : Nat → Nat := fun j => if j = t then 0 else c j
theorem ie_cb_dr {c : Nat → Nat} {t : Nat} (hc : ie_cb c) : ie_cb (ie_dr c t) := by
  obtain ⟨g0, g1, g2, g3⟩ := hc
  have e : ∀ j, ie_dr c t j ≤ c j := by
    intro j
    unfold ie_dr
    split
    · exact Nat.zero_le _
    · exact Nat.le_refl _
  have e0 := e 0
  have e1 := e 1
  have e2 := e 2
  unfold ie_cb
  omega
theorem ie_cn_dr {c : Nat → Nat} {cn : Nat → Int32} {t : Nat} (h : ie_cn c cn) : ie_cn (ie_dr c t) (upd cn t 0) := by
  intro s hs
  by_cases e : s = t
  · rw [e, pk_us, show ie_dr c t t = 0 from if_pos rfl]
    rfl
  · rw [pk_un e, show ie_dr c t s = c s from if_neg e]
    exact h s hs
theorem ie_bad {x : Int32} {n : Nat} (hn : n < 2 ^ 31) : (x < 0 ∨ nI n ≤ x) ∨ ∃ j : Nat, j < n ∧ x = nI j := by
  rcases pk_ix x hn with h | h | h
  · exact Or.inl (Or.inl h)
  · exact Or.inl (Or.inr h)
  · exact Or.inr h
end
section
/-! what is owed: the beginning, the changes, the questions -/
theorem i_vc0 : wpX_init (fun u => wpY_init (fun v => i_Rel 0 u v)) := by
  have h : (42000 : Int32).toNatClampNeg = 42000 := by decide
  refine ⟨by decide, nm_r h ⟨Nat.le_refl _, ?_⟩⟩
  refine i_mk0 (c := fun _ => 0) 0 (fun t _ => rfl) ⟨by decide, by decide, by decide, by decide⟩
theorem i_vc_emit {k : Nat} {u : SX} {v : SY} (I : i_Rel k u v) (hk : k + 5 ≤ 2560) (v1 : Int32) (v2 : Int32) (v3 : Int32) (v4 : Int32) : wpX_emit (fun r u' => wpY_emit (fun r' v' => r' = r ∧ i_Rel (k + 5) u' v') v v1 v2 v3 v4) u v1 v2 v3 v4 := by
  have I' : i_Rel (k + 5) u v := I
  obtain ⟨ex, sk, ec, o, a, b, cn, bg, st, nc, wo, fa, en, fg, ln, cm, sk2, fs, fo, ap, rg, va, hd, tn, cd, lo, hi, lr, c, rfl, rfl, hcn, hc, hex⟩ := I
  unfold wpX_emit
  dsimp only
  rcases ie_bad (x := v1) (n := 3) (by decide) with h | ⟨t, ht, rfl⟩
  · refine ix_thrN h (br_t rfl ?_)
    show wpY_emit _ _ _ _ _ _
    unfold wpY_emit
    dsimp only
    exact iy_thrN h (br_f (by decide) ⟨rfl, I'⟩)
  · have c5 : c t ≤ 5 := by
      obtain ⟨g0, g1, g2, g3⟩ := hc
      rcases ie_3 ht with rfl | rfl | rfl <;> omega
    have hs10 := hc.2.2.2
    have ct : (nI t).toNatClampNeg = t := nI_clamp (by omega)
    have vt : vp_in (nI t) 3 := vp_in_nI ht (by decide)
    have ec1 : cn (nI t).toNatClampNeg = nI (c t) := by rw [ct, hcn t ht]
    have es := ie_cn_sum hcn
    have e2 : nI t * 5 + nI (c t) = nI (t * 5 + c t) := by
      show nI t * nI 5 + nI (c t) = _
      rw [pk_mul, nI_add]
    refine ix_thr ht (br_f (by decide) (br_c (fun h0 => ?_) (fun h0 => br_c (fun h8 => ⟨vt, ?_⟩) (fun h8 => ?_))))
    · show wpY_emit _ _ _ _ _ _
      unfold wpY_emit
      dsimp only
      exact iy_thr ht (br_t rfl (br_t h0 ⟨rfl, I'⟩))
    · rw [ec1]
      refine pk_le 5 (c t) (fun h5 => ?_) (fun h5 => ?_)
      · show wpY_emit _ _ _ _ _ _
        unfold wpY_emit
        dsimp only
        refine iy_thr ht (br_t rfl (br_f h0 (br_t h8 ⟨vt, nm_r ec1 (br_t ?_ ⟨rfl, I'⟩)⟩)))
        rw [show c t = 5 by omega]
        rfl
      · unfold wpX_countOfAll
        dsimp only
        rw [es]
        have n5 : ¬ nI (c t) = 5 := fun z => by
          have z' : nI (c t) = nI 5 := z
          rw [nI_eq (by omega) (by decide)] at z'
          omega
        refine pk_lt (c 0 + c 1 + c 2) 10 (fun h10 => ⟨vt, nm_r e2 ?_⟩) (fun h10 => ?_)
        · have hi' : t * 5 + c t < 15 := by omega
          have vi : vp_in (nI (t * 5 + c t)) 15 := vp_in_nI hi' (by decide)
          have ci : (nI (t * 5 + c t)).toNatClampNeg = t * 5 + c t := nI_clamp (by omega)
          have n10 : ¬ nI (c 0 + c 1 + c 2) = 10 := fun z => by
            have z' : nI (c 0 + c 1 + c 2) = nI 10 := z
            rw [nI_eq (by omega) (by decide)] at z'
            omega
          rw [ci, ct, nI_1]
          refine ⟨vi, nm_e ⟨vi, nm_e ⟨vi, nm_e ⟨vt, vt, nm_e ⟨vt, ?_⟩⟩⟩⟩⟩
          rw [pk_us]
          show wpY_emit _ _ _ _ _ _
          unfold wpY_emit
          dsimp only
          refine iy_thr ht (br_t rfl (br_f h0 (br_t h8 ⟨vt, nm_r ec1 (br_f n5 ?_)⟩)))
          rw [es, e2, ci, ct, nI_1]
          refine br_f n10 ⟨vi, nm_e ⟨vi, nm_e ⟨vi, nm_e ⟨vt, nm_e ⟨rfl, ?_⟩⟩⟩⟩⟩
          exact i_mk0 (c := ie_st c t) (k + 5) (ie_cn_st hcn) (ie_cb_st hc ht (by omega) h10)
        · show wpY_emit _ _ _ _ _ _
          unfold wpY_emit
          dsimp only
          refine iy_thr ht (br_t rfl (br_f h0 (br_t h8 ⟨vt, nm_r ec1 (br_f n5 ?_)⟩)))
          rw [es, show c 0 + c 1 + c 2 = 10 by omega]
          exact br_t rfl ⟨rfl, I'⟩
    · show wpY_emit _ _ _ _ _ _
      unfold wpY_emit
      dsimp only
      exact iy_thr ht (br_t rfl (br_f h0 (br_f h8 ⟨rfl, I'⟩)))
theorem i_vc_begin {k : Nat} {u : SX} {v : SY} (I : i_Rel k u v) (hk : k + 5 ≤ 2560) (v1 : Int32) (v2 : Int32) : wpX_begin (fun r u' => wpY_begin (fun r' v' => r' = r ∧ i_Rel (k + 5) u' v') v v1 v2) u v1 v2 := by
  have I' : i_Rel (k + 5) u v := I
  obtain ⟨ex, sk, ec, o, a, b, cn, bg, st, nc, wo, fa, en, fg, ln, cm, sk2, fs, fo, ap, rg, va, hd, tn, cd, lo, hi, lr, c, rfl, rfl, hcn, hc, hex⟩ := I
  unfold wpX_begin
  dsimp only
  rcases ie_bad (x := v1) (n := 4) (by decide) with h | ⟨t, ht, rfl⟩
  · refine ix_varN h (br_t rfl ?_)
    show wpY_begin _ _ _ _
    unfold wpY_begin
    dsimp only
    exact iy_varN h (br_f (by decide) ⟨rfl, I'⟩)
  · have vt : vp_in (nI t) 4 := vp_in_nI ht (by decide)
    refine ix_var ht (br_f (by decide) ⟨vt, nm_e ⟨vt, nm_e ?_⟩⟩)
    show wpY_begin _ _ _ _
    unfold wpY_begin
    dsimp only
    exact iy_var ht (br_t rfl ⟨vt, nm_e ⟨vt, nm_e ⟨rfl, i_mk0 (k + 5) hcn hc⟩⟩⟩)
theorem i_vc_drop {k : Nat} {u : SX} {v : SY} (I : i_Rel k u v) (hk : k + 5 ≤ 2560) (v1 : Int32) : wpX_drop (fun r u' => wpY_drop (fun r' v' => r' = r ∧ i_Rel (k + 5) u' v') v v1) u v1 := by
  have I' : i_Rel (k + 5) u v := I
  obtain ⟨ex, sk, ec, o, a, b, cn, bg, st, nc, wo, fa, en, fg, ln, cm, sk2, fs, fo, ap, rg, va, hd, tn, cd, lo, hi, lr, c, rfl, rfl, hcn, hc, hex⟩ := I
  unfold wpX_drop
  dsimp only
  rcases ie_bad (x := v1) (n := 3) (by decide) with h | ⟨t, ht, rfl⟩
  · refine ix_thrN h (br_t rfl ?_)
    show wpY_drop _ _ _
    unfold wpY_drop
    dsimp only
    exact iy_thrN h (br_f (by decide) ⟨rfl, I'⟩)
  · have ct : (nI t).toNatClampNeg = t := nI_clamp (by omega)
    have vt : vp_in (nI t) 3 := vp_in_nI ht (by decide)
    refine ix_thr ht (br_f (by decide) ⟨vt, nm_e ⟨vt, nm_e ?_⟩⟩)
    show wpY_drop _ _ _
    unfold wpY_drop
    dsimp only
    refine iy_thr ht (br_t rfl ⟨vt, nm_e ⟨vt, nm_e ⟨rfl, ?_⟩⟩⟩)
    rw [ct]
    exact i_mk0 (c := ie_dr c t) (k + 5) (ie_cn_dr hcn) (ie_cb_dr hc)
theorem i_vc_canComplete {k : Nat} {u : SX} {v : SY} (I : i_Rel k u v) (hk : k + 5 ≤ 2560) : wpX_canComplete (fun r u' => wpY_canComplete (fun r' v' => r' = r ∧ i_Rel (k + 5) u' v') v) u := by
  obtain ⟨ex, sk, ec, o, a, b, cn, bg, st, nc, wo, fa, en, fg, ln, cm, sk2, fs, fo, ap, rg, va, hd, tn, cd, lo, hi, lr, c, rfl, rfl, hcn, hc, hex⟩ := I
  unfold wpX_canComplete
  dsimp only
  refine ix_exp2 hcn hc hex (fun sk' ec' st' nc' wo' fa' en' hX => ?_)
  have hn := ie_n o a b bg hc
  have hec := hX.2.2.1
  have Y : ∀ r : Int32, r = ie_bi (decide (0 < (ie_es (ie_L o a b c bg)).length)) → wpY_canComplete (fun r' v' => r' = r ∧ i_Rel (k + 5) (1, sk', ec', o, a, b, cn, bg, st', nc', wo', fa', en', 42000) v') (fg, ln, cm, sk2, fs, fo, cn, o, a, b, bg, ap, rg, va, hd, tn, cd, lo, hi, lr) := by
    intro r hr
    unfold wpY_canComplete
    dsimp only
    refine iy_explore (v := 0) (w := 0) (x := 0) (y := 0) (by decide) (by decide) hcn hc (fun fg' ln' cm' sk'' fs' fo' ap' rg' va' hd' tn' cd' lo' hi' lr' hY => ⟨?_, hY.1.trans hr.symm, i_mk (k + 5) hcn hc hX⟩)
    rw [hY.1]
    exact ie_nar _
  by_cases h : 0 < (ie_es (ie_L o a b c bg)).length
  · refine br_f ?_ (Y 1 (by rw [decide_eq_true h]; rfl))
    rw [hec]
    exact nI_nle h (by omega)
  · refine br_t ?_ (Y 0 (by rw [decide_eq_false h]; rfl))
    have hz : ec' ≤ 0 := by
      rw [hec, show (ie_es (ie_L o a b c bg)).length = 0 by omega]
      decide
    exact hz
theorem i_vc_canStick {k : Nat} {u : SX} {v : SY} (I : i_Rel k u v) (hk : k + 5 ≤ 2560) : wpX_canStick (fun r u' => wpY_canStick (fun r' v' => r' = r ∧ i_Rel (k + 5) u' v') v) u := by
  obtain ⟨ex, sk, ec, o, a, b, cn, bg, st, nc, wo, fa, en, fg, ln, cm, sk2, fs, fo, ap, rg, va, hd, tn, cd, lo, hi, lr, c, rfl, rfl, hcn, hc, hex⟩ := I
  unfold wpX_canStick
  dsimp only
  refine ix_exp2 hcn hc hex (fun sk' ec' st' nc' wo' fa' en' hX => ⟨?_, ?_⟩)
  · rw [hX.1]
    exact ie_nar _
  · show wpY_canStick _ _
    unfold wpY_canStick
    dsimp only
    refine iy_explore (v := 0) (w := 0) (x := 0) (y := 0) (by decide) (by decide) hcn hc (fun fg' ln' cm' sk'' fs' fo' ap' rg' va' hd' tn' cd' lo' hi' lr' hY => ⟨?_, hY.2.1.trans hX.1.symm, i_mk (k + 5) hcn hc hX⟩)
    rw [hY.2.1]
    exact ie_nar _
theorem i_vc_canFail {k : Nat} {u : SX} {v : SY} (I : i_Rel k u v) (hk : k + 5 ≤ 2560) (v1 : Int32) : wpX_canFail (fun r u' => wpY_canFail (fun r' v' => r' = r ∧ i_Rel (k + 5) u' v') v v1) u v1 := by
  have I' : i_Rel (k + 5) u v := I
  obtain ⟨ex, sk, ec, o, a, b, cn, bg, st, nc, wo, fa, en, fg, ln, cm, sk2, fs, fo, ap, rg, va, hd, tn, cd, lo, hi, lr, c, rfl, rfl, hcn, hc, hex⟩ := I
  unfold wpX_canFail
  dsimp only
  rcases ie_bad (x := v1) (n := 3) (by decide) with h | ⟨t, ht, rfl⟩
  · refine ix_thrN h (br_t rfl ?_)
    show wpY_canFail _ _ _
    unfold wpY_canFail
    dsimp only
    exact iy_thrN h (br_f (by decide) ⟨rfl, I'⟩)
  · have ct : (nI t).toNatClampNeg = t := nI_clamp (by omega)
    have vt : vp_in (nI t) 3 := vp_in_nI ht (by decide)
    refine ix_thr ht (br_f (by decide) (ix_exp2 hcn hc hex (fun sk' ec' st' nc' wo' fa' en' hX => ⟨vt, ?_, ?_⟩)))
    · have hz : narrow .boolean (.int (fa' (nI t).toNatClampNeg)) = .int (fa' (nI t).toNatClampNeg) := by
        rw [ct, hX.2.1 t ht]
        exact ie_nar _
      exact hz
    · show wpY_canFail _ _ _
      unfold wpY_canFail
      dsimp only
      refine iy_thr ht (br_t rfl (iy_explore (v := 0) (w := 0) (x := 0) (y := 0) (by decide) (by decide) hcn hc (fun fg' ln' cm' sk'' fs' fo' ap' rg' va' hd' tn' cd' lo' hi' lr' hY => ?_)))
      have hb := ie_fm_bit (ie_L o a b c bg) ht
      rw [← hY.2.2.1] at hb
      rw [ct, hX.2.1 t ht]
      have J : ∀ q : Bool, ie_has (2 + t) (ie_L o a b c bg) = q → i_Rel (k + 5) (1, sk', ec', o, a, b, cn, bg, st', nc', wo', fa', en', 42000) (fg', ln', cm', sk'', fs', fo', cn, o, a, b, bg, ap', rg', va', hd', tn', cd', lo', hi', lr') := fun _ _ => i_mk (k + 5) hcn hc hX
      cases hq : ie_has (2 + t) (ie_L o a b c bg)
      · rw [hq] at hb
        exact br_f (by rw [hb]; decide) ⟨rfl, J _ hq⟩
      · rw [hq] at hb
        exact br_t (by rw [hb]; decide) ⟨rfl, J _ hq⟩
end
section
/-! what is owed: the questions on ends -/
section
variable {ex sk ec : Int32} {o a b cn bg st nc wo fa en : Nat → Int32} {fg ln cm sk2 fs fo : Int32} {ap rg va hd tn cd lo hi lr : Nat → Int32} {c : Nat → Nat}
theorem ix_some {post : Int32 → SX → Prop} {v w : Nat} {x y : Int32} (hcn : ie_cn c cn) (hc : ie_cb c) (hex : ex = 0 ∨ (ex = 1 ∧ ie_XR (ie_L o a b c bg) sk fa en ec)) (hv : v < 4) (hw : w < 4)
    (K : ∀ (sk' ec' : Int32) (st' nc' wo' fa' en' : Nat → Int32), ie_XR (ie_L o a b c bg) sk' fa' en' ec' → post (ie_bi ((ie_es (ie_L o a b c bg)).any (fun e => decide (e v = x) && decide (e w = y)))) (1, sk', ec', o, a, b, cn, bg, st', nc', wo', fa', en', 42000)) :
    wpX_someEndHas post (ex, sk, ec, o, a, b, cn, bg, st, nc, wo, fa, en, 42000) (nI v) x (nI w) y := by
  have hn := ie_n o a b bg hc
  unfold wpX_someEndHas
  dsimp only
  refine ix_var hv (br_f (by decide) (ix_var hw (br_f (by decide) (ix_exp2 hcn hc hex (fun sk' ec' st' nc' wo' fa' en' hX => ?_)))))
  have R := K sk' ec' st' nc' wo' fa' en' hX
  have hat : ∀ k j, k < (ie_es (ie_L o a b c bg)).length → j < 10 → en' (k * 10 + j) = ie_E (ie_L o a b c bg) k j := fun k j h1 h2 => ie_XR_at hX h1 h2
  obtain ⟨_, _, rfl, _⟩ := hX
  refine ⟨(ie_es (ie_L o a b c bg)).length + 1, ix_some_l hn hv hw rfl (fun h => ?_) (fun h => ?_) (ie_es (ie_L o a b c bg)).length 0 (Nat.zero_add _) _ (Nat.lt_succ_self _) (fun k hk => absurd hk (Nat.not_lt_zero k))⟩
  · obtain ⟨k, hk, h1, h2⟩ := h
    rw [(ie_anyE (ie_L o a b c bg) v w x y).mpr ⟨k, hk, (hat k v hk (by omega)).symm.trans h1, (hat k w hk (by omega)).symm.trans h2⟩] at R
    exact R
  · have hf : (ie_es (ie_L o a b c bg)).any (fun e => decide (e v = x) && decide (e w = y)) = false := by
      refine Bool.eq_false_iff.mpr (fun z => ?_)
      obtain ⟨k, hk, h1, h2⟩ := (ie_anyE (ie_L o a b c bg) v w x y).mp z
      exact h k hk ⟨(hat k v hk (by omega)).trans h1, (hat k w hk (by omega)).trans h2⟩
    rw [hf] at R
    exact R
theorem ix_someN {post : Int32 → SX → Prop} {p q x y : Int32} (h : (p < 0 ∨ nI 4 ≤ p) ∨ (q < 0 ∨ nI 4 ≤ q)) (K : post 0 (ex, sk, ec, o, a, b, cn, bg, st, nc, wo, fa, en, 42000)) :
    wpX_someEndHas post (ex, sk, ec, o, a, b, cn, bg, st, nc, wo, fa, en, 42000) p x q y := by
  unfold wpX_someEndHas
  dsimp only
  rcases ie_bad (x := p) (n := 4) (by decide) with g | ⟨t, ht, rfl⟩
  · exact ix_varN g (br_t rfl K)
  · refine ix_var ht (br_f (by decide) (ix_varN (h.resolve_left ?_) (br_t rfl K)))
    rintro (z | z)
    · exact nI_pos (by omega) z
    · exact nI_ge ht (by decide) z
theorem iy_both {post : Int32 → SY → Prop} {v w : Nat} {x y : Int32} (hcn : ie_cn c cn) (hc : ie_cb c) (hv : v < 4) (hw : w < 4)
    (K : ∀ (fg' ln' cm' sk' fs' : Int32) (ap' rg' va' hd' tn' cd' lo' hi' lr' : Nat → Int32), post (ie_bi ((ie_es (ie_L o a b c bg)).any (fun e => decide (e v = x) && decide (e w = y)))) (fg', ln', cm', sk', fs', ie_bi ((ie_es (ie_L o a b c bg)).any (fun e => decide (e v = x) && decide (e w = y))), cn, o, a, b, bg, ap', rg', va', hd', tn', cd', lo', hi', lr')) :
    wpY_canEndBoth post (fg, ln, cm, sk2, fs, fo, cn, o, a, b, bg, ap, rg, va, hd, tn, cd, lo, hi, lr) (nI v) x (nI w) y := by
  unfold wpY_canEndBoth
  dsimp only
  refine iy_var hv (br_t rfl (iy_var hw (br_t rfl (iy_explore hv hw hcn hc (fun fg' ln' cm' sk' fs' fo' ap' rg' va' hd' tn' cd' lo' hi' lr' hY => ?_)))))
  have e := hY.2.2.2.1
  rw [e]
  exact ⟨ie_nar _, K _ _ _ _ _ _ _ _ _ _ _ _ _ _⟩
theorem iy_bothN {post : Int32 → SY → Prop} {p q x y : Int32} (h : (p < 0 ∨ nI 4 ≤ p) ∨ (q < 0 ∨ nI 4 ≤ q)) (K : post 0 (fg, ln, cm, sk2, fs, fo, cn, o, a, b, bg, ap, rg, va, hd, tn, cd, lo, hi, lr)) :
    wpY_canEndBoth post (fg, ln, cm, sk2, fs, fo, cn, o, a, b, bg, ap, rg, va, hd, tn, cd, lo, hi, lr) p x q y := by
  unfold wpY_canEndBoth
  dsimp only
  rcases ie_bad (x := p) (n := 4) (by decide) with g | ⟨t, ht, rfl⟩
  · exact iy_varN g (br_f (by decide) K)
  · refine iy_var ht (br_t rfl (iy_varN (h.resolve_left ?_) (br_f (by decide) K)))
    rintro (z | z)
    · exact nI_pos (by omega) z
    · exact nI_ge ht (by decide) z
end
theorem i_vc_canEnd {k : Nat} {u : SX} {v : SY} (I : i_Rel k u v) (hk : k + 5 ≤ 2560) (v1 : Int32) (v2 : Int32) : wpX_canEnd (fun r u' => wpY_canEnd (fun r' v' => r' = r ∧ i_Rel (k + 5) u' v') v v1 v2) u v1 v2 := by
  have I' : i_Rel (k + 5) u v := I
  obtain ⟨ex, sk, ec, o, a, b, cn, bg, st, nc, wo, fa, en, fg, ln, cm, sk2, fs, fo, ap, rg, va, hd, tn, cd, lo, hi, lr, c, rfl, rfl, hcn, hc, hex⟩ := I
  unfold wpX_canEnd
  dsimp only
  rcases ie_bad (x := v1) (n := 4) (by decide) with h | ⟨t, ht, rfl⟩
  · refine ix_someN (Or.inl h) ⟨ie_nar0, ?_⟩
    show wpY_canEnd _ _ _ _
    unfold wpY_canEnd
    dsimp only
    exact iy_bothN (Or.inl h) ⟨ie_nar0, rfl, I'⟩
  · refine ix_some hcn hc hex ht ht (fun sk' ec' st' nc' wo' fa' en' hX => ⟨ie_nar _, ?_⟩)
    show wpY_canEnd _ _ _ _
    unfold wpY_canEnd
    dsimp only
    exact iy_both hcn hc ht ht (fun _ _ _ _ _ _ _ _ _ _ _ _ _ _ => ⟨ie_nar _, rfl, i_mk (k + 5) hcn hc hX⟩)
theorem i_vc_canEndBoth {k : Nat} {u : SX} {v : SY} (I : i_Rel k u v) (hk : k + 5 ≤ 2560) (v1 : Int32) (v2 : Int32) (v3 : Int32) (v4 : Int32) : wpX_canEndBoth (fun r u' => wpY_canEndBoth (fun r' v' => r' = r ∧ i_Rel (k + 5) u' v') v v1 v2 v3 v4) u v1 v2 v3 v4 := by
  have I' : i_Rel (k + 5) u v := I
  obtain ⟨ex, sk, ec, o, a, b, cn, bg, st, nc, wo, fa, en, fg, ln, cm, sk2, fs, fo, ap, rg, va, hd, tn, cd, lo, hi, lr, c, rfl, rfl, hcn, hc, hex⟩ := I
  unfold wpX_canEndBoth
  dsimp only
  rcases ie_bad (x := v1) (n := 4) (by decide) with h | ⟨t, ht, rfl⟩
  · exact ix_someN (Or.inl h) ⟨ie_nar0, iy_bothN (Or.inl h) ⟨rfl, I'⟩⟩
  · rcases ie_bad (x := v3) (n := 4) (by decide) with h | ⟨s, hs, rfl⟩
    · exact ix_someN (Or.inr h) ⟨ie_nar0, iy_bothN (Or.inr h) ⟨rfl, I'⟩⟩
    · exact ix_some hcn hc hex ht hs (fun sk' ec' st' nc' wo' fa' en' hX => ⟨ie_nar _, iy_both hcn hc ht hs (fun _ _ _ _ _ _ _ _ _ _ _ _ _ _ => ⟨rfl, i_mk (k + 5) hcn hc hX⟩)⟩)
end
section
/-! what is owed: the questions on columns -/
theorem ie_mn_at {L : List (Nat × (Nat → Int32))} {sk ec : Int32} {fa en : Nat → Int32} (h : ie_XR L sk fa en ec) {j : Nat} (hj : j < 10) (hn : 0 < (ie_es L).length) : ie_mn (fun k => en (k * 10 + j)) ((ie_es L).length - 1) = ie_mn (fun k => ie_E L k j) ((ie_es L).length - 1) :=
  ie_mn_c _ (fun k hk => ie_XR_at h (by omega) hj)
theorem ie_mx_at {L : List (Nat × (Nat → Int32))} {sk ec : Int32} {fa en : Nat → Int32} (h : ie_XR L sk fa en ec) {j : Nat} (hj : j < 10) (hn : 0 < (ie_es L).length) : ie_mx (fun k => en (k * 10 + j)) ((ie_es L).length - 1) = ie_mx (fun k => ie_E L k j) ((ie_es L).length - 1) :=
  ie_mx_c _ (fun k hk => ie_XR_at h (by omega) hj)
theorem i_vc_least {k : Nat} {u : SX} {v : SY} (I : i_Rel k u v) (hk : k + 5 ≤ 2560) (v1 : Int32) : wpX_least (fun r u' => wpY_least (fun r' v' => r' = r ∧ i_Rel (k + 5) u' v') v v1) u v1 := by
  have I' : i_Rel (k + 5) u v := I
  obtain ⟨ex, sk, ec, o, a, b, cn, bg, st, nc, wo, fa, en, fg, ln, cm, sk2, fs, fo, ap, rg, va, hd, tn, cd, lo, hi, lr, c, rfl, rfl, hcn, hc, hex⟩ := I
  unfold wpX_least
  dsimp only
  rcases ie_bad (x := v1) (n := 4) (by decide) with h | ⟨t, ht, rfl⟩
  · refine ix_varN h (br_t rfl ?_)
    show wpY_least _ _ _
    unfold wpY_least
    dsimp only
    exact iy_varN h (br_f (by decide) ⟨rfl, I'⟩)
  · refine ix_var ht (br_f (by decide) (ix_exp2 hcn hc hex (fun sk' ec' st' nc' wo' fa' en' hX => ?_)))
    have hn := ie_n o a b bg hc
    have ct : (nI t).toNatClampNeg = t := nI_clamp (by omega)
    have Y : ∀ r : Int32, ((ie_es (ie_L o a b c bg)).length = 0 → r = -2147483647) → (0 < (ie_es (ie_L o a b c bg)).length → r = ie_mn (fun k => ie_E (ie_L o a b c bg) k t) ((ie_es (ie_L o a b c bg)).length - 1)) → wpY_least (fun r' v' => r' = r ∧ i_Rel (k + 5) (1, sk', ec', o, a, b, cn, bg, st', nc', wo', fa', en', 42000) v') (fg, ln, cm, sk2, fs, fo, cn, o, a, b, bg, ap, rg, va, hd, tn, cd, lo, hi, lr) (nI t) := by
      intro r h0 h1
      unfold wpY_least
      dsimp only
      refine iy_var ht (br_t rfl (iy_explore (v := 0) (w := 0) (x := 0) (y := 0) (by decide) (by decide) hcn hc (fun fg' ln' cm' sk'' fs' fo' ap' rg' va' hd' tn' cd' lo' hi' lr' hY => ?_)))
      dsimp only
      rw [hY.1]
      refine ie_bi_br (fun z => ⟨(h0 ?_).symm, i_mk (k + 5) hcn hc hX⟩) (fun z => ⟨vp_in_nI ht (by decide), ?_, i_mk (k + 5) hcn hc hX⟩)
      · have z0 : ¬ 0 < (ie_es (ie_L o a b c bg)).length := of_decide_eq_false z
        omega
      · have z' := of_decide_eq_true z
        rw [ct, h1 z']
        exact ((hY.2.2.2.2 z').1 t ht).1
    have hec := hX.2.2.1
    have hmn := fun hn0 => ie_mn_at hX (j := t) (by omega) hn0
    subst hec
    exact ix_least hn (by omega) rfl (fun h => Y _ (fun _ => rfl) (fun q => absurd q (by omega))) (fun h => Y _ (fun q => absurd q (by omega)) hmn)
theorem i_vc_greatest {k : Nat} {u : SX} {v : SY} (I : i_Rel k u v) (hk : k + 5 ≤ 2560) (v1 : Int32) : wpX_greatest (fun r u' => wpY_greatest (fun r' v' => r' = r ∧ i_Rel (k + 5) u' v') v v1) u v1 := by
  have I' : i_Rel (k + 5) u v := I
  obtain ⟨ex, sk, ec, o, a, b, cn, bg, st, nc, wo, fa, en, fg, ln, cm, sk2, fs, fo, ap, rg, va, hd, tn, cd, lo, hi, lr, c, rfl, rfl, hcn, hc, hex⟩ := I
  unfold wpX_greatest
  dsimp only
  rcases ie_bad (x := v1) (n := 4) (by decide) with h | ⟨t, ht, rfl⟩
  · refine ix_varN h (br_t rfl ?_)
    show wpY_greatest _ _ _
    unfold wpY_greatest
    dsimp only
    exact iy_varN h (br_f (by decide) ⟨rfl, I'⟩)
  · refine ix_var ht (br_f (by decide) (ix_exp2 hcn hc hex (fun sk' ec' st' nc' wo' fa' en' hX => ?_)))
    have hn := ie_n o a b bg hc
    have ct : (nI t).toNatClampNeg = t := nI_clamp (by omega)
    have Y : ∀ r : Int32, ((ie_es (ie_L o a b c bg)).length = 0 → r = -2147483647) → (0 < (ie_es (ie_L o a b c bg)).length → r = ie_mx (fun k => ie_E (ie_L o a b c bg) k t) ((ie_es (ie_L o a b c bg)).length - 1)) → wpY_greatest (fun r' v' => r' = r ∧ i_Rel (k + 5) (1, sk', ec', o, a, b, cn, bg, st', nc', wo', fa', en', 42000) v') (fg, ln, cm, sk2, fs, fo, cn, o, a, b, bg, ap, rg, va, hd, tn, cd, lo, hi, lr) (nI t) := by
      intro r h0 h1
      unfold wpY_greatest
      dsimp only
      refine iy_var ht (br_t rfl (iy_explore (v := 0) (w := 0) (x := 0) (y := 0) (by decide) (by decide) hcn hc (fun fg' ln' cm' sk'' fs' fo' ap' rg' va' hd' tn' cd' lo' hi' lr' hY => ?_)))
      dsimp only
      rw [hY.1]
      refine ie_bi_br (fun z => ⟨(h0 ?_).symm, i_mk (k + 5) hcn hc hX⟩) (fun z => ⟨vp_in_nI ht (by decide), ?_, i_mk (k + 5) hcn hc hX⟩)
      · have z0 : ¬ 0 < (ie_es (ie_L o a b c bg)).length := of_decide_eq_false z
        omega
      · have z' := of_decide_eq_true z
        rw [ct, h1 z']
        exact ((hY.2.2.2.2 z').1 t ht).2
    have hec := hX.2.2.1
    have hmn := fun hn0 => ie_mx_at hX (j := t) (by omega) hn0
    subst hec
    exact ix_greatest hn (by omega) rfl (fun h => Y _ (fun _ => rfl) (fun q => absurd q (by omega))) (fun h => Y _ (fun q => absurd q (by omega)) hmn)
theorem i_vc_leastRegister {k : Nat} {u : SX} {v : SY} (I : i_Rel k u v) (hk : k + 5 ≤ 2560) (v1 : Int32) (v2 : Int32) : wpX_leastRegister (fun r u' => wpY_leastRegister (fun r' v' => r' = r ∧ i_Rel (k + 5) u' v') v v1 v2) u v1 v2 := by
  have I' : i_Rel (k + 5) u v := I
  obtain ⟨ex, sk, ec, o, a, b, cn, bg, st, nc, wo, fa, en, fg, ln, cm, sk2, fs, fo, ap, rg, va, hd, tn, cd, lo, hi, lr, c, rfl, rfl, hcn, hc, hex⟩ := I
  unfold wpX_leastRegister
  dsimp only
  rcases ie_bad (x := v1) (n := 3) (by decide) with h | ⟨t, ht, rfl⟩
  · refine ix_thrN h (br_t rfl ?_)
    show wpY_leastRegister _ _ _ _
    unfold wpY_leastRegister
    dsimp only
    exact iy_thrN h (br_f (by decide) ⟨rfl, I'⟩)
  · have b1 := ie_b1_lt v2
    have e1 : 4 + nI t * 2 + (v2 &&& 1) = nI (4 + (t * 2 + ie_b1 v2)) := by
      rw [ie_b1_e]
      show nI 4 + nI t * nI 2 + nI _ = _
      rw [pk_mul, nI_add, nI_add, Nat.add_assoc]
    have e2 : nI t * 2 + (v2 &&& 1) = nI (t * 2 + ie_b1 v2) := by
      rw [ie_b1_e]
      show nI t * nI 2 + nI _ = _
      rw [pk_mul, nI_add]
    rw [e1]
    refine ix_thr ht (br_f (by decide) (ix_exp2 hcn hc hex (fun sk' ec' st' nc' wo' fa' en' hX => ?_)))
    have hn := ie_n o a b bg hc
    have ct : (nI (t * 2 + ie_b1 v2)).toNatClampNeg = t * 2 + ie_b1 v2 := nI_clamp (by omega)
    have Y : ∀ r : Int32, ((ie_es (ie_L o a b c bg)).length = 0 → r = -2147483647) → (0 < (ie_es (ie_L o a b c bg)).length → r = ie_mn (fun k => ie_E (ie_L o a b c bg) k (4 + (t * 2 + ie_b1 v2))) ((ie_es (ie_L o a b c bg)).length - 1)) → wpY_leastRegister (fun r' v' => r' = r ∧ i_Rel (k + 5) (1, sk', ec', o, a, b, cn, bg, st', nc', wo', fa', en', 42000) v') (fg, ln, cm, sk2, fs, fo, cn, o, a, b, bg, ap, rg, va, hd, tn, cd, lo, hi, lr) (nI t) v2 := by
      intro r h0 h1
      unfold wpY_leastRegister
      dsimp only
      refine iy_thr ht (br_t rfl (iy_explore (v := 0) (w := 0) (x := 0) (y := 0) (by decide) (by decide) hcn hc (fun fg' ln' cm' sk'' fs' fo' ap' rg' va' hd' tn' cd' lo' hi' lr' hY => ?_)))
      dsimp only
      rw [hY.1, e2, ct]
      refine ie_bi_br (fun z => ⟨(h0 ?_).symm, i_mk (k + 5) hcn hc hX⟩) (fun z => ⟨vp_in_nI (by omega) (by decide), ?_, i_mk (k + 5) hcn hc hX⟩)
      · have z0 : ¬ 0 < (ie_es (ie_L o a b c bg)).length := of_decide_eq_false z
        omega
      · have z' := of_decide_eq_true z
        rw [h1 z']
        exact (hY.2.2.2.2 z').2 (t * 2 + ie_b1 v2) (by omega)
    have hec := hX.2.2.1
    have hmn := fun hn0 => ie_mn_at hX (j := 4 + (t * 2 + ie_b1 v2)) (by omega) hn0
    subst hec
    exact ix_least hn (by omega) rfl (fun h => Y _ (fun _ => rfl) (fun q => absurd q (by omega))) (fun h => Y _ (fun q => absurd q (by omega)) hmn)
end
section
/-! what is owed: settled -/
section
variable {ex sk : Int32} {o a b cn bg st nc wo fa en : Nat → Int32} {fg ln cm sk2 fs fo : Int32} {ap rg va hd tn cd lo hi lr : Nat → Int32}
theorem ix_settled_l {post : Int32 → SX → Prop} {n : Nat} (hn : n ≤ 4200) (h0 : 0 < n)
    (K1 : (∀ j, j < 4 → ie_mn (fun k => en (k * 10 + j)) (n - 1) = ie_mx (fun k => en (k * 10 + j)) (n - 1)) → post 1 (ex, sk, nI n, o, a, b, cn, bg, st, nc, wo, fa, en, 42000))
    (K0 : (∃ j, j < 4 ∧ ¬ ie_mn (fun k => en (k * 10 + j)) (n - 1) = ie_mx (fun k => en (k * 10 + j)) (n - 1)) → post 0 (ex, sk, nI n, o, a, b, cn, bg, st, nc, wo, fa, en, 42000)) :
    ∀ d i : Nat, i + d = 4 → ∀ f : Nat, d < f → (∀ j, j < i → ie_mn (fun k => en (k * 10 + j)) (n - 1) = ie_mx (fun k => en (k * 10 + j)) (n - 1)) → wX_settled_42 post ex sk (nI n) o a b cn bg st nc wo fa en 42000 f (nI i) := by
  intro d
  induction d with
  | zero =>
    intro i hi f hf h
    obtain rfl : i = 4 := by omega
    cases f with
    | zero => omega
    | succ f => exact br_t (nI_le (a := 4) (Nat.le_refl 4) (by decide)) (K1 h)
  | succ d ih =>
    intro i hi f hf h
    cases f with
    | zero => omega
    | succ f =>
      refine br_f (nI_ge (b := 4) (by omega) (by decide)) (ix_least hn (by omega) rfl (fun q => absurd q (by omega)) (fun _ => ix_greatest hn (by omega) rfl (fun q => absurd q (by omega)) (fun _ => br_c (fun z => nm_r (nI_1 i) (ih (i + 1) (by omega) f (by omega) (fun j hj => ?_))) (fun z => K0 ⟨i, by omega, z⟩))))
      by_cases e : j = i
      · rw [e]
        exact z
      · exact h j (by omega)
theorem iy_settled_l {post : Int32 → SY → Prop}
    (K1 : (∀ j, j < 4 → lo j = hi j) → post 1 (fg, ln, cm, sk2, fs, fo, cn, o, a, b, bg, ap, rg, va, hd, tn, cd, lo, hi, lr))
    (K0 : (∃ j, j < 4 ∧ ¬ lo j = hi j) → post 0 (fg, ln, cm, sk2, fs, fo, cn, o, a, b, bg, ap, rg, va, hd, tn, cd, lo, hi, lr)) :
    ∀ d i : Nat, i + d = 4 → ∀ f : Nat, d < f → (∀ j, j < i → lo j = hi j) → wY_settled_26 post fg ln cm sk2 fs fo cn o a b bg ap rg va hd tn cd lo hi lr f (nI i) := by
  intro d
  induction d with
  | zero =>
    intro i hi f hf h
    obtain rfl : i = 4 := by omega
    cases f with
    | zero => omega
    | succ f => exact br_t (nI_le (a := 4) (Nat.le_refl 4) (by decide)) (K1 h)
  | succ d ih =>
    intro i hi' f hf h
    cases f with
    | zero => omega
    | succ f =>
      have ci : (nI i).toNatClampNeg = i := nI_clamp (by omega)
      have vi : vp_in (nI i) 4 := vp_in_nI (by omega) (by decide)
      have e1 : lo (nI i).toNatClampNeg = lo i := by rw [ci]
      have e2 : hi (nI i).toNatClampNeg = hi i := by rw [ci]
      refine br_f (nI_ge (b := 4) (by omega) (by decide)) ⟨vi, vi, br_c (fun z => nm_r (nI_1 i) (ih (i + 1) (by omega) f (by omega) (fun j hj => ?_))) (fun z => K0 ⟨i, by omega, ?_⟩)⟩
      · rw [e1, e2] at z
        by_cases e : j = i
        · rw [e]
          exact z
        · exact h j (by omega)
      · rw [e1, e2] at z
        exact z
end
theorem i_vc_settled {k : Nat} {u : SX} {v : SY} (I : i_Rel k u v) (hk : k + 5 ≤ 2560) : wpX_settled (fun r u' => wpY_settled (fun r' v' => r' = r ∧ i_Rel (k + 5) u' v') v) u := by
  obtain ⟨ex, sk, ec, o, a, b, cn, bg, st, nc, wo, fa, en, fg, ln, cm, sk2, fs, fo, ap, rg, va, hd, tn, cd, lo, hi, lr, c, rfl, rfl, hcn, hc, hex⟩ := I
  unfold wpX_settled
  dsimp only
  refine ix_exp2 hcn hc hex (fun sk' ec' st' nc' wo' fa' en' hX => ?_)
  dsimp only
  have hn := ie_n o a b bg hc
  have Y0 : (ie_has 1 (ie_L o a b c bg) = true ∨ ie_has 2 (ie_L o a b c bg) = true ∨ ie_has 3 (ie_L o a b c bg) = true ∨ ie_has 4 (ie_L o a b c bg) = true) → wpY_settled (fun r' v' => r' = 0 ∧ i_Rel (k + 5) (1, sk', ec', o, a, b, cn, bg, st', nc', wo', fa', en', 42000) v') (fg, ln, cm, sk2, fs, fo, cn, o, a, b, bg, ap, rg, va, hd, tn, cd, lo, hi, lr) := by
    intro h
    unfold wpY_settled
    dsimp only
    refine iy_explore (v := 0) (w := 0) (x := 0) (y := 0) (by decide) (by decide) hcn hc (fun fg' ln' cm' sk'' fs' fo' ap' rg' va' hd' tn' cd' lo' hi' lr' hY => ?_)
    dsimp only
    rw [hY.2.1]
    refine ie_bi_br (fun z => br_f ?_ ⟨rfl, i_mk (k + 5) hcn hc hX⟩) (fun z => ⟨rfl, i_mk (k + 5) hcn hc hX⟩)
    intro q
    rw [hY.2.2.1, ie_fm_0] at q
    obtain ⟨q2, q3, q4⟩ := q
    rw [z, q2, q3, q4] at h
    rcases h with h | h | h | h <;> exact absurd h (by decide)
  have YN : ∀ r : Int32, ie_has 1 (ie_L o a b c bg) = false → ie_has 2 (ie_L o a b c bg) = false → ie_has 3 (ie_L o a b c bg) = false → ie_has 4 (ie_L o a b c bg) = false → 0 < (ie_es (ie_L o a b c bg)).length →
      ((∀ j, j < 4 → ie_mn (fun k => ie_E (ie_L o a b c bg) k j) ((ie_es (ie_L o a b c bg)).length - 1) = ie_mx (fun k => ie_E (ie_L o a b c bg) k j) ((ie_es (ie_L o a b c bg)).length - 1)) → r = 1) →
      ((∃ j, j < 4 ∧ ¬ ie_mn (fun k => ie_E (ie_L o a b c bg) k j) ((ie_es (ie_L o a b c bg)).length - 1) = ie_mx (fun k => ie_E (ie_L o a b c bg) k j) ((ie_es (ie_L o a b c bg)).length - 1)) → r = 0) →
      wpY_settled (fun r' v' => r' = r ∧ i_Rel (k + 5) (1, sk', ec', o, a, b, cn, bg, st', nc', wo', fa', en', 42000) v') (fg, ln, cm, sk2, fs, fo, cn, o, a, b, bg, ap, rg, va, hd, tn, cd, lo, hi, lr) := by
    intro r z1 z2 z3 z4 hpos h1 h0
    unfold wpY_settled
    dsimp only
    refine iy_explore (v := 0) (w := 0) (x := 0) (y := 0) (by decide) (by decide) hcn hc (fun fg' ln' cm' sk'' fs' fo' ap' rg' va' hd' tn' cd' lo' hi' lr' hY => ?_)
    have hcol := (hY.2.2.2.2 hpos).1
    dsimp only
    have es : sk'' = 0 := by rw [hY.2.1, z1]; rfl
    have ef : fs' = 0 := by rw [hY.2.2.1]; exact (ie_fm_0 _).mpr ⟨z2, z3, z4⟩
    refine br_t es (br_t ef ⟨5, iy_settled_l (fun h => ⟨(h1 (fun j hj => ?_)).symm, i_mk (k + 5) hcn hc hX⟩) (fun h => ⟨(h0 ?_).symm, i_mk (k + 5) hcn hc hX⟩) 4 0 rfl 5 (by decide) (fun j hj => absurd hj (Nat.not_lt_zero j))⟩)
    · rw [← (hcol j hj).1, ← (hcol j hj).2]
      exact h j hj
    · obtain ⟨j, hj, hne⟩ := h
      exact ⟨j, hj, by rw [← (hcol j hj).1, ← (hcol j hj).2]; exact hne⟩
  have f0 := hX.2.1 0 (by decide)
  have f1 := hX.2.1 1 (by decide)
  have f2 := hX.2.1 2 (by decide)
  rw [hX.1, f0, f1, f2]
  refine ie_bi_br (fun z1 => ie_bi_br (fun z2 => ie_bi_br (fun z3 => ie_bi_br (fun z4 => ?_) (fun z4 => ?_)) (fun z3 => ?_)) (fun z2 => ?_)) (fun z1 => ?_)
  · have hlen : 0 < (ie_L o a b c bg).length := ie_pos o a b c hc 11 (ie_m0 bg) ie_p0 ⟨Nat.zero_le _, Nat.zero_le _, Nat.zero_le _⟩ rfl
    have hpos := ie_all0 (ie_L o a b c bg) (fun x hx => ie_code o a b c 11 (ie_m0 bg) ie_p0 x hx) z1 z2 z3 z4 hlen
    have hmn := fun j (hj : j < 4) => ie_mn_at hX (j := j) (by omega) hpos
    have hmx := fun j (hj : j < 4) => ie_mx_at hX (j := j) (by omega) hpos
    rw [← hX.1]
    have hec := hX.2.2.1
    subst hec
    refine ⟨5, ix_settled_l hn hpos (fun h => YN 1 z1 z2 z3 z4 hpos (fun _ => rfl) (fun q => ?_)) (fun h => YN 0 z1 z2 z3 z4 hpos (fun q => ?_) (fun _ => rfl)) 4 0 rfl 5 (by decide) (fun j hj => absurd hj (Nat.not_lt_zero j))⟩
    · obtain ⟨j, hj, hne⟩ := q
      exact absurd ((hmn j hj).symm.trans ((h j hj).trans (hmx j hj))) hne
    · obtain ⟨j, hj, hne⟩ := h
      exact absurd ((hmn j hj).trans ((q j hj).trans (hmx j hj).symm)) hne
  · rw [← hX.1]
    exact Y0 (Or.inr (Or.inr (Or.inr z4)))
  · rw [← hX.1]
    exact Y0 (Or.inr (Or.inr (Or.inl z3)))
  · rw [← hX.1]
    exact Y0 (Or.inr (Or.inl z2))
  · rw [← hX.1]
    exact Y0 (Or.inl z1)
end
