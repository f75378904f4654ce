/-! bits of small masks -/
theorem ie_shr1 : ∀ n, n < 8 → ∀ t, t < 3 → ((nI n) >>> ((nI t) &&& 31)) &&& 1 = nI (n / 2 ^ t % 2) := by decide +kernel
theorem ie_shlo : ∀ n, n < 8 → ∀ t, t < 3 → nI n ||| ((1 : Int32) <<< ((nI t) &&& 31)) = nI (ie_or n t) := by decide +kernel
theorem ie_and1 : ∀ n, n < 8 → ((nI n &&& 1 = 1) ↔ n % 2 = 1) := by decide +kernel
theorem ie_and2 : ∀ n, n < 8 → ((nI n &&& 2 = 2) ↔ n / 2 % 2 = 1) := by decide +kernel
theorem ie_fm_lt (L : List (Nat × (Nat → Int32))) : (if ie_has 2 L = true then 1 else 0) + (if ie_has 3 L = true then 2 else 0) + (if ie_has 4 L = true then 4 else 0) < 8 := by
  split <;> split <;> split <;> decide
theorem ie_fm_bit (L : List (Nat × (Nat → Int32))) {t : Nat} (ht : t < 3) : (ie_fm L >>> ((nI t) &&& 31)) &&& 1 = ie_bi (ie_has (2 + t) L) := by
  unfold ie_fm
  rw [ie_shr1 _ (ie_fm_lt L) t ht, ie_bits _ _ _ t ht]
  rcases ie_3 ht with rfl | rfl | rfl
  · cases ie_has 2 L <;> rfl
  · cases ie_has 3 L <;> rfl
  · cases ie_has 4 L <;> rfl
theorem ie_fm_0 (L : List (Nat × (Nat → Int32))) : ie_fm L = 0 ↔ ie_has 2 L = false ∧ ie_has 3 L = false ∧ ie_has 4 L = false := by
  unfold ie_fm
  cases ie_has 2 L <;> cases ie_has 3 L <;> cases ie_has 4 L <;> decide
