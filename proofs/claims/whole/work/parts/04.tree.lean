/-! the children of a node from one thread on; the mask of those that can go; the path to a node; a row of the component's states -/
section
variable (o a b : Nat → Int32) (c : Nat → Nat)
def ie_cs (f : (Nat → Int32) → (Nat → Nat) → List (Nat × (Nat → Int32))) (m : Nat → Int32) (p : Nat → Nat) (s : Nat) : List (Nat × (Nat → Int32)) :=
  if s = 0 then ie_ch o a b c f m p 0 ++ (ie_ch o a b c f m p 1 ++ ie_ch o a b c f m p 2) else if s = 1 then ie_ch o a b c f m p 1 ++ ie_ch o a b c f m p 2 else if s = 2 then ie_ch o a b c f m p 2 else []
theorem ie_cs_3 (f : (Nat → Int32) → (Nat → Nat) → List (Nat × (Nat → Int32))) (m : Nat → Int32) (p : Nat → Nat) : ie_cs o a b c f m p 3 = [] := rfl
theorem ie_cs_s (f : (Nat → Int32) → (Nat → Nat) → List (Nat × (Nat → Int32))) (m : Nat → Int32) (p : Nat → Nat) {s : Nat} (hs : s < 3) : ie_cs o a b c f m p s = ie_ch o a b c f m p s ++ ie_cs o a b c f m p (s + 1) := by
  rcases ie_3 hs with rfl | rfl | rfl
  · rfl
  · rfl
  · exact (List.append_nil _).symm
theorem ie_cs_lv {n : Nat} {m : Nat → Int32} {p : Nat → Nat} (h : ie_any o a b c m p = true) : ie_lv o a b c (n + 1) m p = ie_cs o a b c (ie_lv o a b c n) m p 0 := ie_lv_t o a b c h
def ie_mk (m : Nat → Int32) (p : Nat → Nat) : Nat := (if ie_can o a b c m p 0 = true then 1 else 0) + (if ie_can o a b c m p 1 = true then 2 else 0) + (if ie_can o a b c m p 2 = true then 4 else 0)
theorem ie_mk_lt (m : Nat → Int32) (p : Nat → Nat) : ie_mk o a b c m p < 8 := by
  unfold ie_mk
  split <;> split <;> split <;> decide
theorem ie_bits : ∀ (x y z : Bool) (t : Nat), t < 3 → ((if x = true then 1 else 0) + (if y = true then 2 else 0) + (if z = true then 4 else 0)) / 2 ^ t % 2 = if (if t = 0 then x else if t = 1 then y else z) = true then 1 else 0 := by
  intro x y z t ht
  rcases ie_3 ht with rfl | rfl | rfl <;> cases x <;> cases y <;> cases z <;> decide
theorem ie_mk_bit (m : Nat → Int32) (p : Nat → Nat) {t : Nat} (ht : t < 3) : ie_mk o a b c m p / 2 ^ t % 2 = if ie_can o a b c m p t = true then 1 else 0 := by
  unfold ie_mk
  rw [ie_bits _ _ _ t ht]
  rcases ie_3 ht with rfl | rfl | rfl <;> rfl
theorem ie_mk_0 (m : Nat → Int32) (p : Nat → Nat) : ie_mk o a b c m p = 0 ↔ ¬ ie_any o a b c m p = true := by
  unfold ie_mk ie_any
  cases ie_can o a b c m p 0 <;> cases ie_can o a b c m p 1 <;> cases ie_can o a b c m p 2 <;> decide
/-- the first thread that can go -/
def ie_t0 (m : Nat → Int32) (p : Nat → Nat) : Nat := if ie_can o a b c m p 0 = true then 0 else if ie_can o a b c m p 1 = true then 1 else 2
theorem ie_t0_lt (m : Nat → Int32) (p : Nat → Nat) : ie_t0 o a b c m p < 3 := by
  unfold ie_t0
  split
  · decide
  · split <;> decide
theorem ie_t0_can {m : Nat → Int32} {p : Nat → Nat} (h : ie_any o a b c m p = true) : ie_can o a b c m p (ie_t0 o a b c m p) = true := by
  unfold ie_any at h
  unfold ie_t0
  by_cases h0 : ie_can o a b c m p 0 = true
  · rw [if_pos h0]; exact h0
  · by_cases h1 : ie_can o a b c m p 1 = true
    · rw [if_neg h0, if_pos h1]; exact h1
    · rw [if_neg h0, if_neg h1]
      rw [Bool.or_eq_true, Bool.or_eq_true] at h
      rcases h with (h | h) | h
      · exact absurd h h0
      · exact absurd h h1
      · exact h
theorem ie_t0_cs (f : (Nat → Int32) → (Nat → Nat) → List (Nat × (Nat → Int32))) (m : Nat → Int32) (p : Nat → Nat) : ie_cs o a b c f m p 0 = ie_cs o a b c f m p (ie_t0 o a b c m p) := by
  unfold ie_t0
  by_cases h0 : ie_can o a b c m p 0 = true
  · rw [if_pos h0]
  · rw [ie_cs_s o a b c f m p (show 0 < 3 by decide), ie_ch_n o a b c h0, List.nil_append, if_neg h0]
    by_cases h1 : ie_can o a b c m p 1 = true
    · rw [if_pos h1]
    · rw [ie_cs_s o a b c f m p (show 0 + 1 < 3 by decide), ie_ch_n o a b c h1, List.nil_append, if_neg h1]
/-- the beginning -/
def ie_m0 (g : Nat → Int32) : Nat → Int32 := fun j => if j < 4 then g j else 0
def ie_p0 : Nat → Nat := fun _ => 0
def ie_path (g : Nat → Int32) : Nat → (Nat → Int32) → (Nat → Int32) → (Nat → Int32) → (Nat → Nat) → Prop
  | 0 => fun _ _ m p => m = ie_m0 g ∧ p = ie_p0
  | l + 1 => fun tn cd m p => ∃ m1 p1 t, ie_path g l tn cd m1 p1 ∧ t < 3 ∧ tn l = nI t ∧ cd l = nI (ie_mk o a b c m1 p1) ∧ ie_can o a b c m1 p1 t = true ∧ (¬ ie_fl o a b m1 p1 t = true) ∧ m = ie_nx o a b m1 t (t * 5 + p1 t) ∧ p = ie_st p1 t
theorem ie_path_c {g : Nat → Int32} : ∀ (l : Nat) {tn cd tn' cd' : Nat → Int32} {m : Nat → Int32} {p : Nat → Nat}, ie_path o a b c g l tn cd m p → (∀ j, j < l → tn' j = tn j) → (∀ j, j < l → cd' j = cd j) → ie_path o a b c g l tn' cd' m p := by
  intro l
  induction l with
  | zero => exact fun h _ _ => h
  | succ l ih =>
    intro tn cd tn' cd' m p h ht hd
    obtain ⟨m1, p1, t, h1, h2, h3, h4, h5⟩ := h
    exact ⟨m1, p1, t, ih h1 (fun j hj => ht j (by omega)) (fun j hj => hd j (by omega)), h2, (ht l (by omega)).trans h3, (hd l (by omega)).trans h4, h5⟩
end
/-- a row of states from r on holds the memory m and the progress p -/
def ie_row (s : Nat → Int32) (r : Nat) (m : Nat → Int32) (p : Nat → Nat) : Prop := (∀ j, j < 12 → s (r + j) = m j) ∧ ∀ t, t < 3 → s (r + (12 + t)) = nI (p t)
theorem ie_row_u {s m : Nat → Int32} {r k : Nat} {p : Nat → Nat} (x : Int32) (h : ie_row s r m p) (hk : k < 12) : ie_row (upd s (r + k) x) r (upd m k x) p := by
  refine ⟨fun j hj => ?_, fun t ht => ?_⟩
  · by_cases e : j = k
    · subst e
      rw [pk_us, pk_us]
    · rw [pk_un e, pk_un (show r + j ≠ r + k by omega)]
      exact h.1 j hj
  · rw [pk_un (show r + (12 + t) ≠ r + k by omega)]
    exact h.2 t ht
theorem ie_row_c {s s' m : Nat → Int32} {r r' : Nat} {p : Nat → Nat} (h : ie_row s r m p) (e : ∀ j, j < 15 → s' (r' + j) = s (r + j)) : ie_row s' r' m p :=
  ⟨fun j hj => (e j (by omega)).trans (h.1 j hj), fun t ht => (e (12 + t) (by omega)).trans (h.2 t ht)⟩
theorem ie_row_p {s m : Nat → Int32} {r t : Nat} {p : Nat → Nat} (h : ie_row s r m p) (ht : t < 3) : ie_row (upd s (r + (12 + t)) (nI (p t + 1))) r m (ie_st p t) := by
  refine ⟨fun j hj => ?_, fun q hq => ?_⟩
  · rw [pk_un (show r + j ≠ r + (12 + t) by omega)]
    exact h.1 j hj
  · by_cases e : q = t
    · subst e
      rw [pk_us, ie_st_s]
    · rw [pk_un (show r + (12 + q) ≠ r + (12 + t) by omega), ie_st_n p e]
      exact h.2 q hq
theorem ie_reg (r t : Nat) (x : Int32) : nI r + 4 + nI t * 2 + (x &&& 1) = nI (r + (4 + t * 2 + ie_b1 x)) := by
  rw [ie_b1_e]
  show nI r + nI 4 + nI t * nI 2 + nI _ = _
  rw [pk_mul, nI_add, nI_add, nI_add]
  exact congrArg nI (by omega)
theorem ie_lock (r : Nat) (x : Int32) : nI r + 10 + (x &&& 1) = nI (r + (10 + ie_b1 x)) := by
  rw [ie_b1_e]
  show nI r + nI 10 + nI _ = _
  rw [nI_add, nI_add]
  exact congrArg nI (by omega)
theorem ie_var (r : Nat) (x : Int32) : nI r + (x &&& 3) = nI (r + ie_b3 x) := by
  rw [ie_b3_e, nI_add]
theorem ie_T0 : vp_nar .boolean 0 = 0 := rfl
theorem ie_T1 : vp_nar .boolean 1 = 1 := rfl
/-- the reference's arrays hold the memory m and the progress p -/
def ie_ld (m : Nat → Int32) (p : Nat → Nat) (at' rg va hd : Nat → Int32) : Prop :=
  (∀ t, t < 3 → at' t = nI (p t)) ∧ (∀ i, i < 6 → rg i = m (4 + i)) ∧ (∀ i, i < 4 → va i = m i) ∧ ∀ i, i < 2 → (m (10 + i) = 0 ∧ hd i = -1) ∨ ∃ t, t < 3 ∧ m (10 + i) = nI (t + 1) ∧ hd i = nI t
theorem ie_ld_rg {m : Nat → Int32} {p : Nat → Nat} {at' rg va hd : Nat → Int32} {k : Nat} (x : Int32) (h : ie_ld m p at' rg va hd) (hk : k < 6) : ie_ld (upd m (4 + k) x) p at' (upd rg k x) va hd := by
  obtain ⟨h1, h2, h3, h4⟩ := h
  refine ⟨h1, fun i hi => ?_, fun i hi => ?_, fun i hi => ?_⟩
  · by_cases e : i = k
    · subst e
      rw [pk_us, pk_us]
    · rw [pk_un e, pk_un (show 4 + i ≠ 4 + k by omega)]
      exact h2 i hi
  · rw [pk_un (show i ≠ 4 + k by omega)]
    exact h3 i hi
  · rw [pk_un (show 10 + i ≠ 4 + k by omega)]
    exact h4 i hi
theorem ie_ld_va {m : Nat → Int32} {p : Nat → Nat} {at' rg va hd : Nat → Int32} {k : Nat} (x : Int32) (h : ie_ld m p at' rg va hd) (hk : k < 4) : ie_ld (upd m k x) p at' rg (upd va k x) hd := by
  obtain ⟨h1, h2, h3, h4⟩ := h
  refine ⟨h1, fun i hi => ?_, fun i hi => ?_, fun i hi => ?_⟩
  · rw [pk_un (show 4 + i ≠ k by omega)]
    exact h2 i hi
  · by_cases e : i = k
    · subst e
      rw [pk_us, pk_us]
    · rw [pk_un e, pk_un e]
      exact h3 i hi
  · rw [pk_un (show 10 + i ≠ k by omega)]
    exact h4 i hi
theorem ie_ld_hd {m : Nat → Int32} {p : Nat → Nat} {at' rg va hd : Nat → Int32} {k : Nat} {x y : Int32} (h : ie_ld m p at' rg va hd) (hk : k < 2) (hx : (x = 0 ∧ y = -1) ∨ ∃ t, t < 3 ∧ x = nI (t + 1) ∧ y = nI t) : ie_ld (upd m (10 + k) x) p at' rg va (upd hd k y) := by
  obtain ⟨h1, h2, h3, h4⟩ := h
  refine ⟨h1, fun i hi => ?_, fun i hi => ?_, fun i hi => ?_⟩
  · rw [pk_un (show 4 + i ≠ 10 + k by omega)]
    exact h2 i hi
  · rw [pk_un (show i ≠ 10 + k by omega)]
    exact h3 i hi
  · by_cases e : i = k
    · subst e
      rw [pk_us, pk_us]
      exact hx
    · rw [pk_un e, pk_un (show 10 + i ≠ 10 + k by omega)]
      exact h4 i hi
theorem ie_ld_at {m : Nat → Int32} {p : Nat → Nat} {at' rg va hd : Nat → Int32} {t : Nat} (h : ie_ld m p at' rg va hd) : ie_ld m (ie_st p t) (upd at' t (nI (p t + 1))) rg va hd := by
  obtain ⟨h1, h2, h3, h4⟩ := h
  refine ⟨fun i hi => ?_, h2, h3, h4⟩
  by_cases e : i = t
  · subst e
    rw [pk_us, ie_st_s]
  · rw [pk_un e, ie_st_n p e]
    exact h1 i hi
