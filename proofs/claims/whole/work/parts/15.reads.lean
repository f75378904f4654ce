/-! what the component reads out of its ends -/
theorem ie_nar (z : Bool) : narrow .boolean (.int (ie_bi z)) = .int (ie_bi z) := by cases z <;> rfl
theorem ie_nar0 : narrow .boolean (.int (0 : Int32)) = .int 0 := rfl
theorem ie_nar1 : narrow .boolean (.int (1 : Int32)) = .int 1 := rfl
theorem ie_col (i j : Nat) : nI i * 10 + nI j = nI (i * 10 + j) := by
  show nI i * nI 10 + nI j = _
  rw [pk_mul, nI_add]
section
variable {ex sk : Int32} {o a b cn bg st nc wo fa en : Nat → Int32} {ne : Nat}
theorem ix_least_l {post : Int32 → Prop} {n j : Nat} (hn : n ≤ 4200) (hj : j < 10) (hne : ne = 42000) (K : post (ie_mn (fun k => en (k * 10 + j)) (n - 1))) :
    ∀ d i : Nat, i + 1 + d = n → ∀ f : Nat, d < f → wX_leastInColumn_19 post (nI j) ex sk (nI n) o a b cn bg st nc wo fa en ne f (ie_mn (fun k => en (k * 10 + j)) i) (nI (i + 1)) := by
  intro d
  induction d with
  | zero =>
    intro i hi f hf
    cases f with
    | zero => omega
    | succ f =>
      have e : n - 1 = i := by omega
      rw [e] at K
      exact br_t (nI_le (by omega) (by omega)) K
  | succ d ih =>
    intro i hi f hf
    cases f with
    | zero => omega
    | succ f =>
      have v : vp_in (nI (i + 1) * 10 + nI j) ne := by
        rw [ie_col]
        exact vp_in_nI (by omega) (by omega)
      have e : en (nI (i + 1) * 10 + nI j).toNatClampNeg = en ((i + 1) * 10 + j) := by
        rw [ie_col, nI_clamp (by omega)]
      have R := ih (i + 1) (by omega) f (by omega)
      have em : ie_mn (fun k => en (k * 10 + j)) (i + 1) = if en ((i + 1) * 10 + j) < ie_mn (fun k => en (k * 10 + j)) i then en ((i + 1) * 10 + j) else ie_mn (fun k => en (k * 10 + j)) i := rfl
      rw [em] at R
      refine br_f (nI_ge (by omega) (by omega)) ⟨v, nm_r e (br_c (fun z => nm_r (nI_1 (i + 1)) ?_) (fun z => nm_r (nI_1 (i + 1)) ?_))⟩
      · rw [if_neg (Int32.not_lt.mpr z)] at R
        exact R
      · rw [if_pos (Int32.not_le.mp z)] at R
        exact R
theorem ix_greatest_l {post : Int32 → Prop} {n j : Nat} (hn : n ≤ 4200) (hj : j < 10) (hne : ne = 42000) (K : post (ie_mx (fun k => en (k * 10 + j)) (n - 1))) :
    ∀ d i : Nat, i + 1 + d = n → ∀ f : Nat, d < f → wX_greatestInColumn_19 post (nI j) ex sk (nI n) o a b cn bg st nc wo fa en ne f (ie_mx (fun k => en (k * 10 + j)) i) (nI (i + 1)) := by
  intro d
  induction d with
  | zero =>
    intro i hi f hf
    cases f with
    | zero => omega
    | succ f =>
      have e : n - 1 = i := by omega
      rw [e] at K
      exact br_t (nI_le (by omega) (by omega)) K
  | succ d ih =>
    intro i hi f hf
    cases f with
    | zero => omega
    | succ f =>
      have v : vp_in (nI (i + 1) * 10 + nI j) ne := by
        rw [ie_col]
        exact vp_in_nI (by omega) (by omega)
      have e : en (nI (i + 1) * 10 + nI j).toNatClampNeg = en ((i + 1) * 10 + j) := by
        rw [ie_col, nI_clamp (by omega)]
      have R := ih (i + 1) (by omega) f (by omega)
      have em : ie_mx (fun k => en (k * 10 + j)) (i + 1) = if ie_mx (fun k => en (k * 10 + j)) i < en ((i + 1) * 10 + j) then en ((i + 1) * 10 + j) else ie_mx (fun k => en (k * 10 + j)) i := rfl
      rw [em] at R
      refine br_f (nI_ge (by omega) (by omega)) ⟨v, nm_r e (br_c (fun z => nm_r (nI_1 (i + 1)) ?_) (fun z => nm_r (nI_1 (i + 1)) ?_))⟩
      · rw [if_neg (Int32.not_lt.mpr z)] at R
        exact R
      · rw [if_pos (Int32.not_le.mp z)] at R
        exact R
theorem ix_least {post : Int32 → Prop} {n j : Nat} (hn : n ≤ 4200) (hj : j < 10) (hne : ne = 42000) (K0 : n = 0 → post (-2147483647)) (K : 0 < n → post (ie_mn (fun k => en (k * 10 + j)) (n - 1))) :
    wpX_leastInColumn post (ex, sk, nI n, o, a, b, cn, bg, st, nc, wo, fa, en, ne) (nI j) := by
  unfold wpX_leastInColumn
  dsimp only
  by_cases h : n = 0
  · subst h
    exact br_t rfl (K0 rfl)
  · have e : en (nI j).toNatClampNeg = ie_mn (fun k => en (k * 10 + j)) 0 := by
      show _ = en (0 * 10 + j)
      rw [nI_clamp (by omega), Nat.zero_mul, Nat.zero_add]
    exact br_f (nI_ne0 (by omega) (by omega)) ⟨vp_in_nI (by omega) (by omega), nm_r e ⟨n, ix_least_l hn hj hne (K (by omega)) (n - 1) 0 (by omega) n (by omega)⟩⟩
theorem ix_greatest {post : Int32 → Prop} {n j : Nat} (hn : n ≤ 4200) (hj : j < 10) (hne : ne = 42000) (K0 : n = 0 → post (-2147483647)) (K : 0 < n → post (ie_mx (fun k => en (k * 10 + j)) (n - 1))) :
    wpX_greatestInColumn post (ex, sk, nI n, o, a, b, cn, bg, st, nc, wo, fa, en, ne) (nI j) := by
  unfold wpX_greatestInColumn
  dsimp only
  by_cases h : n = 0
  · subst h
    exact br_t rfl (K0 rfl)
  · have e : en (nI j).toNatClampNeg = ie_mx (fun k => en (k * 10 + j)) 0 := by
      show _ = en (0 * 10 + j)
      rw [nI_clamp (by omega), Nat.zero_mul, Nat.zero_add]
    exact br_f (nI_ne0 (by omega) (by omega)) ⟨vp_in_nI (by omega) (by omega), nm_r e ⟨n, ix_greatest_l hn hj hne (K (by omega)) (n - 1) 0 (by omega) n (by omega)⟩⟩
theorem ix_some_l {post : Int32 → SX → Prop} {n v w : Nat} {x y : Int32} (hn : n ≤ 4200) (hv : v < 4) (hw : w < 4) (hne : ne = 42000)
    (K1 : (∃ k, k < n ∧ en (k * 10 + v) = x ∧ en (k * 10 + w) = y) → post 1 (ex, sk, nI n, o, a, b, cn, bg, st, nc, wo, fa, en, ne))
    (K0 : (∀ k, k < n → ¬ (en (k * 10 + v) = x ∧ en (k * 10 + w) = y)) → post 0 (ex, sk, nI n, o, a, b, cn, bg, st, nc, wo, fa, en, ne)) :
    ∀ d i : Nat, i + d = n → ∀ f : Nat, d < f → (∀ k, k < i → ¬ (en (k * 10 + v) = x ∧ en (k * 10 + w) = y)) → wX_someEndHas_25 post (nI v) x (nI w) y ex sk (nI n) o a b cn bg st nc wo fa en ne f (nI i) := by
  intro d
  induction d with
  | zero =>
    intro i hi f hf hno
    cases f with
    | zero => omega
    | succ f => exact br_t (nI_le (by omega) (by omega)) (K0 (fun k hk => hno k (by omega)))
  | succ d ih =>
    intro i hi f hf hno
    cases f with
    | zero => omega
    | succ f =>
      have e1 : nI (i * 10) + nI v = nI (i * 10 + v) := nI_add _ _
      have e2 : nI (i * 10) + nI w = nI (i * 10 + w) := nI_add _ _
      have v1 : vp_in (nI (i * 10) + nI v) ne := by
        rw [e1]
        exact vp_in_nI (by omega) (by omega)
      have v2 : vp_in (nI (i * 10) + nI w) ne := by
        rw [e2]
        exact vp_in_nI (by omega) (by omega)
      have d1 : en (nI (i * 10) + nI v).toNatClampNeg = en (i * 10 + v) := by
        rw [e1, nI_clamp (by omega)]
      have d2 : en (nI (i * 10) + nI w).toNatClampNeg = en (i * 10 + w) := by
        rw [e2, nI_clamp (by omega)]
      have R : ¬ (en (i * 10 + v) = x ∧ en (i * 10 + w) = y) → wX_someEndHas_25 post (nI v) x (nI w) y ex sk (nI n) o a b cn bg st nc wo fa en ne f (nI (i + 1)) := by
        intro h
        refine ih (i + 1) (by omega) f (by omega) (fun k hk => ?_)
        by_cases z : k = i
        · rw [z]
          exact h
        · exact hno k (by omega)
      refine br_f (nI_ge (by omega) (by omega)) (nm_r (pk_mul i 10) ⟨v1, br_c (fun z1 => ⟨v2, br_c (fun z2 => ?_) (fun z2 => nm_r (nI_1 i) ?_)⟩) (fun z1 => nm_r (nI_1 i) ?_)⟩)
      · rw [d1] at z1
        rw [d2] at z2
        exact K1 ⟨i, by omega, z1, z2⟩
      · rw [d2] at z2
        exact R (fun h => z2 h.2)
      · rw [d1] at z1
        exact R (fun h => z1 h.1)
end
theorem ie_anyE (L : List (Nat × (Nat → Int32))) (v w : Nat) (x y : Int32) : ((ie_es L).any (fun e => decide (e v = x) && decide (e w = y)) = true) ↔ ∃ k, k < (ie_es L).length ∧ ie_E L k v = x ∧ ie_E L k w = y := by
  rw [List.any_eq_true]
  constructor
  · rintro ⟨e, he, hp⟩
    rw [Bool.and_eq_true] at hp
    obtain ⟨k, hk⟩ := List.mem_iff_getElem?.mp he
    have hlt : k < (ie_es L).length := by
      obtain ⟨h, _⟩ := List.getElem?_eq_some_iff.mp hk
      exact h
    have hE : ie_E L k = e := Option.some.inj ((ie_E_at hlt).symm.trans hk)
    exact ⟨k, hlt, by rw [hE]; exact of_decide_eq_true hp.1, by rw [hE]; exact of_decide_eq_true hp.2⟩
  · rintro ⟨k, hk, h1, h2⟩
    refine ⟨ie_E L k, List.mem_iff_getElem?.mpr ⟨k, ie_E_at hk⟩, ?_⟩
    rw [Bool.and_eq_true]
    exact ⟨decide_eq_true h1, decide_eq_true h2⟩
