/-! the relation, and what the two sides need for each call -/
abbrev ie_L (o a b : Nat → Int32) (c : Nat → Nat) (bg : Nat → Int32) : List (Nat × (Nat → Int32)) := ie_lv o a b c 11 (ie_m0 bg) ie_p0
theorem ie_n (o a b : Nat → Int32) (bg : Nat → Int32) {c : Nat → Nat} (hc : ie_cb c) : (ie_es (ie_L o a b c bg)).length ≤ 4200 := Nat.le_trans (ie_es_len _) (ie_len11 hc _)
/-- the same program, counts and beginnings on both sides; if the component has explored, its findings are those of the leaves -/
def i_Rel (_k : Nat) (u : SX) (v : SY) : Prop :=
  ∃ (ex sk ec : Int32) (o a b cn bg st nc wo fa en : Nat → Int32) (fg ln cm sk2 fs fo : Int32) (ap rg va hd tn cd lo hi lr : Nat → Int32) (c : Nat → Nat),
    u = (ex, sk, ec, o, a, b, cn, bg, st, nc, wo, fa, en, 42000) ∧ v = (fg, ln, cm, sk2, fs, fo, cn, o, a, b, bg, ap, rg, va, hd, tn, cd, lo, hi, lr) ∧ ie_cn c cn ∧ ie_cb c ∧ (ex = 0 ∨ (ex = 1 ∧ ie_XR (ie_L o a b c bg) sk fa en ec))
theorem i_up {k : Nat} {u : SX} {v : SY} (h : i_Rel k u v) : i_Rel (k + 5) u v := h
section
variable {ex sk ec : Int32} {o a b cn bg st nc wo fa en : Nat → Int32} {fg ln cm sk2 fs fo : Int32} {ap rg va hd tn cd lo hi lr : Nat → Int32} {c : Nat → Nat}
theorem i_mk (k : Nat) (hcn : ie_cn c cn) (hc : ie_cb c) (hX : ie_XR (ie_L o a b c bg) sk fa en ec) : i_Rel k (1, sk, ec, o, a, b, cn, bg, st, nc, wo, fa, en, 42000) (fg, ln, cm, sk2, fs, fo, cn, o, a, b, bg, ap, rg, va, hd, tn, cd, lo, hi, lr) :=
  ⟨1, sk, ec, o, a, b, cn, bg, st, nc, wo, fa, en, fg, ln, cm, sk2, fs, fo, ap, rg, va, hd, tn, cd, lo, hi, lr, c, rfl, rfl, hcn, hc, Or.inr ⟨rfl, hX⟩⟩
theorem i_mk0 (k : Nat) (hcn : ie_cn c cn) (hc : ie_cb c) : i_Rel k (0, sk, ec, o, a, b, cn, bg, st, nc, wo, fa, en, 42000) (fg, ln, cm, sk2, fs, fo, cn, o, a, b, bg, ap, rg, va, hd, tn, cd, lo, hi, lr) :=
  ⟨0, sk, ec, o, a, b, cn, bg, st, nc, wo, fa, en, fg, ln, cm, sk2, fs, fo, ap, rg, va, hd, tn, cd, lo, hi, lr, c, rfl, rfl, hcn, hc, Or.inl rfl⟩
theorem ix_exp2 {post : SX → Prop} (hcn : ie_cn c cn) (hc : ie_cb c) (hex : ex = 0 ∨ (ex = 1 ∧ ie_XR (ie_L o a b c bg) sk fa en ec))
    (K : ∀ (sk' ec' : Int32) (st' nc' wo' fa' en' : Nat → Int32), ie_XR (ie_L o a b c bg) sk' fa' en' ec' → post (1, sk', ec', o, a, b, cn, bg, st', nc', wo', fa', en', 42000)) :
    wpX_explore post (ex, sk, ec, o, a, b, cn, bg, st, nc, wo, fa, en, 42000) := by
  rcases hex with rfl | ⟨rfl, hX⟩
  · exact ix_explore hcn hc rfl K
  · exact br_f (by decide) (K sk ec st nc wo fa en hX)
end
theorem ie_cb_st {c : Nat → Nat} {t : Nat} (hc : ie_cb c) (ht : t < 3) (h5 : c t < 5) (h10 : c 0 + c 1 + c 2 < 10) : ie_cb (ie_st c t) := by
  obtain ⟨g0, g1, g2, g3⟩ := hc
  unfold ie_cb
  rcases ie_3 ht with rfl | rfl | rfl
  · rw [ie_st_s, ie_st_n c (show (1 : Nat) ≠ 0 by decide), ie_st_n c (show (2 : Nat) ≠ 0 by decide)]; omega
  · rw [ie_st_s, ie_st_n c (show (0 : Nat) ≠ 1 by decide), ie_st_n c (show (2 : Nat) ≠ 1 by decide)]; omega
  · rw [ie_st_s, ie_st_n c (show (0 : Nat) ≠ 2 by decide), ie_st_n c (show (1 : Nat) ≠ 2 by decide)]; omega
theorem ie_cn_st {c : Nat → Nat} {cn : Nat → Int32} {t : Nat} (h : ie_cn c cn) : ie_cn (ie_st c t) (upd cn t (nI (c t + 1))) := by
  intro s hs
  by_cases e : s = t
  · rw [e, pk_us, ie_st_s]
  · rw [pk_un e, ie_st_n c e]
    exact h s hs
def ie_dr (c : Nat → Nat) (t : Nat) : Nat → Nat := fun j => if j = t then 0 else c j
theorem ie_cb_dr {c : Nat → Nat} {t : Nat} (hc : ie_cb c) : ie_cb (ie_dr c t) := by
  obtain ⟨g0, g1, g2, g3⟩ := hc
  have e : ∀ j, ie_dr c t j ≤ c j := by
    intro j
    unfold ie_dr
    split
    · exact Nat.zero_le _
    · exact Nat.le_refl _
  have e0 := e 0
  have e1 := e 1
  have e2 := e 2
  unfold ie_cb
  omega
theorem ie_cn_dr {c : Nat → Nat} {cn : Nat → Int32} {t : Nat} (h : ie_cn c cn) : ie_cn (ie_dr c t) (upd cn t 0) := by
  intro s hs
  by_cases e : s = t
  · rw [e, pk_us, show ie_dr c t t = 0 from if_pos rfl]
    rfl
  · rw [pk_un e, show ie_dr c t s = c s from if_neg e]
    exact h s hs
theorem ie_bad {x : Int32} {n : Nat} (hn : n < 2 ^ 31) : (x < 0 ∨ nI n ≤ x) ∨ ∃ j : Nat, j < n ∧ x = nI j := by
  rcases pk_ix x hn with h | h | h
  · exact Or.inl (Or.inl h)
  · exact Or.inl (Or.inr h)
  · exact Or.inr h
