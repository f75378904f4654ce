/-! the reference's search meets the interface -/
section
variable {post : SY → Prop} {v w : Nat} {x y : Int32} {cn o a b bg : Nat → Int32} {c : Nat → Nat}
theorem iy_r1 (hcn : ie_cn c cn) (hc : ie_cb c) (k l : Nat) (m : Nat → Int32) (p : Nat → Nat) (z : iy_V) (L : List (Nat × (Nat → Int32))) (hk : k < 4200) (hl : l ≤ 10) (hp : ie_ok c p) (hLD : iy_LD m p z) (hYR : iy_YR v w x y L z) (hany : ¬ ie_any o a b c m p = true)
    (K : ∀ z', ie_ag iy_tn iy_cd l z z' → iy_YR v w x y (L ++ [(ie_lc c p, m)]) z' → iy_Nx post v w x y cn o a b bg (k + 1) l z') : iy_Mid post v w x y cn o a b bg k l z := by
  obtain ⟨fg, ln, cm, sk, fs, fo, ap, rg, va, hd, tn, cd, lo, hi, lr⟩ := z
  intro f Q hf hQ f2 hf2 gv hgv
  have hld : ie_ld m p ap rg va hd := hLD
  have hyr : ie_YR v w x y L cm sk fs fo lo hi lr := hYR
  have cl : (nI l).toNatClampNeg = l := nI_clamp (by omega)
  have vl : vp_in (nI l) 11 := vp_in_nI (by omega) (by decide)
  have hm0 : ie_mk o a b c m p = 0 := (ie_mk_0 o a b c m p).mpr hany
  obtain ⟨h0, h1, h2⟩ := hp
  obtain ⟨g0, g1, g2, g3⟩ := hc
  have q0 : ap 0 = cn 0 ↔ p 0 = c 0 := by
    rw [hld.1 0 (by decide), hcn 0 (by decide), nI_eq (by omega) (by omega)]
  have q1 : ap 1 = cn 1 ↔ p 1 = c 1 := by
    rw [hld.1 1 (by decide), hcn 1 (by decide), nI_eq (by omega) (by omega)]
  have q2 : ap 2 = cn 2 ↔ p 2 = c 2 := by
    rw [hld.1 2 (by decide), hcn 2 (by decide), nI_eq (by omega) (by omega)]
  have ag : ∀ (fg' ln' cm' sk' fs' fo' : Int32) (lo' hi' lr' : Nat → Int32), ie_ag iy_tn iy_cd l (fg, ln, cm, sk, fs, fo, ap, rg, va, hd, tn, cd, lo, hi, lr) (fg', ln', cm', sk', fs', fo', ap, rg, va, hd, tn, upd cd l 0, lo', hi', lr') := fun _ _ _ _ _ _ _ _ _ => ⟨fun j hj => rfl, fun j hj => pk_un (by omega)⟩
  cases f2 with
  | zero => omega
  | succ f2 =>
    have HC : p 0 = c 0 ∧ p 1 = c 1 ∧ p 2 = c 2 → wY_makeRun_8 Q (nI gv) f2 1 (nI (l + 1)) fg (nI l) cm sk fs fo cn o a b bg ap rg va hd tn (upd cd l 0) lo hi lr := by
      intro e
      rw [show ie_lc c p = 0 from if_pos e] at K
      exact iy_tail (by decide) (hQ.1 fg (nI l) cm sk fs fo ap rg va hd tn _ lo hi lr m p L hld hyr (fun fo' lo' hi' lr' h => iy_97 hf (by omega) (K (fg, nI l, 1, sk, fs, fo', ap, rg, va, hd, tn, upd cd l 0, lo', hi', lr') (ag _ _ _ _ _ _ _ _ _) h))) (10 - l) (l + 1) (by omega) f2 (by omega)
    have HS : ¬ (p 0 = c 0 ∧ p 1 = c 1 ∧ p 2 = c 2) → wY_makeRun_128 Q (wY_makeRun_8 Q (nI gv) f2) (nI gv) (nI l) fg (nI l) cm sk fs fo cn o a b bg ap rg va hd tn (upd cd l 0) lo hi lr := by
      intro e
      rw [show ie_lc c p = 1 from if_neg e] at K
      exact br_t rfl (nm_r (nI_1 l) (iy_tail (by decide) (hQ.2.1 fg (nI l) cm sk fs fo ap rg va hd tn _ lo hi lr (iy_97 hf (by omega) (K (fg, nI l, cm, 1, fs, fo, ap, rg, va, hd, tn, upd cd l 0, lo, hi, lr) (ag _ _ _ _ _ _ _ _ _) (ie_YR_sk m hyr)))) (10 - l) (l + 1) (by omega) f2 (by omega)))
    refine iy_head hcn ⟨g0, g1, g2, g3⟩ ⟨h0, h1, h2⟩ hld (by omega) (fun z0 z1 hz => ?_)
    rw [hm0] at hz
    refine nm_r (hz.trans nI_0) ⟨vl, nm_r (by rw [cl]) (br_t rfl (br_c (fun e0 => br_c (fun e1 => br_c (fun e2 => ?_) (fun e2 => ?_)) (fun e1 => ?_)) (fun e0 => ?_)))⟩
    · exact br_f (by decide) (nm_r (nI_1 l) (HC ⟨q0.mp e0, q1.mp e1, q2.mp e2⟩))
    · exact HS (fun e => e2 (q2.mpr e.2.2))
    · exact HS (fun e => e1 (q1.mpr e.2.1))
    · exact HS (fun e => e0 (q0.mpr e.1))
theorem iy_r2 (hcn : ie_cn c cn) (hc : ie_cb c) (k l : Nat) (m : Nat → Int32) (p : Nat → Nat) (z : iy_V) (L : List (Nat × (Nat → Int32))) (hl : l < 10) (hp : ie_ok c p) (hLD : iy_LD m p z) (hYR : iy_YR v w x y L z) (hany : ie_any o a b c m p = true)
    (K : ∀ z', ie_ag iy_tn iy_cd l z z' → iy_tn z' l = nI (ie_t0 o a b c m p) → iy_cd z' l = nI (ie_mk o a b c m p) → iy_LD m p z' → iy_YR v w x y L z' → iy_C post v w x y cn o a b bg k l (ie_t0 o a b c m p) z') : iy_Mid post v w x y cn o a b bg k l z := by
  obtain ⟨fg, ln, cm, sk, fs, fo, ap, rg, va, hd, tn, cd, lo, hi, lr⟩ := z
  intro f Q hf hQ f2 hf2 gv hgv
  have hld : ie_ld m p ap rg va hd := hLD
  have hyr : ie_YR v w x y L cm sk fs fo lo hi lr := hYR
  have cl : (nI l).toNatClampNeg = l := nI_clamp (by omega)
  have vl : vp_in (nI l) 11 := vp_in_nI (by omega) (by decide)
  have h8 := ie_mk_lt o a b c m p
  have hm : ¬ nI (ie_mk o a b c m p) = 0 := by
    intro z
    rw [← nI_0, nI_eq (by omega) (by omega)] at z
    exact (ie_mk_0 o a b c m p).mp z hany
  have B0 := ie_mk_bit o a b c m p (show 0 < 3 by decide)
  have B1 := ie_mk_bit o a b c m p (show 1 < 3 by decide)
  rw [Nat.pow_zero, Nat.div_one] at B0
  rw [Nat.pow_one] at B1
  cases f2 with
  | zero => omega
  | succ f2 =>
    have R : ∀ t0 : Nat, ie_t0 o a b c m p = t0 → wY_makeRun_180 Q (wY_makeRun_8 Q (nI gv) f2) (nI gv) 0 (nI l) (nI t0) (nI l) fg (nI l) cm sk fs fo cn o a b bg ap rg va hd tn (upd cd l (nI (ie_mk o a b c m p))) lo hi lr := by
      intro t0 ht0
      refine ⟨vl, nm_r (by rw [cl]) ?_⟩
      rw [← ht0]
      exact K (fg, nI l, cm, sk, fs, fo, ap, rg, va, hd, upd tn l (nI (ie_t0 o a b c m p)), upd cd l (nI (ie_mk o a b c m p)), lo, hi, lr) ⟨fun j hj => pk_un (by omega), fun j hj => pk_un (by omega)⟩ pk_us pk_us hld hyr f Q hf hQ f2 (by omega) gv (by omega)
    refine iy_head hcn hc hp hld (by omega) (fun z0 z1 hz => ?_)
    refine nm_r hz ⟨vl, nm_r (by rw [cl]) (br_f hm (br_f (nI_nlt hgv (by omega)) (br_c (fun e0 => ?_) (fun e0 => br_c (fun e1 => ?_) (fun e1 => ?_)))))⟩
    · rw [ie_and1 _ h8, B0] at e0
      refine R 0 ?_
      by_cases hc0 : ie_can o a b c m p 0 = true
      · exact if_pos hc0
      · rw [if_neg hc0] at e0
        exact absurd e0 (by decide)
    · rw [ie_and1 _ h8, B0] at e0
      rw [ie_and2 _ h8, B1] at e1
      have hc0 : ¬ ie_can o a b c m p 0 = true := fun h => e0 (if_pos h)
      refine R 1 ?_
      by_cases hc1 : ie_can o a b c m p 1 = true
      · exact (if_neg hc0).trans (if_pos hc1)
      · rw [if_neg hc1] at e1
        exact absurd e1 (by decide)
    · rw [ie_and1 _ h8, B0] at e0
      rw [ie_and2 _ h8, B1] at e1
      have hc0 : ¬ ie_can o a b c m p 0 = true := fun h => e0 (if_pos h)
      have hc1 : ¬ ie_can o a b c m p 1 = true := fun h => e1 (if_pos h)
      exact R 2 ((if_neg hc0).trans (if_neg hc1))
theorem iy_r3 (hc : ie_cb c) (k l t : Nat) (m : Nat → Int32) (p : Nat → Nat) (z : iy_V) (L : List (Nat × (Nat → Int32))) (hl : l < 10) (ht : t < 3) (hp : ie_ok c p) (hLD : iy_LD m p z) (hYR : iy_YR v w x y L z) (htn : iy_tn z l = nI t) (hcan : ie_can o a b c m p t = true)
    (K1 : ie_fl o a b m p t = true → ∀ z', ie_ag iy_tn iy_cd (l + 1) z z' → iy_YR v w x y (L ++ [(2 + t, m)]) z' → iy_Nx post v w x y cn o a b bg (k + 1) (l + 1) z')
    (K2 : ¬ ie_fl o a b m p t = true → ∀ z', ie_ag iy_tn iy_cd (l + 1) z z' → iy_LD (ie_nx o a b m t (t * 5 + p t)) (ie_st p t) z' → iy_YR v w x y L z' → iy_Mid post v w x y cn o a b bg k (l + 1) z') : iy_C post v w x y cn o a b bg k l t z := by
  obtain ⟨fg, ln, cm, sk, fs, fo, ap, rg, va, hd, tn, cd, lo, hi, lr⟩ := z
  intro f Q hf hQ f2 hf2 gv hgv
  have hld : ie_ld m p ap rg va hd := hLD
  have hyr : ie_YR v w x y L cm sk fs fo lo hi lr := hYR
  refine iy_go181 hc hp hld (by omega) ht htn hcan (fun hfl ap' => ?_) (fun hfl ap' rg' va' hd' g1 => ?_)
  · have efs : fs ||| ((1 : Int32) <<< (nI t &&& 31)) = ie_fm (L ++ [(2 + t, m)]) := by
      rw [hyr.2.2.1, ie_fm_yes ht]
      exact ie_shlo _ (ie_fm_lt L) t ht
    refine iy_tail (by decide) (hQ.2.2 (nI t) (nI (l + 1)) cm sk fs fo ap' rg va hd tn cd lo hi lr ?_) (10 - l) (l + 1) (by omega) f2 (by omega)
    rw [efs]
    exact iy_97 hf (by omega) (K1 hfl (nI t, nI (l + 1), cm, sk, _, fo, ap', rg, va, hd, tn, cd, lo, hi, lr) ⟨fun _ _ => rfl, fun _ _ => rfl⟩ (ie_YR_fa m hyr))
  · exact K2 hfl (fg, nI (l + 1), cm, sk, fs, fo, ap', rg', va', hd', tn, cd, lo, hi, lr) ⟨fun _ _ => rfl, fun _ _ => rfl⟩ g1 hyr f Q hf hQ f2 hf2 gv hgv
theorem iy_r5 (k l t : Nat) (z : iy_V) (hl : l < 10) (ht : t < 3) (htn : iy_tn z l = nI t) (K : iy_In post v w x y cn o a b bg k l (t + 1) z) : iy_Nx post v w x y cn o a b bg k (l + 1) z := by
  obtain ⟨fg, ln, cm, sk, fs, fo, ap, rg, va, hd, tn, cd, lo, hi, lr⟩ := z
  intro f R hf hR f2 hf2
  have htn' : tn l = nI t := htn
  have cl : (nI l).toNatClampNeg = l := nI_clamp (by omega)
  have vl : vp_in (nI l) 11 := vp_in_nI (by omega) (by decide)
  rw [pk_m1]
  cases f2 with
  | zero => omega
  | succ f2 => exact br_f (nI_pos (by omega)) ⟨vl, nm_r (by rw [cl, htn', nI_1]) ⟨4, K f R hf hR f2 (by omega) 4 (by omega)⟩⟩
theorem iy_r6 (k l : Nat) (z : iy_V) (K : iy_Nx post v w x y cn o a b bg k l z) : iy_In post v w x y cn o a b bg k l 3 z := by
  obtain ⟨fg, ln, cm, sk, fs, fo, ap, rg, va, hd, tn, cd, lo, hi, lr⟩ := z
  intro f R hf hR f2 hf2 f3 hf3
  cases f3 with
  | zero => omega
  | succ f3 => exact br_t (nI_le (a := 3) (Nat.le_refl 3) (by decide)) (nm_e (K f R hf hR f2 hf2))
theorem iy_r7 (k l s : Nat) (m : Nat → Int32) (p : Nat → Nat) (z : iy_V) (hl : l < 10) (hs : s < 3) (hcd : iy_cd z l = nI (ie_mk o a b c m p)) (hcan : ¬ ie_can o a b c m p s = true) (K : iy_In post v w x y cn o a b bg k l (s + 1) z) : iy_In post v w x y cn o a b bg k l s z := by
  obtain ⟨fg, ln, cm, sk, fs, fo, ap, rg, va, hd, tn, cd, lo, hi, lr⟩ := z
  intro f R hf hR f2 hf2 f3 hf3
  have hcd' : cd l = nI (ie_mk o a b c m p) := hcd
  have cl : (nI l).toNatClampNeg = l := nI_clamp (by omega)
  have vl : vp_in (nI l) 11 := vp_in_nI (by omega) (by decide)
  have hb : ¬ ((cd (nI l).toNatClampNeg) >>> (nI s &&& 31)) &&& 1 = 1 := by
    rw [cl, hcd', ie_shr1 _ (ie_mk_lt o a b c m p) s hs, ie_mk_bit o a b c m p hs, if_neg hcan]
    decide
  cases f3 with
  | zero => omega
  | succ f3 => exact br_f (nI_ge (b := 3) hs (by decide)) ⟨vl, br_f hb (nm_r (nI_1 s) (K f R hf hR f2 hf2 f3 (by omega)))⟩
theorem iy_r8 (hv : v < 4) (hw : w < 4) (hcn : ie_cn c cn) (hc : ie_cb c) (k l s : Nat) (m : Nat → Int32) (p : Nat → Nat) (z : iy_V) (L : List (Nat × (Nat → Int32))) (hk : k < 4200) (hl : l < 10) (hs : s < 3) (hp : ie_ok c p) (hpath : ie_path o a b c bg l (iy_tn z) (iy_cd z) m p) (hcd : iy_cd z l = nI (ie_mk o a b c m p)) (hcan : ie_can o a b c m p s = true) (hYR : iy_YR v w x y L z)
    (K : ∀ z', ie_ag iy_tn iy_cd l z z' → iy_tn z' l = nI s → iy_cd z' l = nI (ie_mk o a b c m p) → iy_LD m p z' → iy_YR v w x y L z' → iy_C post v w x y cn o a b bg k l s z') : iy_In post v w x y cn o a b bg k l s z := by
  obtain ⟨fg, ln, cm, sk, fs, fo, ap, rg, va, hd, tn, cd, lo, hi, lr⟩ := z
  intro f R hf hR f2 hf2 f3 hf3
  have hyr : ie_YR v w x y L cm sk fs fo lo hi lr := hYR
  have hcd' : cd l = nI (ie_mk o a b c m p) := hcd
  have hpath' : ie_path o a b c bg l tn cd m p := hpath
  have cl : (nI l).toNatClampNeg = l := nI_clamp (by omega)
  have vl : vp_in (nI l) 11 := vp_in_nI (by omega) (by decide)
  have hb : ((cd (nI l).toNatClampNeg) >>> (nI s &&& 31)) &&& 1 = 1 := by
    rw [cl, hcd', ie_shr1 _ (ie_mk_lt o a b c m p) s hs, ie_mk_bit o a b c m p hs, if_pos hcan]
    rfl
  cases f3 with
  | zero => omega
  | succ f3 =>
    refine br_f (nI_ge (b := 3) hs (by decide)) ⟨vl, br_t hb ⟨vl, nm_r (by rw [cl]) ?_⟩⟩
    rw [nI_1]
    refine hR.2 (l + 1) fg ln cm sk fs fo ap rg va hd (upd tn l (nI s)) cd lo hi lr (by omega) (by omega) ?_
    cases f with
    | zero => omega
    | succ f =>
      refine iy_iter hv hw hk (fun Q hQ ap' rg' va' hd' hld0 => ?_)
      have hpath2 : ie_path o a b c bg l (upd tn l (nI s)) cd m p := ie_path_c o a b c l hpath' (fun j hj => pk_un (by omega)) (fun j hj => rfl)
      refine iy_replay (cd0 := cd) hcn hc (by omega) l m p (by omega) hpath2 (fun fg1 ln1 ap1 rg1 va1 hd1 cd1 f4 hag hld1 hf4 => ?_) fg ln ap' rg' va' hd' cd 12 hld0 (by decide)
      cases f4 with
      | zero => omega
      | succ f4 =>
        refine iy_at hcn hc hp hld1 (by omega) (by omega) (by omega) (ie_any_of o a b c hs hcan) ?_
        exact K (fg1, nI l, cm, sk, fs, fo, ap1, rg1, va1, hd1, upd tn l (nI s), upd cd1 l (nI (ie_mk o a b c m p)), lo, hi, lr) ⟨fun j hj => pk_un (by omega), fun j hj => (pk_un (by omega)).trans (hag j hj)⟩ pk_us pk_us hld1 hyr f Q (by omega) hQ f4 (by omega) (l + 1) (by omega)
theorem iy_YG (hv : v < 4) (hw : w < 4) (hcn : ie_cn c cn) (hc : ie_cb c) : ie_YG o a b c bg iy_tn iy_cd iy_LD (iy_YR v w x y) (iy_Mid post v w x y cn o a b bg) (iy_C post v w x y cn o a b bg) (iy_Nx post v w x y cn o a b bg) (iy_In post v w x y cn o a b bg) := by
  refine ⟨?_, ?_, ?_, ?_, ?_, ?_, ?_, ?_⟩
  · intro k l m p z L _ hk hl hp _ hLD hYR hany K
    exact iy_r1 hcn hc k l m p z L hk hl hp hLD hYR hany K
  · intro k l m p z L _ hk hl hp _ hLD hYR hany K
    exact iy_r2 hcn hc k l m p z L hl hp hLD hYR hany K
  · intro k l t m p z L _ hk hl ht hp hLD hYR htn hcan hfl K
    exact iy_r3 hc k l t m p z L hl ht hp hLD hYR htn hcan (fun _ => K) (fun h => absurd hfl h)
  · intro k l t m p z L _ hk hl ht hp hLD hYR htn hcan hfl K
    exact iy_r3 hc k l t m p z L hl ht hp hLD hYR htn hcan (fun h => absurd h hfl) (fun _ => K)
  · intro k l t z hl ht htn K
    exact iy_r5 k l t z hl ht htn K
  · intro k l z hl K
    exact iy_r6 k l z K
  · intro k l s m p z hl hs hcd hcan K
    exact iy_r7 k l s m p z hl hs hcd hcan K
  · intro k l s m p z L _ hk hl hs hp _ hpath hcd hcan hYR K
    exact iy_r8 hv hw hcn hc k l s m p z L hk hl hs hp hpath hcd hcan hYR K
theorem iy_explore {fg ln cm sk fs fo : Int32} {ap rg va hd tn cd lo hi lr : Nat → Int32} (hv : v < 4) (hw : w < 4) (hcn : ie_cn c cn) (hc : ie_cb c)
    (K : ∀ (fg' ln' cm' sk' fs' fo' : Int32) (ap' rg' va' hd' tn' cd' lo' hi' lr' : Nat → Int32), ie_YR v w x y (ie_lv o a b c 11 (ie_m0 bg) ie_p0) cm' sk' fs' fo' lo' hi' lr' → post (fg', ln', cm', sk', fs', fo', cn, o, a, b, bg, ap', rg', va', hd', tn', cd', lo', hi', lr')) :
    wpY_explore post (fg, ln, cm, sk, fs, fo, cn, o, a, b, bg, ap, rg, va, hd, tn, cd, lo, hi, lr) (nI v) x (nI w) y := by
  unfold wpY_explore
  dsimp only
  refine ⟨4201, ?_⟩
  refine iy_iter (k := 0) (f := 4200) hv hw (by decide) (fun Q hQ ap' rg' va' hd' hld => ?_)
  have h11 := ie_len11 (o := o) (a := a) (b := b) hc (ie_m0 bg)
  refine ie_Ytree o a b c bg iy_tn iy_cd iy_LD (iy_YR v w x y) (iy_Mid post v w x y cn o a b bg) (iy_C post v w x y cn o a b bg) (iy_Nx post v w x y cn o a b bg) (iy_In post v w x y cn o a b bg) (iy_YG hv hw hcn hc) hc 11 0 (ie_m0 bg) ie_p0 [] (fg, ln, 0, 0, 0, 0, ap', rg', va', hd', tn, cd, lo, hi, lr) ⟨rfl, rfl⟩ hld (ie_YR_0 v w x y lo hi lr) ⟨Nat.zero_le _, Nat.zero_le _, Nat.zero_le _⟩ rfl rfl (by rw [List.length_nil, Nat.zero_add]; exact h11) ?_ 4200 Q (by decide) hQ 12 (by decide) 0 (by decide)
  intro z _ hYR
  obtain ⟨fg, ln, cm, sk, fs, fo, ap, rg, va, hd, tn, cd, lo, hi, lr⟩ := z
  intro f R hf hR f2 hf2
  rw [List.nil_append] at hf hR hYR
  cases f2 with
  | zero => omega
  | succ f2 =>
    refine br_t (by decide) (hR.1 fg ln cm sk fs fo ap rg va hd tn cd lo hi lr ?_)
    have hP := K fg ln cm sk fs fo ap rg va hd tn cd lo hi lr hYR
    cases f with
    | zero => omega
    | succ f => exact br_c (fun _ => hP) (fun _ => br_t rfl hP)
end
