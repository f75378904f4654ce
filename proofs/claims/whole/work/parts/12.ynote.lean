/-! the reference notes an end; it starts a run -/
section
variable {fg ln cm sk fs fo : Int32} {cn o a b bg ap rg va hd tn cd lo hi lr : Nat → Int32}
theorem iy_87 {post : SY → Prop} {J : Int32 → (Nat → Int32) → (Nat → Int32) → (Nat → Int32) → (Nat → Int32) → (Nat → Int32) → (Nat → Int32) → (Nat → Int32) → (Nat → Int32) → (Nat → Int32) → (Nat → Int32) → (Nat → Int32) → (Nat → Int32) → (Nat → Int32) → (Nat → Int32) → Prop} {x1 x2 x3 x4 : Int32} {j : Nat} (hj : j < 4)
    (K : J (nI (j + 1)) cn o a b bg ap rg va hd tn cd lo (upd hi j (va j)) lr) :
    wY_note_87 post J x1 x2 x3 x4 (nI j) (nI j) fg ln cm sk fs fo cn o a b bg ap rg va hd tn cd lo hi lr := by
  have cj : (nI j).toNatClampNeg = j := nI_clamp (by omega)
  have vj : vp_in (nI j) 4 := vp_in_nI hj (by decide)
  unfold wY_note_87
  rw [cj]
  exact ⟨vj, vj, nm_e (nm_r (nI_1 j) K)⟩
theorem iy_56 {post : SY → Prop} {J : Int32 → (Nat → Int32) → (Nat → Int32) → (Nat → Int32) → (Nat → Int32) → (Nat → Int32) → (Nat → Int32) → (Nat → Int32) → (Nat → Int32) → (Nat → Int32) → (Nat → Int32) → (Nat → Int32) → (Nat → Int32) → (Nat → Int32) → (Nat → Int32) → Prop} {x1 x2 x3 x4 z : Int32} {j : Nat} (hj : j < 4)
    (K : J (nI (j + 1)) cn o a b bg ap rg va hd tn cd (upd lo j z) (upd hi j (ie_h1 cm (va j) (hi j))) lr) :
    wY_note_56 post J x1 x2 x3 x4 (nI j) z (nI j) fg ln cm sk fs fo cn o a b bg ap rg va hd tn cd lo hi lr := by
  have cj : (nI j).toNatClampNeg = j := nI_clamp (by omega)
  have vj : vp_in (nI j) 4 := vp_in_nI hj (by decide)
  unfold ie_h1 at K
  unfold wY_note_56
  rw [cj]
  refine ⟨vj, nm_e (br_c (fun h0 => ?_) (fun h0 => ⟨vj, vj, br_c (fun z => ⟨vj, vj, nm_e (nm_r (nI_1 j) ?_)⟩) (fun z => ?_)⟩))⟩
  · rw [if_pos (Or.inl h0)] at K
    exact iy_87 hj K
  · rw [if_neg (fun r => r.elim h0 (Int32.not_lt.mpr z))] at K
    exact K
  · rw [if_pos (Or.inr (Int32.not_le.mp z))] at K
    exact iy_87 hj K
theorem iy_3 {post : SY → Prop} {x1 x2 x3 x4 : Int32} {lo0 hi0 : Nat → Int32}
    (K : ∀ lo' hi', (∀ i, i < 4 → lo' i = ie_l1 cm (va i) (lo0 i)) → (∀ i, i < 4 → hi' i = ie_h1 cm (va i) (hi0 i)) → ∃ n, wY_note_114 post x1 x2 x3 x4 fg ln cm sk fs fo n 0 cn o a b bg ap rg va hd tn cd lo' hi' lr) :
    ∀ d j : Nat, j + d = 4 → ∀ n : Nat, d < n → ∀ lo hi : Nat → Int32, (∀ i, i < 4 → lo i = if i < j then ie_l1 cm (va i) (lo0 i) else lo0 i) → (∀ i, i < 4 → hi i = if i < j then ie_h1 cm (va i) (hi0 i) else hi0 i) →
      wY_note_3 post x1 x2 x3 x4 fg ln cm sk fs fo n (nI j) cn o a b bg ap rg va hd tn cd lo hi lr := by
  intro d
  induction d with
  | zero =>
    intro j hj n hn lo hi h1 h2
    obtain rfl : j = 4 := by omega
    cases n with
    | zero => omega
    | succ n => exact br_t (nI_le (a := 4) (Nat.le_refl 4) (by decide)) (K lo hi (fun i hi4 => (h1 i hi4).trans (if_pos hi4)) (fun i hi4 => (h2 i hi4).trans (if_pos hi4)))
  | succ d ih =>
    intro j hj n hn lo hi h1 h2
    cases n with
    | zero => omega
    | succ n =>
      have cj : (nI j).toNatClampNeg = j := nI_clamp (by omega)
      have vj : vp_in (nI j) 4 := vp_in_nI (by omega) (by decide)
      have el : lo j = lo0 j := (h1 j (by omega)).trans (if_neg (Nat.lt_irrefl j))
      have eh : hi j = hi0 j := (h2 j (by omega)).trans (if_neg (Nat.lt_irrefl j))
      have R := ih (j + 1) (by omega) n (by omega) (upd lo j (ie_l1 cm (va j) (lo j))) (upd hi j (ie_h1 cm (va j) (hi j))) (fun i hi4 => by
          by_cases z : i = j
          · rw [z, pk_us, if_pos (Nat.lt_succ_self j), el]
          · rw [pk_un z, h1 i hi4]
            by_cases y : i < j
            · rw [if_pos y, if_pos (by omega)]
            · rw [if_neg y, if_neg (by omega)]) (fun i hi4 => by
          by_cases z : i = j
          · rw [z, pk_us, if_pos (Nat.lt_succ_self j), eh]
          · rw [pk_un z, h2 i hi4]
            by_cases y : i < j
            · rw [if_pos y, if_pos (by omega)]
            · rw [if_neg y, if_neg (by omega)])
      have e1 : va (nI j).toNatClampNeg = va j := by rw [cj]
      have e2 : lo (nI j).toNatClampNeg = lo j := by rw [cj]
      unfold ie_l1 at R
      refine br_f (nI_ge (b := 4) (by omega) (by decide)) (br_c (fun h0 => ⟨vj, ?_⟩) (fun h0 => ⟨vj, vj, br_c (fun z => ⟨vj, ?_⟩) (fun z => ⟨vj, ?_⟩)⟩))
      · rw [if_pos (Or.inl h0)] at R
        rw [e1]
        exact iy_56 (by omega) R
      · rw [e1, e2] at z
        rw [if_neg (fun r => r.elim h0 (Int32.not_lt.mpr z))] at R
        rw [e2]
        exact iy_56 (by omega) R
      · rw [e1, e2] at z
        rw [if_pos (Or.inr (Int32.not_le.mp z))] at R
        rw [e1]
        exact iy_56 (by omega) R
theorem iy_151 {post : SY → Prop} {J : Int32 → (Nat → Int32) → (Nat → Int32) → (Nat → Int32) → (Nat → Int32) → (Nat → Int32) → (Nat → Int32) → (Nat → Int32) → (Nat → Int32) → (Nat → Int32) → (Nat → Int32) → (Nat → Int32) → (Nat → Int32) → (Nat → Int32) → (Nat → Int32) → Prop} {x1 x2 x3 x4 : Int32} {j : Nat} (hj : j < 6)
    (K : J (nI (j + 1)) cn o a b bg ap rg va hd tn cd lo hi (upd lr j (rg j))) :
    wY_note_151 post J x1 x2 x3 x4 (nI j) (nI j) fg ln cm sk fs fo cn o a b bg ap rg va hd tn cd lo hi lr := by
  have cj : (nI j).toNatClampNeg = j := nI_clamp (by omega)
  have vj : vp_in (nI j) 6 := vp_in_nI hj (by decide)
  unfold wY_note_151
  rw [cj]
  exact ⟨vj, vj, nm_e (nm_r (nI_1 j) K)⟩
theorem iy_114 {post : SY → Prop} {v w : Nat} {x y : Int32} {lr0 : Nat → Int32} (hv : v < 4) (hw : w < 4)
    (K : ∀ lr', (∀ i, i < 6 → lr' i = ie_l1 cm (rg i) (lr0 i)) → post (fg, ln, 1, sk, fs, if va v = x ∧ va w = y then 1 else fo, cn, o, a, b, bg, ap, rg, va, hd, tn, cd, lo, hi, lr')) :
    ∀ d j : Nat, j + d = 6 → ∀ n : Nat, d < n → ∀ lr : Nat → Int32, (∀ i, i < 6 → lr i = if i < j then ie_l1 cm (rg i) (lr0 i) else lr0 i) →
      wY_note_114 post (nI v) x (nI w) y fg ln cm sk fs fo n (nI j) cn o a b bg ap rg va hd tn cd lo hi lr := by
  intro d
  induction d with
  | zero =>
    intro j hj n hn lr h1
    obtain rfl : j = 6 := by omega
    cases n with
    | zero => omega
    | succ n =>
      have cv : (nI v).toNatClampNeg = v := nI_clamp (by omega)
      have cw : (nI w).toNatClampNeg = w := nI_clamp (by omega)
      have e1 : va (nI v).toNatClampNeg = va v := by rw [cv]
      have e2 : va (nI w).toNatClampNeg = va w := by rw [cw]
      have R := K lr (fun i hi6 => (h1 i hi6).trans (if_pos hi6))
      refine br_t (nI_le (a := 6) (Nat.le_refl 6) (by decide)) ⟨vp_in_nI hv (by decide), br_c (fun z1 => ⟨vp_in_nI hw (by decide), br_c (fun z2 => ?_) (fun z2 => ?_)⟩) (fun z1 => ?_)⟩
      · rw [e1] at z1
        rw [e2] at z2
        rw [if_pos ⟨z1, z2⟩] at R
        exact R
      · rw [e2] at z2
        rw [if_neg (fun r => z2 r.2)] at R
        exact R
      · rw [e1] at z1
        rw [if_neg (fun r => z1 r.1)] at R
        exact R
  | succ d ih =>
    intro j hj n hn lr h1
    cases n with
    | zero => omega
    | succ n =>
      have cj : (nI j).toNatClampNeg = j := nI_clamp (by omega)
      have vj : vp_in (nI j) 6 := vp_in_nI (by omega) (by decide)
      have el : lr j = lr0 j := (h1 j (by omega)).trans (if_neg (Nat.lt_irrefl j))
      have R := ih (j + 1) (by omega) n (by omega) (upd lr j (ie_l1 cm (rg j) (lr j))) (fun i hi4 => by
          by_cases z : i = j
          · rw [z, pk_us, if_pos (Nat.lt_succ_self j), el]
          · rw [pk_un z, h1 i hi4]
            by_cases y : i < j
            · rw [if_pos y, if_pos (by omega)]
            · rw [if_neg y, if_neg (by omega)])
      have e1 : rg (nI j).toNatClampNeg = rg j := by rw [cj]
      have e2 : lr (nI j).toNatClampNeg = lr j := by rw [cj]
      unfold ie_l1 at R
      refine br_f (nI_ge (b := 6) (by omega) (by decide)) (br_c (fun h0 => ?_) (fun h0 => ⟨vj, vj, br_c (fun z => ⟨vj, vj, nm_r (by rw [cj]) (nm_r (nI_1 j) ?_)⟩) (fun z => ?_)⟩))
      · rw [if_pos (Or.inl h0)] at R
        exact iy_151 (by omega) R
      · rw [e1, e2] at z
        rw [if_neg (fun r => r.elim h0 (Int32.not_lt.mpr z))] at R
        exact R
      · rw [e1, e2] at z
        rw [if_pos (Or.inr (Int32.not_le.mp z))] at R
        exact iy_151 (by omega) R
theorem iy_note {post : SY → Prop} {v w : Nat} {x y : Int32} {L : List (Nat × (Nat → Int32))} {m : Nat → Int32} {p : Nat → Nat} (hv : v < 4) (hw : w < 4) (hld : ie_ld m p ap rg va hd) (hYR : ie_YR v w x y L cm sk fs fo lo hi lr)
    (K : ∀ fo' lo' hi' lr', ie_YR v w x y (L ++ [(0, m)]) 1 sk fs fo' lo' hi' lr' → post (fg, ln, 1, sk, fs, fo', cn, o, a, b, bg, ap, rg, va, hd, tn, cd, lo', hi', lr')) :
    wpY_note post (fg, ln, cm, sk, fs, fo, cn, o, a, b, bg, ap, rg, va, hd, tn, cd, lo, hi, lr) (nI v) x (nI w) y := by
  obtain ⟨l1, l2, l3, l4⟩ := hld
  unfold wpY_note
  dsimp only
  refine ⟨5, iy_3 (lo0 := lo) (hi0 := hi) (fun lo' hi' g1 g2 => ⟨7, iy_114 (lr0 := lr) hv hw (fun lr' g3 => ?_) 6 0 rfl 7 (by decide) lr (fun i _ => (if_neg (Nat.not_lt_zero i)).symm)⟩) 4 0 rfl 5 (by decide) lo hi (fun i _ => (if_neg (Nat.not_lt_zero i)).symm) (fun i _ => (if_neg (Nat.not_lt_zero i)).symm)⟩
  rw [l3 v hv, l3 w hw]
  refine K _ lo' hi' lr' (ie_YR_en hYR (fun i hi4 => ?_) (fun i hi4 => ?_) (fun i hi6 => ?_))
  · rw [g1 i hi4, l3 i hi4]
  · rw [g2 i hi4, l3 i hi4]
  · rw [g3 i hi6, l2 i hi6]
theorem iy_s43 {post : SY → Prop} (K : ∀ va', (∀ i, i < 4 → va' i = bg i) → post (fg, ln, cm, sk, fs, fo, cn, o, a, b, bg, ap, rg, va', upd (upd hd 0 (-1)) 1 (-1), tn, cd, lo, hi, lr)) :
    ∀ d j : Nat, j + d = 4 → ∀ n : Nat, d < n → ∀ va : Nat → Int32, (∀ i, i < j → va i = bg i) → wY_startRun_43 post fg ln cm sk fs fo n (nI j) cn o a b bg ap rg va hd tn cd lo hi lr := by
  intro d
  induction d with
  | zero =>
    intro j hj n hn va h1
    obtain rfl : j = 4 := by omega
    cases n with
    | zero => omega
    | succ n => exact br_t (nI_le (a := 4) (Nat.le_refl 4) (by decide)) (nm_e (nm_e (K va h1)))
  | succ d ih =>
    intro j hj n hn va h1
    cases n with
    | zero => omega
    | succ n =>
      have cj : (nI j).toNatClampNeg = j := nI_clamp (by omega)
      have vj : vp_in (nI j) 4 := vp_in_nI (by omega) (by decide)
      have e : upd va (nI j).toNatClampNeg (bg (nI j).toNatClampNeg) = upd va j (bg j) := by rw [cj]
      refine br_f (nI_ge (b := 4) (by omega) (by decide)) ⟨vj, vj, nm_r e (nm_r (nI_1 j) (ih (j + 1) (by omega) n (by omega) _ ?_))⟩
      intro i hi4
      by_cases z : i = j
      · rw [z, pk_us]
      · rw [pk_un z]
        exact h1 i (by omega)
theorem iy_s22 {post : SY → Prop} (K : ∀ rg', (∀ i, i < 6 → rg' i = 0) → ∃ n, wY_startRun_43 post fg ln cm sk fs fo n 0 cn o a b bg ap rg' va hd tn cd lo hi lr) :
    ∀ d j : Nat, j + d = 6 → ∀ n : Nat, d < n → ∀ rg : Nat → Int32, (∀ i, i < j → rg i = 0) → wY_startRun_22 post fg ln cm sk fs fo n (nI j) cn o a b bg ap rg va hd tn cd lo hi lr := by
  intro d
  induction d with
  | zero =>
    intro j hj n hn rg h1
    obtain rfl : j = 6 := by omega
    cases n with
    | zero => omega
    | succ n => exact br_t (nI_le (a := 6) (Nat.le_refl 6) (by decide)) (K rg h1)
  | succ d ih =>
    intro j hj n hn rg h1
    cases n with
    | zero => omega
    | succ n =>
      have cj : (nI j).toNatClampNeg = j := nI_clamp (by omega)
      have vj : vp_in (nI j) 6 := vp_in_nI (by omega) (by decide)
      have e : upd rg (nI j).toNatClampNeg 0 = upd rg j 0 := by rw [cj]
      refine br_f (nI_ge (b := 6) (by omega) (by decide)) ⟨vj, nm_r e (nm_r (nI_1 j) (ih (j + 1) (by omega) n (by omega) _ ?_))⟩
      intro i hi4
      by_cases z : i = j
      · rw [z, pk_us]
      · rw [pk_un z]
        exact h1 i (by omega)
theorem iy_s2 {post : SY → Prop} (K : ∀ ap', (∀ i, i < 3 → ap' i = 0) → ∃ n, wY_startRun_22 post fg ln cm sk fs fo n 0 cn o a b bg ap' rg va hd tn cd lo hi lr) :
    ∀ d j : Nat, j + d = 3 → ∀ n : Nat, d < n → ∀ ap : Nat → Int32, (∀ i, i < j → ap i = 0) → wY_startRun_2 post fg ln cm sk fs fo n (nI j) cn o a b bg ap rg va hd tn cd lo hi lr := by
  intro d
  induction d with
  | zero =>
    intro j hj n hn ap h1
    obtain rfl : j = 3 := by omega
    cases n with
    | zero => omega
    | succ n => exact br_t (nI_le (a := 3) (Nat.le_refl 3) (by decide)) (K ap h1)
  | succ d ih =>
    intro j hj n hn ap h1
    cases n with
    | zero => omega
    | succ n =>
      have cj : (nI j).toNatClampNeg = j := nI_clamp (by omega)
      have vj : vp_in (nI j) 3 := vp_in_nI (by omega) (by decide)
      have e : upd ap (nI j).toNatClampNeg 0 = upd ap j 0 := by rw [cj]
      refine br_f (nI_ge (b := 3) (by omega) (by decide)) ⟨vj, nm_r e (nm_r (nI_1 j) (ih (j + 1) (by omega) n (by omega) _ ?_))⟩
      intro i hi4
      by_cases z : i = j
      · rw [z, pk_us]
      · rw [pk_un z]
        exact h1 i (by omega)
theorem iy_start {post : SY → Prop} (K : ∀ ap' rg' va' hd', ie_ld (ie_m0 bg) ie_p0 ap' rg' va' hd' → post (fg, ln, cm, sk, fs, fo, cn, o, a, b, bg, ap', rg', va', hd', tn, cd, lo, hi, lr)) :
    wpY_startRun post (fg, ln, cm, sk, fs, fo, cn, o, a, b, bg, ap, rg, va, hd, tn, cd, lo, hi, lr) := by
  unfold wpY_startRun
  dsimp only
  refine ⟨4, iy_s2 (fun ap' g1 => ⟨7, iy_s22 (fun rg' g2 => ⟨5, iy_s43 (fun va' g3 => K ap' rg' va' _ ⟨g1, fun i hi6 => ?_, fun i hi4 => ?_, fun i hi2 => ?_⟩) 4 0 rfl 5 (by decide) va (fun i hi0 => absurd hi0 (Nat.not_lt_zero i))⟩) 6 0 rfl 7 (by decide) rg (fun i hi0 => absurd hi0 (Nat.not_lt_zero i))⟩) 3 0 rfl 4 (by decide) ap (fun i hi0 => absurd hi0 (Nat.not_lt_zero i))⟩
  · rw [g2 i hi6]
    exact (if_neg (show ¬ 4 + i < 4 by omega)).symm
  · rw [g3 i hi4]
    exact (if_pos hi4).symm
  · refine Or.inl ⟨if_neg (by omega), ?_⟩
    by_cases z : i = 1
    · rw [z, pk_us]
    · rw [pk_un z, show i = 0 by omega, pk_us]
end
