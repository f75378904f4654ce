/-! the reference's run and next order against the pure picture -/
abbrev iy_V : Type := Int32 × Int32 × Int32 × Int32 × Int32 × Int32 × (Nat → Int32) × (Nat → Int32) × (Nat → Int32) × (Nat → Int32) × (Nat → Int32) × (Nat → Int32) × (Nat → Int32) × (Nat → Int32) × (Nat → Int32)
def iy_tn : iy_V → Nat → Int32
  | (_, _, _, _, _, _, _, _, _, _, tn, _, _, _, _) => tn
def iy_cd : iy_V → Nat → Int32
  | (_, _, _, _, _, _, _, _, _, _, _, cd, _, _, _) => cd
def iy_LD (m : Nat → Int32) (p : Nat → Nat) : iy_V → Prop
  | (_, _, _, _, _, _, ap, rg, va, hd, _, _, _, _, _) => ie_ld m p ap rg va hd
def iy_YR (v w : Nat) (x y : Int32) (L : List (Nat × (Nat → Int32))) : iy_V → Prop
  | (_, _, cm, sk, fs, fo, _, _, _, _, _, _, lo, hi, lr) => ie_YR v w x y L cm sk fs fo lo hi lr
section
variable (post : SY → Prop) (v w : Nat) (x y : Int32) (cn o a b bg : Nat → Int32)
def iy_GQ (f k : Nat) (Q : Int32 → SY → Prop) : Prop :=
  (∀ (fg ln cm sk fs fo : Int32) (ap rg va hd tn cd lo hi lr m : Nat → Int32) (p : Nat → Nat) (L : List (Nat × (Nat → Int32))), ie_ld m p ap rg va hd → ie_YR v w x y L cm sk fs fo lo hi lr →
    (∀ fo' lo' hi' lr', ie_YR v w x y (L ++ [(0, m)]) 1 sk fs fo' lo' hi' lr' → wY_explore_97 post (wY_explore_29 post (nI v) x (nI w) y f) (nI v) x (nI w) y (nI k) fg ln 1 sk fs fo' cn o a b bg ap rg va hd tn cd lo' hi' lr') →
    Q 1 (fg, ln, cm, sk, fs, fo, cn, o, a, b, bg, ap, rg, va, hd, tn, cd, lo, hi, lr)) ∧
  (∀ (fg ln cm sk fs fo : Int32) (ap rg va hd tn cd lo hi lr : Nat → Int32), wY_explore_97 post (wY_explore_29 post (nI v) x (nI w) y f) (nI v) x (nI w) y (nI k) fg ln cm 1 fs fo cn o a b bg ap rg va hd tn cd lo hi lr →
    Q 2 (fg, ln, cm, sk, fs, fo, cn, o, a, b, bg, ap, rg, va, hd, tn, cd, lo, hi, lr)) ∧
  (∀ (fg ln cm sk fs fo : Int32) (ap rg va hd tn cd lo hi lr : Nat → Int32), wY_explore_97 post (wY_explore_29 post (nI v) x (nI w) y f) (nI v) x (nI w) y (nI k) fg ln cm sk (fs ||| ((1 : Int32) <<< (fg &&& 31))) fo cn o a b bg ap rg va hd tn cd lo hi lr →
    Q 3 (fg, ln, cm, sk, fs, fo, cn, o, a, b, bg, ap, rg, va, hd, tn, cd, lo, hi, lr))
def iy_GR (f K : Nat) (R : Int32 → SY → Prop) : Prop :=
  (∀ (fg ln cm sk fs fo : Int32) (ap rg va hd tn cd lo hi lr : Nat → Int32), wY_explore_29 post (nI v) x (nI w) y f 0 0 (nI K) fg ln cm sk fs fo cn o a b bg ap rg va hd tn cd lo hi lr →
    R 0 (fg, ln, cm, sk, fs, fo, cn, o, a, b, bg, ap, rg, va, hd, tn, cd, lo, hi, lr)) ∧
  (∀ (g : Nat) (fg ln cm sk fs fo : Int32) (ap rg va hd tn cd lo hi lr : Nat → Int32), 0 < g → g ≤ 11 → wY_explore_29 post (nI v) x (nI w) y f (nI g) 1 (nI K) fg ln cm sk fs fo cn o a b bg ap rg va hd tn cd lo hi lr →
    R (nI g) (fg, ln, cm, sk, fs, fo, cn, o, a, b, bg, ap, rg, va, hd, tn, cd, lo, hi, lr))
def iy_Mid (k l : Nat) : iy_V → Prop
  | (fg, ln, cm, sk, fs, fo, ap, rg, va, hd, tn, cd, lo, hi, lr) => ∀ (f : Nat) (Q : Int32 → SY → Prop), 4200 < f + (k + 1) → iy_GQ post v w x y cn o a b bg f k Q → ∀ f2 : Nat, 11 < f2 + l → ∀ gv : Nat, gv ≤ l → wY_makeRun_8 Q (nI gv) f2 0 (nI l) fg ln cm sk fs fo cn o a b bg ap rg va hd tn cd lo hi lr
def iy_C (k l _t : Nat) : iy_V → Prop
  | (fg, ln, cm, sk, fs, fo, ap, rg, va, hd, tn, cd, lo, hi, lr) => ∀ (f : Nat) (Q : Int32 → SY → Prop), 4200 < f + (k + 1) → iy_GQ post v w x y cn o a b bg f k Q → ∀ f2 : Nat, 11 < f2 + (l + 1) → ∀ gv : Nat, gv ≤ l + 1 → wY_makeRun_181 Q (wY_makeRun_8 Q (nI gv) f2) (nI gv) 0 (nI l) fg ln cm sk fs fo cn o a b bg ap rg va hd tn cd lo hi lr
def iy_Nx (K l : Nat) : iy_V → Prop
  | (fg, ln, cm, sk, fs, fo, ap, rg, va, hd, tn, cd, lo, hi, lr) => ∀ (f : Nat) (R : Int32 → SY → Prop), 4200 < f + K → iy_GR post v w x y cn o a b bg f K R → ∀ f2 : Nat, l < f2 → wY_nextOrder_7 R fg ln cm sk fs fo cn o a b bg ap rg va hd tn cd lo hi lr f2 (nI l + (-1))
def iy_In (K l s : Nat) : iy_V → Prop
  | (fg, ln, cm, sk, fs, fo, ap, rg, va, hd, tn, cd, lo, hi, lr) => ∀ (f : Nat) (R : Int32 → SY → Prop), 4200 < f + K → iy_GR post v w x y cn o a b bg f K R → ∀ f2 : Nat, l < f2 → ∀ f3 : Nat, 3 < f3 + s → wY_nextOrder_20 R (wY_nextOrder_7 R fg ln cm sk fs fo cn o a b bg ap rg va hd tn cd lo hi lr f2) (nI l) fg ln cm sk fs fo cn o a b bg ap rg va hd tn cd lo hi lr f3 (nI s)
end
section
variable {post : SY → Prop} {v w : Nat} {x y : Int32} {fg ln cm sk fs fo : Int32} {cn o a b bg ap rg va hd tn cd lo hi lr : Nat → Int32} {c : Nat → Nat}
theorem iy_97 {f k l : Nat} (hf : 4200 < f + (k + 1)) (hl : l ≤ 11) (H : iy_Nx post v w x y cn o a b bg (k + 1) l (fg, nI l, cm, sk, fs, fo, ap, rg, va, hd, tn, cd, lo, hi, lr)) :
    wY_explore_97 post (wY_explore_29 post (nI v) x (nI w) y f) (nI v) x (nI w) y (nI k) fg (nI l) cm sk fs fo cn o a b bg ap rg va hd tn cd lo hi lr := by
  have e : nI l - 1 = nI l + (-1) := Int32.sub_eq_add_neg _ _
  unfold wY_explore_97 wpY_nextOrder
  dsimp only
  refine nm_r e ⟨l + 1, H f _ hf ⟨?_, ?_⟩ (l + 1) (Nat.lt_succ_self l)⟩
  · intro fg ln cm sk fs fo ap rg va hd tn cd lo hi lr h
    exact br_t (by decide) (nm_r (nI_1 k) h)
  · intro g fg ln cm sk fs fo ap rg va hd tn cd lo hi lr hg hg2 h
    exact br_f (nI_nle hg (by omega)) (nm_r (nI_1 k) h)
theorem iy_tail {Q : Int32 → SY → Prop} {how g : Int32} (hh : ¬ how = 0) (hQ : Q how (fg, ln, cm, sk, fs, fo, cn, o, a, b, bg, ap, rg, va, hd, tn, cd, lo, hi, lr)) :
    ∀ d l : Nat, l + d = 11 → ∀ f2 : Nat, d < f2 → wY_makeRun_8 Q g f2 how (nI l) fg ln cm sk fs fo cn o a b bg ap rg va hd tn cd lo hi lr := by
  intro d
  induction d with
  | zero =>
    intro l hl f2 hf2
    obtain rfl : l = 11 := by omega
    cases f2 with
    | zero => omega
    | succ f2 => exact br_t (nI_le (a := 11) (Nat.le_refl 11) (by decide)) hQ
  | succ d ih =>
    intro l hl f2 hf2
    cases f2 with
    | zero => omega
    | succ f2 => exact br_f (nI_ge (b := 11) (by omega) (by decide)) (br_f hh (nm_r (nI_1 l) (ih (l + 1) (by omega) f2 (by omega))))
theorem ie_mk_i (p q r : Bool) : (if p = true then (1 : Int32) else 0) + (if q = true then 2 else 0) + (if r = true then 4 else 0) = nI ((if p = true then 1 else 0) + (if q = true then 2 else 0) + (if r = true then 4 else 0)) := by
  cases p <;> cases q <;> cases r <;> decide
theorem iy_head {Q : Int32 → SY → Prop} {g : Int32} {n l : Nat} {m : Nat → Int32} {p : Nat → Nat} (hcn : ie_cn c cn) (hc : ie_cb c) (hp : ie_ok c p) (hld : ie_ld m p ap rg va hd) (hl : l < 11)
    (H : ∀ z0 z1 : Int32, z1 + z0 = nI (ie_mk o a b c m p) → wY_makeRun_58 Q (wY_makeRun_8 Q g n) g 0 (nI l) z0 z1 fg ln cm sk fs fo cn o a b bg ap rg va hd tn cd lo hi lr) :
    wY_makeRun_8 Q g (n + 1) 0 (nI l) fg ln cm sk fs fo cn o a b bg ap rg va hd tn cd lo hi lr := by
  have e : (if ie_can o a b c m p 0 = true then (1 : Int32) else 0) + (if ie_can o a b c m p 1 = true then 2 else 0) + (if ie_can o a b c m p 2 = true then 4 else 0) = nI (ie_mk o a b c m p) := ie_mk_i (ie_can o a b c m p 0) (ie_can o a b c m p 1) (ie_can o a b c m p 2)
  have H44 : ∀ z0 z1 : Int32, z1 + z0 + (if ie_can o a b c m p 2 = true then 4 else 0) = nI (ie_mk o a b c m p) → wY_makeRun_44 Q (wY_makeRun_8 Q g n) g 0 (nI l) z0 z1 fg ln cm sk fs fo cn o a b bg ap rg va hd tn cd lo hi lr := by
    intro z0 z1 hz
    refine iy_canGo (t := 2) hcn hc hp hld (by decide) (ie_bi_br (fun h => H _ _ ?_) (fun h => H _ _ ?_))
    · rw [h] at hz; exact hz
    · rw [h] at hz; exact hz
  have H31 : ∀ z0 : Int32, z0 + (if ie_can o a b c m p 1 = true then 2 else 0) + (if ie_can o a b c m p 2 = true then 4 else 0) = nI (ie_mk o a b c m p) → wY_makeRun_31 Q (wY_makeRun_8 Q g n) g 0 (nI l) z0 fg ln cm sk fs fo cn o a b bg ap rg va hd tn cd lo hi lr := by
    intro z0 hz
    refine iy_canGo (t := 1) hcn hc hp hld (by decide) (ie_bi_br (fun h => H44 _ _ ?_) (fun h => H44 _ _ ?_))
    · rw [h] at hz; exact hz
    · rw [h] at hz; exact hz
  refine br_f (nI_ge (b := 11) hl (by decide)) (br_t rfl (iy_canGo (t := 0) hcn hc hp hld (by decide) (ie_bi_br (fun h => H31 _ ?_) (fun h => H31 _ ?_))))
  · rw [h] at e; exact e
  · rw [h] at e; exact e
theorem ie_path_ok (hc : ie_cb c) : ∀ (l : Nat) {tn cd m : Nat → Int32} {p : Nat → Nat}, ie_path o a b c bg l tn cd m p → ie_ok c p ∧ p 0 + p 1 + p 2 = l := by
  intro l
  induction l with
  | zero =>
    intro tn cd m p h
    rw [h.2]
    exact ⟨⟨Nat.zero_le _, Nat.zero_le _, Nat.zero_le _⟩, rfl⟩
  | succ l ih =>
    intro tn cd m p h
    obtain ⟨m1, p1, t, h1, ht, _, _, hcan, _, _, rfl⟩ := h
    obtain ⟨k1, k2⟩ := ih h1
    obtain ⟨j1, j2⟩ := ie_ok_st c k1 ht (ie_can_lt o a b c hcan)
    exact ⟨j1, by omega⟩
theorem iy_at {Q : Int32 → SY → Prop} {n l g : Nat} {m : Nat → Int32} {p : Nat → Nat} (hcn : ie_cn c cn) (hc : ie_cb c) (hp : ie_ok c p) (hld : ie_ld m p ap rg va hd) (hl : l < 11) (hg : l < g) (hg2 : g ≤ 11) (hany : ie_any o a b c m p = true)
    (H : wY_makeRun_181 Q (wY_makeRun_8 Q (nI g) n) (nI g) 0 (nI l) fg (nI l) cm sk fs fo cn o a b bg ap rg va hd tn (upd cd l (nI (ie_mk o a b c m p))) lo hi lr) :
    wY_makeRun_8 Q (nI g) (n + 1) 0 (nI l) fg ln cm sk fs fo cn o a b bg ap rg va hd tn cd lo hi lr := by
  have cl : (nI l).toNatClampNeg = l := nI_clamp (by omega)
  have vl : vp_in (nI l) 11 := vp_in_nI hl (by decide)
  have hm : ¬ nI (ie_mk o a b c m p) = 0 := by
    have h8 := ie_mk_lt o a b c m p
    intro z
    rw [← nI_0, nI_eq (by omega) (by omega)] at z
    exact (ie_mk_0 o a b c m p).mp z hany
  refine iy_head hcn hc hp hld hl (fun z0 z1 hz => ?_)
  refine nm_r hz ⟨vl, nm_r (by rw [cl]) (br_f hm (br_t (nI_lt hg (by omega)) H))⟩
theorem iy_go181 {Q : Int32 → SY → Prop} {l t : Nat} {g : Int32} {J : Int32 → Int32 → Int32 → Int32 → Int32 → Int32 → Int32 → Int32 → (Nat → Int32) → (Nat → Int32) → (Nat → Int32) → (Nat → Int32) → (Nat → Int32) → (Nat → Int32) → (Nat → Int32) → (Nat → Int32) → (Nat → Int32) → (Nat → Int32) → (Nat → Int32) → (Nat → Int32) → (Nat → Int32) → (Nat → Int32) → Prop} {m : Nat → Int32} {p : Nat → Nat} (hc : ie_cb c) (hp : ie_ok c p) (hld : ie_ld m p ap rg va hd) (hl : l < 11) (ht : t < 3) (htn : tn l = nI t) (hcan : ie_can o a b c m p t = true)
    (K1 : ie_fl o a b m p t = true → ∀ ap', J 3 (nI (l + 1)) (nI t) (nI (l + 1)) cm sk fs fo cn o a b bg ap' rg va hd tn cd lo hi lr)
    (K2 : ¬ ie_fl o a b m p t = true → ∀ ap' rg' va' hd', ie_ld (ie_nx o a b m t (t * 5 + p t)) (ie_st p t) ap' rg' va' hd' → J 0 (nI (l + 1)) fg (nI (l + 1)) cm sk fs fo cn o a b bg ap' rg' va' hd' tn cd lo hi lr) :
    wY_makeRun_181 Q J g 0 (nI l) fg ln cm sk fs fo cn o a b bg ap rg va hd tn cd lo hi lr := by
  have cl : (nI l).toNatClampNeg = l := nI_clamp (by omega)
  have vl : vp_in (nI l) 11 := vp_in_nI hl (by decide)
  unfold wY_makeRun_181
  rw [cl, htn, nI_1]
  refine nm_e ⟨vl, iy_go hc hp hld ht (ie_can_lt o a b c hcan) (fun hfl ap' => ?_) (fun hfl ap' rg' va' hd' g1 => ?_)⟩
  · exact br_f (by decide) ⟨vl, nm_r htn (nm_e (K1 hfl ap'))⟩
  · exact br_t rfl (nm_e (K2 hfl ap' rg' va' hd' g1))
theorem iy_replay {Q : Int32 → SY → Prop} {g : Nat} {cd0 : Nat → Int32} (hcn : ie_cn c cn) (hc : ie_cb c) (hg2 : g ≤ 11) :
    ∀ (l : Nat) (m : Nat → Int32) (p : Nat → Nat), l ≤ g → ie_path o a b c bg l tn cd0 m p →
      (∀ (fg ln : Int32) (ap rg va hd cd : Nat → Int32) (f2 : Nat), (∀ j, j < l → cd j = cd0 j) → ie_ld m p ap rg va hd → 11 < f2 + l → wY_makeRun_8 Q (nI g) f2 0 (nI l) fg ln cm sk fs fo cn o a b bg ap rg va hd tn cd lo hi lr) →
      ∀ (fg ln : Int32) (ap rg va hd cd : Nat → Int32) (f2 : Nat), ie_ld (ie_m0 bg) ie_p0 ap rg va hd → 11 < f2 → wY_makeRun_8 Q (nI g) f2 0 0 fg ln cm sk fs fo cn o a b bg ap rg va hd tn cd lo hi lr := by
  intro l
  induction l with
  | zero =>
    intro m p _ h K fg ln ap rg va hd cd f2 hld hf2
    obtain ⟨rfl, rfl⟩ := h
    exact K fg ln ap rg va hd cd f2 (fun j hj => absurd hj (Nat.not_lt_zero j)) hld hf2
  | succ l ih =>
    intro m p hlg h K
    obtain ⟨m1, p1, t, h1, ht, htn, hcd, hcan, hfl, rfl, rfl⟩ := h
    refine ih m1 p1 (by omega) h1 (fun fg ln ap rg va hd cd f2 hag hld hf2 => ?_)
    obtain ⟨k1, k2⟩ := ie_path_ok hc l h1
    cases f2 with
    | zero => omega
    | succ f2 =>
      refine iy_at hcn hc k1 hld (by omega) (by omega) hg2 (ie_any_of o a b c ht hcan) ?_
      refine iy_go181 hc k1 hld (by omega) ht htn hcan (fun h => absurd h hfl) (fun _ ap' rg' va' hd' g1 => ?_)
      refine K fg (nI (l + 1)) ap' rg' va' hd' _ f2 (fun j hj => ?_) g1 (by omega)
      by_cases z : j = l
      · rw [z, pk_us, hcd]
      · rw [pk_un z]
        exact hag j (by omega)
theorem iy_iter {f k : Nat} {g : Int32} (hv : v < 4) (hw : w < 4) (hk : k < 4200)
    (H : ∀ (Q : Int32 → SY → Prop), iy_GQ post v w x y cn o a b bg f k Q → ∀ ap' rg' va' hd', ie_ld (ie_m0 bg) ie_p0 ap' rg' va' hd' → wY_makeRun_8 Q g 12 0 0 fg ln cm sk fs fo cn o a b bg ap' rg' va' hd' tn cd lo hi lr) :
    wY_explore_29 post (nI v) x (nI w) y (f + 1) g 1 (nI k) fg ln cm sk fs fo cn o a b bg ap rg va hd tn cd lo hi lr := by
  refine br_f (nI_ge (b := 4200) hk (by decide)) (br_f (by decide) ?_)
  unfold wpY_makeRun
  dsimp only
  refine iy_start (fun ap' rg' va' hd' hld => ⟨12, H _ ⟨?_, ?_, ?_⟩ ap' rg' va' hd' hld⟩)
  · intro fg ln cm sk fs fo ap rg va hd tn cd lo hi lr m p L hld hYR K
    exact br_t rfl (iy_note hv hw hld hYR K)
  · intro fg ln cm sk fs fo ap rg va hd tn cd lo hi lr h
    exact br_f (by decide) (br_t rfl h)
  · intro fg ln cm sk fs fo ap rg va hd tn cd lo hi lr h
    exact br_f (by decide) (br_f (by decide) (nm_e h))
end
