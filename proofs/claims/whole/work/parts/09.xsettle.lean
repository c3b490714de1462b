/-! ===== the component: settled rounds, the rounds that receive ===== -/
def gx_rc (r : Nat) : Int32 := if r = 0 then -2 else nI r
theorem gx_rc0 {r : Nat} (hr : r < 2 ^ 31) : gx_rc r = -2 ↔ r = 0 := by
  unfold gx_rc
  split
  · exact ⟨fun _ => by assumption, fun _ => rfl⟩
  · exact ⟨fun h => absurd h (gd_ne2 hr), fun h => absurd h (by assumption)⟩
theorem gx_rcN {r : Nat} (h : r ≠ 0) : gx_rc r = nI r := if_neg h
theorem gc_any_s {p : Nat → Bool} {i : Nat} (h : gc_any p i = false) (hp : p i = false) : gc_any p (i + 1) = false := by rw [gc_any, h, hp]; rfl
theorem gc_any_t {p : Nat → Bool} {i n : Nat} (hi : i < n) (hp : p i = true) : gc_any p n = true := (gc_any_iff p n).mpr ⟨i, hi, hp⟩
section
variable {en gr st oc : Int32} {yv : Int64} {mk tm cn : Nat → Int32} {us ws : Nat → Int64} {rd wi : Nat → Int32} {vf : Nat → Int64} {fa de rc fi ev pl la so : Nat → Int32}
theorem gx_fi {post : Int32 → Prop} {x k r F : Nat} (hx : x < 48) (hf : fa x = nI F) (hF : F ≤ 2) (hr : rd x = nI k) (hk : k < 2 ^ 31) (hr2 : r < 2 ^ 31) (h : post (gd_bi ((F == 2) && (k == r)))) : wpX_isFamousIn post (en, gr, st, oc, yv, mk, tm, cn, us, ws, rd, wi, vf, fa, de, rc, fi, ev, pl, la, so) (nI x) (nI r) := by
  have c : (nI x).toNatClampNeg = x := nI_clamp (by omega)
  have v : vp_in (nI x) 48 := vp_in_nI hx (by omega)
  refine ⟨v, ?_⟩
  rw [c, hf, hr]
  refine pk_eq F 2 (fun e => ⟨v, ?_⟩) (fun e => ?_)
  · subst e
    refine pk_eq k r (fun e => ?_) (fun e => ?_)
    · subst e; rw [beq_self_eq_true, beq_self_eq_true] at h; exact h
    · rw [beq_eq_false_iff_ne.mpr e] at h; exact h
  · rw [beq_eq_false_iff_ne.mpr e] at h; exact h
theorem gx_fs4 {post : Int32 → Prop} {D : gd_D} {n g r : Nat} (I : gd_Inv D n g) (hrd : ∀ j, rd j = nI (gd_rd D j)) (hwi : ∀ j, wi j = gd_bi (gd_wi D j)) (hF : ∀ j, j < n → fa j = nI (gf_F D n g j)) (hr : r < 2 ^ 31) (h : post (gd_bi (gs_ok D n g r))) :
    ∀ d i f, i + d = n → d < f → gc_any (gs_op D n g r) i = false → wX_isFameSettled_4 post (nI r) (nI n) gr st oc yv mk tm cn us ws rd wi vf fa de rc fi ev pl la so f (gd_bi (gc_any (gs_fm D n g r) i)) (nI i) := by
  have i48 := I.1
  have ig := I.2.1
  have ird := I.2.2.2.1
  intro d
  induction d with
  | zero =>
    intro i f hi hf ho
    obtain ⟨f, rfl⟩ : ∃ k, f = k + 1 := ⟨f - 1, by omega⟩
    rw [wX_isFameSettled_4]
    have e : i = n := by omega
    subst e
    unfold gs_ok at h
    rw [ho, Bool.not_false, Bool.true_and] at h
    exact br_t (nI_le (Nat.le_refl _) (by omega)) ⟨gd_biN _, h⟩
  | succ d ih =>
    intro i f hi hf ho
    obtain ⟨f, rfl⟩ : ∃ k, f = k + 1 := ⟨f - 1, by omega⟩
    rw [wX_isFameSettled_4]
    have ri := ird i
    have c : (nI i).toNatClampNeg = i := nI_clamp (by omega)
    have v : vp_in (nI i) 48 := vp_in_nI (by omega) (by omega)
    have next : gs_op D n g r i = false → wX_isFameSettled_32 post (wX_isFameSettled_4 post (nI r) (nI n) gr st oc yv mk tm cn us ws rd wi vf fa de rc fi ev pl la so f) (nI r) (gd_bi (gc_any (gs_fm D n g r) i)) (nI i) (nI n) gr st oc yv mk tm cn us ws rd wi vf fa de rc fi ev pl la so := by
      intro hop
      have ih := ih (i + 1) f (by omega) (by omega) (gc_any_s ho hop)
      rw [gc_any] at ih
      refine gx_fi (by omega) (hF i (by omega)) (gf_F_le _ _ _ _) (hrd i) (by omega) hr (gd_br (fun e => nm_r (nI_1 i) ?_) (fun e => nm_r (nI_1 i) ?_))
      · have e : gs_fm D n g r i = false := e
        rw [e, Bool.or_false] at ih; exact ih
      · have e : gs_fm D n g r i = true := e
        rw [e, Bool.or_true] at ih; exact ih
    refine br_f (nI_ge (by omega) (by omega)) (gx_wo (by omega) (hwi i) (hrd i) (by omega) hr (gd_br (fun e => next ?_) (fun e => ⟨v, ?_⟩)))
    · unfold gs_op; rw [e, Bool.false_and]
    · rw [c, hF i (by omega)]
      have fl := gf_F_le D n g i
      refine pk_eq (gf_F D n g i) 0 (fun z => ?_) (fun z => next ?_)
      · have : gs_ok D n g r = false := by
          unfold gs_ok
          rw [gc_any_t (p := gs_op D n g r) (i := i) (by omega) (by unfold gs_op; rw [e, z]; rfl)]
          rfl
        rw [this] at h
        exact h
      · unfold gs_op; rw [e, beq_eq_false_iff_ne.mpr z]; rfl
theorem gx_fs {post : Int32 → Prop} {D : gd_D} {n g r : Nat} (I : gd_Inv D n g) (hrd : ∀ j, rd j = nI (gd_rd D j)) (hwi : ∀ j, wi j = gd_bi (gd_wi D j)) (hF : ∀ j, j < n → fa j = nI (gf_F D n g j)) (hr : r < 2 ^ 31) (h : post (gd_bi (gs_ok D n g r))) : wpX_isFameSettled post (nI n, gr, st, oc, yv, mk, tm, cn, us, ws, rd, wi, vf, fa, de, rc, fi, ev, pl, la, so) (nI r) :=
  ⟨n + 1, gx_fs4 I hrd hwi hF hr h n 0 (n + 1) (by omega) (by omega) rfl⟩
theorem gx_cs7 {post : SX → Prop} {D : gd_D} {n g : Nat} (I : gd_Inv D n g) (hrd : ∀ j, rd j = nI (gd_rd D j)) (hwi : ∀ j, wi j = gd_bi (gd_wi D j)) (hF : ∀ j, j < n → fa j = nI (gf_F D n g j)) (h : post (nI n, nI g, nI (gs_S D n g), oc, yv, mk, tm, cn, us, ws, rd, wi, vf, fa, de, rc, fi, ev, pl, la, so)) :
    ∀ d s f, s + d = g → d < f → gs_go (gs_p D n g) (g - s) s = gs_S D n g → wX_countSettledRounds_7 post (nI n) (nI g) oc yv mk tm cn us ws rd wi vf fa de rc fi ev pl la so f (nI (s + 1)) (nI s) := by
  have i48 := I.1
  have ig := I.2.1
  intro d
  induction d with
  | zero =>
    intro s f hs hf hg
    obtain ⟨f, rfl⟩ : ∃ k, f = k + 1 := ⟨f - 1, by omega⟩
    rw [wX_countSettledRounds_7]
    have e : g - s = 0 := by omega
    rw [e] at hg
    have hg : s = gs_S D n g := hg
    rw [← hg] at h
    exact br_t (nI_le (by omega) (by omega)) h
  | succ d ih =>
    intro s f hs hf hg
    obtain ⟨f, rfl⟩ : ∃ k, f = k + 1 := ⟨f - 1, by omega⟩
    rw [wX_countSettledRounds_7]
    have stop : gs_p D n g (s + 1) = false → post (nI n, nI g, nI s, oc, yv, mk, tm, cn, us, ws, rd, wi, vf, fa, de, rc, fi, ev, pl, la, so) := by
      intro hp
      rw [gs_stop hp] at hg
      rw [← hg] at h
      exact h
    refine pk_le g (s + 1) (fun l => stop ?_) (fun l => gx_fs I hrd hwi hF (by omega) (gd_br (fun e => stop ?_) (fun e => nm_r (nI_1 (s + 1)) (ih (s + 1) f (by omega) (by omega) ?_))))
    · unfold gs_p; rw [decide_eq_false (by omega), Bool.false_and]
    · unfold gs_p; rw [e, Bool.and_false]
    · have hp : gs_p D n g (s + 1) = true := by unfold gs_p; rw [e, decide_eq_true l]; rfl
      have e2 : g - s = (g - (s + 1)) + 1 := by omega
      rw [e2, gs_step hp] at hg
      exact hg
theorem gx_cs {post : SX → Prop} {D : gd_D} {n g : Nat} (I : gd_Inv D n g) (hrd : ∀ j, rd j = nI (gd_rd D j)) (hwi : ∀ j, wi j = gd_bi (gd_wi D j)) (hF : ∀ j, j < n → fa j = nI (gf_F D n g j)) (h : post (nI n, nI g, nI (gs_S D n g), oc, yv, mk, tm, cn, us, ws, rd, wi, vf, fa, de, rc, fi, ev, pl, la, so)) : wpX_countSettledRounds post (nI n, nI g, st, oc, yv, mk, tm, cn, us, ws, rd, wi, vf, fa, de, rc, fi, ev, pl, la, so) :=
  ⟨g + 1, gx_cs7 I hrd hwi hF h g 0 (g + 1) (by omega) (by omega) rfl⟩
theorem gx_ua2 {post : Int32 → Prop} {D : gd_D} {n g x r : Nat} (I : gd_Inv D n g) (hx : x < n) (hus : us = gd_us D) (hrd : ∀ j, rd j = nI (gd_rd D j)) (hF : ∀ j, j < n → fa j = nI (gf_F D n g j)) (hr : r < 2 ^ 31) (h : post (gd_bi (gr_un D n g x r))) :
    ∀ d i f, i + d = n → d < f → gc_any (fun w => gs_fm D n g r w && !gd_ub D x w) i = false → wX_isUnderAllFamous_2 post (nI x) (nI r) (nI n) gr st oc yv mk tm cn us ws rd wi vf fa de rc fi ev pl la so f (nI i) := by
  have i48 := I.1
  have ig := I.2.1
  have ird := I.2.2.2.1
  subst hus
  intro d
  induction d with
  | zero =>
    intro i f hi hf ho
    obtain ⟨f, rfl⟩ : ∃ k, f = k + 1 := ⟨f - 1, by omega⟩
    rw [wX_isUnderAllFamous_2]
    have e : i = n := by omega
    subst e
    unfold gr_un at h
    rw [ho] at h
    exact br_t (nI_le (Nat.le_refl _) (by omega)) h
  | succ d ih =>
    intro i f hi hf ho
    obtain ⟨f, rfl⟩ : ∃ k, f = k + 1 := ⟨f - 1, by omega⟩
    rw [wX_isUnderAllFamous_2]
    have ri := ird i
    have ih := fun hp => ih (i + 1) f (by omega) (by omega) (gc_any_s ho hp)
    refine br_f (nI_ge (by omega) (by omega)) (gx_fi (by omega) (hF i (by omega)) (gf_F_le _ _ _ _) (hrd i) (by omega) hr (gd_br (fun e => nm_r (nI_1 i) (ih ?_)) (fun e => gx_un (by omega) (by omega) (gd_br (fun e2 => ?_) (fun e2 => nm_r (nI_1 i) (ih ?_))))))
    · have e : gs_fm D n g r i = false := e
      show (gs_fm D n g r i && !gd_ub D x i) = false
      rw [e, Bool.false_and]
    · have e : gs_fm D n g r i = true := e
      have e2 : gd_ub D x i = false := e2
      have : gr_un D n g x r = false := by
        unfold gr_un
        rw [gc_any_t (p := fun w => gs_fm D n g r w && !gd_ub D x w) (i := i) (by omega) (by show (gs_fm D n g r i && !gd_ub D x i) = true; rw [e, e2]; rfl)]
        rfl
      rw [this] at h
      exact h
    · have e2 : gd_ub D x i = true := e2
      show (gs_fm D n g r i && !gd_ub D x i) = false
      rw [e2, Bool.not_true, Bool.and_false]
theorem gx_ua {post : Int32 → Prop} {D : gd_D} {n g x r : Nat} (I : gd_Inv D n g) (hx : x < n) (hus : us = gd_us D) (hrd : ∀ j, rd j = nI (gd_rd D j)) (hF : ∀ j, j < n → fa j = nI (gf_F D n g j)) (hr : r < 2 ^ 31) (h : post (gd_bi (gr_un D n g x r))) : wpX_isUnderAllFamous post (nI n, gr, st, oc, yv, mk, tm, cn, us, ws, rd, wi, vf, fa, de, rc, fi, ev, pl, la, so) (nI x) (nI r) :=
  ⟨n + 1, gx_ua2 I hx hus hrd hF hr h n 0 (n + 1) (by omega) (by omega) rfl⟩
theorem gx_rr2 {post : Int32 → Prop} {D : gd_D} {n g x : Nat} (I : gd_Inv D n g) (hx : x < n) (hus : us = gd_us D) (hrd : ∀ j, rd j = nI (gd_rd D j)) (hF : ∀ j, j < n → fa j = nI (gf_F D n g j)) (h : post (gx_rc (gr_R D n g x))) :
    ∀ d r f, r + d = gs_S D n g + 1 → d < f → 1 ≤ r → (∀ q, 1 ≤ q → q < r → gr_un D n g x q = false) → wX_roundThatReceives_2 post (nI x) (nI n) gr (nI (gs_S D n g)) oc yv mk tm cn us ws rd wi vf fa de rc fi ev pl la so f (nI r) := by
  have i48 := I.1
  have ig := I.2.1
  have iS := gs_S_le D n g
  intro d
  induction d with
  | zero =>
    intro r f hr hf h1 hq
    obtain ⟨f, rfl⟩ : ∃ k, f = k + 1 := ⟨f - 1, by omega⟩
    rw [wX_roundThatReceives_2]
    have e : gr_R D n g x = 0 := gr_lo_0 (fun q a b => hq q a (by omega))
    rw [e] at h
    exact br_t (nI_lt (by omega) (by omega)) h
  | succ d ih =>
    intro r f hr hf h1 hq
    obtain ⟨f, rfl⟩ : ∃ k, f = k + 1 := ⟨f - 1, by omega⟩
    rw [wX_roundThatReceives_2]
    refine br_f (nI_nlt (by omega) (by omega)) (gx_ua I hx hus hrd hF (by omega) (gd_br (fun e => nm_r (nI_1 r) (ih (r + 1) f (by omega) (by omega) (by omega) (fun q a b => ?_))) (fun e => ?_)))
    · by_cases z : q = r
      · subst z; exact e
      · exact hq q a (by omega)
    · have e2 : gr_R D n g x = r := gr_lo_1 h1 (by omega) e hq
      rw [e2, gx_rcN (by omega)] at h
      exact h
theorem gx_rr {post : Int32 → Prop} {D : gd_D} {n g x : Nat} (I : gd_Inv D n g) (hx : x < n) (hus : us = gd_us D) (hrd : ∀ j, rd j = nI (gd_rd D j)) (hF : ∀ j, j < n → fa j = nI (gf_F D n g j)) (h : post (gx_rc (gr_R D n g x))) : wpX_roundThatReceives post (nI n, gr, nI (gs_S D n g), oc, yv, mk, tm, cn, us, ws, rd, wi, vf, fa, de, rc, fi, ev, pl, la, so) (nI x) :=
  ⟨gs_S D n g + 1, gx_rr2 I hx hus hrd hF h (gs_S D n g) 1 (gs_S D n g + 1) (by omega) (by omega) (by omega) (fun q a b => absurd b (by omega))⟩
theorem gx_ir {post : Int32 → Prop} {x R : Nat} (hx : x < 48) (hR : R < 2 ^ 31) (hrc : rc x = gx_rc R) (h0 : R = 0 → post 0) (h1 : R ≠ 0 → post 1) : wpX_isReceived post (en, gr, st, oc, yv, mk, tm, cn, us, ws, rd, wi, vf, fa, de, rc, fi, ev, pl, la, so) (nI x) := by
  refine ⟨vp_in_nI hx (by omega), ?_⟩
  rw [nI_clamp (show x < 2 ^ 31 by omega), hrc]
  exact ⟨fun e => h0 ((gx_rc0 hR).mp e), fun e => h1 (fun z => e ((gx_rc0 hR).mpr z))⟩
end
