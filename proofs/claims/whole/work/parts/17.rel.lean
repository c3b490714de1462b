/-! ===== the relation; questions that only read ===== -/
def gy_R (D : gd_D) (n g : Nat) (v : SY) : Prop := match v with
  | (ct, gt, sr, oy, my, mkk, tm, cn, us, ws, rd, wi, vt, fm, dc, ry, fy, od, sy) => ct = nI n ∧ gt = nI g ∧ gx_S D mkk tm cn us ws rd wi
/-- both sides hold the same data of the same events; the component holds all that follows from them -/
def i_Rel (k : Nat) (u : SX) (v : SY) : Prop := ∃ (D : gd_D) (n g : Nat), gd_Inv D n g ∧ gx_R D n g u ∧ gy_R D n g v
theorem i_up {k : Nat} {u : SX} {v : SY} (h : i_Rel k u v) : i_Rel (k + 5) u v := h
def gd_0 : gd_D := (fun _ => 0, fun _ => 0, fun _ => false, fun _ => 0, fun _ => 0, fun _ => 0, fun _ => false)
theorem gd_Inv0 : gd_Inv gd_0 0 0 :=
  ⟨by omega, Nat.le_refl _, fun _ => (by decide : 0 < 4), fun _ => Nat.le_refl _, fun j hj => absurd hj (Nat.not_lt_zero _), fun y hy => absurd hy (Nat.not_lt_zero _), fun y hy => absurd hy (Nat.not_lt_zero _), fun y hy => absurd hy (Nat.not_lt_zero _), fun x y _ hy => absurd hy (Nat.not_lt_zero _), fun _ _ => rfl⟩
theorem gd_S0 : gx_S gd_0 (fun _ => 0) (fun _ => 0) (fun _ => 0) (fun _ => 0) (fun _ => 0) (fun _ => 0) (fun _ => 0) :=
  ⟨fun _ => rfl, rfl, fun _ => rfl, rfl, rfl, fun _ => rfl, fun _ => rfl⟩
section
variable {en gr st oc : Int32} {yv : Int64} {mk tm cn : Nat → Int32} {us ws : Nat → Int64} {rd wi : Nat → Int32} {vf : Nat → Int64} {fa de rc fi ev pl la so : Nat → Int32}
theorem gx_in {post : SX → Prop} (h : ∀ la' : Nat → Int32, (∀ j, j < 4 → la' j = -2) → post (en, gr, st, oc, yv, mk, tm, cn, us, ws, rd, wi, vf, fa, de, rc, fi, ev, pl, la', so)) : ∀ d i f (la : Nat → Int32), i + d = 4 → d < f → (∀ j, j < i → la j = -2) → wX_init_132 post en gr st oc yv f (nI i) mk tm cn us ws rd wi vf fa de rc fi ev pl la so := by
  intro d
  induction d with
  | zero =>
    intro i f la hi hf hl
    obtain ⟨f, rfl⟩ : ∃ k, f = k + 1 := ⟨f - 1, by omega⟩
    rw [wX_init_132]
    have e : i = 4 := by omega
    subst e
    exact br_t (nI_le (Nat.le_refl 4) (by omega)) (h la hl)
  | succ d ih =>
    intro i f la hi hf hl
    obtain ⟨f, rfl⟩ : ∃ k, f = k + 1 := ⟨f - 1, by omega⟩
    rw [wX_init_132]
    refine br_f (nI_ge (b := 4) (by omega) (by decide)) ⟨vp_in_nI (by omega) (by omega), nm_r (e' := upd la i (-2)) (by rw [nI_clamp (by omega)]) (nm_r (nI_1 i) (ih (i + 1) f _ (by omega) (by omega) (fun j hj => ?_)))⟩
    by_cases q : j = i
    · subst q; exact pk_us
    · rw [pk_un q]; exact hl j (by omega)
theorem gx_g1 {post : Int32 → Prop} {n j : Nat} (hj : j < n) (hn : n ≤ 48) (h : post 1) : wpX_isGood post (nI n, gr, st, oc, yv, mk, tm, cn, us, ws, rd, wi, vf, fa, de, rc, fi, ev, pl, la, so) (nI j) := br_f (nI_pos (by omega)) (br_f (nI_ge hj (by omega)) h)
theorem gx_g0 {post : Int32 → Prop} {n : Nat} {x : Int32} (hx : x < 0 ∨ nI n ≤ x) (h : post 0) : wpX_isGood post (nI n, gr, st, oc, yv, mk, tm, cn, us, ws, rd, wi, vf, fa, de, rc, fi, ev, pl, la, so) x := by
  by_cases q : x < 0
  · exact br_t q h
  · exact br_f q (br_t (hx.resolve_left q) h)
theorem gx_m1 {post : Int32 → Prop} {j : Nat} (hj : j < 4) (h : post 1) : wpX_isMember post (en, gr, st, oc, yv, mk, tm, cn, us, ws, rd, wi, vf, fa, de, rc, fi, ev, pl, la, so) (nI j) := br_f (nI_pos (by omega)) (br_f (nI_ge (b := 4) hj (by decide)) h)
theorem gx_m0 {post : Int32 → Prop} {x : Int32} (hx : x < 0 ∨ nI 4 ≤ x) (h : post 0) : wpX_isMember post (en, gr, st, oc, yv, mk, tm, cn, us, ws, rd, wi, vf, fa, de, rc, fi, ev, pl, la, so) x := by
  by_cases q : x < 0
  · exact br_t q h
  · exact br_f q (br_t (hx.resolve_left q) h)
theorem gx_ws4 {post : Int32 → Prop} {D : gd_D} {n : Nat} {r : Int32} (hn : n ≤ 48) (hrd : ∀ j, rd j = nI (gd_rd D j)) (hwi : ∀ j, wi j = gd_bi (gd_wi D j)) (h : post (nI (gc_cnt (gg_w D r) n))) :
    ∀ d i f, i + d = n → d < f → wX_witnesses_4 post r (nI n) gr st oc yv mk tm cn us ws rd wi vf fa de rc fi ev pl la so f (nI (gc_cnt (gg_w D r) i)) (nI i) := by
  intro d
  induction d with
  | zero =>
    intro i f hi hf
    obtain ⟨f, rfl⟩ : ∃ k, f = k + 1 := ⟨f - 1, by omega⟩
    rw [wX_witnesses_4]
    have e : i = n := by omega
    subst e
    exact br_t (nI_le (Nat.le_refl _) (by omega)) h
  | succ d ih =>
    intro i f hi hf
    obtain ⟨f, rfl⟩ : ∃ k, f = k + 1 := ⟨f - 1, by omega⟩
    rw [wX_witnesses_4]
    have ih := ih (i + 1) f (by omega) (by omega)
    rw [gc_cnt] at ih
    refine br_f (nI_ge (by omega) (by omega)) (gx_wo' (by omega) (hwi i) (hrd i) (gd_br (fun e => nm_r (nI_1 i) ?_) (fun e => nm_r (nI_1 _) (nm_r (nI_1 i) ?_))))
    · have e : gg_w D r i = false := e
      rw [if_neg (by rw [e]; decide)] at ih; exact ih
    · have e : gg_w D r i = true := e
      rw [if_pos e] at ih; exact ih
theorem gx_di4 {post : Int32 → Prop} {k : Nat} (hk : k ≤ 48) (h : post (gg_sum ev k)) : ∀ d i f, i + d = k → d < f → wX_digest_4 post en gr st (nI k) yv mk tm cn us ws rd wi vf fa de rc fi ev pl la so f (gg_sum ev i) (nI i) := by
  intro d
  induction d with
  | zero =>
    intro i f hi hf
    obtain ⟨f, rfl⟩ : ∃ k, f = k + 1 := ⟨f - 1, by omega⟩
    rw [wX_digest_4]
    have e : i = k := by omega
    subst e
    exact br_t (nI_le (Nat.le_refl _) (by omega)) h
  | succ d ih =>
    intro i f hi hf
    obtain ⟨f, rfl⟩ : ∃ k, f = k + 1 := ⟨f - 1, by omega⟩
    rw [wX_digest_4]
    have ih := ih (i + 1) f (by omega) (by omega)
    exact br_f (nI_ge (by omega) (by omega)) ⟨vp_in_nI (by omega) (by omega), nm_r (e' := gg_sum ev (i + 1)) (by rw [nI_clamp (by omega)]; rfl) (nm_r (nI_1 i) ih)⟩
end
section
variable {ct gt sr oy my : Int32} {mk tm cn : Nat → Int32} {us ws : Nat → Int64} {rd wi vt fm dc ry fy od sy : Nat → Int32}
theorem gy_b0 {post : Int32 → Prop} {n j : Nat} (hj : j < n) (hn : n ≤ 48) (h : post 0) : wpY_bad post (nI n, gt, sr, oy, my, mk, tm, cn, us, ws, rd, wi, vt, fm, dc, ry, fy, od, sy) (nI j) := br_f (nI_pos (by omega)) (br_t (nI_lt hj (by omega)) h)
theorem gy_b1 {post : Int32 → Prop} {n : Nat} {x : Int32} (hx : x < 0 ∨ nI n ≤ x) (h : post 1) : wpY_bad post (nI n, gt, sr, oy, my, mk, tm, cn, us, ws, rd, wi, vt, fm, dc, ry, fy, od, sy) x := by
  by_cases q : x < 0
  · exact br_t q h
  · exact br_f q (br_f (Int32.not_lt.mpr (hx.resolve_left q)) h)
theorem gy_ws4 {post : Int32 → Prop} {D : gd_D} {n : Nat} {r : Int32} (hn : n ≤ 48) (hrd : ∀ j, rd j = nI (gd_rd D j)) (hwi : ∀ j, wi j = gd_bi (gd_wi D j)) (h : post (nI (gc_cnt (gg_w D r) n))) :
    ∀ d i f, i + d = n → d < f → wY_witnesses_4 post r (nI n) gt sr oy my mk tm cn us ws rd wi vt fm dc ry fy od sy f (nI (gc_cnt (gg_w D r) i)) (nI i) := by
  intro d
  induction d with
  | zero =>
    intro i f hi hf
    obtain ⟨f, rfl⟩ : ∃ k, f = k + 1 := ⟨f - 1, by omega⟩
    rw [wY_witnesses_4]
    have e : i = n := by omega
    subst e
    exact br_t (nI_le (Nat.le_refl _) (by omega)) h
  | succ d ih =>
    intro i f hi hf
    obtain ⟨f, rfl⟩ : ∃ k, f = k + 1 := ⟨f - 1, by omega⟩
    rw [wY_witnesses_4]
    have ih := ih (i + 1) f (by omega) (by omega)
    rw [gc_cnt] at ih
    refine br_f (nI_ge (by omega) (by omega)) (gy_wo' (by omega) (hwi i) (hrd i) (gd_br (fun e => nm_r (nI_1 i) ?_) (fun e => nm_r (nI_1 _) (nm_r (nI_1 i) ?_))))
    · have e : gg_w D r i = false := e
      rw [if_neg (by rw [e]; decide)] at ih; exact ih
    · have e : gg_w D r i = true := e
      rw [if_pos e] at ih; exact ih
theorem gy_di8 {post : Int32 → SY → Prop} {k : Nat} (hk : k ≤ 48) (h : post (gg_sum od k) (ct, gt, sr, nI k, my, mk, tm, cn, us, ws, rd, wi, vt, fm, dc, ry, fy, od, sy)) : ∀ d i f, i + d = k → d < f → wY_digest_8 post ct gt sr (nI k) my mk tm cn us ws rd wi vt fm dc ry fy od sy f (gg_sum od i) (nI i) := by
  intro d
  induction d with
  | zero =>
    intro i f hi hf
    obtain ⟨f, rfl⟩ : ∃ k, f = k + 1 := ⟨f - 1, by omega⟩
    rw [wY_digest_8]
    have e : i = k := by omega
    subst e
    exact br_t (nI_le (Nat.le_refl _) (by omega)) h
  | succ d ih =>
    intro i f hi hf
    obtain ⟨f, rfl⟩ : ∃ k, f = k + 1 := ⟨f - 1, by omega⟩
    rw [wY_digest_8]
    have ih := ih (i + 1) f (by omega) (by omega)
    exact br_f (nI_ge (by omega) (by omega)) ⟨vp_in_nI (by omega) (by omega), nm_r (e' := gg_sum od (i + 1)) (by rw [nI_clamp (by omega)]; rfl) (nm_r (nI_1 i) ih)⟩
theorem gy_pl16 {post : Int32 → SY → Prop} {k x : Nat} {F : Nat → Nat} (hk : k ≤ 48) (hx : x < 48) (hF : ∀ j, j < k → F j < 48) (ho : ∀ j, j < k → od j = nI (F j)) (h0 : (∀ j, j < k → F j ≠ x) → post (-2) (ct, gt, sr, nI k, my, mk, tm, cn, us, ws, rd, wi, vt, fm, dc, ry, fy, od, sy)) (h1 : ∀ j, j < k → F j = x → post (nI j) (ct, gt, sr, nI k, my, mk, tm, cn, us, ws, rd, wi, vt, fm, dc, ry, fy, od, sy)) :
    ∀ d i f, i + d = k → d < f → (∀ j, j < i → F j ≠ x) → wY_placeOf_16 post (nI x) ct gt sr (nI k) my mk tm cn us ws rd wi vt fm dc ry fy od sy f (nI i) := by
  intro d
  induction d with
  | zero =>
    intro i f hi hf hn
    obtain ⟨f, rfl⟩ : ∃ k, f = k + 1 := ⟨f - 1, by omega⟩
    rw [wY_placeOf_16]
    have e : i = k := by omega
    subst e
    exact br_t (nI_le (Nat.le_refl _) (by omega)) (h0 hn)
  | succ d ih =>
    intro i f hi hf hn
    obtain ⟨f, rfl⟩ : ∃ k, f = k + 1 := ⟨f - 1, by omega⟩
    rw [wY_placeOf_16]
    have hFi := hF i (by omega)
    refine br_f (nI_ge (by omega) (by omega)) ⟨vp_in_nI (by omega) (by omega), ?_⟩
    rw [nI_clamp (by omega), ho i (by omega)]
    refine pk_eq (F i) x (fun e => h1 i (by omega) e) (fun e => nm_r (nI_1 i) (ih (i + 1) f (by omega) (by omega) (fun j hj => ?_)))
    by_cases q : j = i
    · subst q; exact e
    · exact hn j (by omega)
end
theorem gd_bz (v : Int32) : lw_bz v = gd_bi (decide (v ≠ 0)) := by
  unfold lw_bz gd_bi
  by_cases e : v = 0
  · rw [if_pos e, if_neg (by rw [decide_eq_true_eq]; exact fun z => z e)]
  · rw [if_neg e, if_pos (by rw [decide_eq_true_eq]; exact e)]
