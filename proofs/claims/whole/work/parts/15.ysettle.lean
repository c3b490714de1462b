/-! ===== the reference: ask, settled, received, final time ===== -/
theorem gf_in_lt {p : Nat → Bool} {s : Option Nat} {d : Nat} : ∀ k, gf_in p s k = some d → s = some d ∨ d < k := by
  intro k
  induction k with
  | zero => intro h; exact Or.inl h
  | succ k ih =>
    intro h
    rw [gf_in] at h
    cases e : gf_in p s k with
    | some q =>
      rw [e] at h
      have h : some q = some d := h
      rw [h] at e
      rcases ih e with a | a
      · exact Or.inl a
      · exact Or.inr (by omega)
    | none =>
      rw [e] at h
      have h : (if p k = true then some k else none) = some d := h
      split at h
      · cases h; exact Or.inr (by omega)
      · cases h
theorem gf_out_lt {D : gd_D} {n x d : Nat} : ∀ j, gf_out D n x j = some d → d < n := by
  intro j
  induction j with
  | zero => intro h; cases h
  | succ j ih =>
    intro h
    rw [gf_out] at h
    rcases gf_in_lt n h with a | a
    · exact ih a
    · exact a
theorem gs_fm_f {D : gd_D} {n g r i : Nat} (h : (gd_wi D i && (gd_rd D i == r)) = false) : gs_fm D n g r i = false := by
  cases e : gs_fm D n g r i with
  | false => rfl
  | true =>
    unfold gs_fm at e
    rw [Bool.and_eq_true, beq_iff_eq] at e
    rw [gf_F_w e.1, e.2] at h
    cases h
theorem gs_fm_w {D : gd_D} {n g r i : Nat} (h : (gd_wi D i && (gd_rd D i == r)) = true) : gs_fm D n g r i = (gf_F D n g i == 2) := by
  rw [Bool.and_eq_true] at h
  unfold gs_fm
  rw [h.2, Bool.and_true]
section
variable {ct gt sr oy my : Int32} {mk tm cn : Nat → Int32} {us ws : Nat → Int64} {rd wi vt fm dc ry fy od sy : Nat → Int32}
theorem gy_as23 {post : SY → Prop} {D : gd_D} {n g x : Nat} {fm0 dc0 : Nat → Int32} (I : gd_Inv D n g) (S : gx_S D mk tm cn us ws rd wi) (hx : x < n)
    (K : ∀ vt' fm' dc' : Nat → Int32, (∀ i, i ≠ x → fm' i = fm0 i ∧ dc' i = dc0 i) → fm' x = nI (gf_val D x (gf_de D n g x)) → dc' x = gy_lv (gf_de D n g x) → post (nI n, nI g, sr, oy, my, mk, tm, cn, us, ws, rd, wi, vt', fm', dc', ry, fy, od, sy)) :
    ∀ d j f (vt fm dc : Nat → Int32), j + d = g - gd_rd D x → d < f → (∀ i, i ≠ x → fm i = fm0 i ∧ dc i = dc0 i) → fm x = nI (gf_val D x (gf_out D n x j)) → dc x = gy_lv (gf_out D n x j) → (gf_out D n x j = none → gy_V D n x (gd_rd D x + 1 + j) 0 vt) → wY_ask_23 post (nI x) f (nI (gd_rd D x + 1 + j)) (nI n) (nI g) sr oy my mk tm cn us ws rd wi vt fm dc ry fy od sy := by
  have i48 := I.1
  have ig := I.2.1
  have ird := I.2.2.2.1 x
  intro d
  induction d with
  | zero =>
    intro j f vt fm dc hj hf ho h1 h2 h3
    obtain ⟨f, rfl⟩ : ∃ k, f = k + 1 := ⟨f - 1, by omega⟩
    rw [wY_ask_23]
    have e : j = g - gd_rd D x := by omega
    subst e
    exact br_t (nI_lt (by omega) (by omega)) (K vt fm dc ho h1 h2)
  | succ d ih =>
    intro j f vt fm dc hj hf ho h1 h2 h3
    obtain ⟨f, rfl⟩ : ∃ k, f = k + 1 := ⟨f - 1, by omega⟩
    rw [wY_ask_23]
    refine br_f (nI_nlt (by omega) (by omega)) ⟨n + 1, ?_⟩
    exact gy_as33 I S hx (by omega) (fun vt' fm' dc' a1 a2 a3 a4 => ih (j + 1) f vt' fm' dc' (by omega) (by omega) a1 a2 a3 a4) n 0 (n + 1) vt fm dc (by omega) (by omega) ho h1 h2 (fun d' e => by have := gf_out_lt j e; omega) h3
theorem gy_as {post : SY → Prop} {D : gd_D} {n g x : Nat} (I : gd_Inv D n g) (S : gx_S D mk tm cn us ws rd wi) (hx : x < n)
    (K : ∀ vt' fm' dc' : Nat → Int32, (∀ i, i ≠ x → fm' i = fm i ∧ dc' i = dc i) → fm' x = nI (gf_val D x (gf_de D n g x)) → dc' x = gy_lv (gf_de D n g x) → post (nI n, nI g, sr, oy, my, mk, tm, cn, us, ws, rd, wi, vt', fm', dc', ry, fy, od, sy)) : wpY_ask post (nI n, nI g, sr, oy, my, mk, tm, cn, us, ws, rd, wi, vt, fm, dc, ry, fy, od, sy) (nI x) := by
  have i48 := I.1
  have ig := I.2.1
  have ird := I.2.2.2.1 x
  have hrd := S.2.2.2.2.2.1
  have c : (nI x).toNatClampNeg = x := nI_clamp (by omega)
  have v : vp_in (nI x) 48 := vp_in_nI (by omega) (by omega)
  refine ⟨v, nm_r (e' := upd fm x 0) (by rw [c]) ⟨v, nm_r (e' := upd dc x (-1)) (by rw [c]) ⟨v, nm_r (e' := nI (gd_rd D x + 1 + 0)) (by rw [c, hrd, nI_1]) ⟨g + 2, ?_⟩⟩⟩⟩
  exact gy_as23 I S hx K (g - gd_rd D x) 0 (g + 2) vt _ _ (by omega) (by omega) (fun i hi => ⟨pk_un hi, pk_un hi⟩) pk_us pk_us (fun _ z hz hw hr hc => by omega)
theorem gy_se4 {post : Int32 → Prop} {D : gd_D} {n g r : Nat} (I : gd_Inv D n g) (hrd : ∀ j, rd j = nI (gd_rd D j)) (hwi : ∀ j, wi j = gd_bi (gd_wi D j)) (hF : ∀ j, j < n → gd_wi D j = true → fm j = nI (gf_F D n g j)) (hr : r < 2 ^ 31) (h : post (gd_bi (gs_p D n g r))) :
    ∀ d i f, i + d = n → d < f → gc_any (gs_op D n g r) i = false → wY_isSettled_4 post (nI r) (nI n) (nI g) sr oy my mk tm cn us ws rd wi vt fm dc ry fy od sy f (gd_bi (gc_any (gs_fm D n g r) i)) (nI i) := by
  have i48 := I.1
  have ig := I.2.1
  have ird := I.2.2.2.1
  intro d
  induction d with
  | zero =>
    intro i f hi hf ho
    obtain ⟨f, rfl⟩ : ∃ k, f = k + 1 := ⟨f - 1, by omega⟩
    rw [wY_isSettled_4]
    have e : i = n := by omega
    subst e
    unfold gs_p gs_ok at h
    rw [ho, Bool.not_false, Bool.true_and] at h
    refine br_t (nI_le (Nat.le_refl _) (by omega)) (gd_br (fun e => ?_) (fun e => pk_le g r (fun l => ?_) (fun l => ?_)))
    · rw [e, Bool.and_false] at h; exact h
    · rw [decide_eq_false (by omega), Bool.false_and] at h; exact h
    · rw [decide_eq_true l, e] at h; exact h
  | succ d ih =>
    intro i f hi hf ho
    obtain ⟨f, rfl⟩ : ∃ k, f = k + 1 := ⟨f - 1, by omega⟩
    rw [wY_isSettled_4]
    have ri := ird i
    have c : (nI i).toNatClampNeg = i := nI_clamp (by omega)
    have v : vp_in (nI i) 48 := vp_in_nI (by omega) (by omega)
    have ih := fun hp => ih (i + 1) f (by omega) (by omega) (gc_any_s ho hp)
    rw [gc_any] at ih
    refine br_f (nI_ge (by omega) (by omega)) (gy_wo (by omega) (hwi i) (hrd i) (by omega) hr (gd_br (fun e => nm_r (nI_1 i) ?_) (fun e => ⟨v, ?_⟩)))
    · have ih := ih (by unfold gs_op; rw [e, Bool.false_and])
      rw [gs_fm_f e, Bool.or_false] at ih
      exact ih
    · have e' := e
      rw [Bool.and_eq_true] at e'
      rw [c, hF i (by omega) e'.1]
      rw [gs_fm_w e] at ih
      have fl := gf_F_le D n g i
      refine pk_eq (gf_F D n g i) 0 (fun z => ?_) (fun z => ?_)
      · have : gs_p D n g r = false := by
          unfold gs_p gs_ok
          rw [gc_any_t (p := gs_op D n g r) (i := i) (by omega) (by unfold gs_op; rw [e, z]; rfl)]
          rw [Bool.not_true, Bool.false_and, Bool.and_false]
        rw [this] at h
        exact h
      · have ih := ih (by unfold gs_op; rw [e, beq_eq_false_iff_ne.mpr z]; rfl)
        refine gd_br (fun q => ⟨v, pk_eq (gf_F D n g i) 2 (fun q2 => nm_r (nI_1 i) ?_) (fun q2 => nm_r (nI_1 i) ?_)⟩) (fun q => nm_r (nI_1 i) ?_)
        · rw [q, beq_iff_eq.mpr q2] at ih; exact ih
        · rw [q, beq_eq_false_iff_ne.mpr q2] at ih; exact ih
        · rw [q, Bool.true_or] at ih; exact ih
theorem gy_se {post : Int32 → Prop} {D : gd_D} {n g r : Nat} (I : gd_Inv D n g) (hrd : ∀ j, rd j = nI (gd_rd D j)) (hwi : ∀ j, wi j = gd_bi (gd_wi D j)) (hF : ∀ j, j < n → gd_wi D j = true → fm j = nI (gf_F D n g j)) (hr : r < 2 ^ 31) (h : post (gd_bi (gs_p D n g r))) : wpY_isSettled post (nI n, nI g, sr, oy, my, mk, tm, cn, us, ws, rd, wi, vt, fm, dc, ry, fy, od, sy) (nI r) :=
  ⟨n + 1, gy_se4 I hrd hwi hF hr h n 0 (n + 1) (by omega) (by omega) rfl⟩
theorem gy_re2 {post : Int32 → Prop} {D : gd_D} {n g x r : Nat} (I : gd_Inv D n g) (hx : x < n) (hus : us = gd_us D) (hrd : ∀ j, rd j = nI (gd_rd D j)) (hwi : ∀ j, wi j = gd_bi (gd_wi D j)) (hF : ∀ j, j < n → gd_wi D j = true → fm j = nI (gf_F D n g j)) (hr : r < 2 ^ 31) (h : post (gd_bi (gr_un D n g x r))) :
    ∀ d i f, i + d = n → d < f → gc_any (fun w => gs_fm D n g r w && !gd_ub D x w) i = false → wY_isReceived_2 post (nI x) (nI r) (nI n) gt sr oy my mk tm cn us ws rd wi vt fm dc ry fy od sy f (nI i) := by
  have i48 := I.1
  have ig := I.2.1
  have ird := I.2.2.2.1
  subst hus
  intro d
  induction d with
  | zero =>
    intro i f hi hf ho
    obtain ⟨f, rfl⟩ : ∃ k, f = k + 1 := ⟨f - 1, by omega⟩
    rw [wY_isReceived_2]
    have e : i = n := by omega
    subst e
    unfold gr_un at h
    rw [ho] at h
    exact br_t (nI_le (Nat.le_refl _) (by omega)) h
  | succ d ih =>
    intro i f hi hf ho
    obtain ⟨f, rfl⟩ : ∃ k, f = k + 1 := ⟨f - 1, by omega⟩
    rw [wY_isReceived_2]
    have ri := ird i
    have c : (nI i).toNatClampNeg = i := nI_clamp (by omega)
    have v : vp_in (nI i) 48 := vp_in_nI (by omega) (by omega)
    have ih := fun hp => ih (i + 1) f (by omega) (by omega) (gc_any_s ho hp)
    refine br_f (nI_ge (by omega) (by omega)) (gy_wo (by omega) (hwi i) (hrd i) (by omega) hr (gd_br (fun e => nm_r (nI_1 i) (ih ?_)) (fun e => ⟨v, ?_⟩)))
    · show (gs_fm D n g r i && !gd_ub D x i) = false
      rw [gs_fm_f e, Bool.false_and]
    · have e' := e
      rw [Bool.and_eq_true] at e'
      rw [c, hF i (by omega) e'.1]
      have fl := gf_F_le D n g i
      refine pk_eq (gf_F D n g i) 2 (fun z => ⟨v, gy_has (by omega) (gd_br (fun e2 => ?_) (fun e2 => nm_r (nI_1 i) (ih ?_)))⟩) (fun z => nm_r (nI_1 i) (ih ?_))
      · have e2 : gd_ub D x i = false := e2
        have e3 : gs_fm D n g r i = true := by rw [gs_fm_w e, beq_iff_eq]; exact z
        have : gr_un D n g x r = false := by
          unfold gr_un
          rw [gc_any_t (p := fun w => gs_fm D n g r w && !gd_ub D x w) (i := i) (by omega) (by show (gs_fm D n g r i && !gd_ub D x i) = true; rw [e3, e2]; rfl)]
          rfl
        rw [this] at h
        exact h
      · have e2 : gd_ub D x i = true := e2
        show (gs_fm D n g r i && !gd_ub D x i) = false
        rw [e2, Bool.not_true, Bool.and_false]
      · show (gs_fm D n g r i && !gd_ub D x i) = false
        rw [gs_fm_w e, beq_eq_false_iff_ne.mpr z, Bool.false_and]
theorem gy_re {post : Int32 → Prop} {D : gd_D} {n g x r : Nat} (I : gd_Inv D n g) (hx : x < n) (hus : us = gd_us D) (hrd : ∀ j, rd j = nI (gd_rd D j)) (hwi : ∀ j, wi j = gd_bi (gd_wi D j)) (hF : ∀ j, j < n → gd_wi D j = true → fm j = nI (gf_F D n g j)) (hr : r < 2 ^ 31) (h : post (gd_bi (gr_un D n g x r))) : wpY_isReceived post (nI n, gt, sr, oy, my, mk, tm, cn, us, ws, rd, wi, vt, fm, dc, ry, fy, od, sy) (nI x) (nI r) :=
  ⟨n + 1, gy_re2 I hx hus hrd hwi hF hr h n 0 (n + 1) (by omega) (by omega) rfl⟩
theorem gy_so41 {post : SY → Prop} {t : Int32} {k M : Nat} (hk : k < 48) (h : post (ct, gt, sr, oy, nI (M + 1), mk, tm, cn, us, ws, rd, wi, vt, fm, dc, ry, fy, od, gi_up sy k t)) : wY_sort_41 post t (nI k) ct gt sr oy (nI M) mk tm cn us ws rd wi vt fm dc ry fy od sy :=
  ⟨vp_in_nI hk (by omega), nm_r (e' := gi_up sy k t) (by rw [nI_clamp (by omega)]; rfl) (nm_r (nI_1 M) h)⟩
theorem gy_so5 {post : SY → Prop} {t : Int32} {M : Nat} : ∀ k f (sy : Nat → Int32), k < 48 → k < f → post (ct, gt, sr, oy, nI (M + 1), mk, tm, cn, us, ws, rd, wi, vt, fm, dc, ry, fy, od, gi_ins (gt_lt t) t k sy) → wY_sort_5 post t ct gt sr oy (nI M) f (nI k) mk tm cn us ws rd wi vt fm dc ry fy od sy := by
  intro k
  induction k with
  | zero =>
    intro f sy hk hf h
    obtain ⟨f, rfl⟩ : ∃ m, f = m + 1 := ⟨f - 1, by omega⟩
    rw [wY_sort_5]
    exact br_t (nI_le (Nat.le_refl 0) (by decide)) (gy_so41 hk h)
  | succ k ih =>
    intro f sy hk hf h
    obtain ⟨f, rfl⟩ : ∃ m, f = m + 1 := ⟨f - 1, by omega⟩
    rw [wY_sort_5]
    have e1 : nI (k + 1) - 1 = nI k := nI_pred k
    have c1 : (nI (k + 1) - 1).toNatClampNeg = k := by rw [e1]; exact nI_clamp (by omega)
    have v1 : vp_in (nI (k + 1) - 1) 48 := by rw [e1]; exact vp_in_nI (by omega) (by omega)
    have c2 : (nI (k + 1)).toNatClampNeg = k + 1 := nI_clamp (by omega)
    have v2 : vp_in (nI (k + 1)) 48 := vp_in_nI hk (by omega)
    refine br_f (nI_nle (by omega) (by omega)) ⟨v1, ?_⟩
    rw [c1, c2]
    rw [gi_ins] at h
    by_cases q : sy k ≤ t
    · rw [if_neg (by unfold gt_lt; rw [decide_eq_true_eq]; exact Int32.not_lt.mpr q)] at h
      exact br_t q (gy_so41 hk h)
    · rw [if_pos (by unfold gt_lt; rw [decide_eq_true_eq]; exact Int32.not_le.mp q)] at h
      exact br_f q ⟨v1, v2, nm_r (e' := gi_up sy (k + 1) (sy k)) rfl (nm_r (pk_m1 k) (ih f _ (by omega) (by omega) h))⟩
theorem gy_so {post : SY → Prop} {t : Int32} {k : Nat} (hk : k < 48) (h : post (ct, gt, sr, oy, nI (k + 1), mk, tm, cn, us, ws, rd, wi, vt, fm, dc, ry, fy, od, gi_ins (gt_lt t) t k sy)) : wpY_sort post (ct, gt, sr, oy, nI k, mk, tm, cn, us, ws, rd, wi, vt, fm, dc, ry, fy, od, sy) t := ⟨k + 1, gy_so5 k (k + 1) sy hk (by omega) h⟩
theorem gy_ft2 {post : Int32 → Prop} {D : gd_D} {n g x w : Nat} (I : gd_Inv D n g) (hx : x < n) (hw : w < n) (hxw : gd_ub D x w = true) (hmk : ∀ j, mk j = nI (gd_mk D j)) (htm : tm = gd_tm D) (hus : us = gd_us D) (h : post (gt_ft D x w)) :
    ∀ d z f, z + d = n → d < f → (∀ i, i < z → gt_p D x w i = false) → wY_firstTime_2 post (nI x) (nI w) (nI n) gt sr oy my mk tm cn us ws rd wi vt fm dc ry fy od sy f (nI z) := by
  have i48 := I.1
  have h4 := I.2.2.1
  subst htm hus
  have cw : (nI w).toNatClampNeg = w := nI_clamp (by omega)
  have vw : vp_in (nI w) 48 := vp_in_nI (by omega) (by omega)
  intro d
  induction d with
  | zero =>
    intro z f hz hf hn
    have hpw : gt_p D x w w = true := by
      unfold gt_p
      rw [beq_self_eq_true, I.2.2.2.2.2.2.1 w hw, hxw]
      rfl
    rw [hn w (by omega)] at hpw
    cases hpw
  | succ d ih =>
    intro z f hz hf hn
    obtain ⟨f, rfl⟩ : ∃ k, f = k + 1 := ⟨f - 1, by omega⟩
    rw [wY_firstTime_2]
    have cz : (nI z).toNatClampNeg = z := nI_clamp (by omega)
    have vz : vp_in (nI z) 48 := vp_in_nI (by omega) (by omega)
    have next : gt_p D x w z = false → wY_firstTime_2 post (nI x) (nI w) (nI n) gt sr oy my mk (gd_tm D) cn (gd_us D) ws rd wi vt fm dc ry fy od sy f (nI (z + 1)) := fun e =>
      ih (z + 1) f (by omega) (by omega) (fun i hi => by
        by_cases q : i = z
        · subst q; exact e
        · exact hn i (by omega))
    have az := h4 z
    have aw := h4 w
    refine br_f (nI_ge (by omega) (by omega)) ⟨vz, vw, ?_⟩
    rw [cz, cw, hmk, hmk]
    refine pk_eq _ _ (fun e => ⟨vw, gy_has (by omega) (gd_br (fun e1 => nm_r (nI_1 z) (next ?_)) (fun e1 => ⟨vz, gy_has (by omega) (gd_br (fun e2 => nm_r (nI_1 z) (next ?_)) (fun e2 => ⟨vz, ?_⟩))⟩))⟩) (fun e => nm_r (nI_1 z) (next ?_)) rfl rfl (by omega) (by omega)
    · have e1 : gd_ub D z w = false := e1
      unfold gt_p; rw [e1, Bool.and_false, Bool.false_and]
    · have e2 : gd_ub D x z = false := e2
      unfold gt_p; rw [e2, Bool.and_false]
    · have e1 : gd_ub D z w = true := e1
      have e2 : gd_ub D x z = true := e2
      have hp : gt_p D x w z = true := by unfold gt_p; rw [e, e1, e2, beq_self_eq_true]; rfl
      rw [gt_ft_all I hw hxw hp hn] at h
      exact h
    · unfold gt_p; rw [beq_eq_false_iff_ne.mpr e, Bool.false_and, Bool.false_and]
theorem gy_ft {post : Int32 → Prop} {D : gd_D} {n g x w : Nat} (I : gd_Inv D n g) (hx : x < n) (hw : w < n) (hxw : gd_ub D x w = true) (hmk : ∀ j, mk j = nI (gd_mk D j)) (htm : tm = gd_tm D) (hus : us = gd_us D) (h : post (gt_ft D x w)) : wpY_firstTime post (nI n, gt, sr, oy, my, mk, tm, cn, us, ws, rd, wi, vt, fm, dc, ry, fy, od, sy) (nI x) (nI w) :=
  ⟨n + 1, gy_ft2 I hx hw hxw hmk htm hus h n 0 (n + 1) (by omega) (by omega) (fun i hi => absurd hi (by omega))⟩
theorem gy_fo7 {post : Int32 → SY → Prop} {D : gd_D} {n g x r : Nat} (I : gd_Inv D n g) (hx : x < n) (S : gx_S D mk tm cn us ws rd wi) (hF : ∀ j, j < n → gd_wi D j = true → fm j = nI (gf_F D n g j)) (hr : r < 2 ^ 31) (hok : gs_ok D n g r = true) (hun : gr_un D n g x r = true) (h : ∀ (my' : Int32) (sy' : Nat → Int32), post (gt_fi D n g x r) (nI n, gt, sr, oy, my', mk, tm, cn, us, ws, rd, wi, vt, fm, dc, ry, fy, od, sy')) :
    ∀ d w f (sy : Nat → Int32), w + d = n → d < f → (∀ j, j < (gt_st (gs_fm D n g r) (gt_ft D x) w).1 → sy j = (gt_st (gs_fm D n g r) (gt_ft D x) w).2 j) → wY_finalOf_7 post (nI x) (nI r) f (nI w) (nI n) gt sr oy (nI (gt_st (gs_fm D n g r) (gt_ft D x) w).1) mk tm cn us ws rd wi vt fm dc ry fy od sy := by
  have i48 := I.1
  have ig := I.2.1
  have ird := I.2.2.2.1
  have tot := gs_fm_le I r
  have pos := gs_fm_pos hok
  have num := gt_num (gs_fm D n g r) (gt_ft D x)
  obtain ⟨hmk, htm, hcn, hus, hws, hrd, hwi⟩ := S
  intro d
  induction d with
  | zero =>
    intro w f sy hw hf hs
    obtain ⟨f, rfl⟩ : ∃ m, f = m + 1 := ⟨f - 1, by omega⟩
    rw [wY_finalOf_7]
    have e : w = n := by omega
    subst e
    have nn := num w
    have q : nI (gt_st (gs_fm D w g r) (gt_ft D x) w).1 / 2 = nI ((gt_st (gs_fm D w g r) (gt_ft D x) w).1 / 2) := pk_div (d := 2) (by omega) (by decide) (by decide)
    refine br_t (nI_le (Nat.le_refl _) (by omega)) ⟨by decide, ?_⟩
    rw [q]
    refine ⟨vp_in_nI (by omega) (by omega), ?_⟩
    rw [nI_clamp (by omega), hs _ (by omega)]
    exact h _ sy
  | succ d ih =>
    intro w f sy hw hf hs
    obtain ⟨f, rfl⟩ : ∃ m, f = m + 1 := ⟨f - 1, by omega⟩
    rw [wY_finalOf_7]
    have hrw := ird w
    have nw := num w
    have c : (nI w).toNatClampNeg = w := nI_clamp (by omega)
    have v : vp_in (nI w) 48 := vp_in_nI (by omega) (by omega)
    have cw : gc_cnt (gs_fm D n g r) w ≤ gc_cnt (gs_fm D n g r) n := gc_cnt_mono (by omega)
    have skip : gs_fm D n g r w = false → wY_finalOf_7 post (nI x) (nI r) f (nI (w + 1)) (nI n) gt sr oy (nI (gt_st (gs_fm D n g r) (gt_ft D x) w).1) mk tm cn us ws rd wi vt fm dc ry fy od sy := by
      intro e
      have ih := ih (w + 1) f sy (by omega) (by omega)
      rw [gt_f e] at ih
      exact ih hs
    refine br_f (nI_ge (by omega) (by omega)) (gy_wo (by omega) (hwi w) (hrd w) (by omega) hr (gd_br (fun e => nm_r (nI_1 w) (skip (gs_fm_f e))) (fun e => ⟨v, ?_⟩)))
    have e' := e
    rw [Bool.and_eq_true] at e'
    rw [c, hF w (by omega) e'.1]
    have fl := gf_F_le D n g w
    refine pk_eq (gf_F D n g w) 2 (fun z => ?_) (fun z => nm_r (nI_1 w) (skip (by rw [gs_fm_w e, beq_eq_false_iff_ne.mpr z])))
    have ef : gs_fm D n g r w = true := by rw [gs_fm_w e, beq_iff_eq]; exact z
    have hxw : gd_ub D x w = true := by
      unfold gr_un at hun
      rw [Bool.not_eq_true'] at hun
      have := (gc_any_false _ _).mp hun w (by omega)
      have this : (gs_fm D n g r w && !gd_ub D x w) = false := this
      rw [ef, Bool.true_and] at this
      cases q : gd_ub D x w with
      | true => rfl
      | false => rw [q] at this; cases this
    have ih := ih (w + 1) f
    rw [gt_t ef] at ih
    refine gy_ft I hx (by omega) hxw hmk htm hus (gy_so (by omega) (nm_r (nI_1 w) (ih _ (by omega) (by omega) ?_)))
    exact gi_below id (gt_lt (gt_ft D x w)) (gt_lt (gt_ft D x w)) (gt_ft D x w) hs (fun j _ => rfl)
theorem gy_fo {post : Int32 → SY → Prop} {D : gd_D} {n g x r : Nat} (I : gd_Inv D n g) (hx : x < n) (S : gx_S D mk tm cn us ws rd wi) (hF : ∀ j, j < n → gd_wi D j = true → fm j = nI (gf_F D n g j)) (hr : r < 2 ^ 31) (hok : gs_ok D n g r = true) (hun : gr_un D n g x r = true) (h : ∀ (my' : Int32) (sy' : Nat → Int32), post (gt_fi D n g x r) (nI n, gt, sr, oy, my', mk, tm, cn, us, ws, rd, wi, vt, fm, dc, ry, fy, od, sy')) : wpY_finalOf post (nI n, gt, sr, oy, my, mk, tm, cn, us, ws, rd, wi, vt, fm, dc, ry, fy, od, sy) (nI x) (nI r) :=
  ⟨n + 1, gy_fo7 I hx S hF hr hok hun h n 0 (n + 1) sy (by omega) (by omega) (fun j hj => absurd hj (Nat.not_lt_zero _))⟩
end
