/-! ===== the component: final times ===== -/
theorem gi_upd (f : Nat → Int32) (k : Nat) (x : Int32) : upd f k x = gi_up f k x := rfl
theorem gc_cnt_rest {p : Nat → Bool} {w n : Nat} (h : gc_cnt p n ≤ gc_cnt p w) : ∀ i, w ≤ i → i < n → p i = false := by
  intro i h1 h2
  cases e : p i with
  | false => rfl
  | true =>
    have a : gc_cnt p w ≤ gc_cnt p i := gc_cnt_mono h1
    have b : gc_cnt p (i + 1) ≤ gc_cnt p n := gc_cnt_mono h2
    rw [gc_cnt, if_pos e] at b
    omega
section
variable {en gr st oc : Int32} {yv : Int64} {mk tm cn : Nat → Int32} {us ws : Nat → Int64} {rd wi : Nat → Int32} {vf : Nat → Int64} {fa de rc fi ev pl la so : Nat → Int32}
theorem gx_tf2 {post : Int32 → Prop} {D : gd_D} {x w : Nat} (hx : x < 48) (hw : w < 48) (hmk : ∀ j, mk j = nI (gd_mk D j)) (h4 : ∀ j, gd_mk D j < 4) (htm : tm = gd_tm D) (hus : us = gd_us D) (h : post (gt_ft D x w)) :
    ∀ d z f, z + d = w → d < f → (∀ i, i < z → gt_p D x w i = false) → wX_timeOfFirstToKnow_2 post (nI x) (nI w) en gr st oc yv mk tm cn us ws rd wi vf fa de rc fi ev pl la so f (nI z) := by
  subst htm hus
  have cw : (nI w).toNatClampNeg = w := nI_clamp (by omega)
  have vw : vp_in (nI w) 48 := vp_in_nI hw (by omega)
  intro d
  induction d with
  | zero =>
    intro z f hz hf hn
    obtain ⟨f, rfl⟩ : ∃ k, f = k + 1 := ⟨f - 1, by omega⟩
    rw [wX_timeOfFirstToKnow_2]
    have e : z = w := by omega
    subst e
    refine br_t (nI_le (Nat.le_refl _) (by omega)) ⟨vw, ?_⟩
    rw [cw]
    unfold gt_ft at h
    rw [gl_none hn] at h
    exact h
  | succ d ih =>
    intro z f hz hf hn
    obtain ⟨f, rfl⟩ : ∃ k, f = k + 1 := ⟨f - 1, by omega⟩
    rw [wX_timeOfFirstToKnow_2]
    have cz : (nI z).toNatClampNeg = z := nI_clamp (by omega)
    have vz : vp_in (nI z) 48 := vp_in_nI (by omega) (by omega)
    have next : gt_p D x w z = false → wX_timeOfFirstToKnow_2 post (nI x) (nI w) en gr st oc yv mk (gd_tm D) cn (gd_us D) ws rd wi vf fa de rc fi ev pl la so f (nI (z + 1)) := fun e =>
      ih (z + 1) f (by omega) (by omega) (fun i hi => by
        by_cases q : i = z
        · subst q; exact e
        · exact hn i (by omega))
    have az := h4 z
    have aw := h4 w
    refine br_f (nI_ge (by omega) (by omega)) ⟨vz, vw, ?_⟩
    rw [cz, cw, hmk, hmk]
    refine pk_eq _ _ (fun e => gx_un (by omega) hw (gd_br (fun e1 => nm_r (nI_1 z) (next ?_)) (fun e1 => gx_un hx (by omega) (gd_br (fun e2 => nm_r (nI_1 z) (next ?_)) (fun e2 => ⟨vz, ?_⟩))))) (fun e => nm_r (nI_1 z) (next ?_)) rfl rfl (by omega) (by omega)
    · have e1 : gd_ub D z w = false := e1
      unfold gt_p; rw [e1, Bool.and_false, Bool.false_and]
    · have e2 : gd_ub D x z = false := e2
      unfold gt_p; rw [e2, Bool.and_false]
    · have e1 : gd_ub D z w = true := e1
      have e2 : gd_ub D x z = true := e2
      have hp : gt_p D x w z = true := by unfold gt_p; rw [e, e1, e2, beq_self_eq_true]; rfl
      unfold gt_ft at h
      rw [gl_some (show z < w by omega) hp hn] at h
      exact h
    · unfold gt_p; rw [beq_eq_false_iff_ne.mpr e, Bool.false_and, Bool.false_and]
theorem gx_tf {post : Int32 → Prop} {D : gd_D} {x w : Nat} (hx : x < 48) (hw : w < 48) (hmk : ∀ j, mk j = nI (gd_mk D j)) (h4 : ∀ j, gd_mk D j < 4) (htm : tm = gd_tm D) (hus : us = gd_us D) (h : post (gt_ft D x w)) : wpX_timeOfFirstToKnow post (en, gr, st, oc, yv, mk, tm, cn, us, ws, rd, wi, vf, fa, de, rc, fi, ev, pl, la, so) (nI x) (nI w) :=
  ⟨w + 1, gx_tf2 hx hw hmk h4 htm hus h w 0 (w + 1) (by omega) (by omega) (fun i hi => absurd hi (by omega))⟩
theorem gx_it2 {post : SX → Prop} {t : Int32} : ∀ k f (so : Nat → Int32), k < 4 → k < f → post (en, gr, st, oc, yv, mk, tm, cn, us, ws, rd, wi, vf, fa, de, rc, fi, ev, pl, la, gi_ins (gt_lt t) t k so) → wX_insertTime_2 post t en gr st oc yv f (nI k) mk tm cn us ws rd wi vf fa de rc fi ev pl la so := by
  intro k
  induction k with
  | zero =>
    intro f so hk hf h
    obtain ⟨f, rfl⟩ : ∃ m, f = m + 1 := ⟨f - 1, by omega⟩
    rw [wX_insertTime_2]
    exact br_t (nI_le (Nat.le_refl 0) (by decide)) ⟨vp_in_nI (by omega) (by omega), nm_r (e' := gi_up so 0 t) (by rw [nI_clamp (by omega)]; rfl) h⟩
  | succ k ih =>
    intro f so hk hf h
    obtain ⟨f, rfl⟩ : ∃ m, f = m + 1 := ⟨f - 1, by omega⟩
    rw [wX_insertTime_2]
    have e1 : nI (k + 1) - 1 = nI k := nI_pred k
    have c1 : (nI (k + 1) - 1).toNatClampNeg = k := by rw [e1]; exact nI_clamp (by omega)
    have v1 : vp_in (nI (k + 1) - 1) 4 := by rw [e1]; exact vp_in_nI (by omega) (by omega)
    have c2 : (nI (k + 1)).toNatClampNeg = k + 1 := nI_clamp (by omega)
    have v2 : vp_in (nI (k + 1)) 4 := vp_in_nI hk (by omega)
    refine br_f (nI_nle (by omega) (by omega)) ⟨v1, ?_⟩
    rw [c1, c2]
    rw [gi_ins] at h
    by_cases q : so k ≤ t
    · rw [if_neg (by unfold gt_lt; rw [decide_eq_true_eq]; exact Int32.not_lt.mpr q)] at h
      exact br_t q ⟨v2, nm_r (e' := gi_up so (k + 1) t) rfl h⟩
    · rw [if_pos (by unfold gt_lt; rw [decide_eq_true_eq]; exact Int32.not_le.mp q)] at h
      exact br_f q ⟨v1, v2, nm_r (e' := gi_up so (k + 1) (so k)) rfl (nm_r (pk_m1 k) (ih f _ (by omega) (by omega) h))⟩
theorem gx_it {post : SX → Prop} {t : Int32} {k : Nat} (hk : k < 4) (h : post (en, gr, st, oc, yv, mk, tm, cn, us, ws, rd, wi, vf, fa, de, rc, fi, ev, pl, la, gi_ins (gt_lt t) t k so)) : wpX_insertTime post (en, gr, st, oc, yv, mk, tm, cn, us, ws, rd, wi, vf, fa, de, rc, fi, ev, pl, la, so) t (nI k) := ⟨k + 1, gx_it2 k (k + 1) so hk (by omega) h⟩
theorem gx_mt5 {post : Int32 → SX → Prop} {D : gd_D} {n g x r : Nat} (I : gd_Inv D n g) (hx : x < n) (S : gx_S D mk tm cn us ws rd wi) (hF : ∀ j, j < n → fa j = nI (gf_F D n g j)) (hr : r < 2 ^ 31) (hok : gs_ok D n g r = true) (h : ∀ so' : Nat → Int32, post (gt_fi D n g x r) (nI n, gr, st, oc, yv, mk, tm, cn, us, ws, rd, wi, vf, fa, de, rc, fi, ev, pl, la, so')) :
    ∀ d w f (so : Nat → Int32), w + d = n → d < f → (∀ j, j < (gt_st (gs_fm D n g r) (gt_ft D x) w).1 → so j = (gt_st (gs_fm D n g r) (gt_ft D x) w).2 j) → wX_middleTime_5 post (nI x) (nI r) f (nI (gt_st (gs_fm D n g r) (gt_ft D x) w).1) (nI w) (nI n) gr st oc yv mk tm cn us ws rd wi vf fa de rc fi ev pl la so := by
  have i48 := I.1
  have ig := I.2.1
  have ird := I.2.2.2.1
  have imk := I.2.2.1
  have tot := gs_fm_le I r
  have pos := gs_fm_pos hok
  have num := gt_num (gs_fm D n g r) (gt_ft D x)
  obtain ⟨hmk, htm, hcn, hus, hws, hrd, hwi⟩ := S
  have fin : ∀ (w : Nat) (so : Nat → Int32), w ≤ n → gt_st (gs_fm D n g r) (gt_ft D x) n = gt_st (gs_fm D n g r) (gt_ft D x) w → (∀ j, j < (gt_st (gs_fm D n g r) (gt_ft D x) w).1 → so j = (gt_st (gs_fm D n g r) (gt_ft D x) w).2 j) →
      (¬ (2 : Int32) = 0 ∧ (vp_in (nI (gt_st (gs_fm D n g r) (gt_ft D x) w).1 / 2) 4 ∧ post (so (nI (gt_st (gs_fm D n g r) (gt_ft D x) w).1 / 2).toNatClampNeg) (nI n, gr, st, oc, yv, mk, tm, cn, us, ws, rd, wi, vf, fa, de, rc, fi, ev, pl, la, so))) := by
    intro w so hw e hs
    have h := h so
    unfold gt_fi at h
    have nn := num n
    rw [e] at h nn
    have q : nI (gt_st (gs_fm D n g r) (gt_ft D x) w).1 / 2 = nI ((gt_st (gs_fm D n g r) (gt_ft D x) w).1 / 2) := pk_div (d := 2) (by omega) (by decide) (by decide)
    rw [q]
    refine ⟨by decide, vp_in_nI (by omega) (by omega), ?_⟩
    rw [nI_clamp (by omega), hs _ (by omega)]
    exact h
  intro d
  induction d with
  | zero =>
    intro w f so hw hf hs
    obtain ⟨f, rfl⟩ : ∃ m, f = m + 1 := ⟨f - 1, by omega⟩
    rw [wX_middleTime_5]
    have e : w = n := by omega
    subst e
    exact br_t (nI_le (Nat.le_refl _) (by omega)) (fin w so (Nat.le_refl _) rfl hs)
  | succ d ih =>
    intro w f so hw hf hs
    obtain ⟨f, rfl⟩ : ∃ m, f = m + 1 := ⟨f - 1, by omega⟩
    rw [wX_middleTime_5]
    have rw' := ird w
    have nw := num w
    have cw : gc_cnt (gs_fm D n g r) w ≤ gc_cnt (gs_fm D n g r) n := gc_cnt_mono (by omega)
    refine br_f (nI_ge (by omega) (by omega)) (pk_le 4 _ (fun l => ?_) (fun l => gx_fi (by omega) (hF w (by omega)) (gf_F_le _ _ _ _) (hrd w) (by omega) hr (gd_br (fun e => nm_r (nI_1 w) ?_) (fun e => ?_))) rfl rfl (by omega) (by omega))
    · refine fin w so (by omega) ?_ hs
      obtain ⟨k, rfl⟩ : ∃ k, n = w + k := ⟨n - w, by omega⟩
      exact gt_rest k (gc_cnt_rest (by omega))
    · have e : gs_fm D n g r w = false := e
      have ih := ih (w + 1) f so (by omega) (by omega)
      rw [gt_f e] at ih
      exact ih hs
    · have e : gs_fm D n g r w = true := e
      have ih := ih (w + 1) f
      rw [gt_t e] at ih
      refine gx_tf (D := D) (by omega) (by omega) hmk imk htm hus (gx_it l (nm_r (nI_1 _) (nm_r (nI_1 w) (ih _ (by omega) (by omega) ?_))))
      exact gi_below id (gt_lt (gt_ft D x w)) (gt_lt (gt_ft D x w)) (gt_ft D x w) hs (fun j _ => rfl)
theorem gx_mt {post : Int32 → SX → Prop} {D : gd_D} {n g x r : Nat} (I : gd_Inv D n g) (hx : x < n) (S : gx_S D mk tm cn us ws rd wi) (hF : ∀ j, j < n → fa j = nI (gf_F D n g j)) (hr : r < 2 ^ 31) (hok : gs_ok D n g r = true) (h : ∀ so' : Nat → Int32, post (gt_fi D n g x r) (nI n, gr, st, oc, yv, mk, tm, cn, us, ws, rd, wi, vf, fa, de, rc, fi, ev, pl, la, so')) : wpX_middleTime post (nI n, gr, st, oc, yv, mk, tm, cn, us, ws, rd, wi, vf, fa, de, rc, fi, ev, pl, la, so) (nI x) (nI r) :=
  ⟨n + 1, gx_mt5 I hx S hF hr hok h n 0 (n + 1) so (by omega) (by omega) (fun j hj => absurd hj (Nat.not_lt_zero _))⟩
theorem gx_ra2 {post : SX → Prop} {D : gd_D} {n g : Nat} (I : gd_Inv D n g) (S : gx_S D mk tm cn us ws rd wi) (hF : ∀ j, j < n → fa j = nI (gf_F D n g j))
    (h : ∀ rc' fi' so' : Nat → Int32, (∀ j, j < n → rc' j = gx_rc (gr_R D n g j) ∧ (gr_R D n g j ≠ 0 → fi' j = go_fn D n g j)) → post (nI n, gr, nI (gs_S D n g), oc, yv, mk, tm, cn, us, ws, rd, wi, vf, fa, de, rc', fi', ev, pl, la, so')) :
    ∀ d i f (rc fi so : Nat → Int32), i + d = n → d < f → (∀ j, j < i → rc j = gx_rc (gr_R D n g j) ∧ (gr_R D n g j ≠ 0 → fi j = go_fn D n g j)) → wX_receiveAll_2 post f (nI i) (nI n) gr (nI (gs_S D n g)) oc yv mk tm cn us ws rd wi vf fa de rc fi ev pl la so := by
  have i48 := I.1
  have ig := I.2.1
  have iS := gs_S_le D n g
  intro d
  induction d with
  | zero =>
    intro i f rc fi so hi hf hs
    obtain ⟨f, rfl⟩ : ∃ m, f = m + 1 := ⟨f - 1, by omega⟩
    rw [wX_receiveAll_2]
    have e : i = n := by omega
    subst e
    exact br_t (nI_le (Nat.le_refl _) (by omega)) (h rc fi so hs)
  | succ d ih =>
    intro i f rc fi so hi hf hs
    obtain ⟨f, rfl⟩ : ∃ m, f = m + 1 := ⟨f - 1, by omega⟩
    rw [wX_receiveAll_2]
    have c : (nI i).toNatClampNeg = i := nI_clamp (by omega)
    have v : vp_in (nI i) 48 := vp_in_nI (by omega) (by omega)
    have iR := gr_R_le D n g i
    refine br_f (nI_ge (by omega) (by omega)) (gx_rr I (by omega) S.2.2.2.1 S.2.2.2.2.2.1 hF ⟨v, nm_r (e' := upd rc i (gx_rc (gr_R D n g i))) (by rw [c]) (gx_ir (R := gr_R D n g i) (by omega) (by omega) pk_us (fun e => br_t rfl (nm_r (nI_1 i) (ih (i + 1) f _ fi so (by omega) (by omega) (fun j hj => ?_)))) (fun e => br_f (by decide) ⟨v, ?_⟩))⟩)
    · by_cases q : j = i
      · subst q; exact ⟨pk_us, fun z => absurd e z⟩
      · rw [pk_un q]; exact hs j (by omega)
    · rw [c, pk_us, gx_rcN e]
      refine gx_mt I (by omega) S hF (by omega) (gs_S_ok (by omega) iR).2 (fun so' => ⟨v, nm_r (e' := upd fi i (go_fn D n g i)) rfl (nm_r (nI_1 i) (ih (i + 1) f _ _ so' (by omega) (by omega) (fun j hj => ?_)))⟩)
      by_cases q : j = i
      · subst q; exact ⟨pk_us.trans (gx_rcN e).symm, fun _ => pk_us⟩
      · rw [pk_un q, pk_un q]; exact hs j (by omega)
theorem gx_ra {post : SX → Prop} {D : gd_D} {n g : Nat} (I : gd_Inv D n g) (S : gx_S D mk tm cn us ws rd wi) (hF : ∀ j, j < n → fa j = nI (gf_F D n g j))
    (h : ∀ rc' fi' so' : Nat → Int32, (∀ j, j < n → rc' j = gx_rc (gr_R D n g j) ∧ (gr_R D n g j ≠ 0 → fi' j = go_fn D n g j)) → post (nI n, gr, nI (gs_S D n g), oc, yv, mk, tm, cn, us, ws, rd, wi, vf, fa, de, rc', fi', ev, pl, la, so')) : wpX_receiveAll post (nI n, gr, nI (gs_S D n g), oc, yv, mk, tm, cn, us, ws, rd, wi, vf, fa, de, rc, fi, ev, pl, la, so) :=
  ⟨n + 1, gx_ra2 I S hF h n 0 (n + 1) rc fi so (by omega) (by omega) (fun j hj => absurd hj (by omega))⟩
end
