/-! ===== the reference: the order, and all worked out ===== -/
def gy_fv (D : gd_D) (n g j : Nat) : Int32 := if gr_R D n g j = 0 then 0 else go_fn D n g j
section
variable {ct gt sr oy my : Int32} {mk tm cn : Nat → Int32} {us ws : Nat → Int64} {rd wi vt fm dc ry fy od sy : Nat → Int32}
theorem gy_ib {post : Int32 → Prop} {x e : Nat} {R : Nat → Nat} {fn : Nat → Int32} (hx : gx_at ry fy R fn x) (he : gx_at ry fy R fn e) (hex : e < x) (h : post (gd_bi (go_bf R fn x e))) : wpY_isBefore post (ct, gt, sr, oy, my, mk, tm, cn, us, ws, rd, wi, vt, fm, dc, ry, fy, od, sy) (nI x) (nI e) := by
  obtain ⟨x1, x2, x3, x4⟩ := hx
  obtain ⟨y1, y2, y3, y4⟩ := he
  have cx : (nI x).toNatClampNeg = x := nI_clamp (by omega)
  have ce : (nI e).toNatClampNeg = e := nI_clamp (by omega)
  have vx : vp_in (nI x) 48 := vp_in_nI x1 (by omega)
  have ve : vp_in (nI e) 48 := vp_in_nI y1 (by omega)
  refine ⟨vx, ve, ?_⟩
  rw [cx, ce, x2, y2, x4, y4]
  unfold go_bf at h
  refine pk_eq (R x) (R e) (fun q => ⟨vx, ve, ?_⟩) (fun q => ⟨vx, ve, ?_⟩)
  · rw [if_pos q] at h
    by_cases l0 : fn x = fn e
    · rw [decide_eq_false (by rw [l0]; exact Int32.lt_irrefl)] at h
      exact br_t l0 (br_t (nI_le (by omega) (by omega)) h)
    · refine br_f l0 ⟨vx, ve, ?_⟩
      by_cases l : fn e ≤ fn x
      · rw [decide_eq_false (Int32.not_lt.mpr l)] at h; exact br_t l h
      · rw [decide_eq_true (Int32.not_le.mp l)] at h; exact br_f l h
  · rw [if_neg q] at h
    refine pk_le (R e) (R x) (fun l => ?_) (fun l => ?_)
    · rw [decide_eq_false (by omega)] at h; exact h
    · rw [decide_eq_true l] at h; exact h
theorem gy_po45 {post : SY → Prop} {t : Int32} {k M : Nat} (hk : k < 48) (h : post (ct, gt, sr, nI (M + 1), my, mk, tm, cn, us, ws, rd, wi, vt, fm, dc, ry, fy, gi_up od k t, sy)) : wY_putInOrder_45 post t (nI k) ct gt sr (nI M) my mk tm cn us ws rd wi vt fm dc ry fy od sy :=
  ⟨vp_in_nI hk (by omega), nm_r (e' := gi_up od k t) (by rw [nI_clamp (by omega)]; rfl) (nm_r (nI_1 M) h)⟩
theorem gy_po5 {post : SY → Prop} {x M : Nat} {R : Nat → Nat} {fn : Nat → Int32} (hx : gx_at ry fy R fn x) : ∀ k f (od : Nat → Int32), k < 48 → k < f → (∀ j, j < k → ∃ i, od j = nI i ∧ gx_at ry fy R fn i ∧ i < x) → post (ct, gt, sr, nI (M + 1), my, mk, tm, cn, us, ws, rd, wi, vt, fm, dc, ry, fy, gi_ins (gx_bf R fn x) (nI x) k od, sy) → wY_putInOrder_5 post (nI x) ct gt sr (nI M) my f (nI k) mk tm cn us ws rd wi vt fm dc ry fy od sy := by
  intro k
  induction k with
  | zero =>
    intro f od hk hf hs h
    obtain ⟨f, rfl⟩ : ∃ m, f = m + 1 := ⟨f - 1, by omega⟩
    rw [wY_putInOrder_5]
    exact br_t (nI_le (Nat.le_refl 0) (by decide)) (gy_po45 hk h)
  | succ k ih =>
    intro f od hk hf hs h
    obtain ⟨f, rfl⟩ : ∃ m, f = m + 1 := ⟨f - 1, by omega⟩
    rw [wY_putInOrder_5]
    have e1 : nI (k + 1) - 1 = nI k := nI_pred k
    have c1 : (nI (k + 1) - 1).toNatClampNeg = k := by rw [e1]; exact nI_clamp (by omega)
    have v1 : vp_in (nI (k + 1) - 1) 48 := by rw [e1]; exact vp_in_nI (by omega) (by omega)
    have c2 : (nI (k + 1)).toNatClampNeg = k + 1 := nI_clamp (by omega)
    have v2 : vp_in (nI (k + 1)) 48 := vp_in_nI hk (by omega)
    obtain ⟨i, ei, hi, hix⟩ := hs k (by omega)
    refine br_f (nI_nle (by omega) (by omega)) ⟨v1, ?_⟩
    rw [c1, c2]
    rw [gi_ins] at h
    have eb : gx_bf R fn x (od k) = go_bf R fn x i := by unfold gx_bf; rw [ei, nI_clamp (by have := hi.1; omega)]
    rw [eb] at h
    have call : ∀ P : Int32 → Prop, P (gd_bi (go_bf R fn x i)) → wpY_isBefore P (ct, gt, sr, nI M, my, mk, tm, cn, us, ws, rd, wi, vt, fm, dc, ry, fy, od, sy) (nI x) (od k) := fun P hP => by
      rw [ei]
      exact gy_ib hx hi hix hP
    refine call _ (gd_br (fun q => gy_po45 hk ?_) (fun q => ⟨v1, v2, nm_r (e' := gi_up od (k + 1) (od k)) rfl (nm_r (pk_m1 k) (ih f _ (by omega) (by omega) (fun j hj => ?_) ?_))⟩))
    · rw [if_neg (by rw [q]; decide)] at h; exact h
    · rw [gi_un (by omega)]; exact hs j (by omega)
    · rw [if_pos q] at h; exact h
theorem gy_po {post : SY → Prop} {x k : Nat} {R : Nat → Nat} {fn : Nat → Int32} (hx : gx_at ry fy R fn x) (hk : k < 48) (hs : ∀ j, j < k → ∃ i, od j = nI i ∧ gx_at ry fy R fn i ∧ i < x) (h : post (ct, gt, sr, nI (k + 1), my, mk, tm, cn, us, ws, rd, wi, vt, fm, dc, ry, fy, gi_ins (gx_bf R fn x) (nI x) k od, sy)) : wpY_putInOrder post (ct, gt, sr, nI k, my, mk, tm, cn, us, ws, rd, wi, vt, fm, dc, ry, fy, od, sy) (nI x) := ⟨k + 1, gy_po5 hx k (k + 1) od hk (by omega) hs h⟩
theorem gy_w95 {post : SY → Prop} {J : Int32 → Int32 → Int32 → Int32 → Int32 → Int32 → (Nat → Int32) → (Nat → Int32) → (Nat → Int32) → (Nat → Int64) → (Nat → Int64) → (Nat → Int32) → (Nat → Int32) → (Nat → Int32) → (Nat → Int32) → (Nat → Int32) → (Nat → Int32) → (Nat → Int32) → (Nat → Int32) → (Nat → Int32) → Prop}
    {D : gd_D} {n g x k : Nat} {ry0 : Nat → Int32} (I : gd_Inv D n g) (S : gx_S D mk tm cn us ws rd wi) (hF : ∀ j, j < n → gd_wi D j = true → fm j = nI (gf_F D n g j)) (hx : x < n) (hk : k < 48) (hfy : fy x = 0)
    (hs : ∀ j, j < k → ∃ i, od j = nI i ∧ gx_at ry0 fy (gr_R D n g) (go_fn D n g) i ∧ i < x)
    (K0 : gr_R D n g x = 0 → ∀ ry' : Nat → Int32, (∀ i, i ≠ x → ry' i = ry0 i) → ry' x = nI (gr_R D n g x) → J (nI (x + 1)) (nI n) gt sr (nI k) my mk tm cn us ws rd wi vt fm dc ry' fy od sy)
    (K1 : gr_R D n g x ≠ 0 → ∀ (my' : Int32) (ry' sy' : Nat → Int32), (∀ i, i ≠ x → ry' i = ry0 i) → ry' x = nI (gr_R D n g x) → J (nI (x + 1)) (nI n) gt sr (nI (k + 1)) my' mk tm cn us ws rd wi vt fm dc ry' (upd fy x (go_fn D n g x)) (gi_ins (gx_bf (gr_R D n g) (go_fn D n g) x) (nI x) k od) sy') :
    ∀ r f v (ry : Nat → Int32), r ≤ gs_S D n g → r < f → (∀ i, i ≠ x → ry i = ry0 i) → ry x = nI v → gr_D (gr_un D n g x) (gs_S D n g) r v → wY_workOut_95 post J (nI x) (nI n) gt sr (nI k) my f (nI r) mk tm cn us ws rd wi vt fm dc ry fy od sy := by
  have i48 := I.1
  have ig := I.2.1
  have iS := gs_S_le D n g
  have iR := gr_R_le D n g x
  have c : (nI x).toNatClampNeg = x := nI_clamp (by omega)
  have v0 : vp_in (nI x) 48 := vp_in_nI (by omega) (by omega)
  intro r
  induction r with
  | zero =>
    intro f v ry hr hf ho hv hD
    obtain ⟨f, rfl⟩ : ∃ m, f = m + 1 := ⟨f - 1, by omega⟩
    rw [wY_workOut_95]
    have e : gr_R D n g x = v := gr_D_e hD
    rw [← e] at hv
    refine br_t (nI_le (Nat.le_refl 0) (by decide)) ⟨v0, ?_⟩
    rw [c, hv]
    refine pk_le (gr_R D n g x) 0 (fun l => nm_r (nI_1 x) (K0 (by omega) ry ho hv)) (fun l => ⟨v0, ?_⟩)
    have l' : gr_R D n g x ≠ 0 := by omega
    refine gy_fo I hx S hF (by omega) (gs_S_ok l iR).2 (gr_R_un l') (fun my' sy' => ⟨v0, nm_r (e' := upd fy x (go_fn D n g x)) rfl ?_⟩)
    have hat : ∀ i, i < x → gx_at ry0 fy (gr_R D n g) (go_fn D n g) i → gx_at ry (upd fy x (go_fn D n g x)) (gr_R D n g) (go_fn D n g) i := fun i hi a => ⟨a.1, (ho i (by omega)).trans a.2.1, a.2.2.1, (pk_un (by omega)).trans a.2.2.2⟩
    refine gy_po (R := gr_R D n g) (fn := go_fn D n g) ⟨by omega, hv, by omega, pk_us⟩ hk (fun j hj => ?_) (nm_r (nI_1 x) (K1 l' my' ry sy' ho hv))
    obtain ⟨i, a1, a2, a3⟩ := hs j hj
    exact ⟨i, a1, hat i a3 a2, a3⟩
  | succ r ih =>
    intro f v ry hr hf ho hv hD
    obtain ⟨f, rfl⟩ : ∃ m, f = m + 1 := ⟨f - 1, by omega⟩
    rw [wY_workOut_95]
    refine br_f (nI_nle (by omega) (by omega)) (gy_re I hx S.2.2.2.1 S.2.2.2.2.2.1 S.2.2.2.2.2.2 hF (by omega) (gd_br (fun e => nm_r (pk_m1 r) (ih f v ry (by omega) (by omega) ho hv (gr_D_f hD e))) (fun e => ⟨v0, nm_r (e' := upd ry x (nI (r + 1))) (by rw [c]) (nm_r (pk_m1 r) (ih f (r + 1) _ (by omega) (by omega) (fun i hi => (pk_un hi).trans (ho i hi)) pk_us (gr_D_t (v := v) hr e)))⟩)))
theorem gy_w68 {post : SY → Prop} {D : gd_D} {n g : Nat} (I : gd_Inv D n g) (S : gx_S D mk tm cn us ws rd wi) (hF : ∀ j, j < n → gd_wi D j = true → fm j = nI (gf_F D n g j))
    (K : ∀ (my' : Int32) (ry' fy' od' sy' : Nat → Int32), (∀ j, j < n → ry' j = nI (gr_R D n g j) ∧ fy' j = gy_fv D n g j) → (∀ j, j < (go_O D n g).1 → od' j = nI ((go_O D n g).2 j)) → post (nI n, gt, nI (gs_S D n g), nI (go_O D n g).1, my', mk, tm, cn, us, ws, rd, wi, vt, fm, dc, ry', fy', od', sy')) :
    ∀ d i f (my : Int32) (ry fy od sy : Nat → Int32), i + d = n → d < f → (∀ j, j < i → ry j = nI (gr_R D n g j) ∧ fy j = gy_fv D n g j) → (∀ j, j < (go_st (gr_R D n g) (go_fn D n g) i).1 → od j = nI ((go_st (gr_R D n g) (go_fn D n g) i).2 j)) → wY_workOut_68 post f (nI i) (nI n) gt (nI (gs_S D n g)) (nI (go_st (gr_R D n g) (go_fn D n g) i).1) my mk tm cn us ws rd wi vt fm dc ry fy od sy := by
  have i48 := I.1
  have ig := I.2.1
  have iS := gs_S_le D n g
  intro d
  induction d with
  | zero =>
    intro i f my ry fy od sy hi hf h1 h2
    obtain ⟨f, rfl⟩ : ∃ m, f = m + 1 := ⟨f - 1, by omega⟩
    rw [wY_workOut_68]
    have e : i = n := by omega
    subst e
    exact br_t (nI_le (Nat.le_refl _) (by omega)) (K my ry fy od sy h1 h2)
  | succ d ih =>
    intro i f my ry fy od sy hi hf h1 h2
    obtain ⟨f, rfl⟩ : ∃ m, f = m + 1 := ⟨f - 1, by omega⟩
    rw [wY_workOut_68]
    have c : (nI i).toNatClampNeg = i := nI_clamp (by omega)
    have v : vp_in (nI i) 48 := vp_in_nI (by omega) (by omega)
    obtain ⟨g1, g2, g3, g4⟩ := go_is (gr_R D n g) (go_fn D n g) i
    have ih := ih (i + 1) f
    refine br_f (nI_ge (by omega) (by omega)) ⟨v, nm_r (e' := upd ry i 0) (by rw [c]) ⟨v, nm_r (e' := upd fy i 0) (by rw [c]) ⟨gs_S D n g + 1, ?_⟩⟩⟩
    have old : ∀ (ry' fy' : Nat → Int32), (∀ j, j ≠ i → ry' j = upd ry i 0 j) → (∀ j, j ≠ i → fy' j = fy j) → ry' i = nI (gr_R D n g i) → fy' i = gy_fv D n g i → ∀ j, j < i + 1 → ry' j = nI (gr_R D n g j) ∧ fy' j = gy_fv D n g j := by
      intro ry' fy' a1 a2 a3 a4 j hj
      by_cases q : j = i
      · subst q; exact ⟨a3, a4⟩
      · rw [a1 j q, a2 j q, pk_un q]; exact h1 j (by omega)
    refine gy_w95 (ry0 := upd ry i 0) I S hF (by omega) (by omega) pk_us (fun j hj => ?_) (fun e ry' a1 a2 => ?_) (fun e my' ry' sy' a1 a2 => ?_) (gs_S D n g) (gs_S D n g + 1) 0 (upd ry i 0) (Nat.le_refl _) (by omega) (fun _ _ => rfl) pk_us (gr_D_0 _ _)
    · have b := g2 j hj
      have hR := gr_R_le D n g ((go_st (gr_R D n g) (go_fn D n g) i).2 j)
      have hh := h1 _ b.1
      refine ⟨_, h2 j hj, ⟨by omega, (pk_un (by omega)).trans hh.1, by omega, (pk_un (by omega)).trans ?_⟩, b.1⟩
      rw [hh.2]
      exact if_neg b.2
    · rw [go_f e] at ih
      refine ih my ry' _ od sy (by omega) (by omega) (old ry' _ a1 (fun j hj => pk_un hj) a2 ?_) h2
      rw [pk_us]
      exact (if_pos e).symm
    · rw [go_t e] at ih
      refine ih my' ry' _ _ sy' (by omega) (by omega) (old ry' _ a1 (fun j hj => by rw [pk_un hj, pk_un hj]) a2 ?_) ?_
      · rw [pk_us]; exact (if_neg e).symm
      · refine gi_below nI (gx_bf (gr_R D n g) (go_fn D n g) i) (go_bf (gr_R D n g) (go_fn D n g) i) i h2 (fun j hj => ?_)
        unfold gx_bf
        rw [nI_clamp (by have := (g2 j hj).1; omega)]
theorem gy_w35 {post : SY → Prop} {D : gd_D} {n g : Nat} (I : gd_Inv D n g) (S : gx_S D mk tm cn us ws rd wi) (hF : ∀ j, j < n → gd_wi D j = true → fm j = nI (gf_F D n g j))
    (K : ∀ (my' : Int32) (ry' fy' od' sy' : Nat → Int32), (∀ j, j < n → ry' j = nI (gr_R D n g j) ∧ fy' j = gy_fv D n g j) → (∀ j, j < (go_O D n g).1 → od' j = nI ((go_O D n g).2 j)) → post (nI n, nI g, nI (gs_S D n g), nI (go_O D n g).1, my', mk, tm, cn, us, ws, rd, wi, vt, fm, dc, ry', fy', od', sy')) :
    ∀ d s f, s + d = g → d < f → gs_go (gs_p D n g) (g - s) s = gs_S D n g → wY_workOut_35 post (nI n) (nI g) oy my mk tm cn us ws rd wi vt fm dc ry fy od sy f (nI s) := by
  have i48 := I.1
  have ig := I.2.1
  have fin : ∃ f, wY_workOut_68 post f 0 (nI n) (nI g) (nI (gs_S D n g)) 0 my mk tm cn us ws rd wi vt fm dc ry fy od sy := ⟨n + 1, gy_w68 I S hF K n 0 (n + 1) my ry fy od sy (by omega) (by omega) (fun j hj => absurd hj (by omega)) (fun j hj => absurd hj (Nat.not_lt_zero _))⟩
  intro d
  induction d with
  | zero =>
    intro s f hs hf hg
    obtain ⟨f, rfl⟩ : ∃ k, f = k + 1 := ⟨f - 1, by omega⟩
    rw [wY_workOut_35]
    dsimp only
    rw [nI_1 s]
    have hp : gs_p D n g (s + 1) = false := by unfold gs_p; rw [decide_eq_false (by omega), Bool.false_and]
    refine gy_se I S.2.2.2.2.2.1 S.2.2.2.2.2.2 hF (by omega) ?_
    rw [hp]
    rw [gs_stop hp] at hg
    rw [← hg] at fin
    exact br_t rfl fin
  | succ d ih =>
    intro s f hs hf hg
    obtain ⟨f, rfl⟩ : ∃ k, f = k + 1 := ⟨f - 1, by omega⟩
    rw [wY_workOut_35]
    dsimp only
    rw [nI_1 s]
    refine gy_se I S.2.2.2.2.2.1 S.2.2.2.2.2.2 hF (by omega) (gd_br (fun hp => ?_) (fun hp => nm_e (ih (s + 1) f (by omega) (by omega) ?_)))
    · rw [gs_stop hp] at hg
      rw [← hg] at fin
      exact fin
    · have e2 : g - s = (g - (s + 1)) + 1 := by omega
      rw [e2, gs_step hp] at hg
      exact hg
theorem gy_w2 {post : SY → Prop} {D : gd_D} {n g : Nat} (I : gd_Inv D n g) (S : gx_S D mk tm cn us ws rd wi)
    (K : ∀ (my' : Int32) (vt' fm' dc' ry' fy' od' sy' : Nat → Int32), (∀ j, j < n → ry' j = nI (gr_R D n g j) ∧ fy' j = gy_fv D n g j) → (∀ j, j < (go_O D n g).1 → od' j = nI ((go_O D n g).2 j)) → post (nI n, nI g, nI (gs_S D n g), nI (go_O D n g).1, my', mk, tm, cn, us, ws, rd, wi, vt', fm', dc', ry', fy', od', sy')) :
    ∀ d i f (vt fm dc : Nat → Int32), i + d = n → d < f → (∀ j, j < i → gd_wi D j = true → fm j = nI (gf_F D n g j)) → wY_workOut_2 post f (nI i) (nI n) (nI g) sr oy my mk tm cn us ws rd wi vt fm dc ry fy od sy := by
  have i48 := I.1
  have hwi := S.2.2.2.2.2.2
  intro d
  induction d with
  | zero =>
    intro i f vt fm dc hi hf h
    obtain ⟨f, rfl⟩ : ∃ k, f = k + 1 := ⟨f - 1, by omega⟩
    rw [wY_workOut_2]
    have e : i = n := by omega
    subst e
    exact br_t (nI_le (Nat.le_refl _) (by omega)) ⟨g + 1, gy_w35 I S h (fun my' ry' fy' od' sy' a b => K my' vt fm dc ry' fy' od' sy' a b) g 0 (g + 1) (by omega) (by omega) rfl⟩
  | succ d ih =>
    intro i f vt fm dc hi hf h
    obtain ⟨f, rfl⟩ : ∃ k, f = k + 1 := ⟨f - 1, by omega⟩
    rw [wY_workOut_2]
    refine br_f (nI_ge (by omega) (by omega)) ⟨vp_in_nI (by omega) (by omega), ?_⟩
    rw [nI_clamp (by omega), hwi i]
    refine gd_br (fun e => nm_r (nI_1 i) (ih (i + 1) f vt fm dc (by omega) (by omega) (fun j hj hw => ?_))) (fun e => gy_as I S (by omega) (fun vt' fm' dc' a1 a2 a3 => nm_r (nI_1 i) (ih (i + 1) f vt' fm' dc' (by omega) (by omega) (fun j hj hw => ?_))))
    · by_cases q : j = i
      · subst q; rw [e] at hw; cases hw
      · exact h j (by omega) hw
    · by_cases q : j = i
      · subst q
        rw [a2]
        unfold gf_F
        rw [if_pos e]
      · rw [(a1 j q).1]; exact h j (by omega) hw
theorem gy_wk {post : SY → Prop} {D : gd_D} {n g : Nat} (I : gd_Inv D n g) (S : gx_S D mk tm cn us ws rd wi)
    (K : ∀ (my' : Int32) (vt' fm' dc' ry' fy' od' sy' : Nat → Int32), (∀ j, j < n → ry' j = nI (gr_R D n g j) ∧ fy' j = gy_fv D n g j) → (∀ j, j < (go_O D n g).1 → od' j = nI ((go_O D n g).2 j)) → post (nI n, nI g, nI (gs_S D n g), nI (go_O D n g).1, my', mk, tm, cn, us, ws, rd, wi, vt', fm', dc', ry', fy', od', sy')) : wpY_workOut post (nI n, nI g, sr, oy, my, mk, tm, cn, us, ws, rd, wi, vt, fm, dc, ry, fy, od, sy) :=
  ⟨n + 1, gy_w2 I S K n 0 (n + 1) vt fm dc (by omega) (by omega) (fun j hj => absurd hj (by omega))⟩
end
