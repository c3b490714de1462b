/-! ===== the reference: votes and fame ===== -/
def gy_V (D : gd_D) (n x r y : Nat) (v : Nat → Int32) : Prop :=
  ∀ z, z < n → gd_wi D z = true → gd_rd D x < gd_rd D z → (gd_rd D z < r ∨ (gd_rd D z = r ∧ z < y)) → v z = gd_bi (gf_v D x z)
theorem gy_V_skip {D : gd_D} {n x r y : Nat} {v : Nat → Int32} (h : gy_V D n x r y v) (hy : (gd_wi D y && (gd_rd D y == r)) = false) : gy_V D n x r (y + 1) v := by
  intro z hz hw hr hc
  refine h z hz hw hr ?_
  rcases hc with hc | ⟨h1, h2⟩
  · exact Or.inl hc
  · by_cases e : z = y
    · subst e
      rw [hw, h1, beq_self_eq_true] at hy
      cases hy
    · exact Or.inr ⟨h1, by omega⟩
theorem gy_V_end {D : gd_D} {n x r : Nat} {v : Nat → Int32} (h : gy_V D n x r n v) : gy_V D n x (r + 1) 0 v := fun z hz hw hr hc => h z hz hw hr (by omega)
theorem gy_V_ask {D : gd_D} {n x r y : Nat} {v : Nat → Int32} (h : gy_V D n x r y v) : gy_V D n x r (y + 1) (upd v y (gd_bi (gf_v D x y))) := by
  intro z hz hw hr hc
  by_cases e : z = y
  · subst e; exact pk_us
  · rw [pk_un e]; exact h z hz hw hr (by omega)
theorem gy_V_vo {D : gd_D} {n x r y : Nat} {v : Nat → Int32} (h : gy_V D n x r y v) (hy : gd_rd D y = r) (h2 : gd_rd D x + 2 ≤ gd_rd D y) : ∀ z, z < n → gd_vo D z y = true → v z = gd_bi (gf_v D x z) := by
  intro z hz hv
  unfold gd_vo at hv
  rw [Bool.and_eq_true, Bool.and_eq_true, beq_iff_eq] at hv
  exact h z hz hv.1.1 (by omega) (by omega)
theorem gd_bi_inj {a b : Bool} : gd_bi a = gd_bi b ↔ a = b := by cases a <;> cases b <;> decide
section
variable {ct gt sr oy my : Int32} {mk tm cn : Nat → Int32} {us ws : Nat → Int64} {rd wi vt fm dc ry fy od sy : Nat → Int32}
theorem gy_cv5 {post : Int32 → Prop} {D : gd_D} {n g y : Nat} {b : Bool} {v : Nat → Bool} (I : gd_Inv D n g) (hy : y < n) (hws : ws = gd_ws D) (hrd : ∀ j, rd j = nI (gd_rd D j)) (hwi : ∀ j, wi j = gd_bi (gd_wi D j)) (hv : ∀ z, z < n → gd_vo D z y = true → vt z = gd_bi (v z))
    (h : post (nI (gc_cnt (fun z => gd_vo D z y && (v z == b)) n))) :
    ∀ d i f, i + d = n → d < f → wY_countVotes_5 post (nI y) (gd_bi b) (nI n) gt sr oy my mk tm cn us ws rd wi vt fm dc ry fy od sy f (nI (gc_cnt (fun z => gd_vo D z y && (v z == b)) i)) (nI i) := by
  have i48 := I.1
  have ig := I.2.1
  have ird := I.2.2.2.1
  have ry1 := I.2.2.2.2.1 y hy
  have ryg := ird y
  subst hws
  have e1 : nI (gd_rd D y) - 1 = nI (gd_rd D y - 1) := by
    obtain ⟨k, hk⟩ : ∃ k, gd_rd D y = k + 1 := ⟨gd_rd D y - 1, by omega⟩
    rw [hk]; exact nI_pred k
  have cy : (nI y).toNatClampNeg = y := nI_clamp (by omega)
  have vy : vp_in (nI y) 48 := vp_in_nI (by omega) (by omega)
  intro d
  induction d with
  | zero =>
    intro i f hi hf
    obtain ⟨f, rfl⟩ : ∃ q, f = q + 1 := ⟨f - 1, by omega⟩
    rw [wY_countVotes_5]
    have e : i = n := by omega
    subst e
    exact br_t (nI_le (Nat.le_refl _) (by omega)) h
  | succ d ih =>
    intro i f hi hf
    obtain ⟨f, rfl⟩ : ∃ q, f = q + 1 := ⟨f - 1, by omega⟩
    rw [wY_countVotes_5]
    have ih := ih (i + 1) f (by omega) (by omega)
    rw [gc_cnt] at ih
    have ri := ird i
    have skip : (gd_vo D i y && (v i == b)) = false → wY_countVotes_5 post (nI y) (gd_bi b) (nI n) gt sr oy my mk tm cn us (gd_ws D) rd wi vt fm dc ry fy od sy f (nI (gc_cnt (fun z => gd_vo D z y && (v z == b)) i)) (nI (i + 1)) := by
      intro q
      rw [if_neg (by rw [q]; decide)] at ih
      exact ih
    have e2 : (gd_rd D i == gd_rd D y - 1) = (gd_rd D i + 1 == gd_rd D y) := by
      by_cases q : gd_rd D i + 1 = gd_rd D y
      · rw [beq_iff_eq.mpr q, beq_iff_eq]; omega
      · rw [beq_eq_false_iff_ne.mpr q, beq_eq_false_iff_ne]; omega
    refine br_f (nI_ge (by omega) (by omega)) ⟨vy, ?_⟩
    rw [cy, hrd y, e1]
    refine gy_wo (by omega) (hwi i) (hrd i) (by omega) (by omega) ?_
    rw [e2]
    refine gd_br (fun e => nm_r (nI_1 i) (skip ?_)) (fun e => ⟨vy, gy_has (by omega) (gd_br (fun e3 => nm_r (nI_1 i) (skip ?_)) (fun e3 => ⟨vp_in_nI (by omega) (by omega), ?_⟩))⟩)
    · unfold gd_vo; rw [e, Bool.false_and, Bool.false_and]
    · have e3 : gd_wb D i y = false := e3
      unfold gd_vo; rw [e3, Bool.and_false, Bool.false_and]
    · have e3 : gd_wb D i y = true := e3
      have ev : gd_vo D i y = true := by unfold gd_vo; rw [e, e3]; rfl
      rw [nI_clamp (by omega), hv i (by omega) ev]
      by_cases q : v i = b
      · rw [if_pos (by rw [ev, beq_iff_eq.mpr q]; rfl)] at ih
        exact br_t (gd_bi_inj.mpr q) (nm_r (nI_1 _) (nm_r (nI_1 i) ih))
      · exact br_f (fun z => q (gd_bi_inj.mp z)) (nm_r (nI_1 i) (skip (by rw [beq_eq_false_iff_ne.mpr q, Bool.and_false])))
theorem gy_cv {post : Int32 → Prop} {D : gd_D} {n g y : Nat} {b : Bool} {v : Nat → Bool} (I : gd_Inv D n g) (hy : y < n) (hws : ws = gd_ws D) (hrd : ∀ j, rd j = nI (gd_rd D j)) (hwi : ∀ j, wi j = gd_bi (gd_wi D j)) (hv : ∀ z, z < n → gd_vo D z y = true → vt z = gd_bi (v z))
    (h : post (nI (gc_cnt (fun z => gd_vo D z y && (v z == b)) 48))) : wpY_countVotes post (nI n, gt, sr, oy, my, mk, tm, cn, us, ws, rd, wi, vt, fm, dc, ry, fy, od, sy) (nI y) (gd_bi b) := by
  refine ⟨n + 1, gy_cv5 I hy hws hrd hwi hv ?_ n 0 (n + 1) (by omega) (by omega)⟩
  rw [gc_cnt_ext (p := fun z => gd_vo D z y && (v z == b)) I.1 (fun z h1 h2 => by
    show (gd_vo D z y && (v z == b)) = false
    unfold gd_vo
    rw [I.2.2.2.2.2.2.2.2.2 z h1, Bool.false_and, Bool.false_and, Bool.false_and])] at h
  exact h
theorem gy_vt110 {post : Int32 → SY → Prop} {y k a : Nat} {v : Bool} (hy : y < 48) (hk : k < 2 ^ 31) (ha : a < 2 ^ 31) (h : post (gd_bi (decide (k % 5 ≠ 0) && decide (3 ≤ a))) (ct, gt, sr, oy, my, mk, tm, cn, us, ws, rd, wi, upd vt y (gd_bi v), fm, dc, ry, fy, od, sy)) : wY_vote_110 post (nI k) (nI a) (gd_bi v) (nI y) ct gt sr oy my mk tm cn us ws rd wi vt fm dc ry fy od sy := by
  have h5 : nI k - nI k / 5 * 5 = nI (k % 5) := pk_rem (d := 5) hk (by decide) (by decide)
  refine ⟨vp_in_nI hy (by omega), nm_r (e' := upd vt y (gd_bi v)) (by rw [nI_clamp (by omega), gd_biV]) ⟨by decide, ?_⟩⟩
  rw [h5]
  refine pk_eq (k % 5) 0 (fun z => ?_) (fun z => pk_lt a 3 (fun l => ?_) (fun l => ?_))
  · rw [decide_eq_false (by omega), Bool.false_and] at h; exact h
  · rw [decide_eq_false (show ¬ 3 ≤ a by omega), Bool.and_false] at h; exact h
  · rw [decide_eq_true (show k % 5 ≠ 0 from z), decide_eq_true l] at h; exact h
theorem gy_vt80 {post : Int32 → SY → Prop} {y k a : Nat} {mo c : Bool} (hy : y < 48) (hk : k < 2 ^ 31) (ha : a < 2 ^ 31) (hc : cn y = gd_bi c) (h : post (gd_bi (decide (k % 5 ≠ 0) && decide (3 ≤ a))) (ct, gt, sr, oy, my, mk, tm, cn, us, ws, rd, wi, upd vt y (gd_bi (if k % 5 = 0 ∧ decide (3 ≤ a) = false then c else mo)), fm, dc, ry, fy, od, sy)) : wY_vote_80 post (nI y) (nI k) (gd_bi mo) (nI a) ct gt sr oy my mk tm cn us ws rd wi vt fm dc ry fy od sy := by
  have h5 : nI k - nI k / 5 * 5 = nI (k % 5) := pk_rem (d := 5) hk (by decide) (by decide)
  refine ⟨by decide, ?_⟩
  rw [h5]
  refine pk_eq (k % 5) 0 (fun z => pk_le 3 a (fun l => ?_) (fun l => ⟨vp_in_nI hy (by omega), ?_⟩)) (fun z => ?_)
  · rw [if_neg (fun t : k % 5 = 0 ∧ decide (3 ≤ a) = false => by rw [decide_eq_true l] at t; exact absurd t.2 (by decide))] at h
    exact gy_vt110 hy hk ha h
  · rw [if_pos ⟨z, decide_eq_false (by omega)⟩] at h
    rw [nI_clamp (by omega), hc]
    exact gy_vt110 hy hk ha h
  · rw [if_neg (fun t : k % 5 = 0 ∧ decide (3 ≤ a) = false => z t.1)] at h
    exact gy_vt110 hy hk ha h
theorem gy_vt {post : Int32 → SY → Prop} {D : gd_D} {n g x y : Nat} (I : gd_Inv D n g) (hx : x < n) (hy : y < n) (S : gx_S D mk tm cn us ws rd wi) (hlt : gd_rd D x < gd_rd D y) (hv : gd_rd D x + 2 ≤ gd_rd D y → ∀ z, z < n → gd_vo D z y = true → vt z = gd_bi (gf_v D x z))
    (h : post (gd_bi (gf_dec D x y)) (nI n, gt, sr, oy, my, mk, tm, cn, us, ws, rd, wi, upd vt y (gd_bi (gf_v D x y)), fm, dc, ry, fy, od, sy)) : wpY_vote post (nI n, gt, sr, oy, my, mk, tm, cn, us, ws, rd, wi, vt, fm, dc, ry, fy, od, sy) (nI x) (nI y) := by
  have i48 := I.1
  have ig := I.2.1
  have ryg := I.2.2.2.1 y
  obtain ⟨hmk, htm, hcn, hus, hws, hrd, hwi⟩ := S
  have cx : (nI x).toNatClampNeg = x := nI_clamp (by omega)
  have cy : (nI y).toNatClampNeg = y := nI_clamp (by omega)
  have vx : vp_in (nI x) 48 := vp_in_nI (by omega) (by omega)
  have vy : vp_in (nI y) 48 := vp_in_nI (by omega) (by omega)
  refine ⟨vy, vx, nm_r (e' := nI (gd_rd D y - gd_rd D x)) (by rw [cx, cy, hrd, hrd]; exact pk_sub (by omega)) ?_⟩
  refine pk_eq (gd_rd D y - gd_rd D x) 1 (fun e => ⟨vy, ?_⟩) (fun e => ?_)
  · have e : gd_rd D y = gd_rd D x + 1 := by omega
    rw [gf_dec_1 e, gf_v_1 e] at h
    rw [cy]
    subst hus
    exact gy_has (by omega) ⟨vy, nm_r (e' := upd vt y (gd_bi (gd_ub D x y))) (by rw [gd_biV]; rfl) h⟩
  · have hv := hv (by omega)
    have ly : gf_yes D (gf_v D x) y ≤ 48 := gc_cnt_le _ _
    have ln : gf_no D (gf_v D x) y ≤ 48 := gc_cnt_le _ _
    obtain ⟨ey, en2⟩ := gf_cnt_v (D := D) (x := x) (y := y) (v := gf_v D x) (fun z _ _ => rfl)
    refine gy_cv (b := true) I hy hws hrd hwi hv (gy_cv (b := false) I hy hws hrd hwi hv ?_)
    have b1 : gc_cnt (fun z => gd_vo D z y && (gf_v D x z == true)) 48 = gf_yes D (gf_v D x) y := gc_cnt_congr fun z _ => by cases gf_v D x z <;> rfl
    have b2 : gc_cnt (fun z => gd_vo D z y && (gf_v D x z == false)) 48 = gf_no D (gf_v D x) y := gc_cnt_congr fun z _ => by cases gf_v D x z <;> rfl
    rw [b1, b2]
    rw [gf_dec_s (by omega), gf_v_s (by omega)] at h
    have key : wY_vote_66 post (nI y) (nI (gd_rd D y - gd_rd D x)) (nI (gf_yes D (gf_v D x) y)) (nI (gf_no D (gf_v D x) y)) (gd_bi (gf_mo D (gf_vt D x (gd_rd D y - gd_rd D x - 1)) y)) (nI n) gt sr oy my mk tm cn us ws rd wi vt fm dc ry fy od sy := by
      rw [ey, en2]
      rw [ey] at ly
      rw [en2] at ln
      unfold gf_en at h
      refine gd_br (fun q => ?_) (fun q => ?_)
      · rw [if_neg (by rw [q]; decide)] at h
        exact gy_vt80 (by omega) (by omega) (by omega) (hcn y) h
      · rw [if_pos q] at h
        exact gy_vt80 (by omega) (by omega) (by omega) (hcn y) h
    have emo : gf_mo D (gf_vt D x (gd_rd D y - gd_rd D x - 1)) y = decide (gf_no D (gf_v D x) y ≤ gf_yes D (gf_v D x) y) := by unfold gf_mo; rw [ey, en2]
    rw [emo] at key
    refine pk_lt _ _ (fun l2 => ?_) (fun l2 => ?_) rfl rfl (by omega) (by omega)
    · rw [decide_eq_false (by omega)] at key; exact key
    · rw [decide_eq_true l2] at key; exact key
theorem gy_as33 {post : SY → Prop} {J : Int32 → Int32 → Int32 → Int32 → Int32 → Int32 → (Nat → Int32) → (Nat → Int32) → (Nat → Int32) → (Nat → Int64) → (Nat → Int64) → (Nat → Int32) → (Nat → Int32) → (Nat → Int32) → (Nat → Int32) → (Nat → Int32) → (Nat → Int32) → (Nat → Int32) → (Nat → Int32) → (Nat → Int32) → Prop}
    {D : gd_D} {n g x j : Nat} {fm0 dc0 : Nat → Int32} (I : gd_Inv D n g) (S : gx_S D mk tm cn us ws rd wi) (hx : x < n) (hj2 : gd_rd D x + 1 + j ≤ g)
    (K : ∀ vt' fm' dc' : Nat → Int32, (∀ i, i ≠ x → fm' i = fm0 i ∧ dc' i = dc0 i) → fm' x = nI (gf_val D x (gf_out D n x (j + 1))) → dc' x = gy_lv (gf_out D n x (j + 1)) → (gf_out D n x (j + 1) = none → gy_V D n x (gd_rd D x + 1 + j + 1) 0 vt') → J (nI (gd_rd D x + 1 + j + 1)) (nI n) (nI g) sr oy my mk tm cn us ws rd wi vt' fm' dc' ry fy od sy) :
    ∀ d y f (vt fm dc : Nat → Int32), y + d = n → d < f → (∀ i, i ≠ x → fm i = fm0 i ∧ dc i = dc0 i) → fm x = nI (gf_val D x (gf_in (gf_at D x (gd_rd D x + 1 + j)) (gf_out D n x j) y)) → dc x = gy_lv (gf_in (gf_at D x (gd_rd D x + 1 + j)) (gf_out D n x j) y) → (∀ d, gf_in (gf_at D x (gd_rd D x + 1 + j)) (gf_out D n x j) y = some d → d < 48) → (gf_in (gf_at D x (gd_rd D x + 1 + j)) (gf_out D n x j) y = none → gy_V D n x (gd_rd D x + 1 + j) y vt) → wY_ask_33 post J (nI x) (nI (gd_rd D x + 1 + j)) f (nI y) (nI n) (nI g) sr oy my mk tm cn us ws rd wi vt fm dc ry fy od sy := by
  have i48 := I.1
  have ig := I.2.1
  have ird := I.2.2.2.1
  have hrd := S.2.2.2.2.2.1
  have hwi := S.2.2.2.2.2.2
  have cx : (nI x).toNatClampNeg = x := nI_clamp (by omega)
  have vx : vp_in (nI x) 48 := vp_in_nI (by omega) (by omega)
  intro d
  induction d with
  | zero =>
    intro y f vt fm dc hy hf ho h1 h2 _ h3
    obtain ⟨f, rfl⟩ : ∃ q, f = q + 1 := ⟨f - 1, by omega⟩
    rw [wY_ask_33]
    have e : y = n := by omega
    subst e
    exact br_t (nI_le (Nat.le_refl _) (by omega)) (nm_r (nI_1 _) (K vt fm dc ho h1 h2 (fun q => gy_V_end (h3 q))))
  | succ d ih =>
    intro y f vt fm dc hy hf ho h1 h2 hd48 h3
    obtain ⟨f, rfl⟩ : ∃ q, f = q + 1 := ⟨f - 1, by omega⟩
    rw [wY_ask_33]
    have cy : (nI y).toNatClampNeg = y := nI_clamp (by omega)
    have vy : vp_in (nI y) 48 := vp_in_nI (by omega) (by omega)
    have hry := ird y
    have hrx := ird x
    refine br_f (nI_ge (by omega) (by omega)) ⟨vx, ?_⟩
    rw [cx, h2]
    have ih := ih (y + 1) f
    cases hs : gf_in (gf_at D x (gd_rd D x + 1 + j)) (gf_out D n x j) y with
    | some q =>
      rw [hs] at h1 h2
      have hq := hd48 q hs
      rw [gf_in_s hs] at ih
      exact br_t (nI_pos' (by omega)) (nm_r (nI_1 y) (ih vt fm dc (by omega) (by omega) ho h1 h2 (fun d' e => by cases e; exact hq) (fun e => by cases e)))
    | none =>
      rw [hs] at h1 h2
      have h3 := h3 hs
      have none' : gf_at D x (gd_rd D x + 1 + j) y = false → ∀ vt' : Nat → Int32, gy_V D n x (gd_rd D x + 1 + j) (y + 1) vt' → wY_ask_33 post J (nI x) (nI (gd_rd D x + 1 + j)) f (nI (y + 1)) (nI n) (nI g) sr oy my mk tm cn us ws rd wi vt' fm dc ry fy od sy := by
        intro hat vt' hV
        rw [gf_in_f hs hat] at ih
        exact ih vt' fm dc (by omega) (by omega) ho h1 h2 (fun d' e => by cases e) (fun _ => hV)
      refine br_f (by decide) (gy_wo (by omega) (hwi y) (hrd y) (by omega) (by omega) (gd_br (fun e => nm_r (nI_1 y) (none' ?_ vt (gy_V_skip h3 e))) (fun e => ?_)))
      · unfold gf_at; rw [e, Bool.false_and]
      · have e' := e
        rw [Bool.and_eq_true, beq_iff_eq] at e'
        refine gy_vt (D := D) I hx (by omega) S (by omega) (fun h2 => gy_V_vo h3 e'.2 h2) (gd_br (fun hd => nm_r (nI_1 y) (none' ?_ _ (gy_V_ask h3))) (fun hd => ?_))
        · unfold gf_at; rw [hd, Bool.and_false]
        · have hat : gf_at D x (gd_rd D x + 1 + j) y = true := by unfold gf_at; rw [hd, e]; rfl
          rw [gf_in_t hs hat] at ih
          refine ⟨vx, nm_r (e' := upd dc x (nI y)) rfl ⟨vy, ?_⟩⟩
          rw [cy, pk_us]
          refine gd_br (fun q => ⟨vx, nm_r (e' := upd fm x (nI 1)) rfl (nm_r (nI_1 y) (ih _ _ _ (by omega) (by omega) (fun i hi => ?_) ?_ pk_us (fun d' e2 => by cases e2; omega) (fun e2 => by cases e2)))⟩) (fun q => ⟨vx, nm_r (e' := upd fm x (nI 2)) rfl (nm_r (nI_1 y) (ih _ _ _ (by omega) (by omega) (fun i hi => ?_) ?_ pk_us (fun d' e2 => by cases e2; omega) (fun e2 => by cases e2)))⟩)
          · rw [pk_un hi, pk_un hi]; exact ho i hi
          · rw [pk_us]; unfold gf_val; show nI 1 = nI (if gf_v D x y = true then 2 else 1); rw [if_neg (by rw [q]; decide)]
          · rw [pk_un hi, pk_un hi]; exact ho i hi
          · rw [pk_us]; unfold gf_val; show nI 2 = nI (if gf_v D x y = true then 2 else 1); rw [if_pos q]
end
