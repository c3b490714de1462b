/-! ===== the component: the fame of one, of all ===== -/
def gf_V (D : gd_D) (n x r y : Nat) (v : Nat → Bool) : Prop :=
  (∀ z, z < n → gd_wi D z = true → gd_rd D x < gd_rd D z → (gd_rd D z < r ∨ (gd_rd D z = r ∧ z < y)) → v z = gf_v D x z)
def gf_Z (D : gd_D) (r y : Nat) (v : Nat → Bool) : Prop := ∀ z, (r < gd_rd D z ∨ (gd_rd D z = r ∧ y ≤ z)) → v z = false
theorem gf_V_skip {D : gd_D} {n x r y : Nat} {v : Nat → Bool} (h : gf_V D n x r y v) (hy : (gd_wi D y && (gd_rd D y == r)) = false) : gf_V D n x r (y + 1) v := by
  intro z hz hw hr hc
  refine h z hz hw hr ?_
  rcases hc with hc | ⟨h1, h2⟩
  · exact Or.inl hc
  · by_cases e : z = y
    · subst e
      rw [hw, h1, beq_self_eq_true] at hy
      cases hy
    · exact Or.inr ⟨h1, by omega⟩
theorem gf_Z_skip {D : gd_D} {r y : Nat} {v : Nat → Bool} (h : gf_Z D r y v) : gf_Z D r (y + 1) v := fun z hz => h z (by omega)
theorem gf_V_end {D : gd_D} {n x r : Nat} {v : Nat → Bool} (h : gf_V D n x r n v) : gf_V D n x (r + 1) 0 v := fun z hz hw hr hc => h z hz hw hr (by omega)
theorem gf_Z_end {D : gd_D} {n r : Nat} {v : Nat → Bool} (h : gf_Z D r n v) : gf_Z D (r + 1) 0 v := fun z hz => h z (by omega)
theorem gf_V_ask {D : gd_D} {n x r y : Nat} {v v' : Nat → Bool} (h : gf_V D n x r y v) (h1 : v' y = gf_v D x y) (h2 : ∀ z, z ≠ y → v' z = v z) : gf_V D n x r (y + 1) v' := by
  intro z hz hw hr hc
  by_cases e : z = y
  · subst e; exact h1
  · rw [h2 z e]; exact h z hz hw hr (by omega)
theorem gf_Z_ask {D : gd_D} {r y : Nat} {v v' : Nat → Bool} (h : gf_Z D r y v) (hy : gd_rd D y = r) (h2 : ∀ z, z ≠ y → v' z = v z) : gf_Z D r (y + 1) v' := by
  intro z hz
  have e : z ≠ y := by intro e; subst e; omega
  rw [h2 z e]; exact h z (by omega)
theorem gf_V_vo {D : gd_D} {n g x r y : Nat} {v : Nat → Bool} (I : gd_Inv D n g) (h : gf_V D n x r y v) (hy : gd_rd D y = r) (h2 : gd_rd D x + 2 ≤ gd_rd D y) : ∀ z, z < 48 → gd_vo D z y = true → v z = gf_v D x z := by
  intro z _ hv
  unfold gd_vo at hv
  rw [Bool.and_eq_true, Bool.and_eq_true, beq_iff_eq] at hv
  have hz : z < n := by
    rcases Nat.lt_or_ge z n with l | l
    · exact l
    · have := I.2.2.2.2.2.2.2.2.2 z l
      rw [this] at hv
      exact absurd hv.1.1 (by decide)
  exact h z hz hv.1.1 (by omega) (by omega)
section
variable {en gr st oc : Int32} {yv : Int64} {mk tm cn : Nat → Int32} {us ws : Nat → Int64} {rd wi : Nat → Int32} {vf : Nat → Int64} {fa de rc fi ev pl la so : Nat → Int32}
theorem gx_df24 {post : SX → Prop} {J : Int32 → Int32 → Int32 → Int32 → Int32 → Int64 → (Nat → Int32) → (Nat → Int32) → (Nat → Int32) → (Nat → Int64) → (Nat → Int64) → (Nat → Int32) → (Nat → Int32) → (Nat → Int64) → (Nat → Int32) → (Nat → Int32) → (Nat → Int32) → (Nat → Int32) → (Nat → Int32) → (Nat → Int32) → (Nat → Int32) → (Nat → Int32) → Prop}
    {D : gd_D} {n g x j : Nat} (I : gd_Inv D n g) (S : gx_S D mk tm cn us ws rd wi) (V : gv_ok D n vf) (hx : x < n) (hfa : fa x = 0) (hj2 : gd_rd D x + 1 + j ≤ g) (hj : gf_out D n x j = none)
    (K0 : gf_out D n x (j + 1) = none → ∀ yv' : Int64, gf_V D n x (gd_rd D x + 1 + j + 1) 0 (gb yv') → gf_Z D (gd_rd D x + 1 + j + 1) 0 (gb yv') → J (nI (gd_rd D x + 1 + j + 1)) (nI n) (nI g) st oc yv' mk tm cn us ws rd wi vf fa de rc fi ev pl la so)
    (K1 : ∀ d, gf_out D n x (j + 1) = some d → ∀ yv' : Int64, post (nI n, nI g, st, oc, yv', mk, tm, cn, us, ws, rd, wi, vf, upd fa x (nI (gf_val D x (some d))), upd de x (nI d), rc, fi, ev, pl, la, so)) :
    ∀ d y f (yv : Int64), y + d = n → d < f → gf_in (gf_at D x (gd_rd D x + 1 + j)) none y = none → gf_V D n x (gd_rd D x + 1 + j) y (gb yv) → gf_Z D (gd_rd D x + 1 + j) y (gb yv) → wX_decideFame_24 post J (nI x) (nI (gd_rd D x + 1 + j)) f (nI y) (nI n) (nI g) st oc yv mk tm cn us ws rd wi vf fa de rc fi ev pl la so := by
  have i48 := I.1
  have ig := I.2.1
  have ird := I.2.2.2.1
  obtain ⟨hmk, htm, hcn, hus, hws, hrd, hwi⟩ := S
  have hout : gf_out D n x (j + 1) = gf_in (gf_at D x (gd_rd D x + 1 + j)) none n := by rw [gf_out, hj]
  have cx : (nI x).toNatClampNeg = x := nI_clamp (by omega)
  have vx : vp_in (nI x) 48 := vp_in_nI (by omega) (by omega)
  have hf0 : fa (nI x).toNatClampNeg = 0 := by rw [cx]; exact hfa
  intro d
  induction d with
  | zero =>
    intro y f yv hy hf hin hV hZ
    obtain ⟨f, rfl⟩ : ∃ k, f = k + 1 := ⟨f - 1, by omega⟩
    rw [wX_decideFame_24]
    have e : y = n := by omega
    subst e
    exact br_t (nI_le (Nat.le_refl _) (by omega)) (nm_r (nI_1 _) (K0 (hout.trans hin) yv (gf_V_end hV) (gf_Z_end hZ)))
  | succ d ih =>
    intro y f yv hy hf hin hV hZ
    obtain ⟨f, rfl⟩ : ∃ k, f = k + 1 := ⟨f - 1, by omega⟩
    rw [wX_decideFame_24]
    have hy2 := ird y
    refine br_f (nI_ge (by omega) (by omega)) (gx_wo (by omega) (hwi y) (hrd y) (by omega) (by have := ird x; omega) (gd_br (fun e => ?_) (fun e => ?_)))
    · have hat : gf_at D x (gd_rd D x + 1 + j) y = false := by unfold gf_at; rw [e, Bool.false_and]
      exact ⟨vx, br_t hf0 (nm_r (nI_1 y) (ih (y + 1) f yv (by omega) (by omega) (gf_in_f hin hat) (gf_V_skip hV e) (gf_Z_skip hZ)))⟩
    · have e' := e
      rw [Bool.and_eq_true, beq_iff_eq] at e'
      have hyv0 : gb yv y = false := hZ y (Or.inr ⟨e'.2, Nat.le_refl _⟩)
      refine gx_tv (D := D) (by omega) (by omega) hus hrd hcn (by omega) (by omega) (V y (by omega)) (fun h2 => gf_V_vo I hV e'.2 h2) (fun hd yv' hv => ?_) (fun hd yv' hv => ?_)
      · have hat : gf_at D x (gd_rd D x + 1 + j) y = false := by unfold gf_at; rw [hd, Bool.and_false]
        have a1 : gb yv' y = gf_v D x y := by rw [hv y, hyv0, beq_self_eq_true, Bool.true_and, Bool.false_or]
        have a2 : ∀ z, z ≠ y → gb yv' z = gb yv z := fun z hz => by
          have : (y == z) = false := beq_eq_false_iff_ne.mpr (fun t => hz t.symm)
          rw [hv z, this, Bool.false_and, Bool.or_false]
        exact ⟨vx, br_t hf0 (nm_r (nI_1 y) (ih (y + 1) f yv' (by omega) (by omega) (gf_in_f hin hat) (gf_V_ask hV a1 a2) (gf_Z_ask hZ e'.2 a2)))⟩
      · have hat : gf_at D x (gd_rd D x + 1 + j) y = true := by unfold gf_at; rw [hd, e]; rfl
        have fin := K1 y (hout.trans (gf_in_stay (by omega) (gf_in_t hin hat))) yv'
        refine ⟨vx, br_f ?_ fin⟩
        rw [cx, pk_us]
        split <;> decide
theorem gx_df14 {post : SX → Prop} {D : gd_D} {n g x : Nat} (I : gd_Inv D n g) (S : gx_S D mk tm cn us ws rd wi) (V : gv_ok D n vf) (hx : x < n) (hfa : fa x = 0)
    (K0 : gf_de D n g x = none → ∀ yv' : Int64, post (nI n, nI g, st, oc, yv', mk, tm, cn, us, ws, rd, wi, vf, fa, de, rc, fi, ev, pl, la, so))
    (K1 : ∀ d, gf_de D n g x = some d → ∀ yv' : Int64, post (nI n, nI g, st, oc, yv', mk, tm, cn, us, ws, rd, wi, vf, upd fa x (nI (gf_val D x (some d))), upd de x (nI d), rc, fi, ev, pl, la, so)) :
    ∀ d j f (yv : Int64), j + d = g - gd_rd D x → d < f → gf_out D n x j = none → gf_V D n x (gd_rd D x + 1 + j) 0 (gb yv) → gf_Z D (gd_rd D x + 1 + j) 0 (gb yv) → wX_decideFame_14 post (nI x) f (nI (gd_rd D x + 1 + j)) (nI n) (nI g) st oc yv mk tm cn us ws rd wi vf fa de rc fi ev pl la so := by
  have i48 := I.1
  have ig := I.2.1
  have ird := I.2.2.2.1 x
  intro d
  induction d with
  | zero =>
    intro j f yv hj hf ho hV hZ
    obtain ⟨f, rfl⟩ : ∃ k, f = k + 1 := ⟨f - 1, by omega⟩
    rw [wX_decideFame_14]
    have e : j = g - gd_rd D x := by omega
    subst e
    exact br_t (nI_lt (by omega) (by omega)) (K0 ho yv)
  | succ d ih =>
    intro j f yv hj hf ho hV hZ
    obtain ⟨f, rfl⟩ : ∃ k, f = k + 1 := ⟨f - 1, by omega⟩
    rw [wX_decideFame_14]
    refine br_f (nI_nlt (by omega) (by omega)) ⟨n + 1, ?_⟩
    refine gx_df24 I S V hx hfa (by omega) ho (fun h yv' hV' hZ' => ih (j + 1) f yv' (by omega) (by omega) h hV' hZ') (fun d' hd yv' => K1 d' ?_ yv') n 0 (n + 1) yv (by omega) (by omega) rfl hV hZ
    exact gf_out_stay (by omega) hd
theorem gx_df {post : SX → Prop} {D : gd_D} {n g x : Nat} (I : gd_Inv D n g) (S : gx_S D mk tm cn us ws rd wi) (V : gv_ok D n vf) (hx : x < n) (hfa : fa x = 0) (hde : de x = -2)
    (K : ∀ (yv' : Int64) (fa' de' : Nat → Int32), (∀ i, i ≠ x → fa' i = fa i ∧ de' i = de i) → fa' x = nI (gf_val D x (gf_de D n g x)) → de' x = gf_dv (gf_de D n g x) → post (nI n, nI g, st, oc, yv', mk, tm, cn, us, ws, rd, wi, vf, fa', de', rc, fi, ev, pl, la, so)) : wpX_decideFame post (nI n, nI g, st, oc, yv, mk, tm, cn, us, ws, rd, wi, vf, fa, de, rc, fi, ev, pl, la, so) (nI x) := by
  have i48 := I.1
  have ig := I.2.1
  have ird := I.2.2.2.1 x
  have hrd := S.2.2.2.2.2.1
  refine ⟨vp_in_nI (by omega) (by omega), nm_r (e' := nI (gd_rd D x + 1 + 0)) (by rw [nI_clamp (by omega), hrd, nI_1]) ⟨g + 2, ?_⟩⟩
  refine gx_df14 I S V hx hfa (fun h yv' => K yv' fa de (fun i _ => ⟨rfl, rfl⟩) (by rw [h]; exact hfa) (by rw [h]; exact hde)) (fun d h yv' => K yv' _ _ (fun i hi => ⟨pk_un hi, pk_un hi⟩) (by rw [h]; exact pk_us) (by rw [h]; exact pk_us)) (g - gd_rd D x) 0 (g + 2) 0 (by omega) (by omega) rfl ?_ ?_
  · intro z hz hw hr hc; omega
  · intro z _; exact gb_0 z
theorem gx_da2 {post : SX → Prop} {D : gd_D} {n g : Nat} (I : gd_Inv D n g) (S : gx_S D mk tm cn us ws rd wi) (V : gv_ok D n vf)
    (K : ∀ (yv' : Int64) (fa' de' : Nat → Int32), (∀ j, j < n → fa' j = nI (gf_F D n g j) ∧ de' j = gf_d D n g j) → post (nI n, nI g, st, oc, yv', mk, tm, cn, us, ws, rd, wi, vf, fa', de', rc, fi, ev, pl, la, so)) :
    ∀ d i f (yv : Int64) (fa de : Nat → Int32), i + d = n → d < f → (∀ j, j < i → fa j = nI (gf_F D n g j) ∧ de j = gf_d D n g j) → wX_decideAllFame_2 post f (nI i) (nI n) (nI g) st oc yv mk tm cn us ws rd wi vf fa de rc fi ev pl la so := by
  have i48 := I.1
  have hwi := S.2.2.2.2.2.2
  intro d
  induction d with
  | zero =>
    intro i f yv fa de hi hf h
    obtain ⟨f, rfl⟩ : ∃ k, f = k + 1 := ⟨f - 1, by omega⟩
    rw [wX_decideAllFame_2]
    have e : i = n := by omega
    subst e
    exact br_t (nI_le (Nat.le_refl _) (by omega)) (K yv fa de h)
  | succ d ih =>
    intro i f yv fa de hi hf h
    obtain ⟨f, rfl⟩ : ∃ k, f = k + 1 := ⟨f - 1, by omega⟩
    rw [wX_decideAllFame_2]
    have c : (nI i).toNatClampNeg = i := nI_clamp (by omega)
    have v : vp_in (nI i) 48 := vp_in_nI (by omega) (by omega)
    refine br_f (nI_ge (by omega) (by omega)) ⟨v, nm_r (e' := upd fa i 0) (by rw [c]) ⟨v, nm_r (e' := upd de i (-2)) (by rw [c]) ⟨v, ?_⟩⟩⟩
    rw [c, hwi i]
    refine gd_br (fun e => nm_r (nI_1 i) (ih (i + 1) f yv _ _ (by omega) (by omega) (fun j hj => ?_))) (fun e => gx_df I S V (by omega) pk_us pk_us (fun yv' fa' de' h1 h2 h3 => nm_r (nI_1 i) (ih (i + 1) f yv' fa' de' (by omega) (by omega) (fun j hj => ?_))))
    · by_cases q : j = i
      · subst q
        rw [pk_us, pk_us]
        unfold gf_F gf_d
        rw [if_neg (by rw [e]; decide), if_neg (by rw [e]; decide)]
        exact ⟨rfl, rfl⟩
      · rw [pk_un q, pk_un q]; exact h j (by omega)
    · by_cases q : j = i
      · subst q
        unfold gf_F gf_d
        rw [if_pos e, if_pos e]
        exact ⟨h2, h3⟩
      · have := h1 j q
        rw [pk_un q, pk_un q] at this
        rw [this.1, this.2]; exact h j (by omega)
theorem gx_da {post : SX → Prop} {D : gd_D} {n g : Nat} (I : gd_Inv D n g) (S : gx_S D mk tm cn us ws rd wi) (V : gv_ok D n vf)
    (K : ∀ (yv' : Int64) (fa' de' : Nat → Int32), (∀ j, j < n → fa' j = nI (gf_F D n g j) ∧ de' j = gf_d D n g j) → post (nI n, nI g, st, oc, yv', mk, tm, cn, us, ws, rd, wi, vf, fa', de', rc, fi, ev, pl, la, so)) : wpX_decideAllFame post (nI n, nI g, st, oc, yv, mk, tm, cn, us, ws, rd, wi, vf, fa, de, rc, fi, ev, pl, la, so) :=
  ⟨n + 1, gx_da2 I S V K n 0 (n + 1) yv fa de (by omega) (by omega) (fun j hj => absurd hj (by omega))⟩
end
