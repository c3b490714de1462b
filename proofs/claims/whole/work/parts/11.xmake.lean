/-! ===== the component: the order, and a new event ===== -/
def gx_V (D : gd_D) (n g : Nat) (st oc : Int32) (fa de rc fi ev pl : Nat → Int32) : Prop :=
  (∀ j, j < n → fa j = nI (gf_F D n g j) ∧ de j = gf_d D n g j) ∧ st = nI (gs_S D n g) ∧
  (∀ j, j < n → rc j = gx_rc (gr_R D n g j) ∧ (gr_R D n g j ≠ 0 → fi j = go_fn D n g j)) ∧ oc = nI (go_O D n g).1 ∧
  (∀ j, j < (go_O D n g).1 → ev j = nI ((go_O D n g).2 j)) ∧ (∀ j, j < (go_O D n g).1 → pl ((go_O D n g).2 j) = nI j)
def gx_L (D : gd_D) (n : Nat) (la : Nat → Int32) : Prop := ∀ m, m < 4 → ∃ o, la m = gf_dv o ∧ gm_own D n m o
def gx_R (D : gd_D) (n g : Nat) (u : SX) : Prop := match u with
  | (en, gr, st, oc, yv, mkk, tm, cn, us, ws, rd, wi, vf, fa, de, rc, fi, ev, pl, la, so) => en = nI n ∧ gr = nI g ∧ gx_S D mkk tm cn us ws rd wi ∧ gv_ok D n vf ∧ gx_L D n la ∧ gx_V D n g st oc fa de rc fi ev pl
theorem gi_map {α : Type} (c : α → Int32) {a : Nat → Int32} {f : Nat → α} (h : ∀ j, a j = c (f j)) (n : Nat) (x : α) : ∀ j, upd a n (c x) j = c (gi_up f n x j) := by
  intro j
  by_cases e : j = n
  · subst e; rw [pk_us, gi_us]
  · rw [pk_un e, gi_un e]; exact h j
theorem gx_S_make {D : gd_D} {n m : Nat} {o1 o2 : Option Nat} {t : Int32} {c : Bool} {mk tm cn : Nat → Int32} {us ws : Nat → Int64} {rd wi : Nat → Int32} (S : gx_S D mk tm cn us ws rd wi) :
    gx_S (gm_D D n m o1 o2 t c) (upd mk n (nI m)) (upd tm n t) (upd cn n (gd_bi c)) (vp_updL us n (gm_U D n o1 o2)) (vp_updL ws n (gm_W D n m o1 o2)) (upd rd n (nI (gm_r D n m o1 o2))) (upd wi n (gd_bi (gm_w D n m o1 o2))) := by
  obtain ⟨hmk, htm, hcn, hus, hws, hrd, hwi⟩ := S
  subst htm hus hws
  exact ⟨gi_map nI hmk n m, rfl, gi_map gd_bi hcn n c, rfl, rfl, gi_map nI hrd n _, gi_map gd_bi hwi n _⟩
theorem gx_L_make {D : gd_D} {n m : Nat} {o1 o2 : Option Nat} {t : Int32} {c : Bool} {la : Nat → Int32} (L : gx_L D n la) : gx_L (gm_D D n m o1 o2 t c) (n + 1) (upd la m (nI n)) := by
  intro k hk
  have mkn : ∀ j, gd_mk (gm_D D n m o1 o2 t c) j = gi_up (gd_mk D) n m j := fun _ => rfl
  by_cases e : k = m
  · subst e
    refine ⟨some n, pk_us, by omega, by rw [mkn, gi_us], fun j h1 h2 => by omega⟩
  · obtain ⟨o, ho, hw⟩ := L k hk
    refine ⟨o, by rw [pk_un e]; exact ho, ?_⟩
    have old : ∀ j, j < n + 1 → (j < n → gd_mk D j ≠ k) → gd_mk (gm_D D n m o1 o2 t c) j ≠ k := by
      intro j hj h
      rw [mkn]
      by_cases q : j = n
      · subst q; rw [gi_us]; exact fun z => e z.symm
      · rw [gi_un q]; exact h (by omega)
    cases o with
    | none => exact fun j hj => old j hj (fun h => hw j h)
    | some p =>
      obtain ⟨w1, w2, w3⟩ := hw
      refine ⟨by omega, by rw [mkn, gi_un (by omega)]; exact w2, fun j h1 h2 => old j h2 (fun h => w3 j h1 h)⟩
section
variable {en gr st oc : Int32} {yv : Int64} {mk tm cn : Nat → Int32} {us ws : Nat → Int64} {rd wi : Nat → Int32} {vf : Nat → Int64} {fa de rc fi ev pl la so : Nat → Int32}
theorem gx_cb {post : Int32 → Prop} {x e : Nat} {R : Nat → Nat} {fn : Nat → Int32} (hx : x < 48) (he : e < 48) (h1 : rc x = nI (R x)) (h2 : rc e = nI (R e)) (h3 : R x < 2 ^ 31) (h4 : R e < 2 ^ 31) (h5 : fi x = fn x) (h6 : fi e = fn e) (h : post (gd_bi (go_bf R fn x e))) : wpX_comesBefore post (en, gr, st, oc, yv, mk, tm, cn, us, ws, rd, wi, vf, fa, de, rc, fi, ev, pl, la, so) (nI x) (nI e) := by
  have cx : (nI x).toNatClampNeg = x := nI_clamp (by omega)
  have ce : (nI e).toNatClampNeg = e := nI_clamp (by omega)
  have vx : vp_in (nI x) 48 := vp_in_nI hx (by omega)
  have ve : vp_in (nI e) 48 := vp_in_nI he (by omega)
  refine ⟨vx, ve, ?_⟩
  rw [cx, ce, h1, h2, h5, h6]
  unfold go_bf at h
  refine pk_eq (R x) (R e) (fun q => ⟨vx, ve, ?_⟩) (fun q => ⟨vx, ve, ?_⟩)
  · rw [if_pos q] at h
    by_cases l : fn e ≤ fn x
    · rw [decide_eq_false (Int32.not_lt.mpr l)] at h; exact br_t l h
    · rw [decide_eq_true (Int32.not_le.mp l)] at h; exact br_f l h
  · rw [if_neg q] at h
    refine pk_le (R e) (R x) (fun l => ?_) (fun l => ?_)
    · rw [decide_eq_false (by omega)] at h; exact h
    · rw [decide_eq_true l] at h; exact h
def gx_bf (R : Nat → Nat) (fn : Nat → Int32) (x : Nat) (e : Int32) : Bool := go_bf R fn x e.toNatClampNeg
def gx_at (rc fi : Nat → Int32) (R : Nat → Nat) (fn : Nat → Int32) (i : Nat) : Prop := i < 48 ∧ rc i = nI (R i) ∧ R i < 2 ^ 31 ∧ fi i = fn i
theorem gx_io5 {post : SX → Prop} {x : Nat} {R : Nat → Nat} {fn : Nat → Int32} (hx : gx_at rc fi R fn x) : ∀ k f (ev : Nat → Int32), k < 48 → k < f → (∀ j, j < k → ∃ i, ev j = nI i ∧ gx_at rc fi R fn i) → post (en, gr, st, oc, yv, mk, tm, cn, us, ws, rd, wi, vf, fa, de, rc, fi, gi_ins (gx_bf R fn x) (nI x) k ev, pl, la, so) → wX_insertInOrder_5 post (nI x) en gr st oc yv f (nI k) mk tm cn us ws rd wi vf fa de rc fi ev pl la so := by
  intro k
  induction k with
  | zero =>
    intro f ev hk hf hs h
    obtain ⟨f, rfl⟩ : ∃ m, f = m + 1 := ⟨f - 1, by omega⟩
    rw [wX_insertInOrder_5]
    exact br_t (nI_le (Nat.le_refl 0) (by decide)) ⟨vp_in_nI (by omega) (by omega), nm_r (e' := gi_up ev 0 (nI x)) (by rw [nI_clamp (by omega)]; rfl) h⟩
  | succ k ih =>
    intro f ev hk hf hs h
    obtain ⟨f, rfl⟩ : ∃ m, f = m + 1 := ⟨f - 1, by omega⟩
    rw [wX_insertInOrder_5]
    have e1 : nI (k + 1) - 1 = nI k := nI_pred k
    have c1 : (nI (k + 1) - 1).toNatClampNeg = k := by rw [e1]; exact nI_clamp (by omega)
    have v1 : vp_in (nI (k + 1) - 1) 48 := by rw [e1]; exact vp_in_nI (by omega) (by omega)
    have c2 : (nI (k + 1)).toNatClampNeg = k + 1 := nI_clamp (by omega)
    have v2 : vp_in (nI (k + 1)) 48 := vp_in_nI hk (by omega)
    obtain ⟨i, ei, hi⟩ := hs k (by omega)
    refine br_f (nI_nle (by omega) (by omega)) ⟨v1, ?_⟩
    rw [c1, c2]
    rw [gi_ins] at h
    have eb : gx_bf R fn x (ev k) = go_bf R fn x i := by unfold gx_bf; rw [ei, nI_clamp (by have := hi.1; omega)]
    rw [eb] at h
    have call : ∀ P : Int32 → Prop, P (gd_bi (go_bf R fn x i)) → wpX_comesBefore P (en, gr, st, oc, yv, mk, tm, cn, us, ws, rd, wi, vf, fa, de, rc, fi, ev, pl, la, so) (nI x) (ev k) := fun P hP => by
      rw [ei]
      exact gx_cb hx.1 hi.1 hx.2.1 hi.2.1 hx.2.2.1 hi.2.2.1 hx.2.2.2 hi.2.2.2 hP
    refine call _ (gd_br (fun q => ⟨v2, nm_r (e' := gi_up ev (k + 1) (nI x)) rfl ?_⟩) (fun q => ⟨v1, v2, nm_r (e' := gi_up ev (k + 1) (ev k)) rfl (nm_r (pk_m1 k) (ih f _ (by omega) (by omega) (fun j hj => ?_) ?_))⟩))
    · rw [if_neg (by rw [q]; decide)] at h; exact h
    · rw [gi_un (by omega)]; exact hs j (by omega)
    · rw [if_pos q] at h; exact h
theorem gx_io {post : SX → Prop} {x k : Nat} {R : Nat → Nat} {fn : Nat → Int32} (hx : gx_at rc fi R fn x) (hk : k < 48) (hs : ∀ j, j < k → ∃ i, ev j = nI i ∧ gx_at rc fi R fn i) (h : post (en, gr, st, nI k, yv, mk, tm, cn, us, ws, rd, wi, vf, fa, de, rc, fi, gi_ins (gx_bf R fn x) (nI x) k ev, pl, la, so)) : wpX_insertInOrder post (en, gr, st, nI k, yv, mk, tm, cn, us, ws, rd, wi, vf, fa, de, rc, fi, ev, pl, la, so) (nI x) := ⟨k + 1, gx_io5 hx k (k + 1) ev hk (by omega) hs h⟩
theorem gx_pa46 {post : SX → Prop} {n k : Nat} {F : Nat → Nat} (hk : k ≤ 48) (hF : ∀ j, j < k → F j < 48) (hi : ∀ i j, i < j → j < k → F i ≠ F j) (he : ∀ j, j < k → ev j = nI (F j)) (h : ∀ pl' : Nat → Int32, (∀ j, j < k → pl' (F j) = nI j) → post (en, gr, st, nI k, yv, mk, tm, cn, us, ws, rd, wi, vf, fa, de, rc, fi, ev, pl', la, so)) :
    ∀ d i f (pl : Nat → Int32), i + d = k → d < f → (∀ j, j < i → pl (F j) = nI j) → wX_putAllInOrder_46 post en gr st (nI k) yv f (nI i) mk tm cn us ws rd wi vf fa de rc fi ev pl la so := by
  intro d
  induction d with
  | zero =>
    intro i f pl hd hf hp
    obtain ⟨f, rfl⟩ : ∃ m, f = m + 1 := ⟨f - 1, by omega⟩
    rw [wX_putAllInOrder_46]
    have e : i = k := by omega
    subst e
    exact br_t (nI_le (Nat.le_refl _) (by omega)) (h pl hp)
  | succ d ih =>
    intro i f pl hd hf hp
    obtain ⟨f, rfl⟩ : ∃ m, f = m + 1 := ⟨f - 1, by omega⟩
    rw [wX_putAllInOrder_46]
    have c : (nI i).toNatClampNeg = i := nI_clamp (by omega)
    have v : vp_in (nI i) 48 := vp_in_nI (by omega) (by omega)
    have hFi := hF i (by omega)
    refine br_f (nI_ge (by omega) (by omega)) ⟨v, ?_⟩
    rw [c, he i (by omega), nI_clamp (show F i < 2 ^ 31 by omega)]
    refine ⟨vp_in_nI hFi (by omega), nm_e (nm_r (nI_1 i) (ih (i + 1) f _ (by omega) (by omega) (fun j hj => ?_)))⟩
    by_cases q : j = i
    · subst q; exact pk_us
    · rw [pk_un (hi j i (by omega) (by omega))]; exact hp j (by omega)
theorem gx_pa7 {post : SX → Prop} {n : Nat} {R : Nat → Nat} {fn : Nat → Int32} (hn : n ≤ 48) (hR : ∀ j, R j < 2 ^ 31) (hr : ∀ j, j < n → rc j = gx_rc (R j) ∧ (R j ≠ 0 → fi j = fn j))
    (h : ∀ ev' pl' : Nat → Int32, (∀ j, j < (go_st R fn n).1 → ev' j = nI ((go_st R fn n).2 j)) → (∀ j, j < (go_st R fn n).1 → pl' ((go_st R fn n).2 j) = nI j) → post (nI n, gr, st, nI (go_st R fn n).1, yv, mk, tm, cn, us, ws, rd, wi, vf, fa, de, rc, fi, ev', pl', la, so)) :
    ∀ d i f (ev : Nat → Int32), i + d = n → d < f → (∀ j, j < (go_st R fn i).1 → ev j = nI ((go_st R fn i).2 j)) → wX_putAllInOrder_7 post f (nI i) (nI n) gr st (nI (go_st R fn i).1) yv mk tm cn us ws rd wi vf fa de rc fi ev pl la so := by
  have at' : ∀ j, j < n → R j ≠ 0 → gx_at rc fi R fn j := fun j hj h0 => ⟨by omega, by rw [(hr j hj).1, gx_rcN h0], hR j, (hr j hj).2 h0⟩
  intro d
  induction d with
  | zero =>
    intro i f ev hd hf hp
    obtain ⟨f, rfl⟩ : ∃ m, f = m + 1 := ⟨f - 1, by omega⟩
    rw [wX_putAllInOrder_7]
    have e : i = n := by omega
    subst e
    obtain ⟨g1, g2, g3, g4⟩ := go_is R fn i
    refine br_t (nI_le (Nat.le_refl _) (by omega)) ⟨(go_st R fn i).1 + 1, ?_⟩
    exact gx_pa46 (n := i) (by omega) (fun j hj => by have := (g2 j hj).1; omega) g3 hp (fun pl' hp' => h ev pl' hp hp') (go_st R fn i).1 0 _ pl (by omega) (by omega) (fun j hj => absurd hj (by omega))
  | succ d ih =>
    intro i f ev hd hf hp
    obtain ⟨f, rfl⟩ : ∃ m, f = m + 1 := ⟨f - 1, by omega⟩
    rw [wX_putAllInOrder_7]
    obtain ⟨g1, g2, g3, g4⟩ := go_is R fn i
    have ih := ih (i + 1) f
    refine br_f (nI_ge (by omega) (by omega)) (gx_ir (R := R i) (by omega) (hR i) (hr i (by omega)).1 (fun e => br_t rfl (nm_r (nI_1 i) ?_)) (fun e => br_f (by decide) ?_))
    · rw [go_f e] at ih
      exact ih ev (by omega) (by omega) hp
    · rw [go_t e] at ih
      refine gx_io (R := R) (fn := fn) (at' i (by omega) e) (by omega) (fun j hj => ⟨_, hp j hj, at' _ (by have := (g2 j hj).1; omega) (g2 j hj).2⟩) (nm_r (nI_1 _) (nm_r (nI_1 i) (ih _ (by omega) (by omega) ?_)))
      refine gi_below nI (gx_bf R fn i) (go_bf R fn i) i hp (fun j hj => ?_)
      unfold gx_bf
      rw [nI_clamp (by have := (g2 j hj).1; omega)]
theorem gx_pa {post : SX → Prop} {n : Nat} {R : Nat → Nat} {fn : Nat → Int32} (hn : n ≤ 48) (hR : ∀ j, R j < 2 ^ 31) (hr : ∀ j, j < n → rc j = gx_rc (R j) ∧ (R j ≠ 0 → fi j = fn j))
    (h : ∀ ev' pl' : Nat → Int32, (∀ j, j < (go_st R fn n).1 → ev' j = nI ((go_st R fn n).2 j)) → (∀ j, j < (go_st R fn n).1 → pl' ((go_st R fn n).2 j) = nI j) → post (nI n, gr, st, nI (go_st R fn n).1, yv, mk, tm, cn, us, ws, rd, wi, vf, fa, de, rc, fi, ev', pl', la, so)) : wpX_putAllInOrder post (nI n, gr, st, oc, yv, mk, tm, cn, us, ws, rd, wi, vf, fa, de, rc, fi, ev, pl, la, so) :=
  ⟨n + 1, gx_pa7 hn hR hr h n 0 (n + 1) ev (by omega) (by omega) (fun j hj => absurd hj (Nat.not_lt_zero _))⟩
theorem gx_me {post : Int32 → SX → Prop} {D : gd_D} {n g m : Nat} {o2 : Option Nat} {t : Int32} {c : Bool} (I : gd_Inv D n g) (hn : n < 48) (hm : m < 4) (S : gx_S D mk tm cn us ws rd wi) (V : gv_ok D n vf) (L : gx_L D n la) (h2 : gm_lt n o2)
    (h : ∀ o1 u', gm_own D n m o1 → gx_R (gm_D D n m o1 o2 t c) (n + 1) (gm_g D n g m o1 o2) u' → post (nI n) u') : wpX_makeEvent post (nI n, nI g, st, oc, yv, mk, tm, cn, us, ws, rd, wi, vf, fa, de, rc, fi, ev, pl, la, so) (nI m) (gf_dv o2) t (gd_bi c) := by
  have i48 := I.1
  obtain ⟨o1, hla, ho⟩ := L m hm
  have h1 := gm_own_lt ho
  have I' := gm_inv (t := t) (c := c) I hn hm ho h2
  have S' := gx_S_make (n := n) (m := m) (o1 := o1) (o2 := o2) (t := t) (c := c) S
  have V' := gv_make (m := m) (own := o1) (other := o2) (t := t) (c := c) I hn V
  have L' := gx_L_make (m := m) (o1 := o1) (o2 := o2) (t := t) (c := c) L
  have h := fun u' => h o1 u' ho
  obtain ⟨hmk, htm, hcn, hus, hws, hrd, hwi⟩ := S
  subst hus
  have cm : (nI m).toNatClampNeg = m := nI_clamp (by omega)
  have vm : vp_in (nI m) 4 := vp_in_nI hm (by omega)
  have cn' : (nI n).toNatClampNeg = n := nI_clamp (by omega)
  have vn : vp_in (nI n) 48 := vp_in_nI hn (by omega)
  have k1 := gm_lt48 i48 h1
  have k2 := gm_lt48 i48 h2
  have hmk' : ∀ j, upd mk n (nI m) j = nI (gi_up (gd_mk D) n m j) := gi_map nI hmk n m
  have h4' : ∀ j, gi_up (gd_mk D) n m j < 4 := I'.2.2.1
  refine ⟨vm, nm_r (e' := gf_dv o1) (by rw [cm]; exact hla) ⟨vn, nm_r (e' := upd mk n (nI m)) (by rw [cn']) ⟨vn, nm_r (e' := upd tm n t) (by rw [cn']) ⟨vn, nm_r (e' := upd cn n (gd_bi c)) (by rw [cn', gd_biV]) ⟨vm, nm_r (e' := upd la m (nI n)) (by rw [cm]) (nm_r (nI_1 n) ?_)⟩⟩⟩⟩⟩
  refine gx_kn k1 ?_
  refine gx_kn k2 ?_
  rw [gm_kn_eq, gm_kn_eq]
  refine ⟨vn, nm_r (e' := vp_updL (gd_us D) n (gm_U D n o1 o2)) (by rw [cn']; rfl) ?_⟩
  refine gx_wk (mn := gi_up (gd_mk D) n m) hn hmk' h4' ⟨vn, nm_r (e' := vp_updL ws n (gm_W D n m o1 o2)) (by rw [cn']; rfl) ?_⟩
  refine gx_pr (D := D) (m := m) hn I hrd hwi pk_uLs h1 h2 ?_
  refine gx_da I' S' V' (fun yv' fa' de' hF => ?_)
  refine gx_cs I' S'.2.2.2.2.2.1 S'.2.2.2.2.2.2 (fun j hj => (hF j hj).1) ?_
  refine gx_ra I' S' (fun j hj => (hF j hj).1) (fun rc' fi' so' hR => ?_)
  refine gx_pa (R := gr_R (gm_D D n m o1 o2 t c) (n + 1) (gm_g D n g m o1 o2)) (fn := go_fn (gm_D D n m o1 o2 t c) (n + 1) (gm_g D n g m o1 o2)) I'.1 (fun j => ?_) hR (fun ev' pl' hE hP => ?_)
  · have a := gr_R_le (gm_D D n m o1 o2 t c) (n + 1) (gm_g D n g m o1 o2) j
    have b := gs_S_le (gm_D D n m o1 o2 t c) (n + 1) (gm_g D n g m o1 o2)
    have c := I'.2.1
    omega
  · exact h _ ⟨rfl, rfl, S', V', L', hF, rfl, hR, rfl, hE, hP⟩
end
