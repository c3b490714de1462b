/-! ===== the reference: a new event ===== -/
section
variable {ct gt sr oy my : Int32} {mk tm cn : Nat → Int32} {us ws : Nat → Int64} {rd wi vt fm dc ry fy od sy : Nat → Int32}
theorem gy_277 {post : Int32 → SY → Prop} {n g R : Nat} {w : Bool} (hn : n < 48) (hg : g < 2 ^ 31) (hR : R < 2 ^ 31) (hrd : rd n = nI R)
    (h : post (nI n) (nI (n + 1), nI (if g < R then R else g), sr, oy, my, mk, tm, cn, us, ws, rd, upd wi n (gd_bi w), vt, fm, dc, ry, fy, od, sy)) : wY_make_277 post (nI n) (gd_bi w) (nI n) (nI n) (nI g) sr oy my mk tm cn us ws rd wi vt fm dc ry fy od sy := by
  have c : (nI n).toNatClampNeg = n := nI_clamp (by omega)
  have v : vp_in (nI n) 48 := vp_in_nI hn (by omega)
  refine ⟨v, nm_r (e' := upd wi n (gd_bi w)) (by rw [c, gd_biV]) ⟨v, ?_⟩⟩
  rw [c, hrd]
  refine pk_le R g (fun l => nm_r (nI_1 n) ?_) (fun l => ⟨v, nm_r (nI_1 n) ?_⟩)
  · rw [if_neg (by omega)] at h; exact h
  · rw [if_pos l] at h; exact h
theorem gy_245 {post : Int32 → SY → Prop} {D : gd_D} {n g R : Nat} {o1 : Option Nat} (hn : n < 48) (hg : g < 2 ^ 31) (hR1 : 1 ≤ R) (hR : R < 2 ^ 31) (hrd : ∀ j, rd j = nI (gd_rd D j)) (hb : ∀ j, gd_rd D j < 2 ^ 31) (h1 : gm_lt n o1)
    (h : post (nI n) (nI (n + 1), nI (if g < R then R else g), sr, oy, my, mk, tm, cn, us, ws, upd rd n (nI R), upd wi n (gd_bi (decide (gm_rp D o1 < R))), vt, fm, dc, ry, fy, od, sy)) : wY_make_245 post (gy_lv o1) (nI n) (nI R) (nI n) (nI n) (nI g) sr oy my mk tm cn us ws rd wi vt fm dc ry fy od sy := by
  have c : (nI n).toNatClampNeg = n := nI_clamp (by omega)
  have v : vp_in (nI n) 48 := vp_in_nI hn (by omega)
  refine ⟨v, nm_r (e' := upd rd n (nI R)) (by rw [c]) ?_⟩
  cases o1 with
  | none =>
    rw [decide_eq_true (show gm_rp D none < R from hR1)] at h
    exact br_t (by decide) (gy_277 (w := true) hn hg hR pk_us h)
  | some p =>
    have hp : p < n := h1
    have cp : (nI p).toNatClampNeg = p := nI_clamp (by omega)
    refine br_f (nI_pos (by omega)) ⟨vp_in_nI (by omega) (by omega), v, ?_⟩
    show ((upd rd n (nI R) (nI n).toNatClampNeg ≤ upd rd n (nI R) (nI p).toNatClampNeg → _) ∧ (¬ upd rd n (nI R) (nI n).toNatClampNeg ≤ upd rd n (nI R) (nI p).toNatClampNeg → _))
    rw [c, cp, pk_us, pk_un (by omega), hrd]
    have hbp := hb p
    refine pk_le R (gd_rd D p) (fun l => ?_) (fun l => ?_)
    · rw [decide_eq_false (show ¬ gm_rp D (some p) < R by show ¬ gd_rd D p < R; omega)] at h
      exact gy_277 (w := false) hn hg hR pk_us h
    · rw [decide_eq_true (show gm_rp D (some p) < R from l)] at h
      exact gy_277 (w := true) hn hg hR pk_us h
theorem gy_151 {post : Int32 → SY → Prop} {D : gd_D} {n g m : Nat} {o1 o2 : Option Nat} (I : gd_Inv D n g) (hn : n < 48) (hm : m < 4) (hmk : ∀ j, mk j = nI (gi_up (gd_mk D) n m j)) (hrd : ∀ j, rd j = nI (gd_rd D j)) (hwi : ∀ j, wi j = gd_bi (gd_wi D j)) (hW : ws n = gm_W D n m o1 o2) (h1 : gm_lt n o1) (hno : o1 = none → o2 = none)
    (h : post (nI n) (nI (n + 1), nI (gm_g D n g m o1 o2), sr, oy, my, mk, tm, cn, us, ws, upd rd n (nI (gm_r D n m o1 o2)), upd wi n (gd_bi (gm_w D n m o1 o2)), vt, fm, dc, ry, fy, od, sy)) :
    ∀ d i f, i + d = n → d < f → wY_make_151 post (gy_lv o1) (nI n) (nI (gm_r0 D o1 o2)) (nI n) (nI g) sr oy my mk tm cn us ws rd wi vt fm dc ry fy od sy f (gw_set (gm_ps D (gm_W D n m o1 o2) (gm_r0 D o1 o2)) i) (nI i) := by
  have i48 := I.1
  have ig := I.2.1
  have ird := I.2.2.2.1
  have r0 := gm_r0_le I o1 o2
  have rr := gm_r_r0 D n m o1 o2
  have hb : ∀ j, gd_rd D j < 2 ^ 31 := fun j => by have := ird j; omega
  have h4 : ∀ j, gi_up (gd_mk D) n m j < 4 := fun j => by
    by_cases e : j = n
    · subst e; rw [gi_us]; exact hm
    · rw [gi_un e]; exact I.2.2.1 j
  have fin : wY_make_245 post (gy_lv o1) (nI n) (nI (gm_r D n m o1 o2)) (nI n) (nI n) (nI g) sr oy my mk tm cn us ws rd wi vt fm dc ry fy od sy := gy_245 hn (by omega) rr.2.2 (by omega) hrd hb h1 h
  have mem : gc_mem (gi_up (gd_mk D) n m) (gm_ps D (gm_W D n m o1 o2) (gm_r0 D o1 o2)) n = gc_cnt (gm_ps D (gm_W D n m o1 o2) (gm_r0 D o1 o2)) n := by
    rw [← gm_inj I]
    exact gc_mem_congr (fun z _ => rfl) (fun z hz => gi_un (by omega))
  intro d
  induction d with
  | zero =>
    intro i f hi hf
    obtain ⟨f, rfl⟩ : ∃ q, f = q + 1 := ⟨f - 1, by omega⟩
    rw [wY_make_151]
    have e : i = n := by omega
    subst e
    refine br_t (nI_le (Nat.le_refl _) (by omega)) ?_
    cases o1 with
    | none =>
      have e2 := hno rfl
      subst e2
      have e3 : gm_r D i m none none = 1 := by unfold gm_r; exact if_pos (Or.inl rfl)
      rw [e3] at fin
      exact br_f (by decide) fin
    | some p =>
      have hp : p < i := h1
      have hrp : 1 ≤ gm_r0 D (some p) o2 := Nat.le_trans (I.2.2.2.2.1 p hp) (gm_r0_own D (some p) o2)
      refine br_t (nI_pos' (by omega)) (gy_ot hmk h4 ?_)
      rw [gw_mem _ _ (by omega), mem]
      refine gd_br (fun e => ?_) (fun e => ?_)
      · rw [decide_eq_false_iff_not] at e
        have e3 : gm_r D i m (some p) o2 = gm_r0 D (some p) o2 := by
          unfold gm_r
          refine if_neg (fun q => ?_)
          rcases q with q | q
          · omega
          · exact e q
        rw [e3] at fin
        exact fin
      · rw [decide_eq_true_eq] at e
        have e3 : gm_r D i m (some p) o2 = gm_r0 D (some p) o2 + 1 := by unfold gm_r; exact if_pos (Or.inr e)
        rw [e3] at fin
        rw [nI_1]
        exact fin
  | succ d ih =>
    intro i f hi hf
    obtain ⟨f, rfl⟩ : ∃ q, f = q + 1 := ⟨f - 1, by omega⟩
    rw [wY_make_151]
    have ih := ih (i + 1) f (by omega) (by omega)
    rw [gw_set] at ih
    unfold gm_ps at ih
    have v : vp_in (nI i) 48 := vp_in_nI (by omega) (by omega)
    have hbi := hb i
    refine br_f (nI_ge (by omega) (by omega)) ⟨v, ?_⟩
    rw [nI_clamp (show i < 2 ^ 31 by omega), nI_clamp (show n < 2 ^ 31 by omega), hwi, hrd, hW]
    refine gd_br (fun e => nm_r (nI_1 i) ?_) (fun e => ⟨v, pk_eq (gd_rd D i) (gm_r0 D o1 o2) (fun q => ⟨vp_in_nI hn (by omega), gy_has (by omega) (gd_br (fun e2 => nm_r (nI_1 i) ?_) (fun e2 => nm_e (nm_r (nI_1 i) ?_)))⟩) (fun q => nm_r (nI_1 i) ?_)⟩)
    · rw [e, Bool.false_and, Bool.false_and, if_neg (by decide)] at ih; exact ih
    · rw [e2, Bool.and_false, if_neg (by decide)] at ih; exact ih
    · rw [e, e2, beq_iff_eq.mpr q, if_pos (by rfl)] at ih; exact ih
    · rw [beq_eq_false_iff_ne.mpr q, Bool.and_false, Bool.false_and, if_neg (by decide)] at ih; exact ih
theorem gy_120 {post : Int32 → SY → Prop} {D : gd_D} {n g m : Nat} {o1 o2 : Option Nat} (I : gd_Inv D n g) (hn : n < 48) (hm : m < 4) (hmk : ∀ j, mk j = nI (gi_up (gd_mk D) n m j)) (hrd : ∀ j, rd j = nI (gd_rd D j)) (hwi : ∀ j, wi j = gd_bi (gd_wi D j)) (hW : ws n = gm_W D n m o1 o2) (h1 : gm_lt n o1) (h2 : gm_lt n o2) (hno : o1 = none → o2 = none)
    (h : post (nI n) (nI (n + 1), nI (gm_g D n g m o1 o2), sr, oy, my, mk, tm, cn, us, ws, upd rd n (nI (gm_r D n m o1 o2)), upd wi n (gd_bi (gm_w D n m o1 o2)), vt, fm, dc, ry, fy, od, sy)) : wY_make_120 post (gy_lv o1) (gy_lv o2) (nI n) (nI (gm_rp D o1)) (nI n) (nI g) sr oy my mk tm cn us ws rd wi vt fm dc ry fy od sy := by
  have ig := I.2.1
  have a1 := gm_rp_le I o1
  have fin : ∃ f, wY_make_151 post (gy_lv o1) (nI n) (nI (gm_r0 D o1 o2)) (nI n) (nI g) sr oy my mk tm cn us ws rd wi vt fm dc ry fy od sy f 0 0 := ⟨n + 1, gy_151 I hn hm hmk hrd hwi hW h1 hno h n 0 (n + 1) (by omega) (by omega)⟩
  cases o2 with
  | none =>
    have e : gm_r0 D o1 none = gm_rp D o1 := by
      unfold gm_r0
      show (if 0 < gm_rp D o1 then gm_rp D o1 else 0) = _
      split <;> omega
    rw [e] at fin
    exact br_t (by decide) fin
  | some p =>
    have hp : p < n := h2
    have v : vp_in (nI p) 48 := vp_in_nI (by omega) (by omega)
    have c : (nI p).toNatClampNeg = p := nI_clamp (by omega)
    have a2 := I.2.2.2.1 p
    refine br_f (nI_pos (by omega)) ⟨v, ?_⟩
    show ((rd (nI p).toNatClampNeg ≤ _ → _) ∧ (¬ rd (nI p).toNatClampNeg ≤ _ → vp_in (nI p) 48 ∧ (∀ x, x = rd (nI p).toNatClampNeg → _)))
    rw [c, hrd]
    refine pk_le (gd_rd D p) (gm_rp D o1) (fun l => ?_) (fun l => ⟨v, nm_e ?_⟩)
    · have e : gm_r0 D o1 (some p) = gm_rp D o1 := by
        unfold gm_r0
        show (if gd_rd D p < gm_rp D o1 then gm_rp D o1 else gd_rd D p) = _
        split <;> omega
      rw [e] at fin
      exact fin
    · have e : gm_r0 D o1 (some p) = gd_rd D p := by
        unfold gm_r0
        show (if gd_rd D p < gm_rp D o1 then gm_rp D o1 else gd_rd D p) = _
        exact if_neg (by omega)
      rw [e] at fin
      exact fin
theorem gy_93 {post : Int32 → SY → Prop} {D : gd_D} {n g m : Nat} {o1 o2 : Option Nat} (I : gd_Inv D n g) (hn : n < 48) (hm : m < 4) (hmk : ∀ j, mk j = nI (gi_up (gd_mk D) n m j)) (hus : us = gi_up (gd_us D) n (gm_U D n o1 o2)) (hrd : ∀ j, rd j = nI (gd_rd D j)) (hwi : ∀ j, wi j = gd_bi (gd_wi D j)) (h1 : gm_lt n o1) (h2 : gm_lt n o2) (hno : o1 = none → o2 = none)
    (h : post (nI n) (nI (n + 1), nI (gm_g D n g m o1 o2), sr, oy, my, mk, tm, cn, us, vp_updL ws n (gm_W D n m o1 o2), upd rd n (nI (gm_r D n m o1 o2)), upd wi n (gd_bi (gm_w D n m o1 o2)), vt, fm, dc, ry, fy, od, sy)) : wY_make_93 post (gy_lv o1) (gy_lv o2) (nI n) (nI n) (nI g) sr oy my mk tm cn us ws rd wi vt fm dc ry fy od sy := by
  subst hus
  have h4 : ∀ j, gi_up (gd_mk D) n m j < 4 := fun j => by
    by_cases e : j = n
    · subst e; rw [gi_us]; exact hm
    · rw [gi_un e]; exact I.2.2.1 j
  have c : (nI n).toNatClampNeg = n := nI_clamp (by omega)
  have v : vp_in (nI n) 48 := vp_in_nI hn (by omega)
  refine gy_wu hn hmk h4 ⟨v, nm_r (e' := vp_updL ws n (gm_W D n m o1 o2)) (by rw [c]; rfl) ?_⟩
  have fin := gy_120 (us := gi_up (gd_us D) n (gm_U D n o1 o2)) (ws := vp_updL ws n (gm_W D n m o1 o2)) I hn hm hmk hrd hwi pk_uLs h1 h2 hno h
  cases o1 with
  | none => exact br_f (by decide) fin
  | some p =>
    have hp : p < n := h1
    refine br_t (nI_pos' (by omega)) ⟨vp_in_nI (by omega) (by omega), ?_⟩
    show wY_make_120 post (nI p) (gy_lv o2) (nI n) (rd (nI p).toNatClampNeg) (nI n) (nI g) sr oy my mk tm cn (gi_up (gd_us D) n (gm_U D n (some p) o2)) (vp_updL ws n (gm_W D n m (some p) o2)) rd wi vt fm dc ry fy od sy
    rw [nI_clamp (by omega), hrd]
    exact fin
theorem gy_mk {post : Int32 → SY → Prop} {D : gd_D} {n g m : Nat} {o1 o2 : Option Nat} {t : Int32} {c : Bool} (I : gd_Inv D n g) (hn : n < 48) (hm : m < 4) (S : gx_S D mk tm cn us ws rd wi) (h1 : gm_lt n o1) (h2 : gm_lt n o2) (hno : o1 = none → o2 = none)
    (h : post (nI n) (nI (n + 1), nI (gm_g D n g m o1 o2), sr, oy, my, upd mk n (nI m), upd tm n t, upd cn n (gd_bi c), vp_updL us n (gm_U D n o1 o2), vp_updL ws n (gm_W D n m o1 o2), upd rd n (nI (gm_r D n m o1 o2)), upd wi n (gd_bi (gm_w D n m o1 o2)), vt, fm, dc, ry, fy, od, sy)) : wpY_make post (nI n, nI g, sr, oy, my, mk, tm, cn, us, ws, rd, wi, vt, fm, dc, ry, fy, od, sy) (nI m) (gy_lv o1) (gy_lv o2) t (gd_bi c) := by
  obtain ⟨hmk, htm, hcn, hus, hws, hrd, hwi⟩ := S
  subst hus
  have cl : (nI n).toNatClampNeg = n := nI_clamp (by omega)
  have v : vp_in (nI n) 48 := vp_in_nI hn (by omega)
  have hmk' : ∀ j, upd mk n (nI m) j = nI (gi_up (gd_mk D) n m j) := gi_map nI hmk n m
  have s93 : wY_make_93 post (gy_lv o1) (gy_lv o2) (nI n) (nI n) (nI g) sr oy my (upd mk n (nI m)) (upd tm n t) (upd cn n (gd_bi c)) (vp_updL (gd_us D) n (gm_U D n o1 o2)) ws rd wi vt fm dc ry fy od sy := gy_93 I hn hm hmk' rfl hrd hwi h1 h2 hno h
  have s68 : wY_make_68 post (gy_lv o1) (gy_lv o2) (nI n) (nI n) (nI g) sr oy my (upd mk n (nI m)) (upd tm n t) (upd cn n (gd_bi c)) (vp_updL (gd_us D) n (((1 : Int64) <<< ((nI n).toInt64 &&& 63)) ||| gm_kn D o1)) ws rd wi vt fm dc ry fy od sy := by
    cases o2 with
    | none =>
      have e : gm_U D n o1 none = ((1 : Int64) <<< ((nI n).toInt64 &&& 63)) ||| gm_kn D o1 := Int64.or_zero
      rw [e] at s93
      exact br_t (by decide) s93
    | some p =>
      have hp : p < n := h2
      refine br_f (nI_pos (by omega)) ⟨v, vp_in_nI (by omega) (by omega), v, nm_r (e' := vp_updL (gd_us D) n (gm_U D n o1 (some p))) ?_ s93⟩
      show vp_updL (vp_updL (gd_us D) n _) (nI n).toNatClampNeg (vp_updL (gd_us D) n _ (nI n).toNatClampNeg ||| vp_updL (gd_us D) n _ (nI p).toNatClampNeg) = _
      rw [cl, nI_clamp (show p < 2 ^ 31 by omega), gy_uu, pk_uLs, pk_uLn (by omega)]
      rfl
  refine ⟨v, nm_r (e' := upd mk n (nI m)) (by rw [cl]) ⟨v, nm_r (e' := upd tm n t) (by rw [cl]) ⟨v, nm_r (e' := upd cn n (gd_bi c)) (by rw [cl, gd_biV]) ⟨v, nm_r (e' := vp_updL (gd_us D) n ((1 : Int64) <<< ((nI n).toInt64 &&& 63))) (by rw [cl]) ?_⟩⟩⟩⟩
  cases o1 with
  | none =>
    have e : ((1 : Int64) <<< ((nI n).toInt64 &&& 63)) ||| gm_kn D none = (1 : Int64) <<< ((nI n).toInt64 &&& 63) := Int64.or_zero
    rw [e] at s68
    exact br_t (by decide) s68
  | some p =>
    have hp : p < n := h1
    refine br_f (nI_pos (by omega)) ⟨v, vp_in_nI (by omega) (by omega), v, nm_r (e' := vp_updL (gd_us D) n (((1 : Int64) <<< ((nI n).toInt64 &&& 63)) ||| gm_kn D (some p))) ?_ s68⟩
    show vp_updL (vp_updL (gd_us D) n _) (nI n).toNatClampNeg (vp_updL (gd_us D) n _ (nI n).toNatClampNeg ||| vp_updL (gd_us D) n _ (nI p).toNatClampNeg) = _
    rw [cl, nI_clamp (show p < 2 ^ 31 by omega), gy_uu, pk_uLs, pk_uLn (by omega)]
    rfl
end
