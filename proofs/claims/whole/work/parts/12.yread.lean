/-! ===== the reference: its readers, and a new event ===== -/
def gy_lv : Option Nat → Int32
  | none => -1
  | some p => nI p
theorem gm_own_uni {D : gd_D} {n m : Nat} {o o' : Option Nat} (h : gm_own D n m o) (h' : gm_own D n m o') : o = o' := by
  cases o with
  | none =>
    cases o' with
    | none => rfl
    | some p => exact absurd h'.2.1 (h p h'.1)
  | some q =>
    cases o' with
    | none => exact absurd h.2.1 (h' q h.1)
    | some p =>
      rcases Nat.lt_trichotomy p q with l | l | l
      · exact absurd h.2.1 (h'.2.2 q l h.1)
      · rw [l]
      · exact absurd h'.2.1 (h.2.2 p l h'.1)
theorem gy_uu (f : Nat → Int64) (n : Nat) (a b : Int64) : vp_updL (vp_updL f n a) n b = vp_updL f n b := by
  funext j
  unfold vp_updL
  split <;> rfl
theorem gy_lvn {o : Option Nat} (ho : gm_lt 48 o) : (o = none ∧ gy_lv o < 0) ∨ (∃ p, o = some p ∧ p < 48 ∧ gy_lv o = nI p ∧ ¬ gy_lv o < 0) := by
  cases o with
  | none => exact Or.inl ⟨rfl, by decide⟩
  | some p =>
    have hp : p < 48 := ho
    exact Or.inr ⟨p, rfl, hp, rfl, nI_pos (by omega)⟩
section
variable {ct gt sr oy my : Int32} {mk tm cn : Nat → Int32} {us ws : Nat → Int64} {rd wi vt fm dc ry fy od sy : Nat → Int32}
theorem gy_has {post : Int32 → Prop} {s : Int64} {k : Nat} (hk : k < 48) (h : post (gd_bi (gb s k))) : wpY_has post (ct, gt, sr, oy, my, mk, tm, cn, us, ws, rd, wi, vt, fm, dc, ry, fy, od, sy) s (nI k) := by
  cases e : gb s k with
  | true => rw [e] at h; exact br_t ((gb_sh s (by omega)).mpr e) h
  | false => rw [e] at h; exact br_f (fun z => by rw [(gb_sh s (by omega)).mp z] at e; cases e) h
theorem gy_wo' {post : Int32 → Prop} {x k : Nat} {b : Bool} {r : Int32} (hx : x < 48) (hw : wi x = gd_bi b) (hr : rd x = nI k) (h : post (gd_bi (b && decide (nI k = r)))) : wpY_isWitness post (ct, gt, sr, oy, my, mk, tm, cn, us, ws, rd, wi, vt, fm, dc, ry, fy, od, sy) (nI x) r := by
  have c : (nI x).toNatClampNeg = x := nI_clamp (by omega)
  have v : vp_in (nI x) 48 := vp_in_nI hx (by omega)
  refine ⟨v, ?_⟩
  rw [c, hw, hr]
  refine gd_br (fun e => ?_) (fun e => ⟨v, ?_⟩)
  · subst e; exact h
  · subst e
    by_cases q : nI k = r
    · rw [decide_eq_true q] at h; exact br_t q h
    · rw [decide_eq_false q] at h; exact br_f q h
theorem gy_wo {post : Int32 → Prop} {x k r : Nat} {b : Bool} (hx : x < 48) (hw : wi x = gd_bi b) (hr : rd x = nI k) (hk : k < 2 ^ 31) (hr2 : r < 2 ^ 31) (h : post (gd_bi (b && (k == r)))) : wpY_isWitness post (ct, gt, sr, oy, my, mk, tm, cn, us, ws, rd, wi, vt, fm, dc, ry, fy, od, sy) (nI x) (nI r) :=
  gy_wo' hx hw hr (by rw [gd_dec hk hr2]; exact h)
theorem gy_lo7 {post : Int32 → Prop} {D : gd_D} {n m : Nat} (hn : n ≤ 48) (hm : m < 4) (hmk : ∀ j, mk j = nI (gd_mk D j)) (h4 : ∀ j, gd_mk D j < 4) (h : ∀ o, gm_own D n m o → post (gy_lv o)) :
    ∀ i f, i ≤ n → i < f → (∀ j, i ≤ j → j < n → gd_mk D j ≠ m) → wY_latestOf_7 post (nI m) ct gt sr oy my mk tm cn us ws rd wi vt fm dc ry fy od sy f (nI i - 1) := by
  intro i
  induction i with
  | zero =>
    intro f hi hf hno
    obtain ⟨f, rfl⟩ : ∃ k, f = k + 1 := ⟨f - 1, by omega⟩
    rw [wY_latestOf_7]
    exact br_t (by decide) (h none (fun j hj => hno j (Nat.zero_le _) hj))
  | succ i ih =>
    intro f hi hf hno
    obtain ⟨f, rfl⟩ : ∃ k, f = k + 1 := ⟨f - 1, by omega⟩
    rw [wY_latestOf_7, nI_pred]
    refine br_f (nI_pos (by omega)) ⟨vp_in_nI (by omega) (by omega), ?_⟩
    rw [nI_clamp (by omega), hmk]
    have hi4 := h4 i
    refine pk_eq (gd_mk D i) m (fun e => h (some i) ⟨by omega, e, fun j h1 h2 => hno j (by omega) h2⟩) (fun e => nm_r (e' := nI i - 1) (Int32.sub_eq_add_neg _ _).symm (ih f (by omega) (by omega) (fun j h1 h2 => ?_)))
    by_cases q : j = i
    · subst q; exact e
    · exact hno j (by omega) h2
theorem gy_lo {post : Int32 → Prop} {D : gd_D} {n m : Nat} (hn : n ≤ 48) (hm : m < 4) (hmk : ∀ j, mk j = nI (gd_mk D j)) (h4 : ∀ j, gd_mk D j < 4) (h : ∀ o, gm_own D n m o → post (gy_lv o)) : wpY_latestOf post (nI n, gt, sr, oy, my, mk, tm, cn, us, ws, rd, wi, vt, fm, dc, ry, fy, od, sy) (nI m) :=
  nm_e ⟨n + 1, gy_lo7 hn hm hmk h4 h n (n + 1) (Nat.le_refl _) (by omega) (fun j h1 h2 => absurd h2 (by omega))⟩
theorem gy_ot17 {post : Int32 → Prop} {J : Int32 → Int32 → Prop} {s : Int64} {k m : Nat} {mn : Nat → Nat} (hm : m < 4) (hmk : ∀ j, mk j = nI (mn j)) (h4 : ∀ j, mn j < 4)
    (h : J (nI (k + (if gc_any (fun z => gb s z && (mn z == m)) 48 = true then 1 else 0))) (nI (m + 1))) :
    ∀ d i f, i + d = 48 → d < f → wY_ofThree_17 post J s (nI k) (nI m) ct gt sr oy my mk tm cn us ws rd wi vt fm dc ry fy od sy f (gd_bi (gc_any (fun z => gb s z && (mn z == m)) i)) (nI i) := by
  intro d
  induction d with
  | zero =>
    intro i f hi hf
    obtain ⟨f, rfl⟩ : ∃ q, f = q + 1 := ⟨f - 1, by omega⟩
    rw [wY_ofThree_17]
    have e : i = 48 := by omega
    subst e
    refine br_t (nI_le (Nat.le_refl 48) (by omega)) (gd_br (fun e => nm_r (nI_1 m) ?_) (fun e => nm_r (nI_1 k) (nm_r (nI_1 m) ?_)))
    · rw [if_neg (by rw [e]; decide)] at h; exact h
    · rw [if_pos e] at h; exact h
  | succ d ih =>
    intro i f hi hf
    obtain ⟨f, rfl⟩ : ∃ q, f = q + 1 := ⟨f - 1, by omega⟩
    rw [wY_ofThree_17]
    have ih := ih (i + 1) f (by omega) (by omega)
    rw [gc_any] at ih
    have hi4 := h4 i
    refine br_f (nI_ge (b := 48) (by omega) (by decide)) (gd_br (fun e => gy_has (by omega) (gd_br (fun e2 => nm_r (nI_1 i) ?_) (fun e2 => ⟨vp_in_nI (by omega) (by omega), ?_⟩))) (fun e => nm_r (nI_1 i) ?_))
    · rw [e, e2, Bool.false_and, Bool.or_false] at ih; exact ih
    · rw [nI_clamp (by omega), hmk]
      refine pk_eq (mn i) m (fun q => nm_r (nI_1 i) ?_) (fun q => nm_r (nI_1 i) ?_)
      · rw [e, e2, beq_iff_eq.mpr q] at ih; exact ih
      · rw [e, e2, beq_eq_false_iff_ne.mpr q] at ih; exact ih
    · rw [e, Bool.true_or] at ih; exact ih
theorem gy_ot5 {post : Int32 → Prop} {s : Int64} {mn : Nat → Nat} (hmk : ∀ j, mk j = nI (mn j)) (h4 : ∀ j, mn j < 4) (h : post (gd_bi (decide (3 ≤ gc_mem mn (gb s) 48)))) :
    ∀ d i f, i + d = 4 → d < f → wY_ofThree_5 post s ct gt sr oy my mk tm cn us ws rd wi vt fm dc ry fy od sy f (nI (gc_cnt (fun m => gc_any (fun z => gb s z && (mn z == m)) 48) i)) (nI i) := by
  intro d
  induction d with
  | zero =>
    intro i f hi hf
    obtain ⟨f, rfl⟩ : ∃ q, f = q + 1 := ⟨f - 1, by omega⟩
    rw [wY_ofThree_5]
    have e : i = 4 := by omega
    subst e
    have b := gc_mem_le mn (gb s) 48
    refine br_t (nI_le (Nat.le_refl 4) (by omega)) (pk_lt (gc_mem mn (gb s) 48) 3 (fun l => ?_) (fun l => ?_))
    · rw [decide_eq_false (by omega)] at h; exact h
    · rw [decide_eq_true l] at h; exact h
  | succ d ih =>
    intro i f hi hf
    obtain ⟨f, rfl⟩ : ∃ q, f = q + 1 := ⟨f - 1, by omega⟩
    rw [wY_ofThree_5]
    exact br_f (nI_ge (b := 4) (by omega) (by decide)) ⟨49, gy_ot17 (by omega) hmk h4 (ih (i + 1) f (by omega) (by omega)) 48 0 49 (by omega) (by omega)⟩
theorem gy_ot {post : Int32 → Prop} {s : Int64} {mn : Nat → Nat} (hmk : ∀ j, mk j = nI (mn j)) (h4 : ∀ j, mn j < 4) (h : post (gd_bi (decide (3 ≤ gc_mem mn (gb s) 48)))) : wpY_ofThree post (ct, gt, sr, oy, my, mk, tm, cn, us, ws, rd, wi, vt, fm, dc, ry, fy, od, sy) s := ⟨5, gy_ot5 hmk h4 h 4 0 5 (by omega) (by omega)⟩
theorem gy_wu17 {post : Int64 → Prop} {J : Int64 → Int32 → Prop} {y x : Nat} {a : Int64} {mn : Nat → Nat} (hy : y < 48) (hx : x < 48) (hmk : ∀ j, mk j = nI (mn j)) (h4 : ∀ j, mn j < 4)
    (h : J (if gm_c mn us y x = true then a ||| (1 : Int64) <<< ((nI x).toInt64 &&& 63) else a) (nI (x + 1))) :
    ∀ d i f, i + d = y + 1 → d < f → wY_wellUnderOf_17 post J (nI y) a (nI x) ct gt sr oy my mk tm cn us ws rd wi vt fm dc ry fy od sy f (gw_set (fun z => gb (us y) z && gb (us z) x) i) (nI i) := by
  intro d
  induction d with
  | zero =>
    intro i f hi hf
    obtain ⟨f, rfl⟩ : ∃ q, f = q + 1 := ⟨f - 1, by omega⟩
    rw [wY_wellUnderOf_17]
    have e : i = y + 1 := by omega
    subst e
    refine br_t (nI_lt (by omega) (by omega)) (gy_ot hmk h4 ?_)
    rw [gw_mem mn _ (by omega)]
    refine gd_br (fun e => nm_r (nI_1 x) ?_) (fun e => nm_e (nm_r (nI_1 x) ?_))
    · have e : gm_c mn us y x = false := e
      rw [if_neg (by rw [e]; decide)] at h; exact h
    · have e : gm_c mn us y x = true := e
      rw [if_pos e] at h; exact h
  | succ d ih =>
    intro i f hi hf
    obtain ⟨f, rfl⟩ : ∃ q, f = q + 1 := ⟨f - 1, by omega⟩
    rw [wY_wellUnderOf_17]
    have ih := ih (i + 1) f (by omega) (by omega)
    rw [gw_set] at ih
    refine br_f (nI_nlt (by omega) (by omega)) ⟨vp_in_nI hy (by omega), ?_⟩
    rw [nI_clamp (show y < 2 ^ 31 by omega), nI_clamp (show i < 2 ^ 31 by omega)]
    refine gy_has (by omega) (gd_br (fun e => nm_r (nI_1 i) ?_) (fun e => ⟨vp_in_nI (by omega) (by omega), gy_has hx (gd_br (fun e2 => nm_r (nI_1 i) ?_) (fun e2 => nm_e (nm_r (nI_1 i) ?_)))⟩))
    · rw [e, Bool.false_and, if_neg (by decide)] at ih; exact ih
    · rw [e2, Bool.and_false, if_neg (by decide)] at ih; exact ih
    · rw [e, e2, Bool.true_and, if_pos rfl] at ih; exact ih
theorem gy_wu5 {post : Int64 → Prop} {y : Nat} {mn : Nat → Nat} (hy : y < 48) (hmk : ∀ j, mk j = nI (mn j)) (h4 : ∀ j, mn j < 4) (h : post (gw_set (gm_c mn us y) (y + 1))) :
    ∀ d i f, i + d = y + 1 → d < f → wY_wellUnderOf_5 post (nI y) ct gt sr oy my mk tm cn us ws rd wi vt fm dc ry fy od sy f (gw_set (gm_c mn us y) i) (nI i) := by
  intro d
  induction d with
  | zero =>
    intro i f hi hf
    obtain ⟨f, rfl⟩ : ∃ q, f = q + 1 := ⟨f - 1, by omega⟩
    rw [wY_wellUnderOf_5]
    have e : i = y + 1 := by omega
    subst e
    exact br_t (nI_lt (by omega) (by omega)) h
  | succ d ih =>
    intro i f hi hf
    obtain ⟨f, rfl⟩ : ∃ q, f = q + 1 := ⟨f - 1, by omega⟩
    rw [wY_wellUnderOf_5]
    have ih := ih (i + 1) f (by omega) (by omega)
    rw [gw_set] at ih
    exact br_f (nI_nlt (by omega) (by omega)) ⟨y + 2, gy_wu17 hy (by omega) hmk h4 ih (y + 1) 0 (y + 2) (by omega) (by omega)⟩
theorem gy_wu {post : Int64 → Prop} {y : Nat} {mn : Nat → Nat} (hy : y < 48) (hmk : ∀ j, mk j = nI (mn j)) (h4 : ∀ j, mn j < 4) (h : post (gw_set (gm_c mn us y) (y + 1))) : wpY_wellUnderOf post (ct, gt, sr, oy, my, mk, tm, cn, us, ws, rd, wi, vt, fm, dc, ry, fy, od, sy) (nI y) :=
  ⟨y + 2, gy_wu5 hy hmk h4 h (y + 1) 0 (y + 2) (by omega) (by omega)⟩
end
