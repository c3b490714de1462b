/-! ===== the component: its small readers, each with a general post ===== -/
theorem gd_br {b : Bool} {A B : Prop} (f : b = false → A) (g : b = true → B) : (gd_bi b = 0 → A) ∧ (¬ gd_bi b = 0 → B) := by
  cases b
  · exact ⟨fun _ => f rfl, fun h => absurd rfl h⟩
  · exact ⟨fun h => absurd h (by decide), fun _ => g rfl⟩
theorem gd_dec {a b : Nat} (ha : a < 2 ^ 31) (hb : b < 2 ^ 31) : decide (nI a = nI b) = (a == b) := by
  by_cases e : a = b
  · subst e; simp
  · rw [beq_eq_false_iff_ne.mpr e, decide_eq_false (fun z => e ((nI_eq ha hb).mp z))]
theorem gd_ne2 {p : Nat} (h : p < 2 ^ 31) : ¬ nI p = -2 := fun e => nI_pos h (by rw [e]; decide)
theorem gd_ne1 {p : Nat} (h : p < 2 ^ 31) : ¬ nI p = -1 := fun e => nI_pos h (by rw [e]; decide)
def gx_ro (rn : Nat → Nat) : Option Nat → Nat
  | none => 0
  | some p => rn p
def gx_uo (us : Nat → Int64) : Option Nat → Int64
  | none => 0
  | some p => us p
section
variable {en gr st oc : Int32} {yv : Int64} {mk tm cn : Nat → Int32} {us ws : Nat → Int64} {rd wi : Nat → Int32} {vf : Nat → Int64} {fa de rc fi ev pl la so : Nat → Int32}
theorem gx_un {post : Int32 → Prop} {x y : Nat} (hx : x < 48) (hy : y < 48) (h : post (gd_bi (gb (us y) x))) : wpX_isUnder post (en, gr, st, oc, yv, mk, tm, cn, us, ws, rd, wi, vf, fa, de, rc, fi, ev, pl, la, so) (nI x) (nI y) := by
  refine ⟨vp_in_nI hy (by omega), ?_⟩
  rw [nI_clamp (show y < 2 ^ 31 by omega)]
  cases e : gb (us y) x with
  | false => rw [e] at h; exact br_t ((gb_test _ (by omega)).mpr e) h
  | true => rw [e] at h; exact br_f (fun z => by rw [(gb_test _ (by omega)).mp z] at e; cases e) h
theorem gx_wu {post : Int32 → Prop} {x y : Nat} (hx : x < 48) (hy : y < 48) (h : post (gd_bi (gb (ws y) x))) : wpX_isWellUnder post (en, gr, st, oc, yv, mk, tm, cn, us, ws, rd, wi, vf, fa, de, rc, fi, ev, pl, la, so) (nI x) (nI y) := by
  refine ⟨vp_in_nI hy (by omega), ?_⟩
  rw [nI_clamp (show y < 2 ^ 31 by omega)]
  cases e : gb (ws y) x with
  | false => rw [e] at h; exact br_t ((gb_test _ (by omega)).mpr e) h
  | true => rw [e] at h; exact br_f (fun z => by rw [(gb_test _ (by omega)).mp z] at e; cases e) h
theorem gx_cn5 {post : Int32 → Prop} {s : Int64} (h : post (nI (gc_cnt (gb s) 48))) : ∀ d i f, i + d = 48 → d < f → wX_countIn_5 post s en gr st oc yv mk tm cn us ws rd wi vf fa de rc fi ev pl la so f (nI (gc_cnt (gb s) i)) (nI i) := by
  intro d
  induction d with
  | zero =>
    intro i f hi hf
    obtain ⟨f, rfl⟩ : ∃ k, f = k + 1 := ⟨f - 1, by omega⟩
    rw [wX_countIn_5]
    have e : i = 48 := by omega
    subst e
    exact br_t (nI_le (Nat.le_refl 48) (by omega)) h
  | succ d ih =>
    intro i f hi hf
    obtain ⟨f, rfl⟩ : ∃ k, f = k + 1 := ⟨f - 1, by omega⟩
    rw [wX_countIn_5]
    refine br_f (nI_ge (b := 48) (by omega) (by decide)) (nm_r (e' := nI (gc_cnt (gb s) (i + 1))) ?_ (nm_r (nI_1 i) (ih (i + 1) f (by omega) (by omega))))
    rw [gb_val s (show i < 64 by omega), nI_add]
    rfl
theorem gx_cn {post : Int32 → Prop} {s : Int64} (h : post (nI (gc_cnt (gb s) 48))) : wpX_countIn post (en, gr, st, oc, yv, mk, tm, cn, us, ws, rd, wi, vf, fa, de, rc, fi, ev, pl, la, so) s := ⟨49, gx_cn5 h 48 0 49 (by omega) (by omega)⟩
theorem gx_wo' {post : Int32 → Prop} {x k : Nat} {b : Bool} {r : Int32} (hx : x < 48) (hw : wi x = gd_bi b) (hr : rd x = nI k) (h : post (gd_bi (b && decide (nI k = r)))) : wpX_isWitnessOf post (en, gr, st, oc, yv, mk, tm, cn, us, ws, rd, wi, vf, fa, de, rc, fi, ev, pl, la, so) (nI x) r := by
  have c : (nI x).toNatClampNeg = x := nI_clamp (by omega)
  have v : vp_in (nI x) 48 := vp_in_nI hx (by omega)
  refine ⟨v, ?_⟩
  rw [c, hw, hr]
  refine gd_br (fun e => ?_) (fun e => ⟨v, ?_⟩)
  · subst e; exact h
  · subst e
    by_cases q : nI k = r
    · rw [decide_eq_true q] at h; exact br_t q h
    · rw [decide_eq_false q] at h; exact br_f q h
theorem gx_wo {post : Int32 → Prop} {x k r : Nat} {b : Bool} (hx : x < 48) (hw : wi x = gd_bi b) (hr : rd x = nI k) (hk : k < 2 ^ 31) (hr2 : r < 2 ^ 31) (h : post (gd_bi (b && (k == r)))) : wpX_isWitnessOf post (en, gr, st, oc, yv, mk, tm, cn, us, ws, rd, wi, vf, fa, de, rc, fi, ev, pl, la, so) (nI x) (nI r) :=
  gx_wo' hx hw hr (by rw [gd_dec hk hr2]; exact h)
theorem gx_rp {post : Int32 → Prop} {rn : Nat → Nat} {o : Option Nat} (ho : gm_lt 48 o) (hr : ∀ j, rd j = nI (rn j)) (h : post (nI (gx_ro rn o))) : wpX_roundOfParent post (en, gr, st, oc, yv, mk, tm, cn, us, ws, rd, wi, vf, fa, de, rc, fi, ev, pl, la, so) (gf_dv o) := by
  cases o with
  | none => exact br_t rfl h
  | some p =>
    have hp : p < 48 := ho
    refine br_f (gd_ne2 (by omega)) ⟨vp_in_nI hp (by omega), ?_⟩
    show post (rd (nI p).toNatClampNeg)
    rw [nI_clamp (by omega), hr]
    exact h
theorem gx_kn {post : Int64 → Prop} {o : Option Nat} (ho : gm_lt 48 o) (h : post (gx_uo us o)) : wpX_knownTo post (en, gr, st, oc, yv, mk, tm, cn, us, ws, rd, wi, vf, fa, de, rc, fi, ev, pl, la, so) (gf_dv o) := by
  cases o with
  | none => exact br_t rfl h
  | some p =>
    have hp : p < 48 := ho
    refine br_f (gd_ne2 (by omega)) ⟨vp_in_nI hp (by omega), ?_⟩
    show post (us (nI p).toNatClampNeg)
    rw [nI_clamp (by omega)]
    exact h
theorem gx_mb5 {post : Int32 → Prop} {N x y : Nat} {mn : Nat → Nat} (hN : N ≤ 48) (hx : x < 48) (hy : y < 48) (hm : ∀ j, mk j = nI (mn j)) (h4 : ∀ j, mn j < 4) (h : post (nI (gc_mem mn (fun z => gb (us y) z && gb (us z) x) N))) :
    ∀ d i f (s : Int64), i + d = N → d < f → (∀ m, gb s m = gc_any (fun z => (gb (us y) z && gb (us z) x) && (mn z == m)) i) → wX_membersBetween_5 post (nI x) (nI y) (nI N) gr st oc yv mk tm cn us ws rd wi vf fa de rc fi ev pl la so f s (nI i) := by
  intro d
  induction d with
  | zero =>
    intro i f s hi hf hs
    obtain ⟨f, rfl⟩ : ∃ k, f = k + 1 := ⟨f - 1, by omega⟩
    rw [wX_membersBetween_5]
    have e : i = N := by omega
    subst e
    refine br_t (nI_le (Nat.le_refl _) (by omega)) (gx_cn ?_)
    have e2 : gc_cnt (gb s) 48 = gc_mem mn (fun z => gb (us y) z && gb (us z) x) i := (gc_cnt_congr fun m _ => hs m).trans (gc_mem48 h4 _ _)
    rw [e2]
    exact h
  | succ d ih =>
    intro i f s hi hf hs
    obtain ⟨f, rfl⟩ : ∃ k, f = k + 1 := ⟨f - 1, by omega⟩
    rw [wX_membersBetween_5]
    have c : (nI i).toNatClampNeg = i := nI_clamp (by omega)
    have skip : (gb (us y) i && gb (us i) x) = false → wX_membersBetween_5 post (nI x) (nI y) (nI N) gr st oc yv mk tm cn us ws rd wi vf fa de rc fi ev pl la so f s (nI (i + 1)) := fun e =>
      ih (i + 1) f s (by omega) (by omega) (fun m => by rw [hs m, gc_any]; show _ = (_ || ((gb (us y) i && gb (us i) x) && _)); rw [e, Bool.false_and, Bool.or_false])
    refine br_f (nI_ge (by omega) (by omega)) (gx_un (by omega) hy (gd_br (fun e1 => nm_r (nI_1 i) (skip (by rw [e1]; rfl))) (fun e1 => gx_un hx (by omega) (gd_br (fun e2 => nm_r (nI_1 i) (skip (by rw [e2, Bool.and_false]))) (fun e2 => ⟨vp_in_nI (by omega) (by omega), ?_⟩)))))
    rw [c, hm]
    refine nm_e (nm_r (nI_1 i) (ih (i + 1) f _ (by omega) (by omega) (fun m => ?_)))
    have := h4 i
    rw [gb_or, gb_one (by omega), hs m, gc_any]
    show _ = (_ || ((gb (us y) i && gb (us i) x) && _))
    rw [e1, e2, Bool.true_and, Bool.true_and]
theorem gx_mb {post : Int32 → Prop} {N x y : Nat} {mn : Nat → Nat} (hN : N ≤ 48) (hx : x < 48) (hy : y < 48) (hm : ∀ j, mk j = nI (mn j)) (h4 : ∀ j, mn j < 4) (h : post (nI (gc_mem mn (fun z => gb (us y) z && gb (us z) x) N))) : wpX_membersBetween post (nI N, gr, st, oc, yv, mk, tm, cn, us, ws, rd, wi, vf, fa, de, rc, fi, ev, pl, la, so) (nI x) (nI y) :=
  ⟨N + 1, gx_mb5 hN hx hy hm h4 h N 0 (N + 1) 0 (by omega) (by omega) (fun m => gb_0 m)⟩
theorem gx_wk5 {post : Int64 → Prop} {n : Nat} {mn : Nat → Nat} (hN : n < 48) (hm : ∀ j, mk j = nI (mn j)) (h4 : ∀ j, mn j < 4) (h : post (gw_set (gm_c mn us n) (n + 1))) :
    ∀ d i f, i + d = n + 1 → d < f → wX_wellKnownTo_5 post (nI n) (nI (n + 1)) gr st oc yv mk tm cn us ws rd wi vf fa de rc fi ev pl la so f (gw_set (gm_c mn us n) i) (nI i) := by
  intro d
  induction d with
  | zero =>
    intro i f hi hf
    obtain ⟨f, rfl⟩ : ∃ k, f = k + 1 := ⟨f - 1, by omega⟩
    rw [wX_wellKnownTo_5]
    have e : i = n + 1 := by omega
    subst e
    exact br_t (nI_le (Nat.le_refl _) (by omega)) h
  | succ d ih =>
    intro i f hi hf
    obtain ⟨f, rfl⟩ : ∃ k, f = k + 1 := ⟨f - 1, by omega⟩
    rw [wX_wellKnownTo_5]
    have ih := ih (i + 1) f (by omega) (by omega)
    rw [gw_set] at ih
    refine br_f (nI_ge (by omega) (by omega)) (gx_mb (by omega) (by omega) hN hm h4 ?_)
    have hb := gc_mem_le mn (fun z => gb (us n) z && gb (us z) i) (n + 1)
    refine pk_lt _ 3 (fun l => nm_r (nI_1 i) ?_) (fun l => nm_e (nm_r (nI_1 i) ?_)) rfl rfl (by omega) (by omega)
    · rw [if_neg (by unfold gm_c; rw [decide_eq_true_eq]; omega)] at ih; exact ih
    · rw [if_pos (by unfold gm_c; rw [decide_eq_true_eq]; omega)] at ih; exact ih
theorem gx_wk {post : Int64 → Prop} {n : Nat} {mn : Nat → Nat} (hN : n < 48) (hm : ∀ j, mk j = nI (mn j)) (h4 : ∀ j, mn j < 4) (h : post (gw_set (gm_c mn us n) (n + 1))) : wpX_wellKnownTo post (nI (n + 1), gr, st, oc, yv, mk, tm, cn, us, ws, rd, wi, vf, fa, de, rc, fi, ev, pl, la, so) (nI n) :=
  ⟨n + 2, gx_wk5 hN hm h4 h (n + 1) 0 (n + 2) (by omega) (by omega)⟩
theorem gx_ww5 {post : Int64 → Prop} {y r : Nat} {rn : Nat → Nat} {wn : Nat → Bool} (hy : y < 48) (hrd : ∀ j, j < y → rd j = nI (rn j) ∧ rn j < 2 ^ 31) (hwi : ∀ j, j < y → wi j = gd_bi (wn j)) (hr : r < 2 ^ 31) (h : post (gw_set (fun x => wn x && (rn x == r) && gb (ws y) x) y)) :
    ∀ d i f, i + d = y → d < f → wX_witnessesWellUnder_5 post (nI y) (nI r) en gr st oc yv mk tm cn us ws rd wi vf fa de rc fi ev pl la so f (gw_set (fun x => wn x && (rn x == r) && gb (ws y) x) i) (nI i) := by
  intro d
  induction d with
  | zero =>
    intro i f hi hf
    obtain ⟨f, rfl⟩ : ∃ k, f = k + 1 := ⟨f - 1, by omega⟩
    rw [wX_witnessesWellUnder_5]
    have e : i = y := by omega
    subst e
    exact br_t (nI_le (Nat.le_refl _) (by omega)) h
  | succ d ih =>
    intro i f hi hf
    obtain ⟨f, rfl⟩ : ∃ k, f = k + 1 := ⟨f - 1, by omega⟩
    rw [wX_witnessesWellUnder_5]
    have ih := ih (i + 1) f (by omega) (by omega)
    rw [gw_set] at ih
    refine br_f (nI_ge (by omega) (by omega)) (gx_wo (by omega) (hwi i (by omega)) (hrd i (by omega)).1 (hrd i (by omega)).2 hr (gd_br (fun e1 => nm_r (nI_1 i) ?_) (fun e1 => gx_wu (by omega) hy (gd_br (fun e2 => nm_r (nI_1 i) ?_) (fun e2 => nm_e (nm_r (nI_1 i) ?_))))))
    · rw [e1, Bool.false_and, if_neg (by decide)] at ih; exact ih
    · rw [e2, Bool.and_false, if_neg (by decide)] at ih; exact ih
    · rw [e1, e2, Bool.true_and, if_pos rfl] at ih; exact ih
theorem gx_ww {post : Int64 → Prop} {y r : Nat} {rn : Nat → Nat} {wn : Nat → Bool} (hy : y < 48) (hrd : ∀ j, j < y → rd j = nI (rn j) ∧ rn j < 2 ^ 31) (hwi : ∀ j, j < y → wi j = gd_bi (wn j)) (hr : r < 2 ^ 31) (h : post (gw_set (fun x => wn x && (rn x == r) && gb (ws y) x) y)) : wpX_witnessesWellUnder post (en, gr, st, oc, yv, mk, tm, cn, us, ws, rd, wi, vf, fa, de, rc, fi, ev, pl, la, so) (nI y) (nI r) :=
  ⟨y + 1, gx_ww5 hy hrd hwi hr h y 0 (y + 1) (by omega) (by omega)⟩
end
