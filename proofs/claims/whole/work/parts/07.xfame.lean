/-! ===== the component: the round of a new event ===== -/
def gx_S (D : gd_D) (mk tm cn : Nat → Int32) (us ws : Nat → Int64) (rd wi : Nat → Int32) : Prop :=
  (∀ j, mk j = nI (gd_mk D j)) ∧ tm = gd_tm D ∧ (∀ j, cn j = gd_bi (gd_cn D j)) ∧ us = gd_us D ∧ ws = gd_ws D ∧ (∀ j, rd j = nI (gd_rd D j)) ∧ (∀ j, wi j = gd_bi (gd_wi D j))
theorem gm_rp_eq (D : gd_D) (o : Option Nat) : gx_ro (gd_rd D) o = gm_rp D o := by cases o <;> rfl
theorem gm_kn_eq (D : gd_D) (o : Option Nat) : gx_uo (gd_us D) o = gm_kn D o := by cases o <;> rfl
theorem gm_lt48 {n : Nat} (hn : n ≤ 48) {o : Option Nat} (h : gm_lt n o) : gm_lt 48 o := by
  cases o with
  | none => trivial
  | some p => exact Nat.lt_of_lt_of_le h hn
section
variable {en gr st oc : Int32} {yv : Int64} {mk tm cn : Nat → Int32} {us ws : Nat → Int64} {rd wi : Nat → Int32} {vf : Nat → Int64} {fa de rc fi ev pl la so : Nat → Int32}
theorem gx_pr82 {post : SX → Prop} {n R g : Nat} {w : Bool} {rn : Nat → Nat} {wn : Nat → Bool} (hn : n < 48) (hR : 1 ≤ R) (hR2 : R < 2 ^ 31) (hg : g < 2 ^ 31) (hrd : ∀ j, j < n → rd j = nI (rn j) ∧ rn j < 2 ^ 31) (hwi : ∀ j, j < n → wi j = gd_bi (wn j))
    (h : post (en, nI (if g < R then R else g), st, oc, yv, mk, tm, cn, us, ws, rd, upd wi n (gd_bi w), vp_updL vf n (gw_set (fun x => wn x && (rn x == R - 1) && gb (ws n) x) n), fa, de, rc, fi, ev, pl, la, so)) : wX_putInRound_82 post (nI n) (nI R) (gd_bi w) (nI n) en (nI g) st oc yv mk tm cn us ws rd wi vf fa de rc fi ev pl la so := by
  have c : (nI n).toNatClampNeg = n := nI_clamp (by omega)
  have v : vp_in (nI n) 48 := vp_in_nI hn (by omega)
  refine ⟨v, nm_r (e' := upd wi n (gd_bi w)) (by rw [c, gd_biV]) ?_⟩
  have e : nI R - 1 = nI (R - 1) := by
    obtain ⟨k, rfl⟩ : ∃ k, R = k + 1 := ⟨R - 1, by omega⟩
    exact nI_pred k
  rw [e]
  refine gx_ww hn hrd (fun j hj => (pk_un (by omega)).trans (hwi j hj)) (by omega) ⟨v, nm_r (by rw [c]) ?_⟩
  exact pk_le R g (fun l => by rw [if_neg (by omega)] at h; exact h) (fun l => by rw [if_pos l] at h; exact h)
theorem gx_pr57 {post : SX → Prop} {n R g ow : Nat} {rn : Nat → Nat} {wn : Nat → Bool} (hn : n < 48) (hR : 1 ≤ R) (hR2 : R < 2 ^ 31) (hg : g < 2 ^ 31) (how : ow < 2 ^ 31) (hrd : ∀ j, j < n → rd j = nI (rn j) ∧ rn j < 2 ^ 31) (hwi : ∀ j, j < n → wi j = gd_bi (wn j))
    (h : post (en, nI (if g < R then R else g), st, oc, yv, mk, tm, cn, us, ws, upd rd n (nI R), upd wi n (gd_bi (decide (ow < R))), vp_updL vf n (gw_set (fun x => wn x && (rn x == R - 1) && gb (ws n) x) n), fa, de, rc, fi, ev, pl, la, so)) : wX_putInRound_57 post (nI n) (nI ow) (nI R) en (nI g) st oc yv mk tm cn us ws rd wi vf fa de rc fi ev pl la so := by
  have c : (nI n).toNatClampNeg = n := nI_clamp (by omega)
  have v : vp_in (nI n) 48 := vp_in_nI hn (by omega)
  have hrd' : ∀ j, j < n → upd rd n (nI R) j = nI (rn j) ∧ rn j < 2 ^ 31 := fun j hj => ⟨(pk_un (by omega)).trans (hrd j hj).1, (hrd j hj).2⟩
  refine ⟨v, nm_r (e' := upd rd n (nI R)) (by rw [c]) (pk_le R ow (fun l => ?_) (fun l => ?_))⟩
  · rw [decide_eq_false (by omega)] at h
    exact gx_pr82 (w := false) hn hR hR2 hg hrd' hwi h
  · rw [decide_eq_true l] at h
    exact gx_pr82 (w := true) hn hR hR2 hg hrd' hwi h
theorem gx_pr {post : SX → Prop} {D : gd_D} {n g m : Nat} {o1 o2 : Option Nat} (hn : n < 48) (I : gd_Inv D n g) (hrd : ∀ j, rd j = nI (gd_rd D j)) (hwi : ∀ j, wi j = gd_bi (gd_wi D j)) (hW : ws n = gm_W D n m o1 o2) (h1 : gm_lt n o1) (h2 : gm_lt n o2)
    (h : post (en, nI (gm_g D n g m o1 o2), st, oc, yv, mk, tm, cn, us, ws, upd rd n (nI (gm_r D n m o1 o2)), upd wi n (gd_bi (gm_w D n m o1 o2)), vp_updL vf n (gm_V D n m o1 o2), fa, de, rc, fi, ev, pl, la, so)) : wpX_putInRound post (en, nI g, st, oc, yv, mk, tm, cn, us, ws, rd, wi, vf, fa, de, rc, fi, ev, pl, la, so) (nI n) (gf_dv o1) (gf_dv o2) := by
  have i48 := I.1
  have ig := I.2.1
  have a1 := gm_rp_le I o1
  have a2 := gm_rp_le I o2
  have hrdn : ∀ j, j < n → rd j = nI (gd_rd D j) ∧ gd_rd D j < 2 ^ 31 := fun j _ => ⟨hrd j, by have := I.2.2.2.1 j; omega⟩
  have hwin : ∀ j, j < n → wi j = gd_bi (gd_wi D j) := fun j _ => hwi j
  have main : wX_putInRound_28 post (nI n) (nI (gm_rp D o1)) (nI (gm_r0 D o1 o2)) en (nI g) st oc yv mk tm cn us ws rd wi vf fa de rc fi ev pl la so := by
    have r0 := gm_r0_le I o1 o2
    have rr := gm_r_r0 D n m o1 o2
    have fin : wX_putInRound_57 post (nI n) (nI (gm_rp D o1)) (nI (gm_r D n m o1 o2)) en (nI g) st oc yv mk tm cn us ws rd wi vf fa de rc fi ev pl la so := by
      refine gx_pr57 (rn := gd_rd D) (wn := gd_wi D) hn rr.2.2 (by omega) (by omega) (by omega) hrdn hwin ?_
      rw [hW]
      exact h
    refine gx_ww hn hrdn hwin (by omega) ?_
    rw [hW]
    refine pk_eq _ 0 (fun z => ?_) (fun z => gx_cn ?_) rfl rfl (by omega) (by omega)
    · have e : gm_r D n m o1 o2 = gm_r0 D o1 o2 + 1 := by unfold gm_r; exact if_pos (Or.inl z)
      rw [e] at fin
      exact nm_r (nI_1 _) fin
    · rw [gw_cnt _ (by omega)]
      have b := gc_cnt_le (fun x => gd_wi D x && (gd_rd D x == gm_r0 D o1 o2) && gb (gm_W D n m o1 o2) x) n
      refine pk_lt _ 3 (fun l => ?_) (fun l => ?_) rfl rfl (by omega) (by omega)
      · have e : gm_r D n m o1 o2 = gm_r0 D o1 o2 := by
          unfold gm_r
          refine if_neg (fun q => ?_)
          rcases q with q | q
          · exact z q
          · have q : 3 ≤ gc_cnt (fun x => gd_wi D x && (gd_rd D x == gm_r0 D o1 o2) && gb (gm_W D n m o1 o2) x) n := q
            omega
        rw [e] at fin
        exact fin
      · have e : gm_r D n m o1 o2 = gm_r0 D o1 o2 + 1 := by unfold gm_r; exact if_pos (Or.inr l)
        rw [e] at fin
        exact nm_r (nI_1 _) fin
  unfold wpX_putInRound
  refine gx_rp (gm_lt48 i48 h1) hrd ?_
  refine gx_rp (gm_lt48 i48 h2) hrd ?_
  rw [gm_rp_eq, gm_rp_eq]
  refine pk_le (gm_rp D o1) (gm_rp D o2) (fun l => ?_) (fun l => ?_)
  · have e : gm_r0 D o1 o2 = gm_rp D o2 := by unfold gm_r0; exact if_neg (by omega)
    rw [e] at main
    exact main
  · have e : gm_r0 D o1 o2 = gm_rp D o1 := by unfold gm_r0; exact if_pos l
    rw [e] at main
    exact main
/-! ===== the component: one vote ===== -/
theorem gx_tv171 {post : SX → Prop} {y : Nat} {v : Bool} (hy : y < 48) (h : ∀ yv' : Int64, (∀ z, gb yv' z = (gb yv z || ((y == z) && v))) → post (en, gr, st, oc, yv', mk, tm, cn, us, ws, rd, wi, vf, fa, de, rc, fi, ev, pl, la, so)) : wX_takeVote_171 post (nI y) (gd_bi v) en gr st oc yv mk tm cn us ws rd wi vf fa de rc fi ev pl la so :=
  gd_br (fun e => h yv (fun z => by rw [e, Bool.and_false, Bool.or_false])) (fun e => nm_e (h _ (fun z => by rw [gb_or, gb_one (by omega), e, Bool.and_true])))
theorem gx_tv136 {post : SX → Prop} {x y : Nat} {v e1 cr : Bool} (hx : x < 48) (hy : y < 48)
    (h0 : (e1 && !cr) = false → ∀ yv' : Int64, (∀ z, gb yv' z = (gb yv z || ((y == z) && v))) → post (en, gr, st, oc, yv', mk, tm, cn, us, ws, rd, wi, vf, fa, de, rc, fi, ev, pl, la, so))
    (h1 : (e1 && !cr) = true → ∀ yv' : Int64, (∀ z, gb yv' z = (gb yv z || ((y == z) && v))) → post (en, gr, st, oc, yv', mk, tm, cn, us, ws, rd, wi, vf, upd fa x (nI (if v = true then 2 else 1)), upd de x (nI y), rc, fi, ev, pl, la, so)) : wX_takeVote_136 post (nI y) (nI x) (gd_bi e1) (gd_bi cr) (gd_bi v) en gr st oc yv mk tm cn us ws rd wi vf fa de rc fi ev pl la so := by
  have c : (nI x).toNatClampNeg = x := nI_clamp (by omega)
  have vi : vp_in (nI x) 48 := vp_in_nI hx (by omega)
  refine gd_br (fun a => gx_tv171 hy (h0 (by rw [a, Bool.false_and]))) (fun a => gd_br (fun b => ?_) (fun b => gx_tv171 hy (h0 (by rw [b, Bool.not_true, Bool.and_false]))))
  have h1 := h1 (by rw [a, b]; rfl)
  refine gd_br (fun q => ⟨vi, nm_r (e' := upd fa x (nI 1)) (by rw [c]; rfl) ⟨vi, nm_r (e' := upd de x (nI y)) (by rw [c]) (gx_tv171 hy (fun yv' hv => ?_))⟩⟩) (fun q => ⟨vi, nm_r (e' := upd fa x (nI 2)) (by rw [c]; rfl) ⟨vi, nm_r (e' := upd de x (nI y)) (by rw [c]) (gx_tv171 hy (fun yv' hv => ?_))⟩⟩)
  · have h1 := h1 yv' hv
    rw [if_neg (by rw [q]; decide)] at h1
    exact h1
  · have h1 := h1 yv' hv
    rw [if_pos q] at h1
    exact h1
theorem gx_tv113 {post : SX → Prop} {x y : Nat} {mo e1 cr c : Bool} (hx : x < 48) (hy : y < 48) (hc : cn y = gd_bi c)
    (h0 : (e1 && !cr) = false → ∀ yv' : Int64, (∀ z, gb yv' z = (gb yv z || ((y == z) && (if cr = true ∧ e1 = false then c else mo)))) → post (en, gr, st, oc, yv', mk, tm, cn, us, ws, rd, wi, vf, fa, de, rc, fi, ev, pl, la, so))
    (h1 : (e1 && !cr) = true → ∀ yv' : Int64, (∀ z, gb yv' z = (gb yv z || ((y == z) && (if cr = true ∧ e1 = false then c else mo)))) → post (en, gr, st, oc, yv', mk, tm, cn, us, ws, rd, wi, vf, upd fa x (nI (if (if cr = true ∧ e1 = false then c else mo) = true then 2 else 1)), upd de x (nI y), rc, fi, ev, pl, la, so)) : wX_takeVote_113 post (nI y) (nI x) (gd_bi mo) (gd_bi e1) (gd_bi cr) en gr st oc yv mk tm cn us ws rd wi vf fa de rc fi ev pl la so := by
  have cl : (nI y).toNatClampNeg = y := nI_clamp (by omega)
  refine gd_br (fun a => ?_) (fun a => gd_br (fun b => ⟨vp_in_nI hy (by omega), ?_⟩) (fun b => ?_))
  · have e : (if cr = true ∧ e1 = false then c else mo) = mo := if_neg (by rw [a]; exact fun z => absurd z.1 (by decide))
    rw [e] at h0 h1
    exact gx_tv136 hx hy h0 h1
  · have e : (if cr = true ∧ e1 = false then c else mo) = c := if_pos ⟨a, b⟩
    rw [e] at h0 h1
    rw [cl, hc]
    exact gx_tv136 hx hy h0 h1
  · have e : (if cr = true ∧ e1 = false then c else mo) = mo := if_neg (by rw [b]; exact fun z => absurd z.2 (by decide))
    rw [e] at h0 h1
    exact gx_tv136 hx hy h0 h1
theorem gx_tv100 {post : SX → Prop} {x y k : Nat} {mo e1 c : Bool} (hx : x < 48) (hy : y < 48) (hk : k < 2 ^ 31) (hc : cn y = gd_bi c)
    (h0 : (e1 && !decide (k % 5 = 0)) = false → ∀ yv' : Int64, (∀ z, gb yv' z = (gb yv z || ((y == z) && (if k % 5 = 0 ∧ e1 = false then c else mo)))) → post (en, gr, st, oc, yv', mk, tm, cn, us, ws, rd, wi, vf, fa, de, rc, fi, ev, pl, la, so))
    (h1 : (e1 && !decide (k % 5 = 0)) = true → ∀ yv' : Int64, (∀ z, gb yv' z = (gb yv z || ((y == z) && (if k % 5 = 0 ∧ e1 = false then c else mo)))) → post (en, gr, st, oc, yv', mk, tm, cn, us, ws, rd, wi, vf, upd fa x (nI (if (if k % 5 = 0 ∧ e1 = false then c else mo) = true then 2 else 1)), upd de x (nI y), rc, fi, ev, pl, la, so)) : wX_takeVote_100 post (nI y) (nI x) (nI k) (gd_bi mo) (gd_bi e1) en gr st oc yv mk tm cn us ws rd wi vf fa de rc fi ev pl la so := by
  have h5 : nI k - nI k / 5 * 5 = nI (k % 5) := pk_rem (d := 5) hk (by decide) (by decide)
  refine ⟨by decide, ?_⟩
  rw [h5]
  refine pk_eq (k % 5) 0 (fun z => ?_) (fun z => ?_)
  · refine gx_tv113 (cr := true) hx hy hc (fun q yv' hv => h0 ?_ yv' (fun z' => ?_)) (fun q => ?_)
    · rw [decide_eq_true z]; exact q
    · rw [hv z']
      simp only [z, true_and]
    · rw [Bool.not_true, Bool.and_false] at q; cases q
  · refine gx_tv113 (cr := false) hx hy hc (fun q yv' hv => h0 ?_ yv' (fun z' => ?_)) (fun q yv' hv => ?_)
    · rw [decide_eq_false z]; exact q
    · rw [hv z', if_neg (fun t => absurd t.1 (by decide)), if_neg (fun t => z t.1)]
    · rw [if_neg (fun t : false = true ∧ e1 = false => absurd t.1 (by decide))]
      have h1 := h1 (by rw [decide_eq_false z]; exact q) yv' (fun z' => by rw [hv z', if_neg (fun t => absurd t.1 (by decide)), if_neg (fun t => z t.1)])
      rw [if_neg (fun t : k % 5 = 0 ∧ e1 = false => z t.1)] at h1
      exact h1
theorem gx_tv77 {post : SX → Prop} {x y k a b : Nat} {mo c : Bool} (hx : x < 48) (hy : y < 48) (hk : k < 2 ^ 31) (ha : a < 2 ^ 31) (hb : b < 2 ^ 31) (hc : cn y = gd_bi c)
    (h0 : (decide (3 ≤ (if mo = true then a else b)) && !decide (k % 5 = 0)) = false → ∀ yv' : Int64, (∀ z, gb yv' z = (gb yv z || ((y == z) && (if k % 5 = 0 ∧ decide (3 ≤ (if mo = true then a else b)) = false then c else mo)))) → post (en, gr, st, oc, yv', mk, tm, cn, us, ws, rd, wi, vf, fa, de, rc, fi, ev, pl, la, so))
    (h1 : (decide (3 ≤ (if mo = true then a else b)) && !decide (k % 5 = 0)) = true → ∀ yv' : Int64, (∀ z, gb yv' z = (gb yv z || ((y == z) && (if k % 5 = 0 ∧ decide (3 ≤ (if mo = true then a else b)) = false then c else mo)))) → post (en, gr, st, oc, yv', mk, tm, cn, us, ws, rd, wi, vf, upd fa x (nI (if (if k % 5 = 0 ∧ decide (3 ≤ (if mo = true then a else b)) = false then c else mo) = true then 2 else 1)), upd de x (nI y), rc, fi, ev, pl, la, so)) : wX_takeVote_77 post (nI y) (nI x) (nI k) (nI a) (nI b) (gd_bi mo) en gr st oc yv mk tm cn us ws rd wi vf fa de rc fi ev pl la so := by
  have m91 : ∀ t : Nat, t < 2 ^ 31 → (if mo = true then a else b) = t → wX_takeVote_91 post (nI y) (nI x) (nI k) (gd_bi mo) (nI t) en gr st oc yv mk tm cn us ws rd wi vf fa de rc fi ev pl la so := by
    intro t ht e
    rw [e] at h0 h1
    refine pk_lt t 3 (fun l => ?_) (fun l => ?_)
    · rw [decide_eq_false (show ¬ 3 ≤ t by omega)] at h0 h1
      exact gx_tv100 (e1 := false) hx hy hk hc h0 h1
    · rw [decide_eq_true (show 3 ≤ t by omega)] at h0 h1
      exact gx_tv100 (e1 := true) hx hy hk hc h0 h1
  refine gd_br (fun q => m91 b hb ?_) (fun q => m91 a ha ?_)
  · exact if_neg (by rw [q]; decide)
  · exact if_pos q
theorem gx_tv {post : SX → Prop} {D : gd_D} {x y : Nat} (hx : x < 48) (hy : y < 48) (hus : us = gd_us D) (hrd : ∀ j, rd j = nI (gd_rd D j)) (hcn : ∀ j, cn j = gd_bi (gd_cn D j)) (hb : gd_rd D y < 2 ^ 30) (hlt : gd_rd D x < gd_rd D y) (hvf : ∀ z, gb (vf y) z = gd_vo D z y)
    (hyv : gd_rd D x + 2 ≤ gd_rd D y → ∀ z, z < 48 → gd_vo D z y = true → gb yv z = gf_v D x z)
    (h0 : gf_dec D x y = false → ∀ yv' : Int64, (∀ z, gb yv' z = (gb yv z || ((y == z) && gf_v D x y))) → post (en, gr, st, oc, yv', mk, tm, cn, us, ws, rd, wi, vf, fa, de, rc, fi, ev, pl, la, so))
    (h1 : gf_dec D x y = true → ∀ yv' : Int64, (∀ z, gb yv' z = (gb yv z || ((y == z) && gf_v D x y))) → post (en, gr, st, oc, yv', mk, tm, cn, us, ws, rd, wi, vf, upd fa x (nI (if gf_v D x y = true then 2 else 1)), upd de x (nI y), rc, fi, ev, pl, la, so)) : wpX_takeVote post (en, gr, st, oc, yv, mk, tm, cn, us, ws, rd, wi, vf, fa, de, rc, fi, ev, pl, la, so) (nI y) (nI x) := by
  have cx : (nI x).toNatClampNeg = x := nI_clamp (by omega)
  have cy : (nI y).toNatClampNeg = y := nI_clamp (by omega)
  have vx : vp_in (nI x) 48 := vp_in_nI hx (by omega)
  have vy : vp_in (nI y) 48 := vp_in_nI hy (by omega)
  subst hus
  refine ⟨vy, vx, nm_r (e' := nI (gd_rd D y - gd_rd D x)) (by rw [cx, cy, hrd, hrd]; exact pk_sub (by omega)) (gx_un hx hy ?_)⟩
  refine pk_le (gd_rd D y - gd_rd D x) 1 (fun l => ?_) (fun l => ⟨vy, ?_⟩)
  · have e : gd_rd D y = gd_rd D x + 1 := by omega
    have h0 := h0 (gf_dec_1 e)
    rw [gf_v_1 e] at h0
    exact gx_tv171 hy h0
  · have hyv := hyv (by omega)
    obtain ⟨ey, en2⟩ := gf_cnt_v (v := gb yv) hyv
    rw [cy]
    have by1 : gc_cnt (gb (vf y &&& yv)) 48 = gf_yes D (gf_vt D x (gd_rd D y - gd_rd D x - 1)) y := by
      rw [← ey]
      exact gc_cnt_congr fun z _ => by rw [gb_and, hvf]
    have bn1 : gc_cnt (gb (vf y &&& (yv ^^^ (-1)))) 48 = gf_no D (gf_vt D x (gd_rd D y - gd_rd D x - 1)) y := by
      rw [← en2]
      exact gc_cnt_congr fun z hz => by rw [gb_and, hvf, gb_not _ (by omega)]
    refine gx_cn ⟨vy, gx_cn ?_⟩
    rw [by1, bn1]
    have ly : gf_yes D (gf_vt D x (gd_rd D y - gd_rd D x - 1)) y ≤ 48 := gc_cnt_le _ _
    have ln : gf_no D (gf_vt D x (gd_rd D y - gd_rd D x - 1)) y ≤ 48 := gc_cnt_le _ _
    rw [gf_dec_s (by omega)] at h0 h1
    rw [gf_v_s (by omega)] at h0 h1
    have key : wX_takeVote_77 post (nI y) (nI x) (nI (gd_rd D y - gd_rd D x)) (nI (gf_yes D (gf_vt D x (gd_rd D y - gd_rd D x - 1)) y)) (nI (gf_no D (gf_vt D x (gd_rd D y - gd_rd D x - 1)) y)) (gd_bi (gf_mo D (gf_vt D x (gd_rd D y - gd_rd D x - 1)) y)) en gr st oc yv mk tm cn (gd_us D) ws rd wi vf fa de rc fi ev pl la so := by
      refine gx_tv77 hx hy (by omega) (by omega) (by omega) (hcn y) (fun q => h0 ?_) (fun q => h1 ?_)
      · rw [Bool.and_comm, decide_not]; exact q
      · rw [Bool.and_comm, decide_not]; exact q
    refine pk_lt _ _ (fun l2 => ?_) (fun l2 => ?_) rfl rfl (by omega) (by omega)
    · have e : gf_mo D (gf_vt D x (gd_rd D y - gd_rd D x - 1)) y = false := decide_eq_false (by omega)
      rw [e] at key
      exact key
    · have e : gf_mo D (gf_vt D x (gd_rd D y - gd_rd D x - 1)) y = true := decide_eq_true (by omega)
      rw [e] at key
      exact key
end
