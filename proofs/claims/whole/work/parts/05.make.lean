/-! ===== a new event: number n, maker m, parents own and other, time t, coin c ===== -/
def gm_kn (D : gd_D) : Option Nat → Int64
  | none => 0
  | some p => gd_us D p
def gm_rp (D : gd_D) : Option Nat → Nat
  | none => 0
  | some p => gd_rd D p
def gm_U (D : gd_D) (n : Nat) (own other : Option Nat) : Int64 := ((1 : Int64) <<< ((nI n).toInt64 &&& 63)) ||| gm_kn D own ||| gm_kn D other
def gm_c (mk : Nat → Nat) (us : Nat → Int64) (n x : Nat) : Bool := decide (3 ≤ gc_mem mk (fun z => gb (us n) z && gb (us z) x) (n + 1))
def gm_W (D : gd_D) (n m : Nat) (own other : Option Nat) : Int64 := gw_set (gm_c (gi_up (gd_mk D) n m) (gi_up (gd_us D) n (gm_U D n own other)) n) (n + 1)
def gm_r0 (D : gd_D) (own other : Option Nat) : Nat := if gm_rp D other < gm_rp D own then gm_rp D own else gm_rp D other
def gm_ps (D : gd_D) (W : Int64) (r x : Nat) : Bool := gd_wi D x && (gd_rd D x == r) && gb W x
def gm_r (D : gd_D) (n m : Nat) (own other : Option Nat) : Nat := if gm_r0 D own other = 0 ∨ 3 ≤ gc_cnt (gm_ps D (gm_W D n m own other) (gm_r0 D own other)) n then gm_r0 D own other + 1 else gm_r0 D own other
def gm_w (D : gd_D) (n m : Nat) (own other : Option Nat) : Bool := decide (gm_rp D own < gm_r D n m own other)
def gm_g (D : gd_D) (n g m : Nat) (own other : Option Nat) : Nat := if g < gm_r D n m own other then gm_r D n m own other else g
def gm_D (D : gd_D) (n m : Nat) (own other : Option Nat) (t : Int32) (c : Bool) : gd_D :=
  (gi_up (gd_mk D) n m, gi_up (gd_tm D) n t, gi_up (gd_cn D) n c, gi_up (gd_us D) n (gm_U D n own other), gi_up (gd_ws D) n (gm_W D n m own other), gi_up (gd_rd D) n (gm_r D n m own other), gi_up (gd_wi D) n (gm_w D n m own other))
def gm_own (D : gd_D) (n m : Nat) : Option Nat → Prop
  | none => ∀ j, j < n → gd_mk D j ≠ m
  | some p => p < n ∧ gd_mk D p = m ∧ ∀ j, p < j → j < n → gd_mk D j ≠ m
def gm_lt (n : Nat) : Option Nat → Prop
  | none => True
  | some p => p < n
theorem gm_own_lt {D : gd_D} {n m : Nat} {own : Option Nat} (h : gm_own D n m own) : gm_lt n own := by
  cases own with
  | none => trivial
  | some p => exact h.1
theorem gm_r0_own (D : gd_D) (own other : Option Nat) : gm_rp D own ≤ gm_r0 D own other := by unfold gm_r0; split <;> omega
theorem gm_r_r0 (D : gd_D) (n m : Nat) (own other : Option Nat) : gm_r0 D own other ≤ gm_r D n m own other ∧ gm_r D n m own other ≤ gm_r0 D own other + 1 ∧ 1 ≤ gm_r D n m own other := by
  unfold gm_r
  split
  · omega
  · rename_i h
    have : ¬ gm_r0 D own other = 0 := fun e => h (Or.inl e)
    omega
theorem gm_rp_le {D : gd_D} {n g : Nat} (I : gd_Inv D n g) (own : Option Nat) : gm_rp D own ≤ g := by
  cases own with
  | none => exact Nat.zero_le _
  | some p => exact I.2.2.2.1 p
theorem gm_r0_le {D : gd_D} {n g : Nat} (I : gd_Inv D n g) (own other : Option Nat) : gm_r0 D own other ≤ g := by
  have a := gm_rp_le I own
  have b := gm_rp_le I other
  unfold gm_r0; split <;> assumption
theorem gm_kn_bit {D : gd_D} {n g : Nat} (I : gd_Inv D n g) {p : Option Nat} (hp : gm_lt n p) {x : Nat} (h : gb (gm_kn D p) x = true) : x < n := by
  cases p with
  | none => rw [gm_kn, gb_0] at h; cases h
  | some q =>
    have hq : q < n := hp
    have := I.2.2.2.2.2.1 q hq x h
    omega
theorem gm_U_bit {D : gd_D} {n g : Nat} (I : gd_Inv D n g) (hn : n < 48) {own other : Option Nat} (h1 : gm_lt n own) (h2 : gm_lt n other) {x : Nat} (h : gb (gm_U D n own other) x = true) : x ≤ n := by
  unfold gm_U at h
  rw [gb_or, gb_or, gb_one (by omega), Bool.or_eq_true, Bool.or_eq_true, beq_iff_eq] at h
  rcases h with (h | h) | h
  · omega
  · have := gm_kn_bit I h1 h; omega
  · have := gm_kn_bit I h2 h; omega
theorem gm_U_own {D : gd_D} {n : Nat} (hn : n < 48) {own other : Option Nat} : gb (gm_U D n own other) n = true := by
  unfold gm_U
  rw [gb_or, gb_or, gb_one (by omega), beq_self_eq_true, Bool.true_or, Bool.true_or]
theorem gm_W_bit {D : gd_D} {n m : Nat} (hn : n < 48) {own other : Option Nat} {x : Nat} (h : gb (gm_W D n m own other) x = true) : x ≤ n := by
  unfold gm_W at h
  rw [gw_bit _ _ (by omega), Bool.and_eq_true, decide_eq_true_eq] at h
  omega
theorem gm_inv {D : gd_D} {n g m : Nat} {own other : Option Nat} {t : Int32} {c : Bool} (I : gd_Inv D n g) (hn : n < 48) (hm : m < 4) (ho : gm_own D n m own) (h2 : gm_lt n other) : gd_Inv (gm_D D n m own other t c) (n + 1) (gm_g D n g m own other) := by
  have h1 := gm_own_lt ho
  have hr := gm_r_r0 D n m own other
  have hr0 := gm_r0_le I own other
  have hro := gm_r0_own D own other
  have Iu : ∀ x, gb (gm_U D n own other) x = true → x ≤ n := fun x hx => gm_U_bit I hn h1 h2 hx
  obtain ⟨i1, i2, i3, i4, i5, i6, i7, i8, i9, i10⟩ := I
  have hg : g ≤ gm_g D n g m own other ∧ gm_r D n m own other ≤ gm_g D n g m own other ∧ gm_g D n g m own other ≤ n + 1 := by unfold gm_g; split <;> omega
  refine ⟨by omega, hg.2.2, fun j => ?_, fun j => ?_, fun j hj => ?_, fun y hy x hx => ?_, fun y hy => ?_, fun y hy x hx => ?_, fun x y hxy hy e => ?_, fun j hj => ?_⟩
  · show gi_up (gd_mk D) n m j < 4
    by_cases e : j = n
    · subst e; rw [gi_us]; exact hm
    · rw [gi_un e]; exact i3 j
  · show gi_up (gd_rd D) n _ j ≤ _
    by_cases e : j = n
    · subst e; rw [gi_us]; exact hg.2.1
    · rw [gi_un e]; exact Nat.le_trans (i4 j) hg.1
  · show 1 ≤ gi_up (gd_rd D) n _ j
    by_cases e : j = n
    · subst e; rw [gi_us]; exact hr.2.2
    · rw [gi_un e]; exact i5 j (by omega)
  · have hx : gb (gi_up (gd_us D) n (gm_U D n own other) y) x = true := hx
    by_cases e : y = n
    · subst e; rw [gi_us] at hx; exact Iu x hx
    · rw [gi_un e] at hx; exact i6 y (by omega) x hx
  · show gb (gi_up (gd_us D) n (gm_U D n own other) y) y = true
    by_cases e : y = n
    · subst e; rw [gi_us]; exact gm_U_own hn
    · rw [gi_un e]; exact i7 y (by omega)
  · have hx : gb (gi_up (gd_ws D) n (gm_W D n m own other) y) x = true := hx
    by_cases e : y = n
    · subst e; rw [gi_us] at hx; exact gm_W_bit hn hx
    · rw [gi_un e] at hx; exact i8 y (by omega) x hx
  · have e3 : gi_up (gd_mk D) n m x = gi_up (gd_mk D) n m y := e
    clear e
    show gi_up (gd_rd D) n _ x ≤ gi_up (gd_rd D) n _ y ∧ (gi_up (gd_wi D) n _ y = true → gi_up (gd_rd D) n _ x < gi_up (gd_rd D) n _ y)
    have hxn : x ≠ n := by omega
    rw [gi_un hxn] at e3
    rw [gi_un hxn]
    by_cases ey : y = n
    · subst ey
      rw [gi_us] at e3
      rw [gi_us, gi_us]
      cases own with
      | none => exact absurd e3 (ho x hxy)
      | some p =>
        obtain ⟨p1, p2, p3⟩ := ho
        have hp : gm_rp D (some p) = gd_rd D p := rfl
        have hxp : gd_rd D x ≤ gd_rd D p := by
          rcases Nat.lt_trichotomy x p with l | l | l
          · exact (i9 x p l p1 (e3.trans p2.symm)).1
          · subst l; exact Nat.le_refl _
          · exact absurd e3 (p3 x l hxy)
        refine ⟨by omega, fun hw => ?_⟩
        unfold gm_w at hw
        rw [decide_eq_true_eq] at hw
        omega
    · rw [gi_un ey] at e3
      rw [gi_un ey, gi_un ey]
      exact i9 x y hxy (by omega) e3
  · show gi_up (gd_wi D) n _ j = false
    rw [gi_un (show j ≠ n by omega)]; exact i10 j (by omega)
/-! the voters, as the component keeps them -/
def gv_ok (D : gd_D) (n : Nat) (vf : Nat → Int64) : Prop := ∀ y, y < n → ∀ z, gb (vf y) z = gd_vo D z y
def gm_V (D : gd_D) (n m : Nat) (own other : Option Nat) : Int64 := gw_set (gm_ps D (gm_W D n m own other) (gm_r D n m own other - 1)) n
theorem gv_make {D : gd_D} {n g m : Nat} {own other : Option Nat} {t : Int32} {c : Bool} {vf : Nat → Int64} (I : gd_Inv D n g) (hn : n < 48) (h : gv_ok D n vf) : gv_ok (gm_D D n m own other t c) (n + 1) (gi_up vf n (gm_V D n m own other)) := by
  obtain ⟨i1, i2, i3, i4, i5, i6, i7, i8, i9, i10⟩ := I
  have hr := gm_r_r0 D n m own other
  intro y hy z
  show gb (gi_up vf n (gm_V D n m own other) y) z = (gi_up (gd_wi D) n (gm_w D n m own other) z && (gi_up (gd_rd D) n (gm_r D n m own other) z + 1 == gi_up (gd_rd D) n (gm_r D n m own other) y) && gb (gi_up (gd_ws D) n (gm_W D n m own other) y) z)
  by_cases ey : y = n
  · subst ey
    rw [gi_us, gi_us, gi_us]
    unfold gm_V
    rw [gw_bit _ _ (by omega)]
    by_cases ez : z = y
    · subst ez
      rw [gi_us, gi_us, decide_eq_false (by omega), Bool.false_and]
      have : (gm_r D z m own other + 1 == gm_r D z m own other) = false := by simp
      rw [this, Bool.and_false, Bool.false_and]
    · rw [gi_un ez, gi_un ez]
      by_cases l : z < y
      · rw [decide_eq_true l, Bool.true_and]
        unfold gm_ps
        have : (gd_rd D z == gm_r D y m own other - 1) = (gd_rd D z + 1 == gm_r D y m own other) := by
          by_cases q : gd_rd D z + 1 = gm_r D y m own other
          · rw [beq_iff_eq.mpr q, beq_iff_eq]; omega
          · rw [beq_eq_false_iff_ne.mpr q, beq_eq_false_iff_ne]; omega
        rw [this]
      · rw [decide_eq_false l, i10 z (by omega), Bool.false_and, Bool.false_and, Bool.false_and]
  · rw [gi_un ey, gi_un ey, gi_un ey, h y (by omega) z]
    by_cases ez : z = n
    · subst ez
      unfold gd_vo
      rw [i10 z (Nat.le_refl _), Bool.false_and, Bool.false_and]
      have : gb (gd_ws D y) z = false := by
        cases q : gb (gd_ws D y) z with
        | false => rfl
        | true => exact absurd (i8 y (by omega) z q) (by omega)
      rw [this, Bool.and_false]
    · rw [gi_un ez, gi_un ez]; rfl
/-! sets, counted -/
theorem gw_cnt (c : Nat → Bool) {k : Nat} (hk : k ≤ 48) : gc_cnt (gb (gw_set c k)) 48 = gc_cnt c k := by
  rw [gc_cnt_ext (p := gb (gw_set c k)) hk (fun z h1 h2 => by rw [gw_bit c k (by omega), decide_eq_false (by omega), Bool.false_and])]
  exact gc_cnt_congr fun z hz => by rw [gw_bit c k (by omega), decide_eq_true hz, Bool.true_and]
theorem gw_mem (mk : Nat → Nat) (c : Nat → Bool) {k : Nat} (hk : k ≤ 48) : gc_mem mk (gb (gw_set c k)) 48 = gc_mem mk c k :=
  gc_cnt_congr fun m _ => by
    rw [gc_any_ext (p := fun z => gb (gw_set c k) z && (mk z == m)) hk (fun z h1 h2 => by
      show (gb (gw_set c k) z && (mk z == m)) = false
      rw [gw_bit c k (by omega), decide_eq_false (by omega), Bool.false_and, Bool.false_and])]
    exact gc_any_congr fun z hz => by rw [gw_bit c k (by omega), decide_eq_true hz, Bool.true_and]
theorem gm_inj {D : gd_D} {n g : Nat} (I : gd_Inv D n g) (W : Int64) (r : Nat) : gc_mem (gd_mk D) (gm_ps D W r) n = gc_cnt (gm_ps D W r) n := by
  obtain ⟨i1, i2, i3, i4, i5, i6, i7, i8, i9, i10⟩ := I
  refine gc_mem_eq _ _ n (fun z _ _ => i3 z) (fun a b hab hb ha hb2 e => ?_)
  unfold gm_ps at ha hb2
  rw [Bool.and_eq_true, Bool.and_eq_true, beq_iff_eq] at ha hb2
  have := (i9 a b hab hb e).2 hb2.1.1
  omega
theorem gc_mem48 {mk : Nat → Nat} (hm : ∀ j, mk j < 4) (p : Nat → Bool) (n : Nat) : gc_cnt (fun m => gc_any (fun z => p z && (mk z == m)) n) 48 = gc_mem mk p n :=
  gc_cnt_ext (by omega) fun m h1 h2 => (gc_any_false _ _).mpr fun z _ => by
    have : (mk z == m) = false := by rw [beq_eq_false_iff_ne]; have := hm z; omega
    rw [this, Bool.and_false]
/-! the vote, step by step -/
theorem gf_v_1 {D : gd_D} {x y : Nat} (h : gd_rd D y = gd_rd D x + 1) : gf_v D x y = gd_ub D x y := by
  unfold gf_v
  rw [h, Nat.add_sub_cancel_left]
  rfl
theorem gf_v_s {D : gd_D} {x y : Nat} (h : gd_rd D x + 2 ≤ gd_rd D y) : gf_v D x y = if (gd_rd D y - gd_rd D x) % 5 = 0 ∧ gf_en D (gf_vt D x (gd_rd D y - gd_rd D x - 1)) y = false then gd_cn D y else gf_mo D (gf_vt D x (gd_rd D y - gd_rd D x - 1)) y :=
  gf_vt_s (by omega)
theorem gf_vo_v {D : gd_D} {x y z : Nat} (h : gd_vo D z y = true) : gf_vt D x (gd_rd D y - gd_rd D x - 1) z = gf_v D x z := by
  unfold gd_vo at h
  rw [Bool.and_eq_true, Bool.and_eq_true, beq_iff_eq] at h
  unfold gf_v
  have : gd_rd D y - gd_rd D x - 1 = gd_rd D z - gd_rd D x := by omega
  rw [this]
theorem gf_cnt_v {D : gd_D} {x y : Nat} {v : Nat → Bool} (h : ∀ z, z < 48 → gd_vo D z y = true → v z = gf_v D x z) : gf_yes D v y = gf_yes D (gf_vt D x (gd_rd D y - gd_rd D x - 1)) y ∧ gf_no D v y = gf_no D (gf_vt D x (gd_rd D y - gd_rd D x - 1)) y :=
  ⟨gf_yes_congr fun z hz hv => (h z hz hv).trans (gf_vo_v hv).symm, gf_no_congr fun z hz hv => (h z hz hv).trans (gf_vo_v hv).symm⟩
theorem gf_dec_1 {D : gd_D} {x y : Nat} (h : gd_rd D y = gd_rd D x + 1) : gf_dec D x y = false := by
  unfold gf_dec
  have : decide (2 ≤ gd_rd D y - gd_rd D x) = false := decide_eq_false (by omega)
  rw [this, Bool.false_and, Bool.false_and]
theorem gf_dec_s {D : gd_D} {x y : Nat} (h : gd_rd D x + 2 ≤ gd_rd D y) : gf_dec D x y = (decide ((gd_rd D y - gd_rd D x) % 5 ≠ 0) && gf_en D (gf_vt D x (gd_rd D y - gd_rd D x - 1)) y) := by
  unfold gf_dec
  have : decide (2 ≤ gd_rd D y - gd_rd D x) = true := decide_eq_true (by omega)
  rw [this, Bool.true_and]
/-! a decided one votes as most do -/
theorem gf_dec_v {D : gd_D} {x y : Nat} (h : gf_dec D x y = true) : gf_v D x y = gf_mo D (gf_vt D x (gd_rd D y - gd_rd D x - 1)) y := by
  unfold gf_dec at h
  rw [Bool.and_eq_true, Bool.and_eq_true, decide_eq_true_eq, decide_eq_true_eq] at h
  rw [gf_v_s (by omega), if_neg (fun z => h.1.2 z.1)]
/-! the first time: the reference scans all, the component below w alone -/
theorem gt_ft_all {D : gd_D} {n g x w z : Nat} (I : gd_Inv D n g) (hw : w < n) (hx : gd_ub D x w = true) (hz : gt_p D x w z = true) (h : ∀ i, i < z → gt_p D x w i = false) : gt_ft D x w = gd_tm D z := by
  have hpw : gt_p D x w w = true := by
    unfold gt_p
    rw [beq_self_eq_true, I.2.2.2.2.2.2.1 w hw, hx]
    rfl
  unfold gt_ft
  rcases Nat.lt_trichotomy z w with l | l | l
  · rw [gl_some l hz h]
  · subst l; rw [gl_none h]
  · rw [h w l] at hpw; cases hpw
/-! the reference scans the rounds downwards -/
def gr_D (p : Nat → Bool) (S r v : Nat) : Prop := (v = 0 ∧ ∀ q, r < q → q ≤ S → p q = false) ∨ (r < v ∧ v ≤ S ∧ p v = true ∧ ∀ q, r < q → q < v → p q = false)
theorem gr_D_0 (p : Nat → Bool) (S : Nat) : gr_D p S S 0 := Or.inl ⟨rfl, fun q h1 h2 => absurd h2 (by omega)⟩
theorem gr_D_t {p : Nat → Bool} {S r v : Nat} (hr : r + 1 ≤ S) (hp : p (r + 1) = true) : gr_D p S r (r + 1) := Or.inr ⟨by omega, hr, hp, fun q h1 h2 => absurd h2 (by omega)⟩
theorem gr_D_f {p : Nat → Bool} {S r v : Nat} (h : gr_D p S (r + 1) v) (hp : p (r + 1) = false) : gr_D p S r v := by
  rcases h with ⟨e, h⟩ | ⟨h1, h2, h3, h4⟩
  · refine Or.inl ⟨e, fun q a b => ?_⟩
    by_cases e2 : q = r + 1
    · subst e2; exact hp
    · exact h q (by omega) b
  · refine Or.inr ⟨by omega, h2, h3, fun q a b => ?_⟩
    by_cases e2 : q = r + 1
    · subst e2; exact hp
    · exact h4 q (by omega) b
theorem gr_D_e {p : Nat → Bool} {S v : Nat} (h : gr_D p S 0 v) : gr_lo p S = v := by
  rcases h with ⟨e, h⟩ | ⟨h1, h2, h3, h4⟩
  · rw [e]; exact gr_lo_0 fun q a b => h q (by omega) b
  · exact gr_lo_1 (by omega) h2 h3 fun q a b => h4 q (by omega) b
/-! sums and counts of the questions -/
def gg_sum (e : Nat → Int32) : Nat → Int32
  | 0 => 0
  | k + 1 => gg_sum e k + (nI k + 1) * (e k + 1)
theorem gg_congr {e f : Nat → Int32} {k : Nat} (h : ∀ j, j < k → e j = f j) : gg_sum e k = gg_sum f k := by
  induction k with
  | zero => rfl
  | succ k ih => rw [gg_sum, gg_sum, ih (fun j hj => h j (by omega)), h k (by omega)]
def gg_w (D : gd_D) (r : Int32) (x : Nat) : Bool := gd_wi D x && decide (nI (gd_rd D x) = r)
