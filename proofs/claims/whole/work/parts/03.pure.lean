/-! ===== the data of the events: maker, time, coin, under, well under, round, witness ===== -/
abbrev gd_D : Type := (Nat → Nat) × (Nat → Int32) × (Nat → Bool) × (Nat → Int64) × (Nat → Int64) × (Nat → Nat) × (Nat → Bool)
def gd_mk (D : gd_D) : Nat → Nat := D.1
def gd_tm (D : gd_D) : Nat → Int32 := D.2.1
def gd_cn (D : gd_D) : Nat → Bool := D.2.2.1
def gd_us (D : gd_D) : Nat → Int64 := D.2.2.2.1
def gd_ws (D : gd_D) : Nat → Int64 := D.2.2.2.2.1
def gd_rd (D : gd_D) : Nat → Nat := D.2.2.2.2.2.1
def gd_wi (D : gd_D) : Nat → Bool := D.2.2.2.2.2.2
def gd_ub (D : gd_D) (x y : Nat) : Bool := gb (gd_us D y) x
def gd_wb (D : gd_D) (x y : Nat) : Bool := gb (gd_ws D y) x
def gd_vo (D : gd_D) (z y : Nat) : Bool := gd_wi D z && (gd_rd D z + 1 == gd_rd D y) && gd_wb D z y
/-! what holds of the data of n events with greatest round g -/
def gd_Inv (D : gd_D) (n g : Nat) : Prop :=
  n ≤ 48 ∧ g ≤ n ∧ (∀ j, gd_mk D j < 4) ∧ (∀ j, gd_rd D j ≤ g) ∧ (∀ j, j < n → 1 ≤ gd_rd D j) ∧
  (∀ y, y < n → ∀ x, gd_ub D x y = true → x ≤ y) ∧ (∀ y, y < n → gd_ub D y y = true) ∧
  (∀ y, y < n → ∀ x, gd_wb D x y = true → x ≤ y) ∧
  (∀ x y, x < y → y < n → gd_mk D x = gd_mk D y → gd_rd D x ≤ gd_rd D y ∧ (gd_wi D y = true → gd_rd D x < gd_rd D y)) ∧
  (∀ j, n ≤ j → gd_wi D j = false)
/-! ===== the votes and the fame ===== -/
def gf_yes (D : gd_D) (v : Nat → Bool) (y : Nat) : Nat := gc_cnt (fun z => gd_vo D z y && v z) 48
def gf_no (D : gd_D) (v : Nat → Bool) (y : Nat) : Nat := gc_cnt (fun z => gd_vo D z y && !v z) 48
def gf_mo (D : gd_D) (v : Nat → Bool) (y : Nat) : Bool := decide (gf_no D v y ≤ gf_yes D v y)
def gf_en (D : gd_D) (v : Nat → Bool) (y : Nat) : Bool := decide (3 ≤ (if gf_mo D v y = true then gf_yes D v y else gf_no D v y))
def gf_vt (D : gd_D) (x : Nat) : Nat → Nat → Bool
  | 0 => fun _ => false
  | k + 1 => fun y => if k = 0 then gd_ub D x y else if (k + 1) % 5 = 0 ∧ gf_en D (gf_vt D x k) y = false then gd_cn D y else gf_mo D (gf_vt D x k) y
def gf_v (D : gd_D) (x z : Nat) : Bool := gf_vt D x (gd_rd D z - gd_rd D x) z
def gf_dec (D : gd_D) (x y : Nat) : Bool := decide (2 ≤ gd_rd D y - gd_rd D x) && decide ((gd_rd D y - gd_rd D x) % 5 ≠ 0) && gf_en D (gf_vt D x (gd_rd D y - gd_rd D x - 1)) y
def gf_at (D : gd_D) (x r y : Nat) : Bool := gd_wi D y && (gd_rd D y == r) && gf_dec D x y
def gf_in (p : Nat → Bool) (s : Option Nat) : Nat → Option Nat
  | 0 => s
  | k + 1 => match gf_in p s k with
    | some d => some d
    | none => if p k = true then some k else none
def gf_out (D : gd_D) (n x : Nat) : Nat → Option Nat
  | 0 => none
  | j + 1 => gf_in (gf_at D x (gd_rd D x + 1 + j)) (gf_out D n x j) n
def gf_de (D : gd_D) (n g x : Nat) : Option Nat := gf_out D n x (g - gd_rd D x)
def gf_val (D : gd_D) (x : Nat) : Option Nat → Nat
  | none => 0
  | some y => if gf_v D x y = true then 2 else 1
def gf_dv : Option Nat → Int32
  | none => -2
  | some y => nI y
def gf_F (D : gd_D) (n g x : Nat) : Nat := if gd_wi D x = true then gf_val D x (gf_de D n g x) else 0
def gf_d (D : gd_D) (n g x : Nat) : Int32 := if gd_wi D x = true then gf_dv (gf_de D n g x) else -2
theorem gf_in_some (p : Nat → Bool) (d : Nat) : ∀ k, gf_in p (some d) k = some d := by
  intro k
  induction k with
  | zero => rfl
  | succ k ih => rw [gf_in, ih]
theorem gf_in_s {p : Nat → Bool} {s : Option Nat} {k d : Nat} (h : gf_in p s k = some d) : gf_in p s (k + 1) = some d := by rw [gf_in, h]
theorem gf_in_stay {p : Nat → Bool} {s : Option Nat} {d k n : Nat} (hk : k ≤ n) (h : gf_in p s k = some d) : gf_in p s n = some d := by
  induction n with
  | zero =>
    have : k = 0 := by omega
    subst this; exact h
  | succ n ih =>
    by_cases e : k = n + 1
    · subst e; exact h
    · exact gf_in_s (ih (by omega))
theorem gf_in_t {p : Nat → Bool} {s : Option Nat} {k : Nat} (h : gf_in p s k = none) (hp : p k = true) : gf_in p s (k + 1) = some k := by rw [gf_in, h]; exact if_pos hp
theorem gf_in_f {p : Nat → Bool} {s : Option Nat} {k : Nat} (h : gf_in p s k = none) (hp : p k = false) : gf_in p s (k + 1) = none := by rw [gf_in, h]; exact if_neg (by rw [hp]; decide)
theorem gf_out_stay {D : gd_D} {n x d j m : Nat} (hj : j ≤ m) (h : gf_out D n x j = some d) : gf_out D n x m = some d := by
  induction m with
  | zero =>
    have : j = 0 := by omega
    subst this; exact h
  | succ m ih =>
    by_cases e : j = m + 1
    · subst e; exact h
    · rw [gf_out, ih (by omega), gf_in_some]
theorem gf_F_le (D : gd_D) (n g x : Nat) : gf_F D n g x ≤ 2 := by
  unfold gf_F gf_val
  split
  · split
    · omega
    · split <;> omega
  · omega
theorem gf_F_w {D : gd_D} {n g x k : Nat} (h : gf_F D n g x = k + 1) : gd_wi D x = true := by
  unfold gf_F at h
  split at h
  · assumption
  · omega
theorem gf_vt_one (D : gd_D) (x y : Nat) : gf_vt D x 1 y = gd_ub D x y := rfl
theorem gf_vt_s {D : gd_D} {x k y : Nat} (h : 2 ≤ k) : gf_vt D x k y = if k % 5 = 0 ∧ gf_en D (gf_vt D x (k - 1)) y = false then gd_cn D y else gf_mo D (gf_vt D x (k - 1)) y := by
  obtain ⟨m, rfl⟩ : ∃ m, k = m + 1 := ⟨k - 1, by omega⟩
  show (if m = 0 then gd_ub D x y else _) = _
  rw [if_neg (show ¬ m = 0 by omega), Nat.add_sub_cancel]
theorem gf_yes_congr {D : gd_D} {v w : Nat → Bool} {y : Nat} (h : ∀ z, z < 48 → gd_vo D z y = true → v z = w z) : gf_yes D v y = gf_yes D w y :=
  gc_cnt_congr fun z hz => by
    cases e : gd_vo D z y with
    | false => rfl
    | true => rw [h z hz e]
theorem gf_no_congr {D : gd_D} {v w : Nat → Bool} {y : Nat} (h : ∀ z, z < 48 → gd_vo D z y = true → v z = w z) : gf_no D v y = gf_no D w y :=
  gc_cnt_congr fun z hz => by
    cases e : gd_vo D z y with
    | false => rfl
    | true => rw [h z hz e]
/-! ===== settled rounds ===== -/
def gs_fm (D : gd_D) (n g r w : Nat) : Bool := (gf_F D n g w == 2) && (gd_rd D w == r)
def gs_op (D : gd_D) (n g r x : Nat) : Bool := gd_wi D x && (gd_rd D x == r) && (gf_F D n g x == 0)
def gs_ok (D : gd_D) (n g r : Nat) : Bool := !gc_any (gs_op D n g r) n && gc_any (gs_fm D n g r) n
def gs_go (ok : Nat → Bool) : Nat → Nat → Nat
  | 0, s => s
  | f + 1, s => if ok (s + 1) = true then gs_go ok f (s + 1) else s
def gs_p (D : gd_D) (n g r : Nat) : Bool := decide (r < g) && gs_ok D n g r
def gs_S (D : gd_D) (n g : Nat) : Nat := gs_go (gs_p D n g) g 0
theorem gs_stop {ok : Nat → Bool} {s : Nat} (h : ok (s + 1) = false) (f : Nat) : gs_go ok f s = s := by
  cases f with
  | zero => rfl
  | succ f => rw [gs_go, if_neg (by rw [h]; decide)]
theorem gs_step {ok : Nat → Bool} {s : Nat} (h : ok (s + 1) = true) (f : Nat) : gs_go ok (f + 1) s = gs_go ok f (s + 1) := by
  rw [gs_go, if_pos h]
theorem gs_le (ok : Nat → Bool) : ∀ f s, s ≤ gs_go ok f s ∧ gs_go ok f s ≤ s + f ∧ ∀ r, s < r → r ≤ gs_go ok f s → ok r = true := by
  intro f
  induction f with
  | zero => intro s; exact ⟨Nat.le_refl _, Nat.le_refl _, fun r h1 h2 => absurd h2 (by show ¬ r ≤ s; omega)⟩
  | succ f ih =>
    intro s
    cases h : ok (s + 1) with
    | false => rw [gs_stop h]; exact ⟨Nat.le_refl _, by omega, fun r h1 h2 => absurd h2 (by omega)⟩
    | true =>
      rw [gs_step h]
      obtain ⟨a, b, c⟩ := ih (s + 1)
      refine ⟨by omega, by omega, fun r h1 h2 => ?_⟩
      by_cases e : r = s + 1
      · subst e; exact h
      · exact c r (by omega) h2
theorem gs_S_le (D : gd_D) (n g : Nat) : gs_S D n g ≤ g := by have := (gs_le (gs_p D n g) g 0).2.1; unfold gs_S; omega
theorem gs_S_ok {D : gd_D} {n g r : Nat} (h0 : 0 < r) (h : r ≤ gs_S D n g) : r < g ∧ gs_ok D n g r = true := by
  have a := (gs_le (gs_p D n g) g 0).2.2 r h0 h
  unfold gs_p at a
  rw [Bool.and_eq_true, decide_eq_true_eq] at a
  exact a
/-! ===== the round that receives ===== -/
def gr_un (D : gd_D) (n g x r : Nat) : Bool := !gc_any (fun w => gs_fm D n g r w && !gd_ub D x w) n
def gr_lo (p : Nat → Bool) : Nat → Nat
  | 0 => 0
  | s + 1 => if gr_lo p s ≠ 0 then gr_lo p s else if p (s + 1) = true then s + 1 else 0
def gr_R (D : gd_D) (n g x : Nat) : Nat := gr_lo (gr_un D n g x) (gs_S D n g)
theorem gr_lo_is (p : Nat → Bool) : ∀ s, (gr_lo p s = 0 ∧ ∀ q, 1 ≤ q → q ≤ s → p q = false) ∨ (1 ≤ gr_lo p s ∧ gr_lo p s ≤ s ∧ p (gr_lo p s) = true ∧ ∀ q, 1 ≤ q → q < gr_lo p s → p q = false) := by
  intro s
  induction s with
  | zero => exact Or.inl ⟨rfl, fun q h1 h2 => absurd h2 (by omega)⟩
  | succ s ih =>
    rw [gr_lo]
    rcases ih with ⟨e, h⟩ | ⟨h1, h2, h3, h4⟩
    · rw [if_neg (by rw [e]; decide)]
      cases hp : p (s + 1) with
      | true => rw [if_pos rfl]; exact Or.inr ⟨by omega, Nat.le_refl _, hp, fun q a b => h q a (by omega)⟩
      | false =>
        rw [if_neg (by decide)]
        refine Or.inl ⟨rfl, fun q a b => ?_⟩
        by_cases e2 : q = s + 1
        · subst e2; exact hp
        · exact h q a (by omega)
    · rw [if_pos (by omega)]
      exact Or.inr ⟨h1, by omega, h3, h4⟩
theorem gr_lo_0 {p : Nat → Bool} {s : Nat} (h : ∀ q, 1 ≤ q → q ≤ s → p q = false) : gr_lo p s = 0 := by
  rcases gr_lo_is p s with ⟨e, _⟩ | ⟨h1, h2, h3, _⟩
  · exact e
  · rw [h _ h1 h2] at h3; cases h3
theorem gr_lo_1 {p : Nat → Bool} {s r : Nat} (h1 : 1 ≤ r) (h2 : r ≤ s) (h3 : p r = true) (h4 : ∀ q, 1 ≤ q → q < r → p q = false) : gr_lo p s = r := by
  rcases gr_lo_is p s with ⟨_, h⟩ | ⟨a1, a2, a3, a4⟩
  · rw [h r h1 h2] at h3; cases h3
  · rcases Nat.lt_trichotomy r (gr_lo p s) with l | l | l
    · rw [a4 r h1 l] at h3; cases h3
    · exact l.symm
    · rw [h4 _ a1 l] at a3; cases a3
theorem gr_R_le (D : gd_D) (n g x : Nat) : gr_R D n g x ≤ gs_S D n g := by
  rcases gr_lo_is (gr_un D n g x) (gs_S D n g) with ⟨e, _⟩ | ⟨_, h2, _⟩
  · unfold gr_R; rw [e]; exact Nat.zero_le _
  · exact h2
theorem gr_R_un {D : gd_D} {n g x : Nat} (h : gr_R D n g x ≠ 0) : gr_un D n g x (gr_R D n g x) = true := by
  rcases gr_lo_is (gr_un D n g x) (gs_S D n g) with ⟨e, _⟩ | ⟨_, _, h3, _⟩
  · exact absurd e h
  · exact h3
/-! ===== the first of a row ===== -/
def gl_fst (p : Nat → Bool) : Nat → Nat
  | 0 => 0
  | k + 1 => if gl_fst p k < k then gl_fst p k else if p k = true then k else k + 1
theorem gl_none {p : Nat → Bool} {k : Nat} (h : ∀ z, z < k → p z = false) : gl_fst p k = k := by
  induction k with
  | zero => rfl
  | succ k ih => rw [gl_fst, ih (fun z hz => h z (by omega)), if_neg (by omega), if_neg (by rw [h k (by omega)]; decide)]
theorem gl_some {p : Nat → Bool} {k z : Nat} (hz : z < k) (hp : p z = true) (h : ∀ i, i < z → p i = false) : gl_fst p k = z := by
  induction k with
  | zero => omega
  | succ k ih =>
    rw [gl_fst]
    by_cases e : z = k
    · subst e
      rw [gl_none h, if_neg (by omega), if_pos hp]
    · rw [ih (by omega), if_pos (by omega)]
