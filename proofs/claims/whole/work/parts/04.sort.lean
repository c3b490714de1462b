/-! ===== insertion: b e says that t comes before e ===== -/
def gi_up {α : Type} (f : Nat → α) (k : Nat) (x : α) : Nat → α := fun j => if j = k then x else f j
def gi_ins {α : Type} (b : α → Bool) (t : α) : Nat → (Nat → α) → (Nat → α)
  | 0, f => gi_up f 0 t
  | k + 1, f => if b (f k) = true then gi_ins b t k (gi_up f (k + 1) (f k)) else gi_up f (k + 1) t
theorem gi_us {α : Type} {f : Nat → α} {k : Nat} {x : α} : gi_up f k x k = x := if_pos rfl
theorem gi_un {α : Type} {f : Nat → α} {k j : Nat} {x : α} (h : j ≠ k) : gi_up f k x j = f j := if_neg h
theorem gi_agree {α β : Type} (c : α → β) (b : β → Bool) (d : α → Bool) (t : α) : ∀ (m M : Nat) (f : Nat → β) (h : Nat → α), m ≤ M → (∀ j, j ≤ M → j ≠ m → f j = c (h j)) → (∀ j, j < m → b (c (h j)) = d (h j)) → ∀ j, j ≤ M → gi_ins b (c t) m f j = c (gi_ins d t m h j) := by
  intro m
  induction m with
  | zero =>
    intro M f h _ a _ j hj
    show gi_up f 0 (c t) j = c (gi_up h 0 t j)
    by_cases e : j = 0
    · subst e; rw [gi_us, gi_us]
    · rw [gi_un e, gi_un e]; exact a j hj e
  | succ k ih =>
    intro M f h hM a hb j hj
    have ek : f k = c (h k) := a k (by omega) (by omega)
    rw [gi_ins, gi_ins, ek, hb k (by omega)]
    split
    · refine ih M _ _ (by omega) (fun i hi ne => ?_) (fun i hi => ?_) j hj
      · by_cases e : i = k + 1
        · subst e; rw [gi_us, gi_us]
        · rw [gi_un e, gi_un e]; exact a i hi e
      · rw [gi_un (show i ≠ k + 1 by omega)]
        exact hb i (by omega)
    · by_cases e : j = k + 1
      · subst e; rw [gi_us, gi_us]
      · rw [gi_un e, gi_un e]; exact a j hj e
/-! below m alone: what lies at m and beyond is of no account -/
theorem gi_below {α β : Type} (c : α → β) (b : β → Bool) (d : α → Bool) (t : α) {m : Nat} {f : Nat → β} {h : Nat → α} (a : ∀ j, j < m → f j = c (h j)) (hb : ∀ j, j < m → b (c (h j)) = d (h j)) : ∀ j, j < m + 1 → gi_ins b (c t) m f j = c (gi_ins d t m h j) :=
  fun j hj => gi_agree c b d t m m f h (Nat.le_refl _) (fun i hi ne => a i (by omega)) hb j (by omega)
theorem gi_desc {α : Type} (b : α → Bool) (t : α) : ∀ (m : Nat) (f : Nat → α), ∃ p, p ≤ m ∧ gi_ins b t m f p = t ∧ (∀ j, j < p → gi_ins b t m f j = f j) ∧ (∀ j, p ≤ j → j < m → gi_ins b t m f (j + 1) = f j) ∧ (∀ j, m < j → gi_ins b t m f j = f j) := by
  intro m
  induction m with
  | zero =>
    intro f
    refine ⟨0, Nat.le_refl _, ?_, fun j hj => absurd hj (by omega), fun j _ hj => absurd hj (by omega), fun j hj => ?_⟩
    · exact (gi_us : gi_up f 0 t 0 = t)
    · exact (gi_un (by omega) : gi_up f 0 t j = f j)
  | succ k ih =>
    intro f
    rw [gi_ins]
    split
    · obtain ⟨p, hp, ht, h1, h2, h3⟩ := ih (gi_up f (k + 1) (f k))
      refine ⟨p, by omega, ht, fun j hj => ?_, fun j hj hk => ?_, fun j hj => ?_⟩
      · rw [h1 j hj]; exact if_neg (by omega)
      · by_cases e : j = k
        · subst e
          rw [h3 (j + 1) (by omega)]; exact if_pos rfl
        · rw [h2 j hj (by omega)]; exact if_neg (by omega)
      · rw [h3 j (by omega)]; exact if_neg (by omega)
    · refine ⟨k + 1, Nat.le_refl _, if_pos rfl, fun j hj => if_neg (by omega), fun j hj hk => absurd hj (by omega), fun j hj => if_neg (by omega)⟩
/-! ===== final times ===== -/
def gt_p (D : gd_D) (x w z : Nat) : Bool := (gd_mk D z == gd_mk D w) && gd_ub D z w && gd_ub D x z
def gt_ft (D : gd_D) (x w : Nat) : Int32 := gd_tm D (gl_fst (gt_p D x w) w)
def gt_lt (t e : Int32) : Bool := decide (t < e)
def gt_st (fm : Nat → Bool) (ft : Nat → Int32) : Nat → Nat × (Nat → Int32)
  | 0 => (0, fun _ => 0)
  | w + 1 => if fm w = true then ((gt_st fm ft w).1 + 1, gi_ins (gt_lt (ft w)) (ft w) (gt_st fm ft w).1 (gt_st fm ft w).2) else gt_st fm ft w
def gt_fi (D : gd_D) (n g x r : Nat) : Int32 := (gt_st (gs_fm D n g r) (gt_ft D x) n).2 ((gt_st (gs_fm D n g r) (gt_ft D x) n).1 / 2)
theorem gt_num (fm : Nat → Bool) (ft : Nat → Int32) : ∀ n, (gt_st fm ft n).1 = gc_cnt fm n := by
  intro n
  induction n with
  | zero => rfl
  | succ n ih =>
    rw [gt_st, gc_cnt]
    split
    · show _ + 1 = _ + 1
      rw [ih]
    · rw [ih]; rfl
theorem gt_t {fm : Nat → Bool} {ft : Nat → Int32} {w : Nat} (h : fm w = true) : gt_st fm ft (w + 1) = ((gt_st fm ft w).1 + 1, gi_ins (gt_lt (ft w)) (ft w) (gt_st fm ft w).1 (gt_st fm ft w).2) := by rw [gt_st, if_pos h]
theorem gt_f {fm : Nat → Bool} {ft : Nat → Int32} {w : Nat} (h : fm w = false) : gt_st fm ft (w + 1) = gt_st fm ft w := by rw [gt_st, if_neg (by rw [h]; decide)]
theorem gt_rest {fm : Nat → Bool} {ft : Nat → Int32} {w : Nat} : ∀ d, (∀ i, w ≤ i → i < w + d → fm i = false) → gt_st fm ft (w + d) = gt_st fm ft w := by
  intro d
  induction d with
  | zero => intro _; rfl
  | succ d ih => intro h; exact (gt_f (h (w + d) (by omega) (by omega))).trans (ih fun i a b => h i a (by omega))
/-! at most four famous ones in a round -/
theorem gs_fm_le {D : gd_D} {n g : Nat} (I : gd_Inv D n g) (r : Nat) : gc_cnt (gs_fm D n g r) n ≤ 4 := by
  obtain ⟨hn, hg, hmk, hrd, hr1, hu, huu, hw, hm, hz⟩ := I
  rw [← gc_mem_eq (gd_mk D) (gs_fm D n g r) n (fun z _ _ => hmk z)]
  · exact gc_mem_le _ _ _
  · intro a b hab hb ha hb2 e
    unfold gs_fm at ha hb2
    rw [Bool.and_eq_true, beq_iff_eq, beq_iff_eq] at ha hb2
    have := (hm a b hab hb e).2 (gf_F_w hb2.1)
    omega
/-! a settled round has a famous one -/
theorem gs_fm_pos {D : gd_D} {n g r : Nat} (h : gs_ok D n g r = true) : 0 < gc_cnt (gs_fm D n g r) n := by
  unfold gs_ok at h
  rw [Bool.and_eq_true] at h
  obtain ⟨z, hz, e⟩ := (gc_any_iff _ _).mp h.2
  exact gc_cnt_pos hz e
/-! ===== the order ===== -/
def go_bf (R : Nat → Nat) (fn : Nat → Int32) (x e : Nat) : Bool := if R x = R e then decide (fn x < fn e) else decide (R x < R e)
def go_st (R : Nat → Nat) (fn : Nat → Int32) : Nat → Nat × (Nat → Nat)
  | 0 => (0, fun _ => 0)
  | x + 1 => if R x = 0 then go_st R fn x else ((go_st R fn x).1 + 1, gi_ins (go_bf R fn x) x (go_st R fn x).1 (go_st R fn x).2)
theorem go_t {R : Nat → Nat} {fn : Nat → Int32} {x : Nat} (h : R x ≠ 0) : go_st R fn (x + 1) = ((go_st R fn x).1 + 1, gi_ins (go_bf R fn x) x (go_st R fn x).1 (go_st R fn x).2) := by rw [go_st, if_neg h]
theorem go_f {R : Nat → Nat} {fn : Nat → Int32} {x : Nat} (h : R x = 0) : go_st R fn (x + 1) = go_st R fn x := by rw [go_st, if_pos h]
theorem go_is (R : Nat → Nat) (fn : Nat → Int32) : ∀ x, (go_st R fn x).1 ≤ x ∧ (∀ j, j < (go_st R fn x).1 → (go_st R fn x).2 j < x ∧ R ((go_st R fn x).2 j) ≠ 0) ∧ (∀ i j, i < j → j < (go_st R fn x).1 → (go_st R fn x).2 i ≠ (go_st R fn x).2 j) ∧ (∀ y, y < x → R y ≠ 0 → ∃ j, j < (go_st R fn x).1 ∧ (go_st R fn x).2 j = y) := by
  intro x
  induction x with
  | zero => exact ⟨Nat.le_refl _, fun j hj => absurd hj (Nat.not_lt_zero _), fun i j _ hj => absurd hj (Nat.not_lt_zero _), fun y hy => absurd hy (Nat.not_lt_zero _)⟩
  | succ x ih =>
    obtain ⟨i1, i2, i3, i4⟩ := ih
    by_cases h : R x = 0
    · rw [go_f h]
      refine ⟨by omega, fun j hj => ⟨by have := (i2 j hj).1; omega, (i2 j hj).2⟩, i3, fun y hy hR => ?_⟩
      by_cases e : y = x
      · subst e; exact absurd h hR
      · exact i4 y (by omega) hR
    · rw [go_t h]
      generalize go_st R fn x = s at i1 i2 i3 i4 ⊢
      obtain ⟨k, f⟩ := s
      dsimp only at i1 i2 i3 i4 ⊢
      obtain ⟨p, hp, ht, d1, d2, -⟩ := gi_desc (go_bf R fn x) x k f
      generalize gi_ins (go_bf R fn x) x k f = f' at ht d1 d2 ⊢
      have cs : ∀ j, j < k + 1 → (j = p ∧ f' j = x) ∨ (∃ i, i < k ∧ f' j = f i ∧ ((j < p ∧ i = j) ∨ (p < j ∧ j = i + 1))) := by
        intro j hj
        rcases Nat.lt_trichotomy j p with l | l | l
        · exact Or.inr ⟨j, by omega, d1 j l, Or.inl ⟨l, rfl⟩⟩
        · subst l; exact Or.inl ⟨rfl, ht⟩
        · obtain ⟨i, rfl⟩ : ∃ i, j = i + 1 := ⟨j - 1, by omega⟩
          exact Or.inr ⟨i, by omega, d2 i (by omega) (by omega), Or.inr ⟨l, rfl⟩⟩
      refine ⟨by omega, fun j hj => ?_, fun i j hij hj => ?_, fun y hy hR => ?_⟩
      · rcases cs j hj with ⟨_, e⟩ | ⟨i, hi, e, _⟩
        · rw [e]; exact ⟨by omega, h⟩
        · rw [e]; exact ⟨by have := (i2 i hi).1; omega, (i2 i hi).2⟩
      · rcases cs i (by omega) with ⟨a1, e1⟩ | ⟨a, ha, e1, c1⟩ <;> rcases cs j hj with ⟨b1, e2⟩ | ⟨b, hb, e2, c2⟩
        · omega
        · rw [e1, e2]; have := (i2 b hb).1; omega
        · rw [e1, e2]; have := (i2 a ha).1; omega
        · rw [e1, e2]; exact i3 a b (by omega) hb
      · by_cases e : y = x
        · subst e; exact ⟨p, by omega, ht⟩
        · obtain ⟨j, hj, ej⟩ := i4 y (by omega) hR
          by_cases l : j < p
          · exact ⟨j, by omega, (d1 j l).trans ej⟩
          · exact ⟨j + 1, by omega, (d2 j (by omega) hj).trans ej⟩
/-! the final time of a received event, and the order of all -/
def go_fn (D : gd_D) (n g x : Nat) : Int32 := gt_fi D n g x (gr_R D n g x)
def go_O (D : gd_D) (n g : Nat) : Nat × (Nat → Nat) := go_st (gr_R D n g) (go_fn D n g) n
