/-! ===== counts ===== -/
def gc_cnt (p : Nat → Bool) : Nat → Nat
  | 0 => 0
  | n + 1 => gc_cnt p n + (if p n = true then 1 else 0)
def gc_any (p : Nat → Bool) : Nat → Bool
  | 0 => false
  | n + 1 => gc_any p n || p n
theorem gc_any_iff (p : Nat → Bool) : ∀ n, gc_any p n = true ↔ ∃ z, z < n ∧ p z = true := by
  intro n
  induction n with
  | zero => exact ⟨fun h => (by cases h), fun ⟨z, hz, _⟩ => absurd hz (by omega)⟩
  | succ n ih =>
    rw [gc_any, Bool.or_eq_true, ih]
    constructor
    · rintro (⟨z, hz, h⟩ | h)
      · exact ⟨z, by omega, h⟩
      · exact ⟨n, by omega, h⟩
    · rintro ⟨z, hz, h⟩
      by_cases e : z = n
      · subst e; exact Or.inr h
      · exact Or.inl ⟨z, by omega, h⟩
theorem gc_any_congr {p q : Nat → Bool} {n : Nat} (h : ∀ z, z < n → p z = q z) : gc_any p n = gc_any q n := by
  induction n with
  | zero => rfl
  | succ n ih =>
    unfold gc_any
    rw [ih (fun z hz => h z (by omega)), h n (by omega)]
theorem gc_cnt_le (p : Nat → Bool) (n : Nat) : gc_cnt p n ≤ n := by
  induction n with
  | zero => exact Nat.le_refl _
  | succ n ih => unfold gc_cnt; split <;> omega
theorem gc_cnt_congr {p q : Nat → Bool} {n : Nat} (h : ∀ z, z < n → p z = q z) : gc_cnt p n = gc_cnt q n := by
  induction n with
  | zero => rfl
  | succ n ih =>
    unfold gc_cnt
    rw [ih (fun z hz => h z (by omega)), h n (by omega)]
theorem gc_cnt_out {p : Nat → Bool} {m : Nat} : ∀ d, (∀ z, m ≤ z → z < m + d → p z = false) → gc_cnt p (m + d) = gc_cnt p m := by
  intro d
  induction d with
  | zero => intro _; rfl
  | succ d ih =>
    intro h
    show gc_cnt p (m + d) + (if p (m + d) = true then 1 else 0) = _
    rw [ih (fun z a b => h z a (by omega)), h (m + d) (by omega) (by omega)]
    simp
theorem gc_cnt_ext {p : Nat → Bool} {m n : Nat} (hmn : m ≤ n) (h : ∀ z, m ≤ z → z < n → p z = false) : gc_cnt p n = gc_cnt p m := by
  obtain ⟨d, rfl⟩ : ∃ d, n = m + d := ⟨n - m, by omega⟩
  exact gc_cnt_out d h
/-! ===== members of a set of events ===== -/
def gc_mem (mk : Nat → Nat) (p : Nat → Bool) (n : Nat) : Nat := gc_cnt (fun m => gc_any (fun z => p z && (mk z == m)) n) 4
theorem gc_add (A : Nat → Bool) (k : Nat) (hA : A k = false) : ∀ N, k < N → gc_cnt (fun m => A m || (k == m)) N = gc_cnt A N + 1 := by
  intro N
  induction N with
  | zero => intro h; omega
  | succ N ih =>
    intro h
    show gc_cnt (fun m => A m || (k == m)) N + (if (A N || (k == N)) = true then 1 else 0) = gc_cnt A N + (if A N = true then 1 else 0) + 1
    by_cases e : k = N
    · subst e
      rw [gc_cnt_congr (q := A) (fun z hz => by
        have : (k == z) = false := by simp; omega
        simp [this])]
      simp [hA]
    · rw [ih (by omega)]
      have : (k == N) = false := by simp [e]
      simp only [this, Bool.or_false]
      omega
theorem gc_mem_eq (mk : Nat → Nat) (p : Nat → Bool) : ∀ n, (∀ z, z < n → p z = true → mk z < 4) → (∀ a b, a < b → b < n → p a = true → p b = true → mk a ≠ mk b) → gc_mem mk p n = gc_cnt p n := by
  intro n
  induction n with
  | zero => intro _ _; rfl
  | succ n ih =>
    intro h4 hi
    have ih' := ih (fun z hz => h4 z (by omega)) (fun a b hab hb => hi a b hab (by omega))
    show gc_cnt (fun m => gc_any (fun z => p z && (mk z == m)) n || (p n && (mk n == m))) 4 = gc_cnt p n + (if p n = true then 1 else 0)
    cases hp : p n with
    | false =>
      rw [gc_cnt_congr (q := fun m => gc_any (fun z => p z && (mk z == m)) n) (fun z _ => by simp)]
      exact ih'
    | true =>
      rw [gc_cnt_congr (q := fun m => gc_any (fun z => p z && (mk z == m)) n || (mk n == m)) (fun z _ => by simp)]
      rw [gc_add _ (mk n) _ 4 (h4 n (by omega) hp)]
      · show gc_mem mk p n + 1 = _
        rw [ih']; rfl
      · cases hx : gc_any (fun z => p z && (mk z == mk n)) n with
        | false => rfl
        | true =>
          obtain ⟨z, hz, h⟩ := (gc_any_iff _ n).mp hx
          simp only [Bool.and_eq_true, beq_iff_eq] at h
          exact absurd h.2 (hi z n hz (by omega) h.1 hp)
theorem gc_mem_le (mk : Nat → Nat) (p : Nat → Bool) (n : Nat) : gc_mem mk p n ≤ 4 := gc_cnt_le _ 4
theorem gc_any_false (p : Nat → Bool) (n : Nat) : gc_any p n = false ↔ ∀ z, z < n → p z = false := by
  constructor
  · intro h z hz
    cases e : p z with
    | false => rfl
    | true => exact absurd ((gc_any_iff p n).mpr ⟨z, hz, e⟩) (by rw [h]; decide)
  · intro h
    cases e : gc_any p n with
    | false => rfl
    | true =>
      obtain ⟨z, hz, e2⟩ := (gc_any_iff p n).mp e
      rw [h z hz] at e2
      cases e2
theorem gc_mem_congr {mk mk' : Nat → Nat} {p q : Nat → Bool} {n : Nat} (h : ∀ z, z < n → p z = q z) (hm : ∀ z, z < n → mk z = mk' z) : gc_mem mk p n = gc_mem mk' q n :=
  gc_cnt_congr fun m _ => gc_any_congr fun z hz => by rw [h z hz, hm z hz]
theorem gc_any_ext {p : Nat → Bool} {m n : Nat} (hmn : m ≤ n) (h : ∀ z, m ≤ z → z < n → p z = false) : gc_any p n = gc_any p m := by
  cases e : gc_any p m with
  | true =>
    obtain ⟨z, hz, e2⟩ := (gc_any_iff p m).mp e
    exact (gc_any_iff p n).mpr ⟨z, by omega, e2⟩
  | false =>
    rw [gc_any_false] at e ⊢
    intro z hz
    rcases Nat.lt_or_ge z m with a | a
    · exact e z a
    · exact h z a hz
theorem gc_cnt_pos {p : Nat → Bool} {n z : Nat} (hz : z < n) (h : p z = true) : 0 < gc_cnt p n := by
  induction n with
  | zero => omega
  | succ n ih =>
    show 0 < gc_cnt p n + (if p n = true then 1 else 0)
    by_cases e : z = n
    · subst e; rw [if_pos h]; omega
    · have := ih (by omega); omega
theorem gc_cnt_mono {p : Nat → Bool} {m n : Nat} (h : m ≤ n) : gc_cnt p m ≤ gc_cnt p n := by
  induction n with
  | zero => have : m = 0 := by omega
            subst this; exact Nat.le_refl _
  | succ n ih =>
    by_cases e : m = n + 1
    · subst e; exact Nat.le_refl _
    · have := ih (by omega)
      show gc_cnt p m ≤ gc_cnt p n + (if p n = true then 1 else 0)
      omega
/-! ===== bits of a long ===== -/
def gb (s : Int64) (i : Nat) : Bool := s.toBitVec.getLsbD i
theorem gb_or (x y : Int64) (i : Nat) : gb (x ||| y) i = (gb x i || gb y i) := by unfold gb; rw [Int64.toBitVec_or, BitVec.getLsbD_or]
theorem gb_and (x y : Int64) (i : Nat) : gb (x &&& y) i = (gb x i && gb y i) := by unfold gb; rw [Int64.toBitVec_and, BitVec.getLsbD_and]
theorem gb_0 (i : Nat) : gb 0 i = false := BitVec.getLsbD_zero
theorem gb_big {x : Int64} {i : Nat} (h : 64 ≤ i) : gb x i = false := BitVec.getLsbD_of_ge _ _ h
theorem gb_not (x : Int64) {i : Nat} (hi : i < 64) : gb (x ^^^ (-1)) i = !gb x i := by
  unfold gb
  have ha : (-1 : Int64).toBitVec = BitVec.allOnes 64 := by decide
  rw [Int64.toBitVec_xor, BitVec.getLsbD_xor, ha, BitVec.getLsbD_allOnes, decide_eq_true hi, Bool.xor_true]
theorem gb_lN {n : Nat} {i : Nat} (hi : i < 64) : gb (lN n) i = n.testBit i := by
  unfold gb
  rw [wb_tb, BitVec.getLsbD_ofNat, decide_eq_true hi, Bool.true_and]
theorem gb_one {k : Nat} (hk : k < 64) (i : Nat) : gb ((1 : Int64) <<< ((nI k).toInt64 &&& 63)) i = (k == i) := by
  have e : (1 : Int64) <<< ((nI k).toInt64 &&& 63) = lN (2 ^ k) := by
    have := wb_shl 1 hk
    rw [Nat.one_mul] at this
    exact this
  rw [e]
  rcases Nat.lt_or_ge i 64 with h | h
  · rw [gb_lN h, Nat.testBit_two_pow]
    exact (Bool.beq_eq_decide_eq _ _).symm
  · rw [gb_big h]
    have : ¬ k = i := by omega
    simp [this]
theorem gb_test (w : Int64) {k : Nat} (hk : k < 64) : ((w.toUInt64 >>> ((nI k).toInt64.toUInt64 &&& Int64.toUInt64 63)).toInt64 &&& 1) = 0 ↔ gb w k = false :=
  ts_bit hk (by rw [wb_cu k hk]; exact u_tn (by omega))
theorem gb_val (w : Int64) {k : Nat} (hk : k < 64) : ((w.toUInt64 >>> ((nI k).toInt64.toUInt64 &&& Int64.toUInt64 63)).toInt64 &&& 1).toInt32 = nI (if gb w k = true then 1 else 0) := by
  obtain ⟨n, hn, rfl⟩ := wb_of w
  rw [wb_bit hn hk, lN_i, gb_lN hk, Nat.testBit_eq_decide_div_mod_eq]
  congr 1
  generalize n / 2 ^ k = m
  by_cases h : m % 2 = 1
  · rw [if_pos (decide_eq_true h)]; exact h
  · rw [if_neg (by rw [decide_eq_true_eq]; exact h)]; omega
theorem gb_sh (w : Int64) {k : Nat} (hk : k < 64) : ((w >>> ((nI k).toInt64 &&& 63)) &&& 1) = 1 ↔ gb w k = true := by
  have e : (w >>> ((nI k).toInt64 &&& 63)).toBitVec = w.toBitVec.sshiftRight k := by
    rw [wb_c k hk, Int64.toBitVec_shiftRight]
    show w.toBitVec.sshiftRight (((lN k).toBitVec).smod 64).toNat = _
    rw [wb_tb, wb_sm k hk, BitVec.toNat_ofNat, Nat.mod_eq_of_lt (show k < 2 ^ 64 by omega)]
  rw [← Int64.toBitVec_inj, Int64.toBitVec_and, e]
  show w.toBitVec.sshiftRight k &&& 1#64 = 1#64 ↔ _
  rw [BitVec.and_one_eq_setWidth_ofBool_getLsbD, BitVec.getLsbD_sshiftRight]
  have h1 : (!decide (64 ≤ 0)) = true := by decide
  rw [h1, Bool.true_and, if_pos (show k + 0 < 64 by omega), Nat.add_zero]
  unfold gb
  cases w.toBitVec.getLsbD k
  · exact ⟨fun z => absurd z (by decide), fun z => absurd z (by decide)⟩
  · exact ⟨fun _ => rfl, fun _ => by decide⟩
theorem gb_ext {x y : Int64} (h : ∀ i, i < 64 → gb x i = gb y i) : x = y := Int64.toBitVec_inj.mp (BitVec.eq_of_getLsbD_eq (fun i hi => h i hi))
def gw_set (c : Nat → Bool) : Nat → Int64
  | 0 => 0
  | k + 1 => if c k = true then gw_set c k ||| (1 : Int64) <<< ((nI k).toInt64 &&& 63) else gw_set c k
theorem gw_bit (c : Nat → Bool) : ∀ k, k ≤ 64 → ∀ i, gb (gw_set c k) i = (decide (i < k) && c i) := by
  intro k
  induction k with
  | zero => intro _ i; rw [gw_set, gb_0, decide_eq_false (by omega), Bool.false_and]
  | succ k ih =>
    intro hk i
    rw [gw_set]
    by_cases e : k = i
    · subst e
      rw [decide_eq_true (by omega), Bool.true_and]
      cases hc : c k with
      | true => rw [if_pos rfl, gb_or, gb_one (by omega), beq_self_eq_true, Bool.or_true]
      | false => rw [if_neg (by decide), ih (by omega), decide_eq_false (by omega), Bool.false_and]
    · have e2 : (k == i) = false := by simp [e]
      have e3 : decide (i < k + 1) = decide (i < k) := by
        by_cases l : i < k
        · rw [decide_eq_true l, decide_eq_true (by omega)]
        · rw [decide_eq_false l, decide_eq_false (by omega)]
      rw [e3]
      split
      · rw [gb_or, gb_one (by omega), e2, Bool.or_false, ih (by omega)]
      · rw [ih (by omega)]
theorem gw_congr {c d : Nat → Bool} {k : Nat} (h : ∀ z, z < k → c z = d z) : gw_set c k = gw_set d k := by
  induction k with
  | zero => rfl
  | succ k ih => rw [gw_set, gw_set, ih (fun z hz => h z (by omega)), h k (by omega)]
def gd_bi (b : Bool) : Int32 := if b = true then 1 else 0
theorem gd_bi0 (b : Bool) : gd_bi b = 0 ↔ b = false := by cases b <;> decide
theorem gd_bi1 (b : Bool) : gd_bi b = 1 ↔ b = true := by cases b <;> decide
theorem gd_biN (b : Bool) : narrow .boolean (.int (gd_bi b)) = .int (gd_bi b) := by cases b <;> rfl
theorem gd_biV (b : Bool) : vp_nar .boolean (gd_bi b) = gd_bi b := by cases b <;> rfl
