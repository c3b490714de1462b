section
/-! rows of kit/rows, pasted -/
theorem pk_us {f : Nat → Int32} {k : Nat} {x : Int32} : upd f k x k = x := if_pos rfl
theorem pk_un {f : Nat → Int32} {k j : Nat} {x : Int32} (h : j ≠ k) : upd f k x j = f j := if_neg h
theorem pk_uLs {f : Nat → Int64} {k : Nat} {x : Int64} : vp_updL f k x k = x := if_pos rfl
theorem pk_uLn {f : Nat → Int64} {k j : Nat} {x : Int64} (h : j ≠ k) : vp_updL f k x j = f j := if_neg h
theorem pk_sub {a b : Nat} (h : b ≤ a) : nI a - nI b = nI (a - b) := by
  obtain ⟨c, rfl⟩ : ∃ c, a = c + b := ⟨a - b, by omega⟩
  rw [← nI_add, Int32.add_sub_cancel, Nat.add_sub_cancel]
theorem pk_m1 (n : Nat) : nI (n + 1) + (-1) = nI n := by
  rw [← nI_1, Int32.add_assoc, show (1 : Int32) + (-1) = 0 from rfl, Int32.add_zero]
theorem pk_mul (a b : Nat) : nI a * nI b = nI (a * b) := (Int32.ofNat_mul a b).symm
theorem pk_div {a d : Nat} (ha : a < 2 ^ 31) (h0 : 0 < d) (hd : d < 2 ^ 31) : nI a / nI d = nI (a / d) := by
  apply Int32.toInt_inj.mp
  rw [lg_idiv_nonneg (by rw [nI_toInt ha]; omega) (by rw [nI_toInt hd]; omega), nI_toInt ha, nI_toInt hd, nI_toInt (Nat.lt_of_le_of_lt (Nat.div_le_self a d) ha)]
  first | rfl | exact (Int.natCast_ediv _ _).symm
theorem pk_rem {a d : Nat} (ha : a < 2 ^ 31) (h0 : 0 < d) (hd : d < 2 ^ 31) : nI a - nI a / nI d * nI d = nI (a % d) := by
  rw [pk_div ha h0 hd, pk_mul, pk_sub (Nat.div_mul_le_self a d)]
  exact congrArg nI (by have := Nat.div_add_mod' a d; omega)
theorem pk_sub_toInt {a b : Nat} (ha : a < 2 ^ 30) (hb : b < 2 ^ 30) : (nI a - nI b).toInt = (a : Int) - b := by
  rw [Int32.toInt_sub, nI_toInt (by omega), nI_toInt (by omega)]
  exact Int.bmod_eq_of_le (by omega) (by omega)
theorem pk_sneg {a b : Nat} (hb : b < 2 ^ 30) (h : a < b) : nI a - nI b < 0 := by
  rw [Int32.lt_iff_toInt_lt, pk_sub_toInt (by omega) hb, show (0 : Int32).toInt = 0 from by decide]
  omega
theorem pk_ix (x : Int32) {n : Nat} (hn : n < 2 ^ 31) : x < 0 ∨ nI n ≤ x ∨ ∃ j : Nat, j < n ∧ x = nI j := by
  by_cases h : x < 0
  · exact Or.inl h
  · obtain ⟨j, hj, rfl⟩ := nI_of h
    by_cases h2 : j < n
    · exact Or.inr (Or.inr ⟨j, h2, rfl⟩)
    · exact Or.inr (Or.inl (nI_le (by omega) hj))
theorem pk_le {x y : Int32} {A B : Prop} (a b : Nat) (f : a ≤ b → A) (g : b < a → B) (hx : x = nI a := by rfl) (hy : y = nI b := by rfl) (ha : a < 2 ^ 31 := by omega) (hb : b < 2 ^ 31 := by omega) : (x ≤ y → A) ∧ (¬ x ≤ y → B) := by
  subst hx hy
  rw [nI_leI ha hb]
  exact ⟨f, fun z => g (by omega)⟩
theorem pk_lt {x y : Int32} {A B : Prop} (a b : Nat) (f : a < b → A) (g : b ≤ a → B) (hx : x = nI a := by rfl) (hy : y = nI b := by rfl) (ha : a < 2 ^ 31 := by omega) (hb : b < 2 ^ 31 := by omega) : (x < y → A) ∧ (¬ x < y → B) := by
  subst hx hy
  rw [nI_ltI ha hb]
  exact ⟨f, fun z => g (by omega)⟩
theorem pk_eq {x y : Int32} {A B : Prop} (a b : Nat) (f : a = b → A) (g : a ≠ b → B) (hx : x = nI a := by rfl) (hy : y = nI b := by rfl) (ha : a < 2 ^ 31 := by omega) (hb : b < 2 ^ 31 := by omega) : (x = y → A) ∧ (¬ x = y → B) := by
  subst hx hy
  rw [nI_eq ha hb]
  exact ⟨f, g⟩
theorem pk_in {x : Int32} (n N : Nat) (h : n < N) (hx : x = nI n := by rfl) (hN : N < 2 ^ 31 := by omega) : vp_in x N := by
  subst hx
  exact vp_in_nI h hN
theorem pk_cl {x : Int32} (n : Nat) (hx : x = nI n := by rfl) (h : n < 2 ^ 31 := by omega) : x.toNatClampNeg = n := by
  subst hx
  exact nI_clamp h
theorem pk_tn {n : Nat} (h : n < 2 ^ 32) : (nI n).toBitVec.toNat = n := Nat.mod_eq_of_lt h
theorem pk_loop {σ : Type} (W : Nat → Nat → σ → Prop) (I : Nat → σ → Prop) (e i0 : Nat) (s : σ) (hi : i0 ≤ e) (h0 : I i0 s) (hx : ∀ n s, I e s → W (n + 1) e s)
    (hs : ∀ n i s, i < e → I i s → (∀ s', I (i + 1) s' → W n (i + 1) s') → W (n + 1) i s) : ∃ n, W n i0 s :=
  ⟨e + 1, loop_i W I e hx hs (e + 1) i0 s hi (by omega) h0⟩
theorem pk_loopD {σ : Type} (W : Nat → Nat → σ → Prop) (I : Nat → σ → Prop) (hx : ∀ n s, I 0 s → W (n + 1) 0 s)
    (hs : ∀ n i s, I (i + 1) s → (∀ s', I i s' → W n i s') → W (n + 1) (i + 1) s) : ∀ (e : Nat) (s : σ), I e s → W (e + 1) e s := by
  intro e
  induction e with
  | zero => exact fun s h => hx 0 s h
  | succ e ih => exact fun s h => hs (e + 1) e s h (fun s' h' => ih s' h')
theorem lp1 {A1 : Type} (W : Nat → A1 → Prop) (I : A1 → Prop) (μ : A1 → Nat) (hs : ∀ (n : Nat) (a1 : A1), I a1 → (∀ (b1 : A1), I b1 → μ b1 < μ a1 → W n b1) → W (n + 1) a1) (a1 : A1) (h : I a1) : ∃ n, W n a1 :=
  loop_m (σ := A1) (fun n s => W n s) (fun s => I s) (fun s => μ s) (fun n s hI hk => hs n s hI (fun b1 h9 hm => hk b1 h9 hm)) a1 h
theorem lp2 {A1 A2 : Type} (W : Nat → A1 → A2 → Prop) (I : A1 → A2 → Prop) (μ : A1 → A2 → Nat) (hs : ∀ (n : Nat) (a1 : A1) (a2 : A2), I a1 a2 → (∀ (b1 : A1) (b2 : A2), I b1 b2 → μ b1 b2 < μ a1 a2 → W n b1 b2) → W (n + 1) a1 a2) (a1 : A1) (a2 : A2) (h : I a1 a2) : ∃ n, W n a1 a2 :=
  loop_m (σ := A1 × A2) (fun n s => W n s.1 s.2) (fun s => I s.1 s.2) (fun s => μ s.1 s.2) (fun n s hI hk => hs n s.1 s.2 hI (fun b1 b2 h9 hm => hk (b1, b2) h9 hm)) (a1, a2) h
theorem lp3 {A1 A2 A3 : Type} (W : Nat → A1 → A2 → A3 → Prop) (I : A1 → A2 → A3 → Prop) (μ : A1 → A2 → A3 → Nat) (hs : ∀ (n : Nat) (a1 : A1) (a2 : A2) (a3 : A3), I a1 a2 a3 → (∀ (b1 : A1) (b2 : A2) (b3 : A3), I b1 b2 b3 → μ b1 b2 b3 < μ a1 a2 a3 → W n b1 b2 b3) → W (n + 1) a1 a2 a3) (a1 : A1) (a2 : A2) (a3 : A3) (h : I a1 a2 a3) : ∃ n, W n a1 a2 a3 :=
  loop_m (σ := A1 × A2 × A3) (fun n s => W n s.1 s.2.1 s.2.2) (fun s => I s.1 s.2.1 s.2.2) (fun s => μ s.1 s.2.1 s.2.2) (fun n s hI hk => hs n s.1 s.2.1 s.2.2 hI (fun b1 b2 b3 h9 hm => hk (b1, b2, b3) h9 hm)) (a1, a2, a3) h
theorem lp4 {A1 A2 A3 A4 : Type} (W : Nat → A1 → A2 → A3 → A4 → Prop) (I : A1 → A2 → A3 → A4 → Prop) (μ : A1 → A2 → A3 → A4 → Nat) (hs : ∀ (n : Nat) (a1 : A1) (a2 : A2) (a3 : A3) (a4 : A4), I a1 a2 a3 a4 → (∀ (b1 : A1) (b2 : A2) (b3 : A3) (b4 : A4), I b1 b2 b3 b4 → μ b1 b2 b3 b4 < μ a1 a2 a3 a4 → W n b1 b2 b3 b4) → W (n + 1) a1 a2 a3 a4) (a1 : A1) (a2 : A2) (a3 : A3) (a4 : A4) (h : I a1 a2 a3 a4) : ∃ n, W n a1 a2 a3 a4 :=
  loop_m (σ := A1 × A2 × A3 × A4) (fun n s => W n s.1 s.2.1 s.2.2.1 s.2.2.2) (fun s => I s.1 s.2.1 s.2.2.1 s.2.2.2) (fun s => μ s.1 s.2.1 s.2.2.1 s.2.2.2) (fun n s hI hk => hs n s.1 s.2.1 s.2.2.1 s.2.2.2 hI (fun b1 b2 b3 b4 h9 hm => hk (b1, b2, b3, b4) h9 hm)) (a1, a2, a3, a4) h
theorem lp5 {A1 A2 A3 A4 A5 : Type} (W : Nat → A1 → A2 → A3 → A4 → A5 → Prop) (I : A1 → A2 → A3 → A4 → A5 → Prop) (μ : A1 → A2 → A3 → A4 → A5 → Nat) (hs : ∀ (n : Nat) (a1 : A1) (a2 : A2) (a3 : A3) (a4 : A4) (a5 : A5), I a1 a2 a3 a4 a5 → (∀ (b1 : A1) (b2 : A2) (b3 : A3) (b4 : A4) (b5 : A5), I b1 b2 b3 b4 b5 → μ b1 b2 b3 b4 b5 < μ a1 a2 a3 a4 a5 → W n b1 b2 b3 b4 b5) → W (n + 1) a1 a2 a3 a4 a5) (a1 : A1) (a2 : A2) (a3 : A3) (a4 : A4) (a5 : A5) (h : I a1 a2 a3 a4 a5) : ∃ n, W n a1 a2 a3 a4 a5 :=
  loop_m (σ := A1 × A2 × A3 × A4 × A5) (fun n s => W n s.1 s.2.1 s.2.2.1 s.2.2.2.1 s.2.2.2.2) (fun s => I s.1 s.2.1 s.2.2.1 s.2.2.2.1 s.2.2.2.2) (fun s => μ s.1 s.2.1 s.2.2.1 s.2.2.2.1 s.2.2.2.2) (fun n s hI hk => hs n s.1 s.2.1 s.2.2.1 s.2.2.2.1 s.2.2.2.2 hI (fun b1 b2 b3 b4 b5 h9 hm => hk (b1, b2, b3, b4, b5) h9 hm)) (a1, a2, a3, a4, a5) h
theorem pk_least (P : Nat → Prop) (h : ∃ k, P k) : ∃ k, P k ∧ ∀ j, j < k → ¬ P j := by
  obtain ⟨k, hk⟩ := h
  induction k using Nat.strongRecOn with
  | ind k ih =>
    by_cases e : ∃ j, j < k ∧ P j
    · obtain ⟨j, hj, pj⟩ := e
      exact ih j hj pj
    · exact ⟨k, hk, fun j hj pj => e ⟨j, hj, pj⟩⟩
theorem ek_if {c d A B : Prop} (e : c ↔ d) (f : d → A) (g : ¬ d → B) : (c → A) ∧ (¬ c → B) :=
  ⟨fun z => f (e.mp z), fun z => g (fun y => z (e.mpr y))⟩
theorem ek_v {α : Sort _} {P : α → Prop} {a b : α} (e : a = b) (h : P b) : P a := e ▸ h
theorem ts_nf {x : Bool} (h : ¬ x = false) : x = true := by cases x <;> first | rfl | exact absurd rfl h
theorem ts_nt {x : Bool} (h : ¬ x = true) : x = false := by cases x <;> first | rfl | exact absurd rfl h
theorem ts_bit {w : Int64} {s : UInt64} {j : Nat} (hj : j < 64) (hs : s.toNat = j) : ((w.toUInt64 >>> s).toInt64 &&& 1) = 0 ↔ w.toBitVec.getLsbD j = false := by
  have e : (w.toUInt64 >>> s).toInt64.toBitVec = w.toBitVec >>> j := by
    apply BitVec.eq_of_toNat_eq
    show (w.toUInt64 >>> s).toNat = _
    rw [UInt64.toNat_shiftRight, hs, Nat.mod_eq_of_lt hj, BitVec.toNat_ushiftRight]
    rfl
  rw [← Int64.toBitVec_inj, Int64.toBitVec_and, e]
  show w.toBitVec >>> j &&& 1#64 = 0#64 ↔ _
  constructor
  · intro h
    have t := congrArg (fun x => x.getLsbD 0) h
    simpa using t
  · intro h
    apply BitVec.eq_of_getLsbD_eq
    intro i hi
    cases i with
    | zero => simp [h]
    | succ i => simp
theorem ts_or {w m : Int64} {j : Nat} (hj : j < 64) (hm : m.toBitVec = BitVec.twoPow 64 j) : (w ||| m) = w ↔ w.toBitVec.getLsbD j = true := by
  rw [← Int64.toBitVec_inj, Int64.toBitVec_or, hm]
  constructor
  · intro h
    have t := congrArg (fun x => x.getLsbD j) h
    simp only [BitVec.getLsbD_or, BitVec.getLsbD_twoPow] at t
    simpa [hj] using t.symm
  · intro h
    apply BitVec.eq_of_getLsbD_eq
    intro i hi
    rw [BitVec.getLsbD_or, BitVec.getLsbD_twoPow]
    by_cases e : j = i
    · subst e; rw [h, Bool.true_or]
    · simp [e]
theorem ts_and {w m : Int64} {j : Nat} (hj : j < 64) (hm : m.toBitVec = BitVec.twoPow 64 j) : (w &&& (m ^^^ (-1))) = w ↔ w.toBitVec.getLsbD j = false := by
  have ha : (-1 : Int64).toBitVec = BitVec.allOnes 64 := by decide
  rw [← Int64.toBitVec_inj, Int64.toBitVec_and, Int64.toBitVec_xor, hm, ha]
  constructor
  · intro h
    have t := congrArg (fun x => x.getLsbD j) h
    simp only [BitVec.getLsbD_and, BitVec.getLsbD_xor, BitVec.getLsbD_twoPow, BitVec.getLsbD_allOnes] at t
    simpa [hj] using t.symm
  · intro h
    apply BitVec.eq_of_getLsbD_eq
    intro i hi
    rw [BitVec.getLsbD_and, BitVec.getLsbD_xor, BitVec.getLsbD_twoPow, BitVec.getLsbD_allOnes]
    by_cases e : j = i
    · subst e; rw [h, Bool.false_and]
    · simp [e, hi]
theorem wb_tb (n : Nat) : (lN n).toBitVec = BitVec.ofNat 64 n := rfl
theorem wb_inj {a b : Int64} (h : a.toBitVec = b.toBitVec) : a = b := Int64.toBitVec_inj.mp h
theorem wb_tn {n : Nat} (h : n < 2 ^ 64) : (lN n).toBitVec.toNat = n := by rw [wb_tb, BitVec.toNat_ofNat, Nat.mod_eq_of_lt h]
theorem wb_of (x : Int64) : ∃ n, n < 2 ^ 64 ∧ x = lN n := ⟨x.toBitVec.toNat, x.toBitVec.isLt, wb_inj (by rw [wb_tb]; simp)⟩
theorem wb_of32 (x : Int32) : ∃ n, n < 2 ^ 32 ∧ x = nI n := ⟨x.toBitVec.toNat, x.toBitVec.isLt, Int32.toBitVec_inj.mp (by show _ = BitVec.ofNat 32 _; simp)⟩
theorem wb_c : ∀ k, k < 64 → ((nI k).toInt64 &&& 63) = lN k := by decide +kernel
theorem wb_cu : ∀ k, k < 64 → ((nI k).toInt64.toUInt64 &&& Int64.toUInt64 63) = UInt64.ofNat k := by decide +kernel
theorem wb_sm : ∀ k, k < 64 → (BitVec.ofNat 64 k).smod 64 = BitVec.ofNat 64 k := by decide +kernel
theorem wb_pw {a b : Nat} (h : a ≤ b) : 2 ^ b = 2 ^ a * 2 ^ (b - a) := by rw [← Nat.pow_add]; congr 1; omega
theorem wb_lt2 {a b : Nat} (h : a < b) : 2 ^ a < 2 ^ b := Nat.pow_lt_pow_right (by decide) h
theorem wb_mod (n : Nat) : lN n = lN (n % 2 ^ 64) := wb_inj (by rw [wb_tb, wb_tb]; apply BitVec.eq_of_toNat_eq; rw [BitVec.toNat_ofNat, BitVec.toNat_ofNat, Nat.mod_mod])
theorem wb_shr {n k : Nat} (hn : n < 2 ^ 64) (hk : k < 64) : ((lN n).toUInt64 >>> ((nI k).toInt64.toUInt64 &&& Int64.toUInt64 63)).toInt64 = lN (n / 2 ^ k) := by
  rw [wb_cu k hk]
  apply wb_inj
  apply BitVec.eq_of_toNat_eq
  show ((lN n).toUInt64 >>> UInt64.ofNat k).toNat = (BitVec.ofNat 64 _).toNat
  have h1 : (UInt64.ofNat k).toNat = k := by
    show (BitVec.ofNat 64 k).toNat = k
    rw [BitVec.toNat_ofNat, Nat.mod_eq_of_lt (by omega)]
  have h2 : (lN n).toUInt64.toNat = n := wb_tn hn
  rw [UInt64.toNat_shiftRight, h1, h2, Nat.mod_eq_of_lt hk, Nat.shiftRight_eq_div_pow, BitVec.toNat_ofNat, Nat.mod_eq_of_lt (Nat.lt_of_le_of_lt (Nat.div_le_self _ _) hn)]
theorem wb_shl (n : Nat) {k : Nat} (hk : k < 64) : lN n <<< ((nI k).toInt64 &&& 63) = lN (n * 2 ^ k) := by
  rw [wb_c k hk]
  apply wb_inj
  rw [Int64.toBitVec_shiftLeft, wb_tb, wb_tb, wb_tb, wb_sm k hk]
  apply BitVec.eq_of_toNat_eq
  rw [BitVec.shiftLeft_eq', BitVec.toNat_shiftLeft, BitVec.toNat_ofNat, BitVec.toNat_ofNat, BitVec.toNat_ofNat, Nat.mod_eq_of_lt (show k < 2 ^ 64 by omega), Nat.shiftLeft_eq, Nat.mul_mod, Nat.mod_mod, ← Nat.mul_mod]
theorem wb_and {a b : Nat} (ha : a < 2 ^ 64) (hb : b < 2 ^ 64) : lN a &&& lN b = lN (a &&& b) := by
  apply wb_inj
  rw [Int64.toBitVec_and, wb_tb, wb_tb, wb_tb]
  apply BitVec.eq_of_toNat_eq
  rw [BitVec.toNat_and, BitVec.toNat_ofNat, BitVec.toNat_ofNat, BitVec.toNat_ofNat, Nat.mod_eq_of_lt ha, Nat.mod_eq_of_lt hb, Nat.mod_eq_of_lt (Nat.and_lt_two_pow _ hb)]
theorem wb_or {a b : Nat} (ha : a < 2 ^ 64) (hb : b < 2 ^ 64) : lN a ||| lN b = lN (a ||| b) := by
  apply wb_inj
  rw [Int64.toBitVec_or, wb_tb, wb_tb, wb_tb]
  apply BitVec.eq_of_toNat_eq
  rw [BitVec.toNat_or, BitVec.toNat_ofNat, BitVec.toNat_ofNat, BitVec.toNat_ofNat, Nat.mod_eq_of_lt ha, Nat.mod_eq_of_lt hb, Nat.mod_eq_of_lt (Nat.or_lt_two_pow ha hb)]
theorem wb_mask {n k : Nat} (hn : n < 2 ^ 64) (hk : k < 64) : lN n &&& lN (2 ^ k - 1) = lN (n % 2 ^ k) := by
  rw [wb_and hn (by have := wb_lt2 hk; omega), Nat.and_two_pow_sub_one_eq_mod]
theorem wb_a1 {n : Nat} (hn : n < 2 ^ 64) : lN n &&& 1 = lN (n % 2) := wb_mask (k := 1) hn (by decide)
theorem wb_bit {n k : Nat} (hn : n < 2 ^ 64) (hk : k < 64) : ((lN n).toUInt64 >>> ((nI k).toInt64.toUInt64 &&& Int64.toUInt64 63)).toInt64 &&& 1 = lN (n / 2 ^ k % 2) := by
  rw [wb_shr hn hk, wb_a1 (Nat.lt_of_le_of_lt (Nat.div_le_self _ _) hn)]
theorem u_tn {n : Nat} (h : n < 2 ^ 64) : (UInt64.ofNat n).toNat = n := Nat.mod_eq_of_lt h
end
section
/-! ===== counts ===== -/
def gc_cnt (p : Nat → Bool) : Nat → Nat
  | 0 => 0
  | n + 1 => gc_cnt p n + (if p n = true then 1 else 0)
def gc_any (p : Nat → Bool) : Nat → Bool
  | 0 => false
  | n + 1 => gc_any p n || p n
theorem gc_any_iff (p : Nat → Bool) : ∀ n, gc_any p n = true ↔ ∃ z, z < n ∧ p z = true := by
  intro n
  induction n with
  | zero => exact ⟨fun h => (by cases h), fun ⟨z, hz, _⟩ => absurd hz (by omega)⟩
  | succ n ih =>
    rw [gc_any, Bool.or_eq_true, ih]
    constructor
    · rintro (⟨z, hz, h⟩ | h)
      · exact ⟨z, by omega, h⟩
      · exact ⟨n, by omega, h⟩
    · rintro ⟨z, hz, h⟩
      by_cases e : z = n
      · subst e; exact Or.inr h
      · exact Or.inl ⟨z, by omega, h⟩
theorem gc_any_congr {p q : Nat → Bool} {n : Nat} (h : ∀ z, z < n → p z = q z) : gc_any p n = gc_any q n := by
  induction n with
  | zero => rfl
  | succ n ih =>
    unfold gc_any
    rw [ih (fun z hz => h z (by omega)), h n (by omega)]
theorem gc_cnt_le (p : Nat → Bool) (n : Nat) : gc_cnt p n ≤ n := by
  induction n with
  | zero => exact Nat.le_refl _
  | succ n ih => unfold gc_cnt; split <;> omega
theorem gc_cnt_congr {p q : Nat → Bool} {n : Nat} (h : ∀ z, z < n → p z = q z) : gc_cnt p n = gc_cnt q n := by
  induction n with
  | zero => rfl
  | succ n ih =>
    unfold gc_cnt
    rw [ih (fun z hz => h z (by omega)), h n (by omega)]
theorem gc_cnt_out {p : Nat → Bool} {m : Nat} : ∀ d, (∀ z, m ≤ z → z < m + d → p z = false) → gc_cnt p (m + d) = gc_cnt p m := by
  intro d
  induction d with
  | zero => intro _; rfl
  | succ d ih =>
    intro h
    show gc_cnt p (m + d) + (if p (m + d) = true then 1 else 0) = _
    rw [ih (fun z a b => h z a (by omega)), h (m + d) (by omega) (by omega)]
    simp
theorem gc_cnt_ext {p : Nat → Bool} {m n : Nat} (hmn : m ≤ n) (h : ∀ z, m ≤ z → z < n → p z = false) : gc_cnt p n = gc_cnt p m := by
  obtain ⟨d, rfl⟩ : ∃ d, n = m + d := ⟨n - m, by omega⟩
  exact gc_cnt_out d h
/-! ===== members of a set of events ===== -/
def gc_mem (mk : Nat → Nat) (p : Nat → Bool) (n : Nat) : Nat := gc_cnt (fun m => gc_any (fun z => p z && (mk z == m)) n) 4
theorem gc_add (A : Nat → Bool) (k : Nat) (hA : A k = false) : ∀ N, k < N → gc_cnt (fun m => A m || (k == m)) N = gc_cnt A N + 1 := by
  intro N
  induction N with
  | zero => intro h; omega
  | succ N ih =>
    intro h
    show gc_cnt (fun m => A m || (k == m)) N + (if (A N || (k == N)) = true then 1 else 0) = gc_cnt A N + (if A N = true then 1 else 0) + 1
    by_cases e : k = N
    · subst e
      rw [gc_cnt_congr (q := A) (fun z hz => by
        have : (k == z) = false := by simp; omega
        simp [this])]
      simp [hA]
    · rw [ih (by omega)]
      have : (k == N) = false := by simp [e]
      simp only [this, Bool.or_false]
      omega
theorem gc_mem_eq (mk : Nat → Nat) (p : Nat → Bool) : ∀ n, (∀ z, z < n → p z = true → mk z < 4) → (∀ a b, a < b → b < n → p a = true → p b = true → mk a ≠ mk b) → gc_mem mk p n = gc_cnt p n := by
  intro n
  induction n with
  | zero => intro _ _; rfl
  | succ n ih =>
    intro h4 hi
    have ih' := ih (fun z hz => h4 z (by omega)) (fun a b hab hb => hi a b hab (by omega))
    show gc_cnt (fun m => gc_any (fun z => p z && (mk z == m)) n || (p n && (mk n == m))) 4 = gc_cnt p n + (if p n = true then 1 else 0)
    cases hp : p n with
    | false =>
      rw [gc_cnt_congr (q := fun m => gc_any (fun z => p z && (mk z == m)) n) (fun z _ => by simp)]
      exact ih'
    | true =>
      rw [gc_cnt_congr (q := fun m => gc_any (fun z => p z && (mk z == m)) n || (mk n == m)) (fun z _ => by simp)]
      rw [gc_add _ (mk n) _ 4 (h4 n (by omega) hp)]
      · show gc_mem mk p n + 1 = _
        rw [ih']; rfl
      · cases hx : gc_any (fun z => p z && (mk z == mk n)) n with
        | false => rfl
        | true =>
          obtain ⟨z, hz, h⟩ := (gc_any_iff _ n).mp hx
          simp only [Bool.and_eq_true, beq_iff_eq] at h
          exact absurd h.2 (hi z n hz (by omega) h.1 hp)
theorem gc_mem_le (mk : Nat → Nat) (p : Nat → Bool) (n : Nat) : gc_mem mk p n ≤ 4 := gc_cnt_le _ 4
theorem gc_any_false (p : Nat → Bool) (n : Nat) : gc_any p n = false ↔ ∀ z, z < n → p z = false := by
  constructor
  · intro h z hz
    cases e : p z with
    | false => rfl
    | true => exact absurd ((gc_any_iff p n).mpr ⟨z, hz, e⟩) (by rw [h]; decide)
  · intro h
    cases e : gc_any p n with
    | false => rfl
    | true =>
      obtain ⟨z, hz, e2⟩ := (gc_any_iff p n).mp e
      rw [h z hz] at e2
      cases e2
theorem gc_mem_congr {mk mk' : Nat → Nat} {p q : Nat → Bool} {n : Nat} (h : ∀ z, z < n → p z = q z) (hm : ∀ z, z < n → mk z = mk' z) : gc_mem mk p n = gc_mem mk' q n :=
  gc_cnt_congr fun m _ => gc_any_congr fun z hz => by rw [h z hz, hm z hz]
theorem gc_any_ext {p : Nat → Bool} {m n : Nat} (hmn : m ≤ n) (h : ∀ z, m ≤ z → z < n → p z = false) : gc_any p n = gc_any p m := by
  cases e : gc_any p m with
  | true =>
    obtain ⟨z, hz, e2⟩ := (gc_any_iff p m).mp e
    exact (gc_any_iff p n).mpr ⟨z, by omega, e2⟩
  | false =>
    rw [gc_any_false] at e ⊢
    intro z hz
    rcases Nat.lt_or_ge z m with a | a
    · exact e z a
    · exact h z a hz
theorem gc_cnt_pos {p : Nat → Bool} {n z : Nat} (hz : z < n) (h : p z = true) : 0 < gc_cnt p n := by
  induction n with
  | zero => omega
  | succ n ih =>
    show 0 < gc_cnt p n + (if p n = true then 1 else 0)
    by_cases e : z = n
    · subst e; rw [if_pos h]; omega
    · have := ih (by omega); omega
theorem gc_cnt_mono {p : Nat → Bool} {m n : Nat} (h : m ≤ n) : gc_cnt p m ≤ gc_cnt p n := by
  induction n with
  | zero => have : m = 0 := by omega
            subst this; exact Nat.le_refl _
  | succ n ih =>
    by_cases e : m = n + 1
    · subst e; exact Nat.le_refl _
    · have := ih (by omega)
      show gc_cnt p m ≤ gc_cnt p n + (if p n = true then 1 else 0)
      omega
/-! ===== bits of a long ===== -/
def gb (s : Int64) (i : Nat) : Bool := s.toBitVec.getLsbD i
theorem gb_or (x y : Int64) (i : Nat) : gb (x ||| y) i = (gb x i || gb y i) := by unfold gb; rw [Int64.toBitVec_or, BitVec.getLsbD_or]
theorem gb_and (x y : Int64) (i : Nat) : gb (x &&& y) i = (gb x i && gb y i) := by unfold gb; rw [Int64.toBitVec_and, BitVec.getLsbD_and]
theorem gb_0 (i : Nat) : gb 0 i = false := BitVec.getLsbD_zero
theorem gb_big {x : Int64} {i : Nat} (h : 64 ≤ i) : gb x i = false := BitVec.getLsbD_of_ge _ _ h
theorem gb_not (x : Int64) {i : Nat} (hi : i < 64) : gb (x ^^^ (-1)) i = !gb x i := by
  unfold gb
  have ha : (-1 : Int64).toBitVec = BitVec.allOnes 64 := by decide
  rw [Int64.toBitVec_xor, BitVec.getLsbD_xor, ha, BitVec.getLsbD_allOnes, decide_eq_true hi, Bool.xor_true]
theorem gb_lN {n : Nat} {i : Nat} (hi : i < 64) : gb (lN n) i = n.testBit i := by
  unfold gb
  rw [wb_tb, BitVec.getLsbD_ofNat, decide_eq_true hi, Bool.true_and]
theorem gb_one {k : Nat} (hk : k < 64) (i : Nat) : gb ((1 : Int64) <<< ((nI k).toInt64 &&& 63)) i = (k == i) := by
  have e : (1 : Int64) <<< ((nI k).toInt64 &&& 63) = lN (2 ^ k) := by
    have := wb_shl 1 hk
    rw [Nat.one_mul] at this
    exact this
  rw [e]
  rcases Nat.lt_or_ge i 64 with h | h
  · rw [gb_lN h, Nat.testBit_two_pow]
    exact (Bool.beq_eq_decide_eq _ _).symm
  · rw [gb_big h]
    have : ¬ k = i := by omega
    simp [this]
theorem gb_test (w : Int64) {k : Nat} (hk : k < 64) : ((w.toUInt64 >>> ((nI k).toInt64.toUInt64 &&& Int64.toUInt64 63)).toInt64 &&& 1) = 0 ↔ gb w k = false :=
  ts_bit hk (by rw [wb_cu k hk]; exact u_tn (by omega))
theorem gb_val (w : Int64) {k : Nat} (hk : k < 64) : ((w.toUInt64 >>> ((nI k).toInt64.toUInt64 &&& Int64.toUInt64 63)).toInt64 &&& 1).toInt32 = nI (if gb w k = true then 1 else 0) := by
  obtain ⟨n, hn, rfl⟩ := wb_of w
  rw [wb_bit hn hk, lN_i, gb_lN hk, Nat.testBit_eq_decide_div_mod_eq]
  congr 1
  generalize n / 2 ^ k = m
  by_cases h : m % 2 = 1
  · rw [if_pos (decide_eq_true h)]; exact h
  · rw [if_neg (by rw [decide_eq_true_eq]; exact h)]; omega
theorem gb_sh (w : Int64) {k : Nat} (hk : k < 64) : ((w >>> ((nI k).toInt64 &&& 63)) &&& 1) = 1 ↔ gb w k = true := by
  have e : (w >>> ((nI k).toInt64 &&& 63)).toBitVec = w.toBitVec.sshiftRight k := by
    rw [wb_c k hk, Int64.toBitVec_shiftRight]
    show w.toBitVec.sshiftRight (((lN k).toBitVec).smod 64).toNat = _
    rw [wb_tb, wb_sm k hk, BitVec.toNat_ofNat, Nat.mod_eq_of_lt (show k < 2 ^ 64 by omega)]
  rw [← Int64.toBitVec_inj, Int64.toBitVec_and, e]
  show w.toBitVec.sshiftRight k &&& 1#64 = 1#64 ↔ _
  rw [BitVec.and_one_eq_setWidth_ofBool_getLsbD, BitVec.getLsbD_sshiftRight]
  have h1 : (!decide (64 ≤ 0)) = true := by decide
  rw [h1, Bool.true_and, if_pos (show k + 0 < 64 by omega), Nat.add_zero]
  unfold gb
  cases w.toBitVec.getLsbD k
  · exact ⟨fun z => absurd z (by decide), fun z => absurd z (by decide)⟩
  · exact ⟨fun _ => rfl, fun _ => by decide⟩
theorem gb_ext {x y : Int64} (h : ∀ i, i < 64 → gb x i = gb y i) : x = y := Int64.toBitVec_inj.mp (BitVec.eq_of_getLsbD_eq (fun i hi => h i hi))
def gw_set (c : Nat → Bool) : Nat → Int64
  | 0 => 0
  | k + 1 => if c k = true then gw_set c k ||| (1 : Int64) <<< ((nI k).toInt64 &&& 63) else gw_set c k
theorem gw_bit (c : Nat → Bool) : ∀ k, k ≤ 64 → ∀ i, gb (gw_set c k) i = (decide (i < k) && c i) := by
  intro k
  induction k with
  | zero => intro _ i; rw [gw_set, gb_0, decide_eq_false (by omega), Bool.false_and]
  | succ k ih =>
    intro hk i
    rw [gw_set]
    by_cases e : k = i
    · subst e
      rw [decide_eq_true (by omega), Bool.true_and]
      cases hc : c k with
      | true => rw [if_pos rfl, gb_or, gb_one (by omega), beq_self_eq_true, Bool.or_true]
      | false => rw [if_neg (by decide), ih (by omega), decide_eq_false (by omega), Bool.false_and]
    · have e2 : (k == i) = false := by simp [e]
      have e3 : decide (i < k + 1) = decide (i < k) := by
        by_cases l : i < k
        · rw [decide_eq_true l, decide_eq_true (by omega)]
        · rw [decide_eq_false l, decide_eq_false (by omega)]
      rw [e3]
      split
      · rw [gb_or, gb_one (by omega), e2, Bool.or_false, ih (by omega)]
      · rw [ih (by omega)]
theorem gw_congr {c d : Nat → Bool} {k : Nat} (h : ∀ z, z < k → c z = d z) : gw_set c k = gw_set d k := by
  induction k with
  | zero => rfl
  | succ k ih => rw [gw_set, gw_set, ih (fun z hz => h z (by omega)), h k (by omega)]
def gd_bi (b : Bool) : Int32 := if b = true then 1 else 0
theorem gd_bi0 (b : Bool) : gd_bi b = 0 ↔ b = false := by cases b <;> decide
theorem gd_bi1 (b : Bool) : gd_bi b = 1 ↔ b = true := by cases b <;> decide
theorem gd_biN (b : Bool) : narrow .boolean (.int (gd_bi b)) = .int (gd_bi b) := by cases b <;> rfl
theorem gd_biV (b : Bool) : vp_nar .boolean (gd_bi b) = gd_bi b := by cases b <;> rfl
end
section
/-! ===== the data of the events: maker, time, coin, under, well under, round, witness ===== -/
abbrev gd_D : Type := (Nat → Nat) × (Nat → Int32) × (Nat → Bool) × (Nat → Int64) × (Nat → Int64) × (Nat → Nat) × (Nat → Bool)
def gd_mk (D : gd_D) : Nat → Nat := D.1
def gd_tm (D : gd_D) : Nat → Int32 := D.2.1
def gd_cn (D : gd_D) : Nat → Bool := D.2.2.1
def gd_us (D : gd_D) : Nat → Int64 := D.2.2.2.1
def gd_ws (D : gd_D) : Nat → Int64 := D.2.2.2.2.1
def gd_rd (D : gd_D) : Nat → Nat := D.2.2.2.2.2.1
def gd_wi (D : gd_D) : Nat → Bool := D.2.2.2.2.2.2
def gd_ub (D : gd_D) (x y : Nat) : Bool := gb (gd_us D y) x
def gd_wb (D : gd_D) (x y : Nat) : Bool := gb (gd_ws D y) x
def gd_vo (D : gd_D) (z y : Nat) : Bool := gd_wi D z && (gd_rd D z + 1 == gd_rd D y) && gd_wb D z y
/-! what holds of the data of n events with greatest round g -/
def gd_Inv (D : gd_D) (n g : Nat) : Prop :=
  n ≤ 48 ∧ g ≤ n ∧ (∀ j, gd_mk D j < 4) ∧ (∀ j, gd_rd D j ≤ g) ∧ (∀ j, j < n → 1 ≤ gd_rd D j) ∧
  (∀ y, y < n → ∀ x, gd_ub D x y = true → x ≤ y) ∧ (∀ y, y < n → gd_ub D y y = true) ∧
  (∀ y, y < n → ∀ x, gd_wb D x y = true → x ≤ y) ∧
  (∀ x y, x < y → y < n → gd_mk D x = gd_mk D y → gd_rd D x ≤ gd_rd D y ∧ (gd_wi D y = true → gd_rd D x < gd_rd D y)) ∧
  (∀ j, n ≤ j → gd_wi D j = false)
/-! ===== the votes and the fame ===== -/
def gf_yes (D : gd_D) (v : Nat → Bool) (y : Nat) : Nat := gc_cnt (fun z => gd_vo D z y && v z) 48
def gf_no (D : gd_D) (v : Nat → Bool) (y : Nat) : Nat := gc_cnt (fun z => gd_vo D z y && !v z) 48
def gf_mo (D : gd_D) (v : Nat → Bool) (y : Nat) : Bool := decide (gf_no D v y ≤ gf_yes D v y)
def gf_en (D : gd_D) (v : Nat → Bool) (y : Nat) : Bool := decide (3 ≤ (if gf_mo D v y = true then gf_yes D v y else gf_no D v y))
def gf_vt (D : gd_D) (x : Nat) : Nat → Nat → Bool
  | 0 => fun _ => false
  | k + 1 => fun y => if k = 0 then gd_ub D x y else if (k + 1) % 5 = 0 ∧ gf_en D (gf_vt D x k) y = false then gd_cn D y else gf_mo D (gf_vt D x k) y
def gf_v (D : gd_D) (x z : Nat) : Bool := gf_vt D x (gd_rd D z - gd_rd D x) z
def gf_dec (D : gd_D) (x y : Nat) : Bool := decide (2 ≤ gd_rd D y - gd_rd D x) && decide ((gd_rd D y - gd_rd D x) % 5 ≠ 0) && gf_en D (gf_vt D x (gd_rd D y - gd_rd D x - 1)) y
def gf_at (D : gd_D) (x r y : Nat) : Bool := gd_wi D y && (gd_rd D y == r) && gf_dec D x y
def gf_in (p : Nat → Bool) (s : Option Nat) : Nat → Option Nat
  | 0 => s
  | k + 1 => match gf_in p s k with
    | some d => some d
    | none => if p k = true then some k else none
def gf_out (D : gd_D) (n x : Nat) : Nat → Option Nat
  | 0 => none
  | j + 1 => gf_in (gf_at D x (gd_rd D x + 1 + j)) (gf_out D n x j) n
def gf_de (D : gd_D) (n g x : Nat) : Option Nat := gf_out D n x (g - gd_rd D x)
def gf_val (D : gd_D) (x : Nat) : Option Nat → Nat
  | none => 0
  | some y => if gf_v D x y = true then 2 else 1
def gf_dv : Option Nat → Int32
  | none => -2
  | some y => nI y
def gf_F (D : gd_D) (n g x : Nat) : Nat := if gd_wi D x = true then gf_val D x (gf_de D n g x) else 0
def gf_d (D : gd_D) (n g x : Nat) : Int32 := if gd_wi D x = true then gf_dv (gf_de D n g x) else -2
theorem gf_in_some (p : Nat → Bool) (d : Nat) : ∀ k, gf_in p (some d) k = some d := by
  intro k
  induction k with
  | zero => rfl
  | succ k ih => rw [gf_in, ih]
theorem gf_in_s {p : Nat → Bool} {s : Option Nat} {k d : Nat} (h : gf_in p s k = some d) : gf_in p s (k + 1) = some d := by rw [gf_in, h]
theorem gf_in_stay {p : Nat → Bool} {s : Option Nat} {d k n : Nat} (hk : k ≤ n) (h : gf_in p s k = some d) : gf_in p s n = some d := by
  induction n with
  | zero =>
    have : k = 0 := by omega
    subst this; exact h
  | succ n ih =>
    by_cases e : k = n + 1
    · subst e; exact h
    · exact gf_in_s (ih (by omega))
theorem gf_in_t {p : Nat → Bool} {s : Option Nat} {k : Nat} (h : gf_in p s k = none) (hp : p k = true) : gf_in p s (k + 1) = some k := by rw [gf_in, h]; exact if_pos hp
theorem gf_in_f {p : Nat → Bool} {s : Option Nat} {k : Nat} (h : gf_in p s k = none) (hp : p k = false) : gf_in p s (k + 1) = none := by rw [gf_in, h]; exact if_neg (by rw [hp]; decide)
theorem gf_out_stay {D : gd_D} {n x d j m : Nat} (hj : j ≤ m) (h : gf_out D n x j = some d) : gf_out D n x m = some d := by
  induction m with
  | zero =>
    have : j = 0 := by omega
    subst this; exact h
  | succ m ih =>
    by_cases e : j = m + 1
    · subst e; exact h
    · rw [gf_out, ih (by omega), gf_in_some]
theorem gf_F_le (D : gd_D) (n g x : Nat) : gf_F D n g x ≤ 2 := by
  unfold gf_F gf_val
  split
  · split
    · omega
    · split <;> omega
  · omega
theorem gf_F_w {D : gd_D} {n g x k : Nat} (h : gf_F D n g x = k + 1) : gd_wi D x = true := by
  unfold gf_F at h
  split at h
  · assumption
  · omega
theorem gf_vt_one (D : gd_D) (x y : Nat) : gf_vt D x 1 y = gd_ub D x y := rfl
theorem gf_vt_s {D : gd_D} {x k y : Nat} (h : 2 ≤ k) : gf_vt D x k y = if k % 5 = 0 ∧ gf_en D (gf_vt D x (k - 1)) y = false then gd_cn D y else gf_mo D (gf_vt D x (k - 1)) y := by
  obtain ⟨m, rfl⟩ : ∃ m, k = m + 1 := ⟨k - 1, by omega⟩
  show (if m = 0 then gd_ub D x y else _) = _
  rw [if_neg (show ¬ m = 0 by omega), Nat.add_sub_cancel]
theorem gf_yes_congr {D : gd_D} {v w : Nat → Bool} {y : Nat} (h : ∀ z, z < 48 → gd_vo D z y = true → v z = w z) : gf_yes D v y = gf_yes D w y :=
  gc_cnt_congr fun z hz => by
    cases e : gd_vo D z y with
    | false => rfl
    | true => rw [h z hz e]
theorem gf_no_congr {D : gd_D} {v w : Nat → Bool} {y : Nat} (h : ∀ z, z < 48 → gd_vo D z y = true → v z = w z) : gf_no D v y = gf_no D w y :=
  gc_cnt_congr fun z hz => by
    cases e : gd_vo D z y with
    | false => rfl
    | true => rw [h z hz e]
/-! ===== settled rounds ===== -/
def gs_fm (D : gd_D) (n g r w : Nat) : Bool := (gf_F D n g w == 2) && (gd_rd D w == r)
def gs_op (D : gd_D) (n g r x : Nat) : Bool := gd_wi D x && (gd_rd D x == r) && (gf_F D n g x == 0)
def gs_ok (D : gd_D) (n g r : Nat) : Bool := !gc_any (gs_op D n g r) n && gc_any (gs_fm D n g r) n
def gs_go (ok : Nat → Bool) : Nat → Nat → Nat
  | 0, s => s
  | f + 1, s => if ok (s + 1) = true then gs_go ok f (s + 1) else s
def gs_p (D : gd_D) (n g r : Nat) : Bool := decide (r < g) && gs_ok D n g r
def gs_S (D : gd_D) (n g : Nat) : Nat := gs_go (gs_p D n g) g 0
theorem gs_stop {ok : Nat → Bool} {s : Nat} (h : ok (s + 1) = false) (f : Nat) : gs_go ok f s = s := by
  cases f with
  | zero => rfl
  | succ f => rw [gs_go, if_neg (by rw [h]; decide)]
theorem gs_step {ok : Nat → Bool} {s : Nat} (h : ok (s + 1) = true) (f : Nat) : gs_go ok (f + 1) s = gs_go ok f (s + 1) := by
  rw [gs_go, if_pos h]
theorem gs_le (ok : Nat → Bool) : ∀ f s, s ≤ gs_go ok f s ∧ gs_go ok f s ≤ s + f ∧ ∀ r, s < r → r ≤ gs_go ok f s → ok r = true := by
  intro f
  induction f with
  | zero => intro s; exact ⟨Nat.le_refl _, Nat.le_refl _, fun r h1 h2 => absurd h2 (by show ¬ r ≤ s; omega)⟩
  | succ f ih =>
    intro s
    cases h : ok (s + 1) with
    | false => rw [gs_stop h]; exact ⟨Nat.le_refl _, by omega, fun r h1 h2 => absurd h2 (by omega)⟩
    | true =>
      rw [gs_step h]
      obtain ⟨a, b, c⟩ := ih (s + 1)
      refine ⟨by omega, by omega, fun r h1 h2 => ?_⟩
      by_cases e : r = s + 1
      · subst e; exact h
      · exact c r (by omega) h2
theorem gs_S_le (D : gd_D) (n g : Nat) : gs_S D n g ≤ g := by have := (gs_le (gs_p D n g) g 0).2.1; unfold gs_S; omega
theorem gs_S_ok {D : gd_D} {n g r : Nat} (h0 : 0 < r) (h : r ≤ gs_S D n g) : r < g ∧ gs_ok D n g r = true := by
  have a := (gs_le (gs_p D n g) g 0).2.2 r h0 h
  unfold gs_p at a
  rw [Bool.and_eq_true, decide_eq_true_eq] at a
  exact a
/-! ===== the round that receives ===== -/
def gr_un (D : gd_D) (n g x r : Nat) : Bool := !gc_any (fun w => gs_fm D n g r w && !gd_ub D x w) n
def gr_lo (p : Nat → Bool) : Nat → Nat
  | 0 => 0
  | s + 1 => if gr_lo p s ≠ 0 then gr_lo p s else if p (s + 1) = true then s + 1 else 0
def gr_R (D : gd_D) (n g x : Nat) : Nat := gr_lo (gr_un D n g x) (gs_S D n g)
theorem gr_lo_is (p : Nat → Bool) : ∀ s, (gr_lo p s = 0 ∧ ∀ q, 1 ≤ q → q ≤ s → p q = false) ∨ (1 ≤ gr_lo p s ∧ gr_lo p s ≤ s ∧ p (gr_lo p s) = true ∧ ∀ q, 1 ≤ q → q < gr_lo p s → p q = false) := by
  intro s
  induction s with
  | zero => exact Or.inl ⟨rfl, fun q h1 h2 => absurd h2 (by omega)⟩
  | succ s ih =>
    rw [gr_lo]
    rcases ih with ⟨e, h⟩ | ⟨h1, h2, h3, h4⟩
    · rw [if_neg (by rw [e]; decide)]
      cases hp : p (s + 1) with
      | true => rw [if_pos rfl]; exact Or.inr ⟨by omega, Nat.le_refl _, hp, fun q a b => h q a (by omega)⟩
      | false =>
        rw [if_neg (by decide)]
        refine Or.inl ⟨rfl, fun q a b => ?_⟩
        by_cases e2 : q = s + 1
        · subst e2; exact hp
        · exact h q a (by omega)
    · rw [if_pos (by omega)]
      exact Or.inr ⟨h1, by omega, h3, h4⟩
theorem gr_lo_0 {p : Nat → Bool} {s : Nat} (h : ∀ q, 1 ≤ q → q ≤ s → p q = false) : gr_lo p s = 0 := by
  rcases gr_lo_is p s with ⟨e, _⟩ | ⟨h1, h2, h3, _⟩
  · exact e
  · rw [h _ h1 h2] at h3; cases h3
theorem gr_lo_1 {p : Nat → Bool} {s r : Nat} (h1 : 1 ≤ r) (h2 : r ≤ s) (h3 : p r = true) (h4 : ∀ q, 1 ≤ q → q < r → p q = false) : gr_lo p s = r := by
  rcases gr_lo_is p s with ⟨_, h⟩ | ⟨a1, a2, a3, a4⟩
  · rw [h r h1 h2] at h3; cases h3
  · rcases Nat.lt_trichotomy r (gr_lo p s) with l | l | l
    · rw [a4 r h1 l] at h3; cases h3
    · exact l.symm
    · rw [h4 _ a1 l] at a3; cases a3
theorem gr_R_le (D : gd_D) (n g x : Nat) : gr_R D n g x ≤ gs_S D n g := by
  rcases gr_lo_is (gr_un D n g x) (gs_S D n g) with ⟨e, _⟩ | ⟨_, h2, _⟩
  · unfold gr_R; rw [e]; exact Nat.zero_le _
  · exact h2
theorem gr_R_un {D : gd_D} {n g x : Nat} (h : gr_R D n g x ≠ 0) : gr_un D n g x (gr_R D n g x) = true := by
  rcases gr_lo_is (gr_un D n g x) (gs_S D n g) with ⟨e, _⟩ | ⟨_, _, h3, _⟩
  · exact absurd e h
  · exact h3
/-! ===== the first of a row ===== -/
def gl_fst (p : Nat → Bool) : Nat → Nat
  | 0 => 0
  | k + 1 => if gl_fst p k < k then gl_fst p k else if p k = true then k else k + 1
theorem gl_none {p : Nat → Bool} {k : Nat} (h : ∀ z, z < k → p z = false) : gl_fst p k = k := by
  induction k with
  | zero => rfl
  | succ k ih => rw [gl_fst, ih (fun z hz => h z (by omega)), if_neg (by omega), if_neg (by rw [h k (by omega)]; decide)]
theorem gl_some {p : Nat → Bool} {k z : Nat} (hz : z < k) (hp : p z = true) (h : ∀ i, i < z → p i = false) : gl_fst p k = z := by
  induction k with
  | zero => omega
  | succ k ih =>
    rw [gl_fst]
    by_cases e : z = k
    · subst e
      rw [gl_none h, if_neg (by omega), if_pos hp]
    · rw [ih (by omega), if_pos (by omega)]
end
section
/-! ===== insertion: b e says that t comes before e ===== -/
def gi_up {α : Type} (f : Nat → α) (k : Nat) (x : α) : Nat → α := fun j => if j = k then x else f j
def gi_ins {α : Type} (b : α → Bool) (t : α) : Nat → (Nat → α) → (Nat → α)
  | 0, f => gi_up f 0 t
  | k + 1, f => if b (f k) = true then gi_ins b t k (gi_up f (k + 1) (f k)) else gi_up f (k + 1) t
theorem gi_us {α : Type} {f : Nat → α} {k : Nat} {x : α} : gi_up f k x k = x := if_pos rfl
theorem gi_un {α : Type} {f : Nat → α} {k j : Nat} {x : α} (h : j ≠ k) : gi_up f k x j = f j := if_neg h
theorem gi_agree {α β : Type} (c : α → β) (b : β → Bool) (d : α → Bool) (t : α) : ∀ (m M : Nat) (f : Nat → β) (h : Nat → α), m ≤ M → (∀ j, j ≤ M → j ≠ m → f j = c (h j)) → (∀ j, j < m → b (c (h j)) = d (h j)) → ∀ j, j ≤ M → gi_ins b (c t) m f j = c (gi_ins d t m h j) := by
  intro m
  induction m with
  | zero =>
    intro M f h _ a _ j hj
    show gi_up f 0 (c t) j = c (gi_up h 0 t j)
    by_cases e : j = 0
    · subst e; rw [gi_us, gi_us]
    · rw [gi_un e, gi_un e]; exact a j hj e
  | succ k ih =>
    intro M f h hM a hb j hj
    have ek : f k = c (h k) := a k (by omega) (by omega)
    rw [gi_ins, gi_ins, ek, hb k (by omega)]
    split
    · refine ih M _ _ (by omega) (fun i hi ne => ?_) (fun i hi => ?_) j hj
      · by_cases e : i = k + 1
        · subst e; rw [gi_us, gi_us]
        · rw [gi_un e, gi_un e]; exact a i hi e
      · rw [gi_un (show i ≠ k + 1 by omega)]
        exact hb i (by omega)
    · by_cases e : j = k + 1
      · subst e; rw [gi_us, gi_us]
      · rw [gi_un e, gi_un e]; exact a j hj e
/-! below m alone: what lies at m and beyond is of no account -/
theorem gi_below {α β : Type} (c : α → β) (b : β → Bool) (d : α → Bool) (t : α) {m : Nat} {f : Nat → β} {h : Nat → α} (a : ∀ j, j < m → f j = c (h j)) (hb : ∀ j, j < m → b (c (h j)) = d (h j)) : ∀ j, j < m + 1 → gi_ins b (c t) m f j = c (gi_ins d t m h j) :=
  fun j hj => gi_agree c b d t m m f h (Nat.le_refl _) (fun i hi ne => a i (by omega)) hb j (by omega)
theorem gi_desc {α : Type} (b : α → Bool) (t : α) : ∀ (m : Nat) (f : Nat → α), ∃ p, p ≤ m ∧ gi_ins b t m f p = t ∧ (∀ j, j < p → gi_ins b t m f j = f j) ∧ (∀ j, p ≤ j → j < m → gi_ins b t m f (j + 1) = f j) ∧ (∀ j, m < j → gi_ins b t m f j = f j) := by
  intro m
  induction m with
  | zero =>
    intro f
    refine ⟨0, Nat.le_refl _, ?_, fun j hj => absurd hj (by omega), fun j _ hj => absurd hj (by omega), fun j hj => ?_⟩
    · exact (gi_us : gi_up f 0 t 0 = t)
    · exact (gi_un (by omega) : gi_up f 0 t j = f j)
  | succ k ih =>
    intro f
    rw [gi_ins]
    split
    · obtain ⟨p, hp, ht, h1, h2, h3⟩ := ih (gi_up f (k + 1) (f k))
      refine ⟨p, by omega, ht, fun j hj => ?_, fun j hj hk => ?_, fun j hj => ?_⟩
      · rw [h1 j hj]; exact if_neg (by omega)
      · by_cases e : j = k
        · subst e
          rw [h3 (j + 1) (by omega)]; exact if_pos rfl
        · rw [h2 j hj (by omega)]; exact if_neg (by omega)
      · rw [h3 j (by omega)]; exact if_neg (by omega)
    · refine ⟨k + 1, Nat.le_refl _, if_pos rfl, fun j hj => if_neg (by omega), fun j hj hk => absurd hj (by omega), fun j hj => if_neg (by omega)⟩
/-! ===== final times ===== -/
def gt_p (D : gd_D) (x w z : Nat) : Bool := (gd_mk D z == gd_mk D w) && gd_ub D z w && gd_ub D x z
def gt_ft (D : gd_D) (x w : Nat) : Int32 := gd_tm D (gl_fst (gt_p D x w) w)
def gt_lt (t e : Int32) : Bool := decide (t < e)
def gt_st (fm : Nat → Bool) (ft : Nat → Int32) : Nat → Nat × (Nat → Int32)
  | 0 => (0, fun _ => 0)
  | w + 1 => if fm w = true then ((gt_st fm ft w).1 + 1, gi_ins (gt_lt (ft w)) (ft w) (gt_st fm ft w).1 (gt_st fm ft w).2) else gt_st fm ft w
def gt_fi (D : gd_D) (n g x r : Nat) : Int32 := (gt_st (gs_fm D n g r) (gt_ft D x) n).2 ((gt_st (gs_fm D n g r) (gt_ft D x) n).1 / 2)
theorem gt_num (fm : Nat → Bool) (ft : Nat → Int32) : ∀ n, (gt_st fm ft n).1 = gc_cnt fm n := by
  intro n
  induction n with
  | zero => rfl
  | succ n ih =>
    rw [gt_st, gc_cnt]
    split
    · show _ + 1 = _ + 1
      rw [ih]
    · rw [ih]; rfl
theorem gt_t {fm : Nat → Bool} {ft : Nat → Int32} {w : Nat} (h : fm w = true) : gt_st fm ft (w + 1) = ((gt_st fm ft w).1 + 1, gi_ins (gt_lt (ft w)) (ft w) (gt_st fm ft w).1 (gt_st fm ft w).2) := by rw [gt_st, if_pos h]
theorem gt_f {fm : Nat → Bool} {ft : Nat → Int32} {w : Nat} (h : fm w = false) : gt_st fm ft (w + 1) = gt_st fm ft w := by rw [gt_st, if_neg (by rw [h]; decide)]
theorem gt_rest {fm : Nat → Bool} {ft : Nat → Int32} {w : Nat} : ∀ d, (∀ i, w ≤ i → i < w + d → fm i = false) → gt_st fm ft (w + d) = gt_st fm ft w := by
  intro d
  induction d with
  | zero => intro _; rfl
  | succ d ih => intro h; exact (gt_f (h (w + d) (by omega) (by omega))).trans (ih fun i a b => h i a (by omega))
/-! at most four famous ones in a round -/
theorem gs_fm_le {D : gd_D} {n g : Nat} (I : gd_Inv D n g) (r : Nat) : gc_cnt (gs_fm D n g r) n ≤ 4 := by
  obtain ⟨hn, hg, hmk, hrd, hr1, hu, huu, hw, hm, hz⟩ := I
  rw [← gc_mem_eq (gd_mk D) (gs_fm D n g r) n (fun z _ _ => hmk z)]
  · exact gc_mem_le _ _ _
  · intro a b hab hb ha hb2 e
    unfold gs_fm at ha hb2
    rw [Bool.and_eq_true, beq_iff_eq, beq_iff_eq] at ha hb2
    have := (hm a b hab hb e).2 (gf_F_w hb2.1)
    omega
/-! a settled round has a famous one -/
theorem gs_fm_pos {D : gd_D} {n g r : Nat} (h : gs_ok D n g r = true) : 0 < gc_cnt (gs_fm D n g r) n := by
  unfold gs_ok at h
  rw [Bool.and_eq_true] at h
  obtain ⟨z, hz, e⟩ := (gc_any_iff _ _).mp h.2
  exact gc_cnt_pos hz e
/-! ===== the order ===== -/
def go_bf (R : Nat → Nat) (fn : Nat → Int32) (x e : Nat) : Bool := if R x = R e then decide (fn x < fn e) else decide (R x < R e)
def go_st (R : Nat → Nat) (fn : Nat → Int32) : Nat → Nat × (Nat → Nat)
  | 0 => (0, fun _ => 0)
  | x + 1 => if R x = 0 then go_st R fn x else ((go_st R fn x).1 + 1, gi_ins (go_bf R fn x) x (go_st R fn x).1 (go_st R fn x).2)
theorem go_t {R : Nat → Nat} {fn : Nat → Int32} {x : Nat} (h : R x ≠ 0) : go_st R fn (x + 1) = ((go_st R fn x).1 + 1, gi_ins (go_bf R fn x) x (go_st R fn x).1 (go_st R fn x).2) := by rw [go_st, if_neg h]
theorem go_f {R : Nat → Nat} {fn : Nat → Int32} {x : Nat} (h : R x = 0) : go_st R fn (x + 1) = go_st R fn x := by rw [go_st, if_pos h]
theorem go_is (R : Nat → Nat) (fn : Nat → Int32) : ∀ x, (go_st R fn x).1 ≤ x ∧ (∀ j, j < (go_st R fn x).1 → (go_st R fn x).2 j < x ∧ R ((go_st R fn x).2 j) ≠ 0) ∧ (∀ i j, i < j → j < (go_st R fn x).1 → (go_st R fn x).2 i ≠ (go_st R fn x).2 j) ∧ (∀ y, y < x → R y ≠ 0 → ∃ j, j < (go_st R fn x).1 ∧ (go_st R fn x).2 j = y) := by
  intro x
  induction x with
  | zero => exact ⟨Nat.le_refl _, fun j hj => absurd hj (Nat.not_lt_zero _), fun i j _ hj => absurd hj (Nat.not_lt_zero _), fun y hy => absurd hy (Nat.not_lt_zero _)⟩
  | succ x ih =>
    obtain ⟨i1, i2, i3, i4⟩ := ih
    by_cases h : R x = 0
    · rw [go_f h]
      refine ⟨by omega, fun j hj => ⟨by have := (i2 j hj).1; omega, (i2 j hj).2⟩, i3, fun y hy hR => ?_⟩
      by_cases e : y = x
      · subst e; exact absurd h hR
      · exact i4 y (by omega) hR
    · rw [go_t h]
      generalize go_st R fn x = s at i1 i2 i3 i4 ⊢
      obtain ⟨k, f⟩ := s
      dsimp only at i1 i2 i3 i4 ⊢
      obtain ⟨p, hp, ht, d1, d2, -⟩ := gi_desc (go_bf R fn x) x k f
      generalize gi_ins (go_bf R fn x) x k f = f' at ht d1 d2 ⊢
      have cs : ∀ j, j < k + 1 → (j = p ∧ f' j = x) ∨ (∃ i, i < k ∧ f' j = f i ∧ ((j < p ∧ i = j) ∨ (p < j ∧ j = i + 1))) := by
        intro j hj
        rcases Nat.lt_trichotomy j p with l | l | l
        · exact Or.inr ⟨j, by omega, d1 j l, Or.inl ⟨l, rfl⟩⟩
        · subst l; exact Or.inl ⟨rfl, ht⟩
        · obtain ⟨i, rfl⟩ : ∃ i, j = i + 1 := ⟨j - 1, by omega⟩
          exact Or.inr ⟨i, by omega, d2 i (by omega) (by omega), Or.inr ⟨l, rfl⟩⟩
      refine ⟨by omega, fun j hj => ?_, fun i j hij hj => ?_, fun y hy hR => ?_⟩
      · rcases cs j hj with ⟨_, e⟩ | ⟨i, hi, e, _⟩
        · rw [e]; exact ⟨by omega, h⟩
        · rw [e]; exact ⟨by have := (i2 i hi).1; omega, (i2 i hi).2⟩
      · rcases cs i (by omega) with ⟨a1, e1⟩ | ⟨a, ha, e1, c1⟩ <;> rcases cs j hj with ⟨b1, e2⟩ | ⟨b, hb, e2, c2⟩
        · omega
        · rw [e1, e2]; have := (i2 b hb).1; omega
        · rw [e1, e2]; have := (i2 a ha).1; omega
        · rw [e1, e2]; exact i3 a b (by omega) hb
      · by_cases e : y = x
        · subst e; exact ⟨p, by omega, ht⟩
        · obtain ⟨j, hj, ej⟩ := i4 y (by omega) hR
          by_cases l : j < p
          · exact ⟨j, by omega, (d1 j l).trans ej⟩
          · exact ⟨j + 1, by omega, (d2 j (by omega) hj).trans ej⟩
/-! the final time of a received event, and the order of all -/
def go_fn (D : gd_D) (n g x : Nat) : Int32 := gt_fi D n g x (gr_R D n g x)
def go_O (D : gd_D) (n g : Nat) : Nat × (Nat → Nat) := go_st (gr_R D n g) (go_fn D n g) n
end
section
/-! ===== a new event: number n, maker m, parents own and other, time t, coin c ===== -/
def gm_kn (D : gd_D) : Option Nat → Int64
  | none => 0
  | some p => gd_us D p
def gm_rp (D : gd_D) : Option Nat → Nat
  | none => 0
  | some p => gd_rd D p
def gm_U (D : gd_D) (n : Nat) (own other : Option Nat) : Int64 := ((1 : Int64) <<< ((nI n).toInt64 &&& 63)) ||| gm_kn D own ||| gm_kn D other
def gm_c (mk : Nat → Nat) (us : Nat → Int64) (n x : Nat) : Bool := decide (3 ≤ gc_mem mk (fun z => gb (us n) z && gb (us z) x) (n + 1))
def gm_W (D : gd_D) (n m : Nat) (own other : Option Nat) : Int64 := gw_set (gm_c (gi_up (gd_mk D) n m) (gi_up (gd_us D) n (gm_U D n own other)) n) (n + 1)
def gm_r0 (D : gd_D) (own other : Option Nat) : Nat := if gm_rp D other < gm_rp D own then gm_rp D own else gm_rp D other
def gm_ps (D : gd_D) (W : Int64) (r x : Nat) : Bool := gd_wi D x && (gd_rd D x == r) && gb W x
def gm_r (D : gd_D) (n m : Nat) (own other : Option Nat) : Nat := if gm_r0 D own other = 0 ∨ 3 ≤ gc_cnt (gm_ps D (gm_W D n m own other) (gm_r0 D own other)) n then gm_r0 D own other + 1 else gm_r0 D own other
def gm_w (D : gd_D) (n m : Nat) (own other : Option Nat) : Bool := decide (gm_rp D own < gm_r D n m own other)
def gm_g (D : gd_D) (n g m : Nat) (own other : Option Nat) : Nat := if g < gm_r D n m own other then gm_r D n m own other else g
def gm_D (D : gd_D) (n m : Nat) (own other : Option Nat) (t : Int32) (c : Bool) : gd_D :=
  (gi_up (gd_mk D) n m, gi_up (gd_tm D) n t, gi_up (gd_cn D) n c, gi_up (gd_us D) n (gm_U D n own other), gi_up (gd_ws D) n (gm_W D n m own other), gi_up (gd_rd D) n (gm_r D n m own other), gi_up (gd_wi D) n (gm_w D n m own other))
def gm_own (D : gd_D) (n m : Nat) : Option Nat → Prop
  | none => ∀ j, j < n → gd_mk D j ≠ m
  | some p => p < n ∧ gd_mk D p = m ∧ ∀ j, p < j → j < n → gd_mk D j ≠ m
def gm_lt (n : Nat) : Option Nat → Prop
  | none => True
  | some p => p < n
theorem gm_own_lt {D : gd_D} {n m : Nat} {own : Option Nat} (h : gm_own D n m own) : gm_lt n own := by
  cases own with
  | none => trivial
  | some p => exact h.1
theorem gm_r0_own (D : gd_D) (own other : Option Nat) : gm_rp D own ≤ gm_r0 D own other := by unfold gm_r0; split <;> omega
theorem gm_r_r0 (D : gd_D) (n m : Nat) (own other : Option Nat) : gm_r0 D own other ≤ gm_r D n m own other ∧ gm_r D n m own other ≤ gm_r0 D own other + 1 ∧ 1 ≤ gm_r D n m own other := by
  unfold gm_r
  split
  · omega
  · rename_i h
    have : ¬ gm_r0 D own other = 0 := fun e => h (Or.inl e)
    omega
theorem gm_rp_le {D : gd_D} {n g : Nat} (I : gd_Inv D n g) (own : Option Nat) : gm_rp D own ≤ g := by
  cases own with
  | none => exact Nat.zero_le _
  | some p => exact I.2.2.2.1 p
theorem gm_r0_le {D : gd_D} {n g : Nat} (I : gd_Inv D n g) (own other : Option Nat) : gm_r0 D own other ≤ g := by
  have a := gm_rp_le I own
  have b := gm_rp_le I other
  unfold gm_r0; split <;> assumption
theorem gm_kn_bit {D : gd_D} {n g : Nat} (I : gd_Inv D n g) {p : Option Nat} (hp : gm_lt n p) {x : Nat} (h : gb (gm_kn D p) x = true) : x < n := by
  cases p with
  | none => rw [gm_kn, gb_0] at h; cases h
  | some q =>
    have hq : q < n := hp
    have := I.2.2.2.2.2.1 q hq x h
    omega
theorem gm_U_bit {D : gd_D} {n g : Nat} (I : gd_Inv D n g) (hn : n < 48) {own other : Option Nat} (h1 : gm_lt n own) (h2 : gm_lt n other) {x : Nat} (h : gb (gm_U D n own other) x = true) : x ≤ n := by
  unfold gm_U at h
  rw [gb_or, gb_or, gb_one (by omega), Bool.or_eq_true, Bool.or_eq_true, beq_iff_eq] at h
  rcases h with (h | h) | h
  · omega
  · have := gm_kn_bit I h1 h; omega
  · have := gm_kn_bit I h2 h; omega
theorem gm_U_own {D : gd_D} {n : Nat} (hn : n < 48) {own other : Option Nat} : gb (gm_U D n own other) n = true := by
  unfold gm_U
  rw [gb_or, gb_or, gb_one (by omega), beq_self_eq_true, Bool.true_or, Bool.true_or]
theorem gm_W_bit {D : gd_D} {n m : Nat} (hn : n < 48) {own other : Option Nat} {x : Nat} (h : gb (gm_W D n m own other) x = true) : x ≤ n := by
  unfold gm_W at h
  rw [gw_bit _ _ (by omega), Bool.and_eq_true, decide_eq_true_eq] at h
  omega
theorem gm_inv {D : gd_D} {n g m : Nat} {own other : Option Nat} {t : Int32} {c : Bool} (I : gd_Inv D n g) (hn : n < 48) (hm : m < 4) (ho : gm_own D n m own) (h2 : gm_lt n other) : gd_Inv (gm_D D n m own other t c) (n + 1) (gm_g D n g m own other) := by
  have h1 := gm_own_lt ho
  have hr := gm_r_r0 D n m own other
  have hr0 := gm_r0_le I own other
  have hro := gm_r0_own D own other
  have Iu : ∀ x, gb (gm_U D n own other) x = true → x ≤ n := fun x hx => gm_U_bit I hn h1 h2 hx
  obtain ⟨i1, i2, i3, i4, i5, i6, i7, i8, i9, i10⟩ := I
  have hg : g ≤ gm_g D n g m own other ∧ gm_r D n m own other ≤ gm_g D n g m own other ∧ gm_g D n g m own other ≤ n + 1 := by unfold gm_g; split <;> omega
  refine ⟨by omega, hg.2.2, fun j => ?_, fun j => ?_, fun j hj => ?_, fun y hy x hx => ?_, fun y hy => ?_, fun y hy x hx => ?_, fun x y hxy hy e => ?_, fun j hj => ?_⟩
  · show gi_up (gd_mk D) n m j < 4
    by_cases e : j = n
    · subst e; rw [gi_us]; exact hm
    · rw [gi_un e]; exact i3 j
  · show gi_up (gd_rd D) n _ j ≤ _
    by_cases e : j = n
    · subst e; rw [gi_us]; exact hg.2.1
    · rw [gi_un e]; exact Nat.le_trans (i4 j) hg.1
  · show 1 ≤ gi_up (gd_rd D) n _ j
    by_cases e : j = n
    · subst e; rw [gi_us]; exact hr.2.2
    · rw [gi_un e]; exact i5 j (by omega)
  · have hx : gb (gi_up (gd_us D) n (gm_U D n own other) y) x = true := hx
    by_cases e : y = n
    · subst e; rw [gi_us] at hx; exact Iu x hx
    · rw [gi_un e] at hx; exact i6 y (by omega) x hx
  · show gb (gi_up (gd_us D) n (gm_U D n own other) y) y = true
    by_cases e : y = n
    · subst e; rw [gi_us]; exact gm_U_own hn
    · rw [gi_un e]; exact i7 y (by omega)
  · have hx : gb (gi_up (gd_ws D) n (gm_W D n m own other) y) x = true := hx
    by_cases e : y = n
    · subst e; rw [gi_us] at hx; exact gm_W_bit hn hx
    · rw [gi_un e] at hx; exact i8 y (by omega) x hx
  · have e3 : gi_up (gd_mk D) n m x = gi_up (gd_mk D) n m y := e
    clear e
    show gi_up (gd_rd D) n _ x ≤ gi_up (gd_rd D) n _ y ∧ (gi_up (gd_wi D) n _ y = true → gi_up (gd_rd D) n _ x < gi_up (gd_rd D) n _ y)
    have hxn : x ≠ n := by omega
    rw [gi_un hxn] at e3
    rw [gi_un hxn]
    by_cases ey : y = n
    · subst ey
      rw [gi_us] at e3
      rw [gi_us, gi_us]
      cases own with
      | none => exact absurd e3 (ho x hxy)
      | some p =>
        obtain ⟨p1, p2, p3⟩ := ho
        have hp : gm_rp D (some p) = gd_rd D p := rfl
        have hxp : gd_rd D x ≤ gd_rd D p := by
          rcases Nat.lt_trichotomy x p with l | l | l
          · exact (i9 x p l p1 (e3.trans p2.symm)).1
          · subst l; exact Nat.le_refl _
          · exact absurd e3 (p3 x l hxy)
        refine ⟨by omega, fun hw => ?_⟩
        unfold gm_w at hw
        rw [decide_eq_true_eq] at hw
        omega
    · rw [gi_un ey] at e3
      rw [gi_un ey, gi_un ey]
      exact i9 x y hxy (by omega) e3
  · show gi_up (gd_wi D) n _ j = false
    rw [gi_un (show j ≠ n by omega)]; exact i10 j (by omega)
/-! the voters, as the component keeps them -/
def gv_ok (D : gd_D) (n : Nat) (vf : Nat → Int64) : Prop := ∀ y, y < n → ∀ z, gb (vf y) z = gd_vo D z y
def gm_V (D : gd_D) (n m : Nat) (own other : Option Nat) : Int64 := gw_set (gm_ps D (gm_W D n m own other) (gm_r D n m own other - 1)) n
theorem gv_make {D : gd_D} {n g m : Nat} {own other : Option Nat} {t : Int32} {c : Bool} {vf : Nat → Int64} (I : gd_Inv D n g) (hn : n < 48) (h : gv_ok D n vf) : gv_ok (gm_D D n m own other t c) (n + 1) (gi_up vf n (gm_V D n m own other)) := by
  obtain ⟨i1, i2, i3, i4, i5, i6, i7, i8, i9, i10⟩ := I
  have hr := gm_r_r0 D n m own other
  intro y hy z
  show gb (gi_up vf n (gm_V D n m own other) y) z = (gi_up (gd_wi D) n (gm_w D n m own other) z && (gi_up (gd_rd D) n (gm_r D n m own other) z + 1 == gi_up (gd_rd D) n (gm_r D n m own other) y) && gb (gi_up (gd_ws D) n (gm_W D n m own other) y) z)
  by_cases ey : y = n
  · subst ey
    rw [gi_us, gi_us, gi_us]
    unfold gm_V
    rw [gw_bit _ _ (by omega)]
    by_cases ez : z = y
    · subst ez
      rw [gi_us, gi_us, decide_eq_false (by omega), Bool.false_and]
      have : (gm_r D z m own other + 1 == gm_r D z m own other) = false := by simp
      rw [this, Bool.and_false, Bool.false_and]
    · rw [gi_un ez, gi_un ez]
      by_cases l : z < y
      · rw [decide_eq_true l, Bool.true_and]
        unfold gm_ps
        have : (gd_rd D z == gm_r D y m own other - 1) = (gd_rd D z + 1 == gm_r D y m own other) := by
          by_cases q : gd_rd D z + 1 = gm_r D y m own other
          · rw [beq_iff_eq.mpr q, beq_iff_eq]; omega
          · rw [beq_eq_false_iff_ne.mpr q, beq_eq_false_iff_ne]; omega
        rw [this]
      · rw [decide_eq_false l, i10 z (by omega), Bool.false_and, Bool.false_and, Bool.false_and]
  · rw [gi_un ey, gi_un ey, gi_un ey, h y (by omega) z]
    by_cases ez : z = n
    · subst ez
      unfold gd_vo
      rw [i10 z (Nat.le_refl _), Bool.false_and, Bool.false_and]
      have : gb (gd_ws D y) z = false := by
        cases q : gb (gd_ws D y) z with
        | false => rfl
        | true => exact absurd (i8 y (by omega) z q) (by omega)
      rw [this, Bool.and_false]
    · rw [gi_un ez, gi_un ez]; rfl
/-! sets, counted -/
theorem gw_cnt (c : Nat → Bool) {k : Nat} (hk : k ≤ 48) : gc_cnt (gb (gw_set c k)) 48 = gc_cnt c k := by
  rw [gc_cnt_ext (p := gb (gw_set c k)) hk (fun z h1 h2 => by rw [gw_bit c k (by omega), decide_eq_false (by omega), Bool.false_and])]
  exact gc_cnt_congr fun z hz => by rw [gw_bit c k (by omega), decide_eq_true hz, Bool.true_and]
theorem gw_mem (mk : Nat → Nat) (c : Nat → Bool) {k : Nat} (hk : k ≤ 48) : gc_mem mk (gb (gw_set c k)) 48 = gc_mem mk c k :=
  gc_cnt_congr fun m _ => by
    rw [gc_any_ext (p := fun z => gb (gw_set c k) z && (mk z == m)) hk (fun z h1 h2 => by
      show (gb (gw_set c k) z && (mk z == m)) = false
      rw [gw_bit c k (by omega), decide_eq_false (by omega), Bool.false_and, Bool.false_and])]
    exact gc_any_congr fun z hz => by rw [gw_bit c k (by omega), decide_eq_true hz, Bool.true_and]
theorem gm_inj {D : gd_D} {n g : Nat} (I : gd_Inv D n g) (W : Int64) (r : Nat) : gc_mem (gd_mk D) (gm_ps D W r) n = gc_cnt (gm_ps D W r) n := by
  obtain ⟨i1, i2, i3, i4, i5, i6, i7, i8, i9, i10⟩ := I
  refine gc_mem_eq _ _ n (fun z _ _ => i3 z) (fun a b hab hb ha hb2 e => ?_)
  unfold gm_ps at ha hb2
  rw [Bool.and_eq_true, Bool.and_eq_true, beq_iff_eq] at ha hb2
  have := (i9 a b hab hb e).2 hb2.1.1
  omega
theorem gc_mem48 {mk : Nat → Nat} (hm : ∀ j, mk j < 4) (p : Nat → Bool) (n : Nat) : gc_cnt (fun m => gc_any (fun z => p z && (mk z == m)) n) 48 = gc_mem mk p n :=
  gc_cnt_ext (by omega) fun m h1 h2 => (gc_any_false _ _).mpr fun z _ => by
    have : (mk z == m) = false := by rw [beq_eq_false_iff_ne]; have := hm z; omega
    rw [this, Bool.and_false]
/-! the vote, step by step -/
theorem gf_v_1 {D : gd_D} {x y : Nat} (h : gd_rd D y = gd_rd D x + 1) : gf_v D x y = gd_ub D x y := by
  unfold gf_v
  rw [h, Nat.add_sub_cancel_left]
  rfl
theorem gf_v_s {D : gd_D} {x y : Nat} (h : gd_rd D x + 2 ≤ gd_rd D y) : gf_v D x y = if (gd_rd D y - gd_rd D x) % 5 = 0 ∧ gf_en D (gf_vt D x (gd_rd D y - gd_rd D x - 1)) y = false then gd_cn D y else gf_mo D (gf_vt D x (gd_rd D y - gd_rd D x - 1)) y :=
  gf_vt_s (by omega)
theorem gf_vo_v {D : gd_D} {x y z : Nat} (h : gd_vo D z y = true) : gf_vt D x (gd_rd D y - gd_rd D x - 1) z = gf_v D x z := by
  unfold gd_vo at h
  rw [Bool.and_eq_true, Bool.and_eq_true, beq_iff_eq] at h
  unfold gf_v
  have : gd_rd D y - gd_rd D x - 1 = gd_rd D z - gd_rd D x := by omega
  rw [this]
theorem gf_cnt_v {D : gd_D} {x y : Nat} {v : Nat → Bool} (h : ∀ z, z < 48 → gd_vo D z y = true → v z = gf_v D x z) : gf_yes D v y = gf_yes D (gf_vt D x (gd_rd D y - gd_rd D x - 1)) y ∧ gf_no D v y = gf_no D (gf_vt D x (gd_rd D y - gd_rd D x - 1)) y :=
  ⟨gf_yes_congr fun z hz hv => (h z hz hv).trans (gf_vo_v hv).symm, gf_no_congr fun z hz hv => (h z hz hv).trans (gf_vo_v hv).symm⟩
theorem gf_dec_1 {D : gd_D} {x y : Nat} (h : gd_rd D y = gd_rd D x + 1) : gf_dec D x y = false := by
  unfold gf_dec
  have : decide (2 ≤ gd_rd D y - gd_rd D x) = false := decide_eq_false (by omega)
  rw [this, Bool.false_and, Bool.false_and]
theorem gf_dec_s {D : gd_D} {x y : Nat} (h : gd_rd D x + 2 ≤ gd_rd D y) : gf_dec D x y = (decide ((gd_rd D y - gd_rd D x) % 5 ≠ 0) && gf_en D (gf_vt D x (gd_rd D y - gd_rd D x - 1)) y) := by
  unfold gf_dec
  have : decide (2 ≤ gd_rd D y - gd_rd D x) = true := decide_eq_true (by omega)
  rw [this, Bool.true_and]
/-! a decided one votes as most do -/
theorem gf_dec_v {D : gd_D} {x y : Nat} (h : gf_dec D x y = true) : gf_v D x y = gf_mo D (gf_vt D x (gd_rd D y - gd_rd D x - 1)) y := by
  unfold gf_dec at h
  rw [Bool.and_eq_true, Bool.and_eq_true, decide_eq_true_eq, decide_eq_true_eq] at h
  rw [gf_v_s (by omega), if_neg (fun z => h.1.2 z.1)]
/-! the first time: the reference scans all, the component below w alone -/
theorem gt_ft_all {D : gd_D} {n g x w z : Nat} (I : gd_Inv D n g) (hw : w < n) (hx : gd_ub D x w = true) (hz : gt_p D x w z = true) (h : ∀ i, i < z → gt_p D x w i = false) : gt_ft D x w = gd_tm D z := by
  have hpw : gt_p D x w w = true := by
    unfold gt_p
    rw [beq_self_eq_true, I.2.2.2.2.2.2.1 w hw, hx]
    rfl
  unfold gt_ft
  rcases Nat.lt_trichotomy z w with l | l | l
  · rw [gl_some l hz h]
  · subst l; rw [gl_none h]
  · rw [h w l] at hpw; cases hpw
/-! the reference scans the rounds downwards -/
def gr_D (p : Nat → Bool) (S r v : Nat) : Prop := (v = 0 ∧ ∀ q, r < q → q ≤ S → p q = false) ∨ (r < v ∧ v ≤ S ∧ p v = true ∧ ∀ q, r < q → q < v → p q = false)
theorem gr_D_0 (p : Nat → Bool) (S : Nat) : gr_D p S S 0 := Or.inl ⟨rfl, fun q h1 h2 => absurd h2 (by omega)⟩
theorem gr_D_t {p : Nat → Bool} {S r v : Nat} (hr : r + 1 ≤ S) (hp : p (r + 1) = true) : gr_D p S r (r + 1) := Or.inr ⟨by omega, hr, hp, fun q h1 h2 => absurd h2 (by omega)⟩
theorem gr_D_f {p : Nat → Bool} {S r v : Nat} (h : gr_D p S (r + 1) v) (hp : p (r + 1) = false) : gr_D p S r v := by
  rcases h with ⟨e, h⟩ | ⟨h1, h2, h3, h4⟩
  · refine Or.inl ⟨e, fun q a b => ?_⟩
    by_cases e2 : q = r + 1
    · subst e2; exact hp
    · exact h q (by omega) b
  · refine Or.inr ⟨by omega, h2, h3, fun q a b => ?_⟩
    by_cases e2 : q = r + 1
    · subst e2; exact hp
    · exact h4 q (by omega) b
theorem gr_D_e {p : Nat → Bool} {S v : Nat} (h : gr_D p S 0 v) : gr_lo p S = v := by
  rcases h with ⟨e, h⟩ | ⟨h1, h2, h3, h4⟩
  · rw [e]; exact gr_lo_0 fun q a b => h q (by omega) b
  · exact gr_lo_1 (by omega) h2 h3 fun q a b => h4 q (by omega) b
/-! sums and counts of the questions -/
def gg_sum (e : Nat → Int32) : Nat → Int32
  | 0 => 0
  | k + 1 => gg_sum e k + (nI k + 1) * (e k + 1)
theorem gg_congr {e f : Nat → Int32} {k : Nat} (h : ∀ j, j < k → e j = f j) : gg_sum e k = gg_sum f k := by
  induction k with
  | zero => rfl
  | succ k ih => rw [gg_sum, gg_sum, ih (fun j hj => h j (by omega)), h k (by omega)]
def gg_w (D : gd_D) (r : Int32) (x : Nat) : Bool := gd_wi D x && decide (nI (gd_rd D x) = r)
end
section
/-! ===== the component: its small readers, each with a general post ===== -/
theorem gd_br {b : Bool} {A B : Prop} (f : b = false → A) (g : b = true → B) : (gd_bi b = 0 → A) ∧ (¬ gd_bi b = 0 → B) := by
  cases b
  · exact ⟨fun _ => f rfl, fun h => absurd rfl h⟩
  · exact ⟨fun h => absurd h (by decide), fun _ => g rfl⟩
theorem gd_dec {a b : Nat} (ha : a < 2 ^ 31) (hb : b < 2 ^ 31) : decide (nI a = nI b) = (a == b) := by
  by_cases e : a = b
  · subst e; simp
  · rw [beq_eq_false_iff_ne.mpr e, decide_eq_false (fun z => e ((nI_eq ha hb).mp z))]
theorem gd_ne2 {p : Nat} (h : p < 2 ^ 31) : ¬ nI p = -2 := fun e => nI_pos h (by rw [e]; decide)
theorem gd_ne1 {p : Nat} (h : p < 2 ^ 31) : ¬ nI p = -1 := fun e => nI_pos h (by rw [e]; decide)
def gx_ro (rn : Nat → Nat) : Option Nat → Nat
  | none => 0
  | some p => rn p
def gx_uo (us : Nat → Int64) : Option Nat → Int64
  | none => 0
  | some p => us p
section
variable {en gr st oc : Int32} {yv : Int64} {mk tm cn : Nat → Int32} {us ws : Nat → Int64} {rd wi : Nat → Int32} {vf : Nat → Int64} {fa de rc fi ev pl la so : Nat → Int32}
theorem gx_un {post : Int32 → Prop} {x y : Nat} (hx : x < 48) (hy : y < 48) (h : post (gd_bi (gb (us y) x))) : wpX_isUnder post (en, gr, st, oc, yv, mk, tm, cn, us, ws, rd, wi, vf, fa, de, rc, fi, ev, pl, la, so) (nI x) (nI y) := by
  refine ⟨vp_in_nI hy (by omega), ?_⟩
  rw [nI_clamp (show y < 2 ^ 31 by omega)]
  cases e : gb (us y) x with
  | false => rw [e] at h; exact br_t ((gb_test _ (by omega)).mpr e) h
  | true => rw [e] at h; exact br_f (fun z => by rw [(gb_test _ (by omega)).mp z] at e; cases e) h
theorem gx_wu {post : Int32 → Prop} {x y : Nat} (hx : x < 48) (hy : y < 48) (h : post (gd_bi (gb (ws y) x))) : wpX_isWellUnder post (en, gr, st, oc, yv, mk, tm, cn, us, ws, rd, wi, vf, fa, de, rc, fi, ev, pl, la, so) (nI x) (nI y) := by
  refine ⟨vp_in_nI hy (by omega), ?_⟩
  rw [nI_clamp (show y < 2 ^ 31 by omega)]
  cases e : gb (ws y) x with
  | false => rw [e] at h; exact br_t ((gb_test _ (by omega)).mpr e) h
  | true => rw [e] at h; exact br_f (fun z => by rw [(gb_test _ (by omega)).mp z] at e; cases e) h
theorem gx_cn5 {post : Int32 → Prop} {s : Int64} (h : post (nI (gc_cnt (gb s) 48))) : ∀ d i f, i + d = 48 → d < f → wX_countIn_5 post s en gr st oc yv mk tm cn us ws rd wi vf fa de rc fi ev pl la so f (nI (gc_cnt (gb s) i)) (nI i) := by
  intro d
  induction d with
  | zero =>
    intro i f hi hf
    obtain ⟨f, rfl⟩ : ∃ k, f = k + 1 := ⟨f - 1, by omega⟩
    rw [wX_countIn_5]
    have e : i = 48 := by omega
    subst e
    exact br_t (nI_le (Nat.le_refl 48) (by omega)) h
  | succ d ih =>
    intro i f hi hf
    obtain ⟨f, rfl⟩ : ∃ k, f = k + 1 := ⟨f - 1, by omega⟩
    rw [wX_countIn_5]
    refine br_f (nI_ge (b := 48) (by omega) (by decide)) (nm_r (e' := nI (gc_cnt (gb s) (i + 1))) ?_ (nm_r (nI_1 i) (ih (i + 1) f (by omega) (by omega))))
    rw [gb_val s (show i < 64 by omega), nI_add]
    rfl
theorem gx_cn {post : Int32 → Prop} {s : Int64} (h : post (nI (gc_cnt (gb s) 48))) : wpX_countIn post (en, gr, st, oc, yv, mk, tm, cn, us, ws, rd, wi, vf, fa, de, rc, fi, ev, pl, la, so) s := ⟨49, gx_cn5 h 48 0 49 (by omega) (by omega)⟩
theorem gx_wo' {post : Int32 → Prop} {x k : Nat} {b : Bool} {r : Int32} (hx : x < 48) (hw : wi x = gd_bi b) (hr : rd x = nI k) (h : post (gd_bi (b && decide (nI k = r)))) : wpX_isWitnessOf post (en, gr, st, oc, yv, mk, tm, cn, us, ws, rd, wi, vf, fa, de, rc, fi, ev, pl, la, so) (nI x) r := by
  have c : (nI x).toNatClampNeg = x := nI_clamp (by omega)
  have v : vp_in (nI x) 48 := vp_in_nI hx (by omega)
  refine ⟨v, ?_⟩
  rw [c, hw, hr]
  refine gd_br (fun e => ?_) (fun e => ⟨v, ?_⟩)
  · subst e; exact h
  · subst e
    by_cases q : nI k = r
    · rw [decide_eq_true q] at h; exact br_t q h
    · rw [decide_eq_false q] at h; exact br_f q h
theorem gx_wo {post : Int32 → Prop} {x k r : Nat} {b : Bool} (hx : x < 48) (hw : wi x = gd_bi b) (hr : rd x = nI k) (hk : k < 2 ^ 31) (hr2 : r < 2 ^ 31) (h : post (gd_bi (b && (k == r)))) : wpX_isWitnessOf post (en, gr, st, oc, yv, mk, tm, cn, us, ws, rd, wi, vf, fa, de, rc, fi, ev, pl, la, so) (nI x) (nI r) :=
  gx_wo' hx hw hr (by rw [gd_dec hk hr2]; exact h)
theorem gx_rp {post : Int32 → Prop} {rn : Nat → Nat} {o : Option Nat} (ho : gm_lt 48 o) (hr : ∀ j, rd j = nI (rn j)) (h : post (nI (gx_ro rn o))) : wpX_roundOfParent post (en, gr, st, oc, yv, mk, tm, cn, us, ws, rd, wi, vf, fa, de, rc, fi, ev, pl, la, so) (gf_dv o) := by
  cases o with
  | none => exact br_t rfl h
  | some p =>
    have hp : p < 48 := ho
    refine br_f (gd_ne2 (by omega)) ⟨vp_in_nI hp (by omega), ?_⟩
    show post (rd (nI p).toNatClampNeg)
    rw [nI_clamp (by omega), hr]
    exact h
theorem gx_kn {post : Int64 → Prop} {o : Option Nat} (ho : gm_lt 48 o) (h : post (gx_uo us o)) : wpX_knownTo post (en, gr, st, oc, yv, mk, tm, cn, us, ws, rd, wi, vf, fa, de, rc, fi, ev, pl, la, so) (gf_dv o) := by
  cases o with
  | none => exact br_t rfl h
  | some p =>
    have hp : p < 48 := ho
    refine br_f (gd_ne2 (by omega)) ⟨vp_in_nI hp (by omega), ?_⟩
    show post (us (nI p).toNatClampNeg)
    rw [nI_clamp (by omega)]
    exact h
theorem gx_mb5 {post : Int32 → Prop} {N x y : Nat} {mn : Nat → Nat} (hN : N ≤ 48) (hx : x < 48) (hy : y < 48) (hm : ∀ j, mk j = nI (mn j)) (h4 : ∀ j, mn j < 4) (h : post (nI (gc_mem mn (fun z => gb (us y) z && gb (us z) x) N))) :
    ∀ d i f (s : Int64), i + d = N → d < f → (∀ m, gb s m = gc_any (fun z => (gb (us y) z && gb (us z) x) && (mn z == m)) i) → wX_membersBetween_5 post (nI x) (nI y) (nI N) gr st oc yv mk tm cn us ws rd wi vf fa de rc fi ev pl la so f s (nI i) := by
  intro d
  induction d with
  | zero =>
    intro i f s hi hf hs
    obtain ⟨f, rfl⟩ : ∃ k, f = k + 1 := ⟨f - 1, by omega⟩
    rw [wX_membersBetween_5]
    have e : i = N := by omega
    subst e
    refine br_t (nI_le (Nat.le_refl _) (by omega)) (gx_cn ?_)
    have e2 : gc_cnt (gb s) 48 = gc_mem mn (fun z => gb (us y) z && gb (us z) x) i := (gc_cnt_congr fun m _ => hs m).trans (gc_mem48 h4 _ _)
    rw [e2]
    exact h
  | succ d ih =>
    intro i f s hi hf hs
    obtain ⟨f, rfl⟩ : ∃ k, f = k + 1 := ⟨f - 1, by omega⟩
    rw [wX_membersBetween_5]
    have c : (nI i).toNatClampNeg = i := nI_clamp (by omega)
    have skip : (gb (us y) i && gb (us i) x) = false → wX_membersBetween_5 post (nI x) (nI y) (nI N) gr st oc yv mk tm cn us ws rd wi vf fa de rc fi ev pl la so f s (nI (i + 1)) := fun e =>
      ih (i + 1) f s (by omega) (by omega) (fun m => by rw [hs m, gc_any]; show _ = (_ || ((gb (us y) i && gb (us i) x) && _)); rw [e, Bool.false_and, Bool.or_false])
    refine br_f (nI_ge (by omega) (by omega)) (gx_un (by omega) hy (gd_br (fun e1 => nm_r (nI_1 i) (skip (by rw [e1]; rfl))) (fun e1 => gx_un hx (by omega) (gd_br (fun e2 => nm_r (nI_1 i) (skip (by rw [e2, Bool.and_false]))) (fun e2 => ⟨vp_in_nI (by omega) (by omega), ?_⟩)))))
    rw [c, hm]
    refine nm_e (nm_r (nI_1 i) (ih (i + 1) f _ (by omega) (by omega) (fun m => ?_)))
    have := h4 i
    rw [gb_or, gb_one (by omega), hs m, gc_any]
    show _ = (_ || ((gb (us y) i && gb (us i) x) && _))
    rw [e1, e2, Bool.true_and, Bool.true_and]
theorem gx_mb {post : Int32 → Prop} {N x y : Nat} {mn : Nat → Nat} (hN : N ≤ 48) (hx : x < 48) (hy : y < 48) (hm : ∀ j, mk j = nI (mn j)) (h4 : ∀ j, mn j < 4) (h : post (nI (gc_mem mn (fun z => gb (us y) z && gb (us z) x) N))) : wpX_membersBetween post (nI N, gr, st, oc, yv, mk, tm, cn, us, ws, rd, wi, vf, fa, de, rc, fi, ev, pl, la, so) (nI x) (nI y) :=
  ⟨N + 1, gx_mb5 hN hx hy hm h4 h N 0 (N + 1) 0 (by omega) (by omega) (fun m => gb_0 m)⟩
theorem gx_wk5 {post : Int64 → Prop} {n : Nat} {mn : Nat → Nat} (hN : n < 48) (hm : ∀ j, mk j = nI (mn j)) (h4 : ∀ j, mn j < 4) (h : post (gw_set (gm_c mn us n) (n + 1))) :
    ∀ d i f, i + d = n + 1 → d < f → wX_wellKnownTo_5 post (nI n) (nI (n + 1)) gr st oc yv mk tm cn us ws rd wi vf fa de rc fi ev pl la so f (gw_set (gm_c mn us n) i) (nI i) := by
  intro d
  induction d with
  | zero =>
    intro i f hi hf
    obtain ⟨f, rfl⟩ : ∃ k, f = k + 1 := ⟨f - 1, by omega⟩
    rw [wX_wellKnownTo_5]
    have e : i = n + 1 := by omega
    subst e
    exact br_t (nI_le (Nat.le_refl _) (by omega)) h
  | succ d ih =>
    intro i f hi hf
    obtain ⟨f, rfl⟩ : ∃ k, f = k + 1 := ⟨f - 1, by omega⟩
    rw [wX_wellKnownTo_5]
    have ih := ih (i + 1) f (by omega) (by omega)
    rw [gw_set] at ih
    refine br_f (nI_ge (by omega) (by omega)) (gx_mb (by omega) (by omega) hN hm h4 ?_)
    have hb := gc_mem_le mn (fun z => gb (us n) z && gb (us z) i) (n + 1)
    refine pk_lt _ 3 (fun l => nm_r (nI_1 i) ?_) (fun l => nm_e (nm_r (nI_1 i) ?_)) rfl rfl (by omega) (by omega)
    · rw [if_neg (by unfold gm_c; rw [decide_eq_true_eq]; omega)] at ih; exact ih
    · rw [if_pos (by unfold gm_c; rw [decide_eq_true_eq]; omega)] at ih; exact ih
theorem gx_wk {post : Int64 → Prop} {n : Nat} {mn : Nat → Nat} (hN : n < 48) (hm : ∀ j, mk j = nI (mn j)) (h4 : ∀ j, mn j < 4) (h : post (gw_set (gm_c mn us n) (n + 1))) : wpX_wellKnownTo post (nI (n + 1), gr, st, oc, yv, mk, tm, cn, us, ws, rd, wi, vf, fa, de, rc, fi, ev, pl, la, so) (nI n) :=
  ⟨n + 2, gx_wk5 hN hm h4 h (n + 1) 0 (n + 2) (by omega) (by omega)⟩
theorem gx_ww5 {post : Int64 → Prop} {y r : Nat} {rn : Nat → Nat} {wn : Nat → Bool} (hy : y < 48) (hrd : ∀ j, j < y → rd j = nI (rn j) ∧ rn j < 2 ^ 31) (hwi : ∀ j, j < y → wi j = gd_bi (wn j)) (hr : r < 2 ^ 31) (h : post (gw_set (fun x => wn x && (rn x == r) && gb (ws y) x) y)) :
    ∀ d i f, i + d = y → d < f → wX_witnessesWellUnder_5 post (nI y) (nI r) en gr st oc yv mk tm cn us ws rd wi vf fa de rc fi ev pl la so f (gw_set (fun x => wn x && (rn x == r) && gb (ws y) x) i) (nI i) := by
  intro d
  induction d with
  | zero =>
    intro i f hi hf
    obtain ⟨f, rfl⟩ : ∃ k, f = k + 1 := ⟨f - 1, by omega⟩
    rw [wX_witnessesWellUnder_5]
    have e : i = y := by omega
    subst e
    exact br_t (nI_le (Nat.le_refl _) (by omega)) h
  | succ d ih =>
    intro i f hi hf
    obtain ⟨f, rfl⟩ : ∃ k, f = k + 1 := ⟨f - 1, by omega⟩
    rw [wX_witnessesWellUnder_5]
    have ih := ih (i + 1) f (by omega) (by omega)
    rw [gw_set] at ih
    refine br_f (nI_ge (by omega) (by omega)) (gx_wo (by omega) (hwi i (by omega)) (hrd i (by omega)).1 (hrd i (by omega)).2 hr (gd_br (fun e1 => nm_r (nI_1 i) ?_) (fun e1 => gx_wu (by omega) hy (gd_br (fun e2 => nm_r (nI_1 i) ?_) (fun e2 => nm_e (nm_r (nI_1 i) ?_))))))
    · rw [e1, Bool.false_and, if_neg (by decide)] at ih; exact ih
    · rw [e2, Bool.and_false, if_neg (by decide)] at ih; exact ih
    · rw [e1, e2, Bool.true_and, if_pos rfl] at ih; exact ih
theorem gx_ww {post : Int64 → Prop} {y r : Nat} {rn : Nat → Nat} {wn : Nat → Bool} (hy : y < 48) (hrd : ∀ j, j < y → rd j = nI (rn j) ∧ rn j < 2 ^ 31) (hwi : ∀ j, j < y → wi j = gd_bi (wn j)) (hr : r < 2 ^ 31) (h : post (gw_set (fun x => wn x && (rn x == r) && gb (ws y) x) y)) : wpX_witnessesWellUnder post (en, gr, st, oc, yv, mk, tm, cn, us, ws, rd, wi, vf, fa, de, rc, fi, ev, pl, la, so) (nI y) (nI r) :=
  ⟨y + 1, gx_ww5 hy hrd hwi hr h y 0 (y + 1) (by omega) (by omega)⟩
end
end
section
/-! ===== the component: the round of a new event ===== -/
def gx_S (D : gd_D) (mk tm cn : Nat → Int32) (us ws : Nat → Int64) (rd wi : Nat → Int32) : Prop :=
  (∀ j, mk j = nI (gd_mk D j)) ∧ tm = gd_tm D ∧ (∀ j, cn j = gd_bi (gd_cn D j)) ∧ us = gd_us D ∧ ws = gd_ws D ∧ (∀ j, rd j = nI (gd_rd D j)) ∧ (∀ j, wi j = gd_bi (gd_wi D j))
theorem gm_rp_eq (D : gd_D) (o : Option Nat) : gx_ro (gd_rd D) o = gm_rp D o := by cases o <;> rfl
theorem gm_kn_eq (D : gd_D) (o : Option Nat) : gx_uo (gd_us D) o = gm_kn D o := by cases o <;> rfl
theorem gm_lt48 {n : Nat} (hn : n ≤ 48) {o : Option Nat} (h : gm_lt n o) : gm_lt 48 o := by
  cases o with
  | none => trivial
  | some p => exact Nat.lt_of_lt_of_le h hn
section
variable {en gr st oc : Int32} {yv : Int64} {mk tm cn : Nat → Int32} {us ws : Nat → Int64} {rd wi : Nat → Int32} {vf : Nat → Int64} {fa de rc fi ev pl la so : Nat → Int32}
theorem gx_pr82 {post : SX → Prop} {n R g : Nat} {w : Bool} {rn : Nat → Nat} {wn : Nat → Bool} (hn : n < 48) (hR : 1 ≤ R) (hR2 : R < 2 ^ 31) (hg : g < 2 ^ 31) (hrd : ∀ j, j < n → rd j = nI (rn j) ∧ rn j < 2 ^ 31) (hwi : ∀ j, j < n → wi j = gd_bi (wn j))
    (h : post (en, nI (if g < R then R else g), st, oc, yv, mk, tm, cn, us, ws, rd, upd wi n (gd_bi w), vp_updL vf n (gw_set (fun x => wn x && (rn x == R - 1) && gb (ws n) x) n), fa, de, rc, fi, ev, pl, la, so)) : wX_putInRound_82 post (nI n) (nI R) (gd_bi w) (nI n) en (nI g) st oc yv mk tm cn us ws rd wi vf fa de rc fi ev pl la so := by
  have c : (nI n).toNatClampNeg = n := nI_clamp (by omega)
  have v : vp_in (nI n) 48 := vp_in_nI hn (by omega)
  refine ⟨v, nm_r (e' := upd wi n (gd_bi w)) (by rw [c, gd_biV]) ?_⟩
  have e : nI R - 1 = nI (R - 1) := by
    obtain ⟨k, rfl⟩ : ∃ k, R = k + 1 := ⟨R - 1, by omega⟩
    exact nI_pred k
  rw [e]
  refine gx_ww hn hrd (fun j hj => (pk_un (by omega)).trans (hwi j hj)) (by omega) ⟨v, nm_r (by rw [c]) ?_⟩
  exact pk_le R g (fun l => by rw [if_neg (by omega)] at h; exact h) (fun l => by rw [if_pos l] at h; exact h)
theorem gx_pr57 {post : SX → Prop} {n R g ow : Nat} {rn : Nat → Nat} {wn : Nat → Bool} (hn : n < 48) (hR : 1 ≤ R) (hR2 : R < 2 ^ 31) (hg : g < 2 ^ 31) (how : ow < 2 ^ 31) (hrd : ∀ j, j < n → rd j = nI (rn j) ∧ rn j < 2 ^ 31) (hwi : ∀ j, j < n → wi j = gd_bi (wn j))
    (h : post (en, nI (if g < R then R else g), st, oc, yv, mk, tm, cn, us, ws, upd rd n (nI R), upd wi n (gd_bi (decide (ow < R))), vp_updL vf n (gw_set (fun x => wn x && (rn x == R - 1) && gb (ws n) x) n), fa, de, rc, fi, ev, pl, la, so)) : wX_putInRound_57 post (nI n) (nI ow) (nI R) en (nI g) st oc yv mk tm cn us ws rd wi vf fa de rc fi ev pl la so := by
  have c : (nI n).toNatClampNeg = n := nI_clamp (by omega)
  have v : vp_in (nI n) 48 := vp_in_nI hn (by omega)
  have hrd' : ∀ j, j < n → upd rd n (nI R) j = nI (rn j) ∧ rn j < 2 ^ 31 := fun j hj => ⟨(pk_un (by omega)).trans (hrd j hj).1, (hrd j hj).2⟩
  refine ⟨v, nm_r (e' := upd rd n (nI R)) (by rw [c]) (pk_le R ow (fun l => ?_) (fun l => ?_))⟩
  · rw [decide_eq_false (by omega)] at h
    exact gx_pr82 (w := false) hn hR hR2 hg hrd' hwi h
  · rw [decide_eq_true l] at h
    exact gx_pr82 (w := true) hn hR hR2 hg hrd' hwi h
theorem gx_pr {post : SX → Prop} {D : gd_D} {n g m : Nat} {o1 o2 : Option Nat} (hn : n < 48) (I : gd_Inv D n g) (hrd : ∀ j, rd j = nI (gd_rd D j)) (hwi : ∀ j, wi j = gd_bi (gd_wi D j)) (hW : ws n = gm_W D n m o1 o2) (h1 : gm_lt n o1) (h2 : gm_lt n o2)
    (h : post (en, nI (gm_g D n g m o1 o2), st, oc, yv, mk, tm, cn, us, ws, upd rd n (nI (gm_r D n m o1 o2)), upd wi n (gd_bi (gm_w D n m o1 o2)), vp_updL vf n (gm_V D n m o1 o2), fa, de, rc, fi, ev, pl, la, so)) : wpX_putInRound post (en, nI g, st, oc, yv, mk, tm, cn, us, ws, rd, wi, vf, fa, de, rc, fi, ev, pl, la, so) (nI n) (gf_dv o1) (gf_dv o2) := by
  have i48 := I.1
  have ig := I.2.1
  have a1 := gm_rp_le I o1
  have a2 := gm_rp_le I o2
  have hrdn : ∀ j, j < n → rd j = nI (gd_rd D j) ∧ gd_rd D j < 2 ^ 31 := fun j _ => ⟨hrd j, by have := I.2.2.2.1 j; omega⟩
  have hwin : ∀ j, j < n → wi j = gd_bi (gd_wi D j) := fun j _ => hwi j
  have main : wX_putInRound_28 post (nI n) (nI (gm_rp D o1)) (nI (gm_r0 D o1 o2)) en (nI g) st oc yv mk tm cn us ws rd wi vf fa de rc fi ev pl la so := by
    have r0 := gm_r0_le I o1 o2
    have rr := gm_r_r0 D n m o1 o2
    have fin : wX_putInRound_57 post (nI n) (nI (gm_rp D o1)) (nI (gm_r D n m o1 o2)) en (nI g) st oc yv mk tm cn us ws rd wi vf fa de rc fi ev pl la so := by
      refine gx_pr57 (rn := gd_rd D) (wn := gd_wi D) hn rr.2.2 (by omega) (by omega) (by omega) hrdn hwin ?_
      rw [hW]
      exact h
    refine gx_ww hn hrdn hwin (by omega) ?_
    rw [hW]
    refine pk_eq _ 0 (fun z => ?_) (fun z => gx_cn ?_) rfl rfl (by omega) (by omega)
    · have e : gm_r D n m o1 o2 = gm_r0 D o1 o2 + 1 := by unfold gm_r; exact if_pos (Or.inl z)
      rw [e] at fin
      exact nm_r (nI_1 _) fin
    · rw [gw_cnt _ (by omega)]
      have b := gc_cnt_le (fun x => gd_wi D x && (gd_rd D x == gm_r0 D o1 o2) && gb (gm_W D n m o1 o2) x) n
      refine pk_lt _ 3 (fun l => ?_) (fun l => ?_) rfl rfl (by omega) (by omega)
      · have e : gm_r D n m o1 o2 = gm_r0 D o1 o2 := by
          unfold gm_r
          refine if_neg (fun q => ?_)
          rcases q with q | q
          · exact z q
          · have q : 3 ≤ gc_cnt (fun x => gd_wi D x && (gd_rd D x == gm_r0 D o1 o2) && gb (gm_W D n m o1 o2) x) n := q
            omega
        rw [e] at fin
        exact fin
      · have e : gm_r D n m o1 o2 = gm_r0 D o1 o2 + 1 := by unfold gm_r; exact if_pos (Or.inr l)
        rw [e] at fin
        exact nm_r (nI_1 _) fin
  unfold wpX_putInRound
  refine gx_rp (gm_lt48 i48 h1) hrd ?_
  refine gx_rp (gm_lt48 i48 h2) hrd ?_
  rw [gm_rp_eq, gm_rp_eq]
  refine pk_le (gm_rp D o1) (gm_rp D o2) (fun l => ?_) (fun l => ?_)
  · have e : gm_r0 D o1 o2 = gm_rp D o2 := by unfold gm_r0; exact if_neg (by omega)
    rw [e] at main
    exact main
  · have e : gm_r0 D o1 o2 = gm_rp D o1 := by unfold gm_r0; exact if_pos l
    rw [e] at main
    exact main
/-! ===== the component: one vote ===== -/
theorem gx_tv171 {post : SX → Prop} {y : Nat} {v : Bool} (hy : y < 48) (h : ∀ yv' : Int64, (∀ z, gb yv' z = (gb yv z || ((y == z) && v))) → post (en, gr, st, oc, yv', mk, tm, cn, us, ws, rd, wi, vf, fa, de, rc, fi, ev, pl, la, so)) : wX_takeVote_171 post (nI y) (gd_bi v) en gr st oc yv mk tm cn us ws rd wi vf fa de rc fi ev pl la so :=
  gd_br (fun e => h yv (fun z => by rw [e, Bool.and_false, Bool.or_false])) (fun e => nm_e (h _ (fun z => by rw [gb_or, gb_one (by omega), e, Bool.and_true])))
theorem gx_tv136 {post : SX → Prop} {x y : Nat} {v e1 cr : Bool} (hx : x < 48) (hy : y < 48)
    (h0 : (e1 && !cr) = false → ∀ yv' : Int64, (∀ z, gb yv' z = (gb yv z || ((y == z) && v))) → post (en, gr, st, oc, yv', mk, tm, cn, us, ws, rd, wi, vf, fa, de, rc, fi, ev, pl, la, so))
    (h1 : (e1 && !cr) = true → ∀ yv' : Int64, (∀ z, gb yv' z = (gb yv z || ((y == z) && v))) → post (en, gr, st, oc, yv', mk, tm, cn, us, ws, rd, wi, vf, upd fa x (nI (if v = true then 2 else 1)), upd de x (nI y), rc, fi, ev, pl, la, so)) : wX_takeVote_136 post (nI y) (nI x) (gd_bi e1) (gd_bi cr) (gd_bi v) en gr st oc yv mk tm cn us ws rd wi vf fa de rc fi ev pl la so := by
  have c : (nI x).toNatClampNeg = x := nI_clamp (by omega)
  have vi : vp_in (nI x) 48 := vp_in_nI hx (by omega)
  refine gd_br (fun a => gx_tv171 hy (h0 (by rw [a, Bool.false_and]))) (fun a => gd_br (fun b => ?_) (fun b => gx_tv171 hy (h0 (by rw [b, Bool.not_true, Bool.and_false]))))
  have h1 := h1 (by rw [a, b]; rfl)
  refine gd_br (fun q => ⟨vi, nm_r (e' := upd fa x (nI 1)) (by rw [c]; rfl) ⟨vi, nm_r (e' := upd de x (nI y)) (by rw [c]) (gx_tv171 hy (fun yv' hv => ?_))⟩⟩) (fun q => ⟨vi, nm_r (e' := upd fa x (nI 2)) (by rw [c]; rfl) ⟨vi, nm_r (e' := upd de x (nI y)) (by rw [c]) (gx_tv171 hy (fun yv' hv => ?_))⟩⟩)
  · have h1 := h1 yv' hv
    rw [if_neg (by rw [q]; decide)] at h1
    exact h1
  · have h1 := h1 yv' hv
    rw [if_pos q] at h1
    exact h1
theorem gx_tv113 {post : SX → Prop} {x y : Nat} {mo e1 cr c : Bool} (hx : x < 48) (hy : y < 48) (hc : cn y = gd_bi c)
    (h0 : (e1 && !cr) = false → ∀ yv' : Int64, (∀ z, gb yv' z = (gb yv z || ((y == z) && (if cr = true ∧ e1 = false then c else mo)))) → post (en, gr, st, oc, yv', mk, tm, cn, us, ws, rd, wi, vf, fa, de, rc, fi, ev, pl, la, so))
    (h1 : (e1 && !cr) = true → ∀ yv' : Int64, (∀ z, gb yv' z = (gb yv z || ((y == z) && (if cr = true ∧ e1 = false then c else mo)))) → post (en, gr, st, oc, yv', mk, tm, cn, us, ws, rd, wi, vf, upd fa x (nI (if (if cr = true ∧ e1 = false then c else mo) = true then 2 else 1)), upd de x (nI y), rc, fi, ev, pl, la, so)) : wX_takeVote_113 post (nI y) (nI x) (gd_bi mo) (gd_bi e1) (gd_bi cr) en gr st oc yv mk tm cn us ws rd wi vf fa de rc fi ev pl la so := by
  have cl : (nI y).toNatClampNeg = y := nI_clamp (by omega)
  refine gd_br (fun a => ?_) (fun a => gd_br (fun b => ⟨vp_in_nI hy (by omega), ?_⟩) (fun b => ?_))
  · have e : (if cr = true ∧ e1 = false then c else mo) = mo := if_neg (by rw [a]; exact fun z => absurd z.1 (by decide))
    rw [e] at h0 h1
    exact gx_tv136 hx hy h0 h1
  · have e : (if cr = true ∧ e1 = false then c else mo) = c := if_pos ⟨a, b⟩
    rw [e] at h0 h1
    rw [cl, hc]
    exact gx_tv136 hx hy h0 h1
  · have e : (if cr = true ∧ e1 = false then c else mo) = mo := if_neg (by rw [b]; exact fun z => absurd z.2 (by decide))
    rw [e] at h0 h1
    exact gx_tv136 hx hy h0 h1
theorem gx_tv100 {post : SX → Prop} {x y k : Nat} {mo e1 c : Bool} (hx : x < 48) (hy : y < 48) (hk : k < 2 ^ 31) (hc : cn y = gd_bi c)
    (h0 : (e1 && !decide (k % 5 = 0)) = false → ∀ yv' : Int64, (∀ z, gb yv' z = (gb yv z || ((y == z) && (if k % 5 = 0 ∧ e1 = false then c else mo)))) → post (en, gr, st, oc, yv', mk, tm, cn, us, ws, rd, wi, vf, fa, de, rc, fi, ev, pl, la, so))
    (h1 : (e1 && !decide (k % 5 = 0)) = true → ∀ yv' : Int64, (∀ z, gb yv' z = (gb yv z || ((y == z) && (if k % 5 = 0 ∧ e1 = false then c else mo)))) → post (en, gr, st, oc, yv', mk, tm, cn, us, ws, rd, wi, vf, upd fa x (nI (if (if k % 5 = 0 ∧ e1 = false then c else mo) = true then 2 else 1)), upd de x (nI y), rc, fi, ev, pl, la, so)) : wX_takeVote_100 post (nI y) (nI x) (nI k) (gd_bi mo) (gd_bi e1) en gr st oc yv mk tm cn us ws rd wi vf fa de rc fi ev pl la so := by
  have h5 : nI k - nI k / 5 * 5 = nI (k % 5) := pk_rem (d := 5) hk (by decide) (by decide)
  refine ⟨by decide, ?_⟩
  rw [h5]
  refine pk_eq (k % 5) 0 (fun z => ?_) (fun z => ?_)
  · refine gx_tv113 (cr := true) hx hy hc (fun q yv' hv => h0 ?_ yv' (fun z' => ?_)) (fun q => ?_)
    · rw [decide_eq_true z]; exact q
    · rw [hv z']
      simp only [z, true_and]
    · rw [Bool.not_true, Bool.and_false] at q; cases q
  · refine gx_tv113 (cr := false) hx hy hc (fun q yv' hv => h0 ?_ yv' (fun z' => ?_)) (fun q yv' hv => ?_)
    · rw [decide_eq_false z]; exact q
    · rw [hv z', if_neg (fun t => absurd t.1 (by decide)), if_neg (fun t => z t.1)]
    · rw [if_neg (fun t : false = true ∧ e1 = false => absurd t.1 (by decide))]
      have h1 := h1 (by rw [decide_eq_false z]; exact q) yv' (fun z' => by rw [hv z', if_neg (fun t => absurd t.1 (by decide)), if_neg (fun t => z t.1)])
      rw [if_neg (fun t : k % 5 = 0 ∧ e1 = false => z t.1)] at h1
      exact h1
theorem gx_tv77 {post : SX → Prop} {x y k a b : Nat} {mo c : Bool} (hx : x < 48) (hy : y < 48) (hk : k < 2 ^ 31) (ha : a < 2 ^ 31) (hb : b < 2 ^ 31) (hc : cn y = gd_bi c)
    (h0 : (decide (3 ≤ (if mo = true then a else b)) && !decide (k % 5 = 0)) = false → ∀ yv' : Int64, (∀ z, gb yv' z = (gb yv z || ((y == z) && (if k % 5 = 0 ∧ decide (3 ≤ (if mo = true then a else b)) = false then c else mo)))) → post (en, gr, st, oc, yv', mk, tm, cn, us, ws, rd, wi, vf, fa, de, rc, fi, ev, pl, la, so))
    (h1 : (decide (3 ≤ (if mo = true then a else b)) && !decide (k % 5 = 0)) = true → ∀ yv' : Int64, (∀ z, gb yv' z = (gb yv z || ((y == z) && (if k % 5 = 0 ∧ decide (3 ≤ (if mo = true then a else b)) = false then c else mo)))) → post (en, gr, st, oc, yv', mk, tm, cn, us, ws, rd, wi, vf, upd fa x (nI (if (if k % 5 = 0 ∧ decide (3 ≤ (if mo = true then a else b)) = false then c else mo) = true then 2 else 1)), upd de x (nI y), rc, fi, ev, pl, la, so)) : wX_takeVote_77 post (nI y) (nI x) (nI k) (nI a) (nI b) (gd_bi mo) en gr st oc yv mk tm cn us ws rd wi vf fa de rc fi ev pl la so := by
  have m91 : ∀ t : Nat, t < 2 ^ 31 → (if mo = true then a else b) = t → wX_takeVote_91 post (nI y) (nI x) (nI k) (gd_bi mo) (nI t) en gr st oc yv mk tm cn us ws rd wi vf fa de rc fi ev pl la so := by
    intro t ht e
    rw [e] at h0 h1
    refine pk_lt t 3 (fun l => ?_) (fun l => ?_)
    · rw [decide_eq_false (show ¬ 3 ≤ t by omega)] at h0 h1
      exact gx_tv100 (e1 := false) hx hy hk hc h0 h1
    · rw [decide_eq_true (show 3 ≤ t by omega)] at h0 h1
      exact gx_tv100 (e1 := true) hx hy hk hc h0 h1
  refine gd_br (fun q => m91 b hb ?_) (fun q => m91 a ha ?_)
  · exact if_neg (by rw [q]; decide)
  · exact if_pos q
theorem gx_tv {post : SX → Prop} {D : gd_D} {x y : Nat} (hx : x < 48) (hy : y < 48) (hus : us = gd_us D) (hrd : ∀ j, rd j = nI (gd_rd D j)) (hcn : ∀ j, cn j = gd_bi (gd_cn D j)) (hb : gd_rd D y < 2 ^ 30) (hlt : gd_rd D x < gd_rd D y) (hvf : ∀ z, gb (vf y) z = gd_vo D z y)
    (hyv : gd_rd D x + 2 ≤ gd_rd D y → ∀ z, z < 48 → gd_vo D z y = true → gb yv z = gf_v D x z)
    (h0 : gf_dec D x y = false → ∀ yv' : Int64, (∀ z, gb yv' z = (gb yv z || ((y == z) && gf_v D x y))) → post (en, gr, st, oc, yv', mk, tm, cn, us, ws, rd, wi, vf, fa, de, rc, fi, ev, pl, la, so))
    (h1 : gf_dec D x y = true → ∀ yv' : Int64, (∀ z, gb yv' z = (gb yv z || ((y == z) && gf_v D x y))) → post (en, gr, st, oc, yv', mk, tm, cn, us, ws, rd, wi, vf, upd fa x (nI (if gf_v D x y = true then 2 else 1)), upd de x (nI y), rc, fi, ev, pl, la, so)) : wpX_takeVote post (en, gr, st, oc, yv, mk, tm, cn, us, ws, rd, wi, vf, fa, de, rc, fi, ev, pl, la, so) (nI y) (nI x) := by
  have cx : (nI x).toNatClampNeg = x := nI_clamp (by omega)
  have cy : (nI y).toNatClampNeg = y := nI_clamp (by omega)
  have vx : vp_in (nI x) 48 := vp_in_nI hx (by omega)
  have vy : vp_in (nI y) 48 := vp_in_nI hy (by omega)
  subst hus
  refine ⟨vy, vx, nm_r (e' := nI (gd_rd D y - gd_rd D x)) (by rw [cx, cy, hrd, hrd]; exact pk_sub (by omega)) (gx_un hx hy ?_)⟩
  refine pk_le (gd_rd D y - gd_rd D x) 1 (fun l => ?_) (fun l => ⟨vy, ?_⟩)
  · have e : gd_rd D y = gd_rd D x + 1 := by omega
    have h0 := h0 (gf_dec_1 e)
    rw [gf_v_1 e] at h0
    exact gx_tv171 hy h0
  · have hyv := hyv (by omega)
    obtain ⟨ey, en2⟩ := gf_cnt_v (v := gb yv) hyv
    rw [cy]
    have by1 : gc_cnt (gb (vf y &&& yv)) 48 = gf_yes D (gf_vt D x (gd_rd D y - gd_rd D x - 1)) y := by
      rw [← ey]
      exact gc_cnt_congr fun z _ => by rw [gb_and, hvf]
    have bn1 : gc_cnt (gb (vf y &&& (yv ^^^ (-1)))) 48 = gf_no D (gf_vt D x (gd_rd D y - gd_rd D x - 1)) y := by
      rw [← en2]
      exact gc_cnt_congr fun z hz => by rw [gb_and, hvf, gb_not _ (by omega)]
    refine gx_cn ⟨vy, gx_cn ?_⟩
    rw [by1, bn1]
    have ly : gf_yes D (gf_vt D x (gd_rd D y - gd_rd D x - 1)) y ≤ 48 := gc_cnt_le _ _
    have ln : gf_no D (gf_vt D x (gd_rd D y - gd_rd D x - 1)) y ≤ 48 := gc_cnt_le _ _
    rw [gf_dec_s (by omega)] at h0 h1
    rw [gf_v_s (by omega)] at h0 h1
    have key : wX_takeVote_77 post (nI y) (nI x) (nI (gd_rd D y - gd_rd D x)) (nI (gf_yes D (gf_vt D x (gd_rd D y - gd_rd D x - 1)) y)) (nI (gf_no D (gf_vt D x (gd_rd D y - gd_rd D x - 1)) y)) (gd_bi (gf_mo D (gf_vt D x (gd_rd D y - gd_rd D x - 1)) y)) en gr st oc yv mk tm cn (gd_us D) ws rd wi vf fa de rc fi ev pl la so := by
      refine gx_tv77 hx hy (by omega) (by omega) (by omega) (hcn y) (fun q => h0 ?_) (fun q => h1 ?_)
      · rw [Bool.and_comm, decide_not]; exact q
      · rw [Bool.and_comm, decide_not]; exact q
    refine pk_lt _ _ (fun l2 => ?_) (fun l2 => ?_) rfl rfl (by omega) (by omega)
    · have e : gf_mo D (gf_vt D x (gd_rd D y - gd_rd D x - 1)) y = false := decide_eq_false (by omega)
      rw [e] at key
      exact key
    · have e : gf_mo D (gf_vt D x (gd_rd D y - gd_rd D x - 1)) y = true := decide_eq_true (by omega)
      rw [e] at key
      exact key
end
end
section
/-! ===== the component: the fame of one, of all ===== -/
def gf_V (D : gd_D) (n x r y : Nat) (v : Nat → Bool) : Prop :=
  (∀ z, z < n → gd_wi D z = true → gd_rd D x < gd_rd D z → (gd_rd D z < r ∨ (gd_rd D z = r ∧ z < y)) → v z = gf_v D x z)
def gf_Z (D : gd_D) (r y : Nat) (v : Nat → Bool) : Prop := ∀ z, (r < gd_rd D z ∨ (gd_rd D z = r ∧ y ≤ z)) → v z = false
theorem gf_V_skip {D : gd_D} {n x r y : Nat} {v : Nat → Bool} (h : gf_V D n x r y v) (hy : (gd_wi D y && (gd_rd D y == r)) = false) : gf_V D n x r (y + 1) v := by
  intro z hz hw hr hc
  refine h z hz hw hr ?_
  rcases hc with hc | ⟨h1, h2⟩
  · exact Or.inl hc
  · by_cases e : z = y
    · subst e
      rw [hw, h1, beq_self_eq_true] at hy
      cases hy
    · exact Or.inr ⟨h1, by omega⟩
theorem gf_Z_skip {D : gd_D} {r y : Nat} {v : Nat → Bool} (h : gf_Z D r y v) : gf_Z D r (y + 1) v := fun z hz => h z (by omega)
theorem gf_V_end {D : gd_D} {n x r : Nat} {v : Nat → Bool} (h : gf_V D n x r n v) : gf_V D n x (r + 1) 0 v := fun z hz hw hr hc => h z hz hw hr (by omega)
theorem gf_Z_end {D : gd_D} {n r : Nat} {v : Nat → Bool} (h : gf_Z D r n v) : gf_Z D (r + 1) 0 v := fun z hz => h z (by omega)
theorem gf_V_ask {D : gd_D} {n x r y : Nat} {v v' : Nat → Bool} (h : gf_V D n x r y v) (h1 : v' y = gf_v D x y) (h2 : ∀ z, z ≠ y → v' z = v z) : gf_V D n x r (y + 1) v' := by
  intro z hz hw hr hc
  by_cases e : z = y
  · subst e; exact h1
  · rw [h2 z e]; exact h z hz hw hr (by omega)
theorem gf_Z_ask {D : gd_D} {r y : Nat} {v v' : Nat → Bool} (h : gf_Z D r y v) (hy : gd_rd D y = r) (h2 : ∀ z, z ≠ y → v' z = v z) : gf_Z D r (y + 1) v' := by
  intro z hz
  have e : z ≠ y := by intro e; subst e; omega
  rw [h2 z e]; exact h z (by omega)
theorem gf_V_vo {D : gd_D} {n g x r y : Nat} {v : Nat → Bool} (I : gd_Inv D n g) (h : gf_V D n x r y v) (hy : gd_rd D y = r) (h2 : gd_rd D x + 2 ≤ gd_rd D y) : ∀ z, z < 48 → gd_vo D z y = true → v z = gf_v D x z := by
  intro z _ hv
  unfold gd_vo at hv
  rw [Bool.and_eq_true, Bool.and_eq_true, beq_iff_eq] at hv
  have hz : z < n := by
    rcases Nat.lt_or_ge z n with l | l
    · exact l
    · have := I.2.2.2.2.2.2.2.2.2 z l
      rw [this] at hv
      exact absurd hv.1.1 (by decide)
  exact h z hz hv.1.1 (by omega) (by omega)
section
variable {en gr st oc : Int32} {yv : Int64} {mk tm cn : Nat → Int32} {us ws : Nat → Int64} {rd wi : Nat → Int32} {vf : Nat → Int64} {fa de rc fi ev pl la so : Nat → Int32}
theorem gx_df24 {post : SX → Prop} {J : Int32 → Int32 → Int32 → Int32 → Int32 → Int64 → (Nat → Int32) → (Nat → Int32) → (Nat → Int32) → (Nat → Int64) → (Nat → Int64) → (Nat → Int32) → (Nat → Int32) → (Nat → Int64) → (Nat → Int32) → (Nat → Int32) → (Nat → Int32) → (Nat → Int32) → (Nat → Int32) → (Nat → Int32) → (Nat → Int32) → (Nat → Int32) → Prop}
    {D : gd_D} {n g x j : Nat} (I : gd_Inv D n g) (S : gx_S D mk tm cn us ws rd wi) (V : gv_ok D n vf) (hx : x < n) (hfa : fa x = 0) (hj2 : gd_rd D x + 1 + j ≤ g) (hj : gf_out D n x j = none)
    (K0 : gf_out D n x (j + 1) = none → ∀ yv' : Int64, gf_V D n x (gd_rd D x + 1 + j + 1) 0 (gb yv') → gf_Z D (gd_rd D x + 1 + j + 1) 0 (gb yv') → J (nI (gd_rd D x + 1 + j + 1)) (nI n) (nI g) st oc yv' mk tm cn us ws rd wi vf fa de rc fi ev pl la so)
    (K1 : ∀ d, gf_out D n x (j + 1) = some d → ∀ yv' : Int64, post (nI n, nI g, st, oc, yv', mk, tm, cn, us, ws, rd, wi, vf, upd fa x (nI (gf_val D x (some d))), upd de x (nI d), rc, fi, ev, pl, la, so)) :
    ∀ d y f (yv : Int64), y + d = n → d < f → gf_in (gf_at D x (gd_rd D x + 1 + j)) none y = none → gf_V D n x (gd_rd D x + 1 + j) y (gb yv) → gf_Z D (gd_rd D x + 1 + j) y (gb yv) → wX_decideFame_24 post J (nI x) (nI (gd_rd D x + 1 + j)) f (nI y) (nI n) (nI g) st oc yv mk tm cn us ws rd wi vf fa de rc fi ev pl la so := by
  have i48 := I.1
  have ig := I.2.1
  have ird := I.2.2.2.1
  obtain ⟨hmk, htm, hcn, hus, hws, hrd, hwi⟩ := S
  have hout : gf_out D n x (j + 1) = gf_in (gf_at D x (gd_rd D x + 1 + j)) none n := by rw [gf_out, hj]
  have cx : (nI x).toNatClampNeg = x := nI_clamp (by omega)
  have vx : vp_in (nI x) 48 := vp_in_nI (by omega) (by omega)
  have hf0 : fa (nI x).toNatClampNeg = 0 := by rw [cx]; exact hfa
  intro d
  induction d with
  | zero =>
    intro y f yv hy hf hin hV hZ
    obtain ⟨f, rfl⟩ : ∃ k, f = k + 1 := ⟨f - 1, by omega⟩
    rw [wX_decideFame_24]
    have e : y = n := by omega
    subst e
    exact br_t (nI_le (Nat.le_refl _) (by omega)) (nm_r (nI_1 _) (K0 (hout.trans hin) yv (gf_V_end hV) (gf_Z_end hZ)))
  | succ d ih =>
    intro y f yv hy hf hin hV hZ
    obtain ⟨f, rfl⟩ : ∃ k, f = k + 1 := ⟨f - 1, by omega⟩
    rw [wX_decideFame_24]
    have hy2 := ird y
    refine br_f (nI_ge (by omega) (by omega)) (gx_wo (by omega) (hwi y) (hrd y) (by omega) (by have := ird x; omega) (gd_br (fun e => ?_) (fun e => ?_)))
    · have hat : gf_at D x (gd_rd D x + 1 + j) y = false := by unfold gf_at; rw [e, Bool.false_and]
      exact ⟨vx, br_t hf0 (nm_r (nI_1 y) (ih (y + 1) f yv (by omega) (by omega) (gf_in_f hin hat) (gf_V_skip hV e) (gf_Z_skip hZ)))⟩
    · have e' := e
      rw [Bool.and_eq_true, beq_iff_eq] at e'
      have hyv0 : gb yv y = false := hZ y (Or.inr ⟨e'.2, Nat.le_refl _⟩)
      refine gx_tv (D := D) (by omega) (by omega) hus hrd hcn (by omega) (by omega) (V y (by omega)) (fun h2 => gf_V_vo I hV e'.2 h2) (fun hd yv' hv => ?_) (fun hd yv' hv => ?_)
      · have hat : gf_at D x (gd_rd D x + 1 + j) y = false := by unfold gf_at; rw [hd, Bool.and_false]
        have a1 : gb yv' y = gf_v D x y := by rw [hv y, hyv0, beq_self_eq_true, Bool.true_and, Bool.false_or]
        have a2 : ∀ z, z ≠ y → gb yv' z = gb yv z := fun z hz => by
          have : (y == z) = false := beq_eq_false_iff_ne.mpr (fun t => hz t.symm)
          rw [hv z, this, Bool.false_and, Bool.or_false]
        exact ⟨vx, br_t hf0 (nm_r (nI_1 y) (ih (y + 1) f yv' (by omega) (by omega) (gf_in_f hin hat) (gf_V_ask hV a1 a2) (gf_Z_ask hZ e'.2 a2)))⟩
      · have hat : gf_at D x (gd_rd D x + 1 + j) y = true := by unfold gf_at; rw [hd, e]; rfl
        have fin := K1 y (hout.trans (gf_in_stay (by omega) (gf_in_t hin hat))) yv'
        refine ⟨vx, br_f ?_ fin⟩
        rw [cx, pk_us]
        split <;> decide
theorem gx_df14 {post : SX → Prop} {D : gd_D} {n g x : Nat} (I : gd_Inv D n g) (S : gx_S D mk tm cn us ws rd wi) (V : gv_ok D n vf) (hx : x < n) (hfa : fa x = 0)
    (K0 : gf_de D n g x = none → ∀ yv' : Int64, post (nI n, nI g, st, oc, yv', mk, tm, cn, us, ws, rd, wi, vf, fa, de, rc, fi, ev, pl, la, so))
    (K1 : ∀ d, gf_de D n g x = some d → ∀ yv' : Int64, post (nI n, nI g, st, oc, yv', mk, tm, cn, us, ws, rd, wi, vf, upd fa x (nI (gf_val D x (some d))), upd de x (nI d), rc, fi, ev, pl, la, so)) :
    ∀ d j f (yv : Int64), j + d = g - gd_rd D x → d < f → gf_out D n x j = none → gf_V D n x (gd_rd D x + 1 + j) 0 (gb yv) → gf_Z D (gd_rd D x + 1 + j) 0 (gb yv) → wX_decideFame_14 post (nI x) f (nI (gd_rd D x + 1 + j)) (nI n) (nI g) st oc yv mk tm cn us ws rd wi vf fa de rc fi ev pl la so := by
  have i48 := I.1
  have ig := I.2.1
  have ird := I.2.2.2.1 x
  intro d
  induction d with
  | zero =>
    intro j f yv hj hf ho hV hZ
    obtain ⟨f, rfl⟩ : ∃ k, f = k + 1 := ⟨f - 1, by omega⟩
    rw [wX_decideFame_14]
    have e : j = g - gd_rd D x := by omega
    subst e
    exact br_t (nI_lt (by omega) (by omega)) (K0 ho yv)
  | succ d ih =>
    intro j f yv hj hf ho hV hZ
    obtain ⟨f, rfl⟩ : ∃ k, f = k + 1 := ⟨f - 1, by omega⟩
    rw [wX_decideFame_14]
    refine br_f (nI_nlt (by omega) (by omega)) ⟨n + 1, ?_⟩
    refine gx_df24 I S V hx hfa (by omega) ho (fun h yv' hV' hZ' => ih (j + 1) f yv' (by omega) (by omega) h hV' hZ') (fun d' hd yv' => K1 d' ?_ yv') n 0 (n + 1) yv (by omega) (by omega) rfl hV hZ
    exact gf_out_stay (by omega) hd
theorem gx_df {post : SX → Prop} {D : gd_D} {n g x : Nat} (I : gd_Inv D n g) (S : gx_S D mk tm cn us ws rd wi) (V : gv_ok D n vf) (hx : x < n) (hfa : fa x = 0) (hde : de x = -2)
    (K : ∀ (yv' : Int64) (fa' de' : Nat → Int32), (∀ i, i ≠ x → fa' i = fa i ∧ de' i = de i) → fa' x = nI (gf_val D x (gf_de D n g x)) → de' x = gf_dv (gf_de D n g x) → post (nI n, nI g, st, oc, yv', mk, tm, cn, us, ws, rd, wi, vf, fa', de', rc, fi, ev, pl, la, so)) : wpX_decideFame post (nI n, nI g, st, oc, yv, mk, tm, cn, us, ws, rd, wi, vf, fa, de, rc, fi, ev, pl, la, so) (nI x) := by
  have i48 := I.1
  have ig := I.2.1
  have ird := I.2.2.2.1 x
  have hrd := S.2.2.2.2.2.1
  refine ⟨vp_in_nI (by omega) (by omega), nm_r (e' := nI (gd_rd D x + 1 + 0)) (by rw [nI_clamp (by omega), hrd, nI_1]) ⟨g + 2, ?_⟩⟩
  refine gx_df14 I S V hx hfa (fun h yv' => K yv' fa de (fun i _ => ⟨rfl, rfl⟩) (by rw [h]; exact hfa) (by rw [h]; exact hde)) (fun d h yv' => K yv' _ _ (fun i hi => ⟨pk_un hi, pk_un hi⟩) (by rw [h]; exact pk_us) (by rw [h]; exact pk_us)) (g - gd_rd D x) 0 (g + 2) 0 (by omega) (by omega) rfl ?_ ?_
  · intro z hz hw hr hc; omega
  · intro z _; exact gb_0 z
theorem gx_da2 {post : SX → Prop} {D : gd_D} {n g : Nat} (I : gd_Inv D n g) (S : gx_S D mk tm cn us ws rd wi) (V : gv_ok D n vf)
    (K : ∀ (yv' : Int64) (fa' de' : Nat → Int32), (∀ j, j < n → fa' j = nI (gf_F D n g j) ∧ de' j = gf_d D n g j) → post (nI n, nI g, st, oc, yv', mk, tm, cn, us, ws, rd, wi, vf, fa', de', rc, fi, ev, pl, la, so)) :
    ∀ d i f (yv : Int64) (fa de : Nat → Int32), i + d = n → d < f → (∀ j, j < i → fa j = nI (gf_F D n g j) ∧ de j = gf_d D n g j) → wX_decideAllFame_2 post f (nI i) (nI n) (nI g) st oc yv mk tm cn us ws rd wi vf fa de rc fi ev pl la so := by
  have i48 := I.1
  have hwi := S.2.2.2.2.2.2
  intro d
  induction d with
  | zero =>
    intro i f yv fa de hi hf h
    obtain ⟨f, rfl⟩ : ∃ k, f = k + 1 := ⟨f - 1, by omega⟩
    rw [wX_decideAllFame_2]
    have e : i = n := by omega
    subst e
    exact br_t (nI_le (Nat.le_refl _) (by omega)) (K yv fa de h)
  | succ d ih =>
    intro i f yv fa de hi hf h
    obtain ⟨f, rfl⟩ : ∃ k, f = k + 1 := ⟨f - 1, by omega⟩
    rw [wX_decideAllFame_2]
    have c : (nI i).toNatClampNeg = i := nI_clamp (by omega)
    have v : vp_in (nI i) 48 := vp_in_nI (by omega) (by omega)
    refine br_f (nI_ge (by omega) (by omega)) ⟨v, nm_r (e' := upd fa i 0) (by rw [c]) ⟨v, nm_r (e' := upd de i (-2)) (by rw [c]) ⟨v, ?_⟩⟩⟩
    rw [c, hwi i]
    refine gd_br (fun e => nm_r (nI_1 i) (ih (i + 1) f yv _ _ (by omega) (by omega) (fun j hj => ?_))) (fun e => gx_df I S V (by omega) pk_us pk_us (fun yv' fa' de' h1 h2 h3 => nm_r (nI_1 i) (ih (i + 1) f yv' fa' de' (by omega) (by omega) (fun j hj => ?_))))
    · by_cases q : j = i
      · subst q
        rw [pk_us, pk_us]
        unfold gf_F gf_d
        rw [if_neg (by rw [e]; decide), if_neg (by rw [e]; decide)]
        exact ⟨rfl, rfl⟩
      · rw [pk_un q, pk_un q]; exact h j (by omega)
    · by_cases q : j = i
      · subst q
        unfold gf_F gf_d
        rw [if_pos e, if_pos e]
        exact ⟨h2, h3⟩
      · have := h1 j q
        rw [pk_un q, pk_un q] at this
        rw [this.1, this.2]; exact h j (by omega)
theorem gx_da {post : SX → Prop} {D : gd_D} {n g : Nat} (I : gd_Inv D n g) (S : gx_S D mk tm cn us ws rd wi) (V : gv_ok D n vf)
    (K : ∀ (yv' : Int64) (fa' de' : Nat → Int32), (∀ j, j < n → fa' j = nI (gf_F D n g j) ∧ de' j = gf_d D n g j) → post (nI n, nI g, st, oc, yv', mk, tm, cn, us, ws, rd, wi, vf, fa', de', rc, fi, ev, pl, la, so)) : wpX_decideAllFame post (nI n, nI g, st, oc, yv, mk, tm, cn, us, ws, rd, wi, vf, fa, de, rc, fi, ev, pl, la, so) :=
  ⟨n + 1, gx_da2 I S V K n 0 (n + 1) yv fa de (by omega) (by omega) (fun j hj => absurd hj (by omega))⟩
end
end
section
/-! ===== the component: settled rounds, the rounds that receive ===== -/
def gx_rc (r : Nat) : Int32 := if r = 0 then -2 else nI r
theorem gx_rc0 {r : Nat} (hr : r < 2 ^ 31) : gx_rc r = -2 ↔ r = 0 := by
  unfold gx_rc
  split
  · exact ⟨fun _ => by assumption, fun _ => rfl⟩
  · exact ⟨fun h => absurd h (gd_ne2 hr), fun h => absurd h (by assumption)⟩
theorem gx_rcN {r : Nat} (h : r ≠ 0) : gx_rc r = nI r := if_neg h
theorem gc_any_s {p : Nat → Bool} {i : Nat} (h : gc_any p i = false) (hp : p i = false) : gc_any p (i + 1) = false := by rw [gc_any, h, hp]; rfl
theorem gc_any_t {p : Nat → Bool} {i n : Nat} (hi : i < n) (hp : p i = true) : gc_any p n = true := (gc_any_iff p n).mpr ⟨i, hi, hp⟩
section
variable {en gr st oc : Int32} {yv : Int64} {mk tm cn : Nat → Int32} {us ws : Nat → Int64} {rd wi : Nat → Int32} {vf : Nat → Int64} {fa de rc fi ev pl la so : Nat → Int32}
theorem gx_fi {post : Int32 → Prop} {x k r F : Nat} (hx : x < 48) (hf : fa x = nI F) (hF : F ≤ 2) (hr : rd x = nI k) (hk : k < 2 ^ 31) (hr2 : r < 2 ^ 31) (h : post (gd_bi ((F == 2) && (k == r)))) : wpX_isFamousIn post (en, gr, st, oc, yv, mk, tm, cn, us, ws, rd, wi, vf, fa, de, rc, fi, ev, pl, la, so) (nI x) (nI r) := by
  have c : (nI x).toNatClampNeg = x := nI_clamp (by omega)
  have v : vp_in (nI x) 48 := vp_in_nI hx (by omega)
  refine ⟨v, ?_⟩
  rw [c, hf, hr]
  refine pk_eq F 2 (fun e => ⟨v, ?_⟩) (fun e => ?_)
  · subst e
    refine pk_eq k r (fun e => ?_) (fun e => ?_)
    · subst e; rw [beq_self_eq_true, beq_self_eq_true] at h; exact h
    · rw [beq_eq_false_iff_ne.mpr e] at h; exact h
  · rw [beq_eq_false_iff_ne.mpr e] at h; exact h
theorem gx_fs4 {post : Int32 → Prop} {D : gd_D} {n g r : Nat} (I : gd_Inv D n g) (hrd : ∀ j, rd j = nI (gd_rd D j)) (hwi : ∀ j, wi j = gd_bi (gd_wi D j)) (hF : ∀ j, j < n → fa j = nI (gf_F D n g j)) (hr : r < 2 ^ 31) (h : post (gd_bi (gs_ok D n g r))) :
    ∀ d i f, i + d = n → d < f → gc_any (gs_op D n g r) i = false → wX_isFameSettled_4 post (nI r) (nI n) gr st oc yv mk tm cn us ws rd wi vf fa de rc fi ev pl la so f (gd_bi (gc_any (gs_fm D n g r) i)) (nI i) := by
  have i48 := I.1
  have ig := I.2.1
  have ird := I.2.2.2.1
  intro d
  induction d with
  | zero =>
    intro i f hi hf ho
    obtain ⟨f, rfl⟩ : ∃ k, f = k + 1 := ⟨f - 1, by omega⟩
    rw [wX_isFameSettled_4]
    have e : i = n := by omega
    subst e
    unfold gs_ok at h
    rw [ho, Bool.not_false, Bool.true_and] at h
    exact br_t (nI_le (Nat.le_refl _) (by omega)) ⟨gd_biN _, h⟩
  | succ d ih =>
    intro i f hi hf ho
    obtain ⟨f, rfl⟩ : ∃ k, f = k + 1 := ⟨f - 1, by omega⟩
    rw [wX_isFameSettled_4]
    have ri := ird i
    have c : (nI i).toNatClampNeg = i := nI_clamp (by omega)
    have v : vp_in (nI i) 48 := vp_in_nI (by omega) (by omega)
    have next : gs_op D n g r i = false → wX_isFameSettled_32 post (wX_isFameSettled_4 post (nI r) (nI n) gr st oc yv mk tm cn us ws rd wi vf fa de rc fi ev pl la so f) (nI r) (gd_bi (gc_any (gs_fm D n g r) i)) (nI i) (nI n) gr st oc yv mk tm cn us ws rd wi vf fa de rc fi ev pl la so := by
      intro hop
      have ih := ih (i + 1) f (by omega) (by omega) (gc_any_s ho hop)
      rw [gc_any] at ih
      refine gx_fi (by omega) (hF i (by omega)) (gf_F_le _ _ _ _) (hrd i) (by omega) hr (gd_br (fun e => nm_r (nI_1 i) ?_) (fun e => nm_r (nI_1 i) ?_))
      · have e : gs_fm D n g r i = false := e
        rw [e, Bool.or_false] at ih; exact ih
      · have e : gs_fm D n g r i = true := e
        rw [e, Bool.or_true] at ih; exact ih
    refine br_f (nI_ge (by omega) (by omega)) (gx_wo (by omega) (hwi i) (hrd i) (by omega) hr (gd_br (fun e => next ?_) (fun e => ⟨v, ?_⟩)))
    · unfold gs_op; rw [e, Bool.false_and]
    · rw [c, hF i (by omega)]
      have fl := gf_F_le D n g i
      refine pk_eq (gf_F D n g i) 0 (fun z => ?_) (fun z => next ?_)
      · have : gs_ok D n g r = false := by
          unfold gs_ok
          rw [gc_any_t (p := gs_op D n g r) (i := i) (by omega) (by unfold gs_op; rw [e, z]; rfl)]
          rfl
        rw [this] at h
        exact h
      · unfold gs_op; rw [e, beq_eq_false_iff_ne.mpr z]; rfl
theorem gx_fs {post : Int32 → Prop} {D : gd_D} {n g r : Nat} (I : gd_Inv D n g) (hrd : ∀ j, rd j = nI (gd_rd D j)) (hwi : ∀ j, wi j = gd_bi (gd_wi D j)) (hF : ∀ j, j < n → fa j = nI (gf_F D n g j)) (hr : r < 2 ^ 31) (h : post (gd_bi (gs_ok D n g r))) : wpX_isFameSettled post (nI n, gr, st, oc, yv, mk, tm, cn, us, ws, rd, wi, vf, fa, de, rc, fi, ev, pl, la, so) (nI r) :=
  ⟨n + 1, gx_fs4 I hrd hwi hF hr h n 0 (n + 1) (by omega) (by omega) rfl⟩
theorem gx_cs7 {post : SX → Prop} {D : gd_D} {n g : Nat} (I : gd_Inv D n g) (hrd : ∀ j, rd j = nI (gd_rd D j)) (hwi : ∀ j, wi j = gd_bi (gd_wi D j)) (hF : ∀ j, j < n → fa j = nI (gf_F D n g j)) (h : post (nI n, nI g, nI (gs_S D n g), oc, yv, mk, tm, cn, us, ws, rd, wi, vf, fa, de, rc, fi, ev, pl, la, so)) :
    ∀ d s f, s + d = g → d < f → gs_go (gs_p D n g) (g - s) s = gs_S D n g → wX_countSettledRounds_7 post (nI n) (nI g) oc yv mk tm cn us ws rd wi vf fa de rc fi ev pl la so f (nI (s + 1)) (nI s) := by
  have i48 := I.1
  have ig := I.2.1
  intro d
  induction d with
  | zero =>
    intro s f hs hf hg
    obtain ⟨f, rfl⟩ : ∃ k, f = k + 1 := ⟨f - 1, by omega⟩
    rw [wX_countSettledRounds_7]
    have e : g - s = 0 := by omega
    rw [e] at hg
    have hg : s = gs_S D n g := hg
    rw [← hg] at h
    exact br_t (nI_le (by omega) (by omega)) h
  | succ d ih =>
    intro s f hs hf hg
    obtain ⟨f, rfl⟩ : ∃ k, f = k + 1 := ⟨f - 1, by omega⟩
    rw [wX_countSettledRounds_7]
    have stop : gs_p D n g (s + 1) = false → post (nI n, nI g, nI s, oc, yv, mk, tm, cn, us, ws, rd, wi, vf, fa, de, rc, fi, ev, pl, la, so) := by
      intro hp
      rw [gs_stop hp] at hg
      rw [← hg] at h
      exact h
    refine pk_le g (s + 1) (fun l => stop ?_) (fun l => gx_fs I hrd hwi hF (by omega) (gd_br (fun e => stop ?_) (fun e => nm_r (nI_1 (s + 1)) (ih (s + 1) f (by omega) (by omega) ?_))))
    · unfold gs_p; rw [decide_eq_false (by omega), Bool.false_and]
    · unfold gs_p; rw [e, Bool.and_false]
    · have hp : gs_p D n g (s + 1) = true := by unfold gs_p; rw [e, decide_eq_true l]; rfl
      have e2 : g - s = (g - (s + 1)) + 1 := by omega
      rw [e2, gs_step hp] at hg
      exact hg
theorem gx_cs {post : SX → Prop} {D : gd_D} {n g : Nat} (I : gd_Inv D n g) (hrd : ∀ j, rd j = nI (gd_rd D j)) (hwi : ∀ j, wi j = gd_bi (gd_wi D j)) (hF : ∀ j, j < n → fa j = nI (gf_F D n g j)) (h : post (nI n, nI g, nI (gs_S D n g), oc, yv, mk, tm, cn, us, ws, rd, wi, vf, fa, de, rc, fi, ev, pl, la, so)) : wpX_countSettledRounds post (nI n, nI g, st, oc, yv, mk, tm, cn, us, ws, rd, wi, vf, fa, de, rc, fi, ev, pl, la, so) :=
  ⟨g + 1, gx_cs7 I hrd hwi hF h g 0 (g + 1) (by omega) (by omega) rfl⟩
theorem gx_ua2 {post : Int32 → Prop} {D : gd_D} {n g x r : Nat} (I : gd_Inv D n g) (hx : x < n) (hus : us = gd_us D) (hrd : ∀ j, rd j = nI (gd_rd D j)) (hF : ∀ j, j < n → fa j = nI (gf_F D n g j)) (hr : r < 2 ^ 31) (h : post (gd_bi (gr_un D n g x r))) :
    ∀ d i f, i + d = n → d < f → gc_any (fun w => gs_fm D n g r w && !gd_ub D x w) i = false → wX_isUnderAllFamous_2 post (nI x) (nI r) (nI n) gr st oc yv mk tm cn us ws rd wi vf fa de rc fi ev pl la so f (nI i) := by
  have i48 := I.1
  have ig := I.2.1
  have ird := I.2.2.2.1
  subst hus
  intro d
  induction d with
  | zero =>
    intro i f hi hf ho
    obtain ⟨f, rfl⟩ : ∃ k, f = k + 1 := ⟨f - 1, by omega⟩
    rw [wX_isUnderAllFamous_2]
    have e : i = n := by omega
    subst e
    unfold gr_un at h
    rw [ho] at h
    exact br_t (nI_le (Nat.le_refl _) (by omega)) h
  | succ d ih =>
    intro i f hi hf ho
    obtain ⟨f, rfl⟩ : ∃ k, f = k + 1 := ⟨f - 1, by omega⟩
    rw [wX_isUnderAllFamous_2]
    have ri := ird i
    have ih := fun hp => ih (i + 1) f (by omega) (by omega) (gc_any_s ho hp)
    refine br_f (nI_ge (by omega) (by omega)) (gx_fi (by omega) (hF i (by omega)) (gf_F_le _ _ _ _) (hrd i) (by omega) hr (gd_br (fun e => nm_r (nI_1 i) (ih ?_)) (fun e => gx_un (by omega) (by omega) (gd_br (fun e2 => ?_) (fun e2 => nm_r (nI_1 i) (ih ?_))))))
    · have e : gs_fm D n g r i = false := e
      show (gs_fm D n g r i && !gd_ub D x i) = false
      rw [e, Bool.false_and]
    · have e : gs_fm D n g r i = true := e
      have e2 : gd_ub D x i = false := e2
      have : gr_un D n g x r = false := by
        unfold gr_un
        rw [gc_any_t (p := fun w => gs_fm D n g r w && !gd_ub D x w) (i := i) (by omega) (by show (gs_fm D n g r i && !gd_ub D x i) = true; rw [e, e2]; rfl)]
        rfl
      rw [this] at h
      exact h
    · have e2 : gd_ub D x i = true := e2
      show (gs_fm D n g r i && !gd_ub D x i) = false
      rw [e2, Bool.not_true, Bool.and_false]
theorem gx_ua {post : Int32 → Prop} {D : gd_D} {n g x r : Nat} (I : gd_Inv D n g) (hx : x < n) (hus : us = gd_us D) (hrd : ∀ j, rd j = nI (gd_rd D j)) (hF : ∀ j, j < n → fa j = nI (gf_F D n g j)) (hr : r < 2 ^ 31) (h : post (gd_bi (gr_un D n g x r))) : wpX_isUnderAllFamous post (nI n, gr, st, oc, yv, mk, tm, cn, us, ws, rd, wi, vf, fa, de, rc, fi, ev, pl, la, so) (nI x) (nI r) :=
  ⟨n + 1, gx_ua2 I hx hus hrd hF hr h n 0 (n + 1) (by omega) (by omega) rfl⟩
theorem gx_rr2 {post : Int32 → Prop} {D : gd_D} {n g x : Nat} (I : gd_Inv D n g) (hx : x < n) (hus : us = gd_us D) (hrd : ∀ j, rd j = nI (gd_rd D j)) (hF : ∀ j, j < n → fa j = nI (gf_F D n g j)) (h : post (gx_rc (gr_R D n g x))) :
    ∀ d r f, r + d = gs_S D n g + 1 → d < f → 1 ≤ r → (∀ q, 1 ≤ q → q < r → gr_un D n g x q = false) → wX_roundThatReceives_2 post (nI x) (nI n) gr (nI (gs_S D n g)) oc yv mk tm cn us ws rd wi vf fa de rc fi ev pl la so f (nI r) := by
  have i48 := I.1
  have ig := I.2.1
  have iS := gs_S_le D n g
  intro d
  induction d with
  | zero =>
    intro r f hr hf h1 hq
    obtain ⟨f, rfl⟩ : ∃ k, f = k + 1 := ⟨f - 1, by omega⟩
    rw [wX_roundThatReceives_2]
    have e : gr_R D n g x = 0 := gr_lo_0 (fun q a b => hq q a (by omega))
    rw [e] at h
    exact br_t (nI_lt (by omega) (by omega)) h
  | succ d ih =>
    intro r f hr hf h1 hq
    obtain ⟨f, rfl⟩ : ∃ k, f = k + 1 := ⟨f - 1, by omega⟩
    rw [wX_roundThatReceives_2]
    refine br_f (nI_nlt (by omega) (by omega)) (gx_ua I hx hus hrd hF (by omega) (gd_br (fun e => nm_r (nI_1 r) (ih (r + 1) f (by omega) (by omega) (by omega) (fun q a b => ?_))) (fun e => ?_)))
    · by_cases z : q = r
      · subst z; exact e
      · exact hq q a (by omega)
    · have e2 : gr_R D n g x = r := gr_lo_1 h1 (by omega) e hq
      rw [e2, gx_rcN (by omega)] at h
      exact h
theorem gx_rr {post : Int32 → Prop} {D : gd_D} {n g x : Nat} (I : gd_Inv D n g) (hx : x < n) (hus : us = gd_us D) (hrd : ∀ j, rd j = nI (gd_rd D j)) (hF : ∀ j, j < n → fa j = nI (gf_F D n g j)) (h : post (gx_rc (gr_R D n g x))) : wpX_roundThatReceives post (nI n, gr, nI (gs_S D n g), oc, yv, mk, tm, cn, us, ws, rd, wi, vf, fa, de, rc, fi, ev, pl, la, so) (nI x) :=
  ⟨gs_S D n g + 1, gx_rr2 I hx hus hrd hF h (gs_S D n g) 1 (gs_S D n g + 1) (by omega) (by omega) (by omega) (fun q a b => absurd b (by omega))⟩
theorem gx_ir {post : Int32 → Prop} {x R : Nat} (hx : x < 48) (hR : R < 2 ^ 31) (hrc : rc x = gx_rc R) (h0 : R = 0 → post 0) (h1 : R ≠ 0 → post 1) : wpX_isReceived post (en, gr, st, oc, yv, mk, tm, cn, us, ws, rd, wi, vf, fa, de, rc, fi, ev, pl, la, so) (nI x) := by
  refine ⟨vp_in_nI hx (by omega), ?_⟩
  rw [nI_clamp (show x < 2 ^ 31 by omega), hrc]
  exact ⟨fun e => h0 ((gx_rc0 hR).mp e), fun e => h1 (fun z => e ((gx_rc0 hR).mpr z))⟩
end
end
section
/-! ===== the component: final times ===== -/
theorem gi_upd (f : Nat → Int32) (k : Nat) (x : Int32) : upd f k x = gi_up f k x := rfl
theorem gc_cnt_rest {p : Nat → Bool} {w n : Nat} (h : gc_cnt p n ≤ gc_cnt p w) : ∀ i, w ≤ i → i < n → p i = false := by
  intro i h1 h2
  cases e : p i with
  | false => rfl
  | true =>
    have a : gc_cnt p w ≤ gc_cnt p i := gc_cnt_mono h1
    have b : gc_cnt p (i + 1) ≤ gc_cnt p n := gc_cnt_mono h2
    rw [gc_cnt, if_pos e] at b
    omega
section
variable {en gr st oc : Int32} {yv : Int64} {mk tm cn : Nat → Int32} {us ws : Nat → Int64} {rd wi : Nat → Int32} {vf : Nat → Int64} {fa de rc fi ev pl la so : Nat → Int32}
theorem gx_tf2 {post : Int32 → Prop} {D : gd_D} {x w : Nat} (hx : x < 48) (hw : w < 48) (hmk : ∀ j, mk j = nI (gd_mk D j)) (h4 : ∀ j, gd_mk D j < 4) (htm : tm = gd_tm D) (hus : us = gd_us D) (h : post (gt_ft D x w)) :
    ∀ d z f, z + d = w → d < f → (∀ i, i < z → gt_p D x w i = false) → wX_timeOfFirstToKnow_2 post (nI x) (nI w) en gr st oc yv mk tm cn us ws rd wi vf fa de rc fi ev pl la so f (nI z) := by
  subst htm hus
  have cw : (nI w).toNatClampNeg = w := nI_clamp (by omega)
  have vw : vp_in (nI w) 48 := vp_in_nI hw (by omega)
  intro d
  induction d with
  | zero =>
    intro z f hz hf hn
    obtain ⟨f, rfl⟩ : ∃ k, f = k + 1 := ⟨f - 1, by omega⟩
    rw [wX_timeOfFirstToKnow_2]
    have e : z = w := by omega
    subst e
    refine br_t (nI_le (Nat.le_refl _) (by omega)) ⟨vw, ?_⟩
    rw [cw]
    unfold gt_ft at h
    rw [gl_none hn] at h
    exact h
  | succ d ih =>
    intro z f hz hf hn
    obtain ⟨f, rfl⟩ : ∃ k, f = k + 1 := ⟨f - 1, by omega⟩
    rw [wX_timeOfFirstToKnow_2]
    have cz : (nI z).toNatClampNeg = z := nI_clamp (by omega)
    have vz : vp_in (nI z) 48 := vp_in_nI (by omega) (by omega)
    have next : gt_p D x w z = false → wX_timeOfFirstToKnow_2 post (nI x) (nI w) en gr st oc yv mk (gd_tm D) cn (gd_us D) ws rd wi vf fa de rc fi ev pl la so f (nI (z + 1)) := fun e =>
      ih (z + 1) f (by omega) (by omega) (fun i hi => by
        by_cases q : i = z
        · subst q; exact e
        · exact hn i (by omega))
    have az := h4 z
    have aw := h4 w
    refine br_f (nI_ge (by omega) (by omega)) ⟨vz, vw, ?_⟩
    rw [cz, cw, hmk, hmk]
    refine pk_eq _ _ (fun e => gx_un (by omega) hw (gd_br (fun e1 => nm_r (nI_1 z) (next ?_)) (fun e1 => gx_un hx (by omega) (gd_br (fun e2 => nm_r (nI_1 z) (next ?_)) (fun e2 => ⟨vz, ?_⟩))))) (fun e => nm_r (nI_1 z) (next ?_)) rfl rfl (by omega) (by omega)
    · have e1 : gd_ub D z w = false := e1
      unfold gt_p; rw [e1, Bool.and_false, Bool.false_and]
    · have e2 : gd_ub D x z = false := e2
      unfold gt_p; rw [e2, Bool.and_false]
    · have e1 : gd_ub D z w = true := e1
      have e2 : gd_ub D x z = true := e2
      have hp : gt_p D x w z = true := by unfold gt_p; rw [e, e1, e2, beq_self_eq_true]; rfl
      unfold gt_ft at h
      rw [gl_some (show z < w by omega) hp hn] at h
      exact h
    · unfold gt_p; rw [beq_eq_false_iff_ne.mpr e, Bool.false_and, Bool.false_and]
theorem gx_tf {post : Int32 → Prop} {D : gd_D} {x w : Nat} (hx : x < 48) (hw : w < 48) (hmk : ∀ j, mk j = nI (gd_mk D j)) (h4 : ∀ j, gd_mk D j < 4) (htm : tm = gd_tm D) (hus : us = gd_us D) (h : post (gt_ft D x w)) : wpX_timeOfFirstToKnow post (en, gr, st, oc, yv, mk, tm, cn, us, ws, rd, wi, vf, fa, de, rc, fi, ev, pl, la, so) (nI x) (nI w) :=
  ⟨w + 1, gx_tf2 hx hw hmk h4 htm hus h w 0 (w + 1) (by omega) (by omega) (fun i hi => absurd hi (by omega))⟩
theorem gx_it2 {post : SX → Prop} {t : Int32} : ∀ k f (so : Nat → Int32), k < 4 → k < f → post (en, gr, st, oc, yv, mk, tm, cn, us, ws, rd, wi, vf, fa, de, rc, fi, ev, pl, la, gi_ins (gt_lt t) t k so) → wX_insertTime_2 post t en gr st oc yv f (nI k) mk tm cn us ws rd wi vf fa de rc fi ev pl la so := by
  intro k
  induction k with
  | zero =>
    intro f so hk hf h
    obtain ⟨f, rfl⟩ : ∃ m, f = m + 1 := ⟨f - 1, by omega⟩
    rw [wX_insertTime_2]
    exact br_t (nI_le (Nat.le_refl 0) (by decide)) ⟨vp_in_nI (by omega) (by omega), nm_r (e' := gi_up so 0 t) (by rw [nI_clamp (by omega)]; rfl) h⟩
  | succ k ih =>
    intro f so hk hf h
    obtain ⟨f, rfl⟩ : ∃ m, f = m + 1 := ⟨f - 1, by omega⟩
    rw [wX_insertTime_2]
    have e1 : nI (k + 1) - 1 = nI k := nI_pred k
    have c1 : (nI (k + 1) - 1).toNatClampNeg = k := by rw [e1]; exact nI_clamp (by omega)
    have v1 : vp_in (nI (k + 1) - 1) 4 := by rw [e1]; exact vp_in_nI (by omega) (by omega)
    have c2 : (nI (k + 1)).toNatClampNeg = k + 1 := nI_clamp (by omega)
    have v2 : vp_in (nI (k + 1)) 4 := vp_in_nI hk (by omega)
    refine br_f (nI_nle (by omega) (by omega)) ⟨v1, ?_⟩
    rw [c1, c2]
    rw [gi_ins] at h
    by_cases q : so k ≤ t
    · rw [if_neg (by unfold gt_lt; rw [decide_eq_true_eq]; exact Int32.not_lt.mpr q)] at h
      exact br_t q ⟨v2, nm_r (e' := gi_up so (k + 1) t) rfl h⟩
    · rw [if_pos (by unfold gt_lt; rw [decide_eq_true_eq]; exact Int32.not_le.mp q)] at h
      exact br_f q ⟨v1, v2, nm_r (e' := gi_up so (k + 1) (so k)) rfl (nm_r (pk_m1 k) (ih f _ (by omega) (by omega) h))⟩
theorem gx_it {post : SX → Prop} {t : Int32} {k : Nat} (hk : k < 4) (h : post (en, gr, st, oc, yv, mk, tm, cn, us, ws, rd, wi, vf, fa, de, rc, fi, ev, pl, la, gi_ins (gt_lt t) t k so)) : wpX_insertTime post (en, gr, st, oc, yv, mk, tm, cn, us, ws, rd, wi, vf, fa, de, rc, fi, ev, pl, la, so) t (nI k) := ⟨k + 1, gx_it2 k (k + 1) so hk (by omega) h⟩
theorem gx_mt5 {post : Int32 → SX → Prop} {D : gd_D} {n g x r : Nat} (I : gd_Inv D n g) (hx : x < n) (S : gx_S D mk tm cn us ws rd wi) (hF : ∀ j, j < n → fa j = nI (gf_F D n g j)) (hr : r < 2 ^ 31) (hok : gs_ok D n g r = true) (h : ∀ so' : Nat → Int32, post (gt_fi D n g x r) (nI n, gr, st, oc, yv, mk, tm, cn, us, ws, rd, wi, vf, fa, de, rc, fi, ev, pl, la, so')) :
    ∀ d w f (so : Nat → Int32), w + d = n → d < f → (∀ j, j < (gt_st (gs_fm D n g r) (gt_ft D x) w).1 → so j = (gt_st (gs_fm D n g r) (gt_ft D x) w).2 j) → wX_middleTime_5 post (nI x) (nI r) f (nI (gt_st (gs_fm D n g r) (gt_ft D x) w).1) (nI w) (nI n) gr st oc yv mk tm cn us ws rd wi vf fa de rc fi ev pl la so := by
  have i48 := I.1
  have ig := I.2.1
  have ird := I.2.2.2.1
  have imk := I.2.2.1
  have tot := gs_fm_le I r
  have pos := gs_fm_pos hok
  have num := gt_num (gs_fm D n g r) (gt_ft D x)
  obtain ⟨hmk, htm, hcn, hus, hws, hrd, hwi⟩ := S
  have fin : ∀ (w : Nat) (so : Nat → Int32), w ≤ n → gt_st (gs_fm D n g r) (gt_ft D x) n = gt_st (gs_fm D n g r) (gt_ft D x) w → (∀ j, j < (gt_st (gs_fm D n g r) (gt_ft D x) w).1 → so j = (gt_st (gs_fm D n g r) (gt_ft D x) w).2 j) →
      (¬ (2 : Int32) = 0 ∧ (vp_in (nI (gt_st (gs_fm D n g r) (gt_ft D x) w).1 / 2) 4 ∧ post (so (nI (gt_st (gs_fm D n g r) (gt_ft D x) w).1 / 2).toNatClampNeg) (nI n, gr, st, oc, yv, mk, tm, cn, us, ws, rd, wi, vf, fa, de, rc, fi, ev, pl, la, so))) := by
    intro w so hw e hs
    have h := h so
    unfold gt_fi at h
    have nn := num n
    rw [e] at h nn
    have q : nI (gt_st (gs_fm D n g r) (gt_ft D x) w).1 / 2 = nI ((gt_st (gs_fm D n g r) (gt_ft D x) w).1 / 2) := pk_div (d := 2) (by omega) (by decide) (by decide)
    rw [q]
    refine ⟨by decide, vp_in_nI (by omega) (by omega), ?_⟩
    rw [nI_clamp (by omega), hs _ (by omega)]
    exact h
  intro d
  induction d with
  | zero =>
    intro w f so hw hf hs
    obtain ⟨f, rfl⟩ : ∃ m, f = m + 1 := ⟨f - 1, by omega⟩
    rw [wX_middleTime_5]
    have e : w = n := by omega
    subst e
    exact br_t (nI_le (Nat.le_refl _) (by omega)) (fin w so (Nat.le_refl _) rfl hs)
  | succ d ih =>
    intro w f so hw hf hs
    obtain ⟨f, rfl⟩ : ∃ m, f = m + 1 := ⟨f - 1, by omega⟩
    rw [wX_middleTime_5]
    have rw' := ird w
    have nw := num w
    have cw : gc_cnt (gs_fm D n g r) w ≤ gc_cnt (gs_fm D n g r) n := gc_cnt_mono (by omega)
    refine br_f (nI_ge (by omega) (by omega)) (pk_le 4 _ (fun l => ?_) (fun l => gx_fi (by omega) (hF w (by omega)) (gf_F_le _ _ _ _) (hrd w) (by omega) hr (gd_br (fun e => nm_r (nI_1 w) ?_) (fun e => ?_))) rfl rfl (by omega) (by omega))
    · refine fin w so (by omega) ?_ hs
      obtain ⟨k, rfl⟩ : ∃ k, n = w + k := ⟨n - w, by omega⟩
      exact gt_rest k (gc_cnt_rest (by omega))
    · have e : gs_fm D n g r w = false := e
      have ih := ih (w + 1) f so (by omega) (by omega)
      rw [gt_f e] at ih
      exact ih hs
    · have e : gs_fm D n g r w = true := e
      have ih := ih (w + 1) f
      rw [gt_t e] at ih
      refine gx_tf (D := D) (by omega) (by omega) hmk imk htm hus (gx_it l (nm_r (nI_1 _) (nm_r (nI_1 w) (ih _ (by omega) (by omega) ?_))))
      exact gi_below id (gt_lt (gt_ft D x w)) (gt_lt (gt_ft D x w)) (gt_ft D x w) hs (fun j _ => rfl)
theorem gx_mt {post : Int32 → SX → Prop} {D : gd_D} {n g x r : Nat} (I : gd_Inv D n g) (hx : x < n) (S : gx_S D mk tm cn us ws rd wi) (hF : ∀ j, j < n → fa j = nI (gf_F D n g j)) (hr : r < 2 ^ 31) (hok : gs_ok D n g r = true) (h : ∀ so' : Nat → Int32, post (gt_fi D n g x r) (nI n, gr, st, oc, yv, mk, tm, cn, us, ws, rd, wi, vf, fa, de, rc, fi, ev, pl, la, so')) : wpX_middleTime post (nI n, gr, st, oc, yv, mk, tm, cn, us, ws, rd, wi, vf, fa, de, rc, fi, ev, pl, la, so) (nI x) (nI r) :=
  ⟨n + 1, gx_mt5 I hx S hF hr hok h n 0 (n + 1) so (by omega) (by omega) (fun j hj => absurd hj (Nat.not_lt_zero _))⟩
theorem gx_ra2 {post : SX → Prop} {D : gd_D} {n g : Nat} (I : gd_Inv D n g) (S : gx_S D mk tm cn us ws rd wi) (hF : ∀ j, j < n → fa j = nI (gf_F D n g j))
    (h : ∀ rc' fi' so' : Nat → Int32, (∀ j, j < n → rc' j = gx_rc (gr_R D n g j) ∧ (gr_R D n g j ≠ 0 → fi' j = go_fn D n g j)) → post (nI n, gr, nI (gs_S D n g), oc, yv, mk, tm, cn, us, ws, rd, wi, vf, fa, de, rc', fi', ev, pl, la, so')) :
    ∀ d i f (rc fi so : Nat → Int32), i + d = n → d < f → (∀ j, j < i → rc j = gx_rc (gr_R D n g j) ∧ (gr_R D n g j ≠ 0 → fi j = go_fn D n g j)) → wX_receiveAll_2 post f (nI i) (nI n) gr (nI (gs_S D n g)) oc yv mk tm cn us ws rd wi vf fa de rc fi ev pl la so := by
  have i48 := I.1
  have ig := I.2.1
  have iS := gs_S_le D n g
  intro d
  induction d with
  | zero =>
    intro i f rc fi so hi hf hs
    obtain ⟨f, rfl⟩ : ∃ m, f = m + 1 := ⟨f - 1, by omega⟩
    rw [wX_receiveAll_2]
    have e : i = n := by omega
    subst e
    exact br_t (nI_le (Nat.le_refl _) (by omega)) (h rc fi so hs)
  | succ d ih =>
    intro i f rc fi so hi hf hs
    obtain ⟨f, rfl⟩ : ∃ m, f = m + 1 := ⟨f - 1, by omega⟩
    rw [wX_receiveAll_2]
    have c : (nI i).toNatClampNeg = i := nI_clamp (by omega)
    have v : vp_in (nI i) 48 := vp_in_nI (by omega) (by omega)
    have iR := gr_R_le D n g i
    refine br_f (nI_ge (by omega) (by omega)) (gx_rr I (by omega) S.2.2.2.1 S.2.2.2.2.2.1 hF ⟨v, nm_r (e' := upd rc i (gx_rc (gr_R D n g i))) (by rw [c]) (gx_ir (R := gr_R D n g i) (by omega) (by omega) pk_us (fun e => br_t rfl (nm_r (nI_1 i) (ih (i + 1) f _ fi so (by omega) (by omega) (fun j hj => ?_)))) (fun e => br_f (by decide) ⟨v, ?_⟩))⟩)
    · by_cases q : j = i
      · subst q; exact ⟨pk_us, fun z => absurd e z⟩
      · rw [pk_un q]; exact hs j (by omega)
    · rw [c, pk_us, gx_rcN e]
      refine gx_mt I (by omega) S hF (by omega) (gs_S_ok (by omega) iR).2 (fun so' => ⟨v, nm_r (e' := upd fi i (go_fn D n g i)) rfl (nm_r (nI_1 i) (ih (i + 1) f _ _ so' (by omega) (by omega) (fun j hj => ?_)))⟩)
      by_cases q : j = i
      · subst q; exact ⟨pk_us.trans (gx_rcN e).symm, fun _ => pk_us⟩
      · rw [pk_un q, pk_un q]; exact hs j (by omega)
theorem gx_ra {post : SX → Prop} {D : gd_D} {n g : Nat} (I : gd_Inv D n g) (S : gx_S D mk tm cn us ws rd wi) (hF : ∀ j, j < n → fa j = nI (gf_F D n g j))
    (h : ∀ rc' fi' so' : Nat → Int32, (∀ j, j < n → rc' j = gx_rc (gr_R D n g j) ∧ (gr_R D n g j ≠ 0 → fi' j = go_fn D n g j)) → post (nI n, gr, nI (gs_S D n g), oc, yv, mk, tm, cn, us, ws, rd, wi, vf, fa, de, rc', fi', ev, pl, la, so')) : wpX_receiveAll post (nI n, gr, nI (gs_S D n g), oc, yv, mk, tm, cn, us, ws, rd, wi, vf, fa, de, rc, fi, ev, pl, la, so) :=
  ⟨n + 1, gx_ra2 I S hF h n 0 (n + 1) rc fi so (by omega) (by omega) (fun j hj => absurd hj (by omega))⟩
end
end
section
/-! ===== the component: the order, and a new event ===== -/
def gx_V (D : gd_D) (n g : Nat) (st oc : Int32) (fa de rc fi ev pl : Nat → Int32) : Prop :=
  (∀ j, j < n → fa j = nI (gf_F D n g j) ∧ de j = gf_d D n g j) ∧ st = nI (gs_S D n g) ∧
  (∀ j, j < n → rc j = gx_rc (gr_R D n g j) ∧ (gr_R D n g j ≠ 0 → fi j = go_fn D n g j)) ∧ oc = nI (go_O D n g).1 ∧
  (∀ j, j < (go_O D n g).1 → ev j = nI ((go_O D n g).2 j)) ∧ (∀ j, j < (go_O D n g).1 → pl ((go_O D n g).2 j) = nI j)
def gx_L (D : gd_D) (n : Nat) (la : Nat → Int32) : Prop := ∀ m, m < 4 → ∃ o, la m = gf_dv o ∧ gm_own D n m o
def gx_R (D : gd_D) (n g : Nat) (u : SX) : Prop := match u with
  | (en, gr, st, oc, yv, mkk, tm, cn, us, ws, rd, wi, vf, fa, de, rc, fi, ev, pl, la, so) => en = nI n ∧ gr = nI g ∧ gx_S D mkk tm cn us ws rd wi ∧ gv_ok D n vf ∧ gx_L D n la ∧ gx_V D n g st oc fa de rc fi ev pl
theorem gi_map {α : Type} (c : α → Int32) {a : Nat → Int32} {f : Nat → α} (h : ∀ j, a j = c (f j)) (n : Nat) (x : α) : ∀ j, upd a n (c x) j = c (gi_up f n x j) := by
  intro j
  by_cases e : j = n
  · subst e; rw [pk_us, gi_us]
  · rw [pk_un e, gi_un e]; exact h j
theorem gx_S_make {D : gd_D} {n m : Nat} {o1 o2 : Option Nat} {t : Int32} {c : Bool} {mk tm cn : Nat → Int32} {us ws : Nat → Int64} {rd wi : Nat → Int32} (S : gx_S D mk tm cn us ws rd wi) :
    gx_S (gm_D D n m o1 o2 t c) (upd mk n (nI m)) (upd tm n t) (upd cn n (gd_bi c)) (vp_updL us n (gm_U D n o1 o2)) (vp_updL ws n (gm_W D n m o1 o2)) (upd rd n (nI (gm_r D n m o1 o2))) (upd wi n (gd_bi (gm_w D n m o1 o2))) := by
  obtain ⟨hmk, htm, hcn, hus, hws, hrd, hwi⟩ := S
  subst htm hus hws
  exact ⟨gi_map nI hmk n m, rfl, gi_map gd_bi hcn n c, rfl, rfl, gi_map nI hrd n _, gi_map gd_bi hwi n _⟩
theorem gx_L_make {D : gd_D} {n m : Nat} {o1 o2 : Option Nat} {t : Int32} {c : Bool} {la : Nat → Int32} (L : gx_L D n la) : gx_L (gm_D D n m o1 o2 t c) (n + 1) (upd la m (nI n)) := by
  intro k hk
  have mkn : ∀ j, gd_mk (gm_D D n m o1 o2 t c) j = gi_up (gd_mk D) n m j := fun _ => rfl
  by_cases e : k = m
  · subst e
    refine ⟨some n, pk_us, by omega, by rw [mkn, gi_us], fun j h1 h2 => by omega⟩
  · obtain ⟨o, ho, hw⟩ := L k hk
    refine ⟨o, by rw [pk_un e]; exact ho, ?_⟩
    have old : ∀ j, j < n + 1 → (j < n → gd_mk D j ≠ k) → gd_mk (gm_D D n m o1 o2 t c) j ≠ k := by
      intro j hj h
      rw [mkn]
      by_cases q : j = n
      · subst q; rw [gi_us]; exact fun z => e z.symm
      · rw [gi_un q]; exact h (by omega)
    cases o with
    | none => exact fun j hj => old j hj (fun h => hw j h)
    | some p =>
      obtain ⟨w1, w2, w3⟩ := hw
      refine ⟨by omega, by rw [mkn, gi_un (by omega)]; exact w2, fun j h1 h2 => old j h2 (fun h => w3 j h1 h)⟩
section
variable {en gr st oc : Int32} {yv : Int64} {mk tm cn : Nat → Int32} {us ws : Nat → Int64} {rd wi : Nat → Int32} {vf : Nat → Int64} {fa de rc fi ev pl la so : Nat → Int32}
theorem gx_cb {post : Int32 → Prop} {x e : Nat} {R : Nat → Nat} {fn : Nat → Int32} (hx : x < 48) (he : e < 48) (h1 : rc x = nI (R x)) (h2 : rc e = nI (R e)) (h3 : R x < 2 ^ 31) (h4 : R e < 2 ^ 31) (h5 : fi x = fn x) (h6 : fi e = fn e) (h : post (gd_bi (go_bf R fn x e))) : wpX_comesBefore post (en, gr, st, oc, yv, mk, tm, cn, us, ws, rd, wi, vf, fa, de, rc, fi, ev, pl, la, so) (nI x) (nI e) := by
  have cx : (nI x).toNatClampNeg = x := nI_clamp (by omega)
  have ce : (nI e).toNatClampNeg = e := nI_clamp (by omega)
  have vx : vp_in (nI x) 48 := vp_in_nI hx (by omega)
  have ve : vp_in (nI e) 48 := vp_in_nI he (by omega)
  refine ⟨vx, ve, ?_⟩
  rw [cx, ce, h1, h2, h5, h6]
  unfold go_bf at h
  refine pk_eq (R x) (R e) (fun q => ⟨vx, ve, ?_⟩) (fun q => ⟨vx, ve, ?_⟩)
  · rw [if_pos q] at h
    by_cases l : fn e ≤ fn x
    · rw [decide_eq_false (Int32.not_lt.mpr l)] at h; exact br_t l h
    · rw [decide_eq_true (Int32.not_le.mp l)] at h; exact br_f l h
  · rw [if_neg q] at h
    refine pk_le (R e) (R x) (fun l => ?_) (fun l => ?_)
    · rw [decide_eq_false (by omega)] at h; exact h
    · rw [decide_eq_true l] at h; exact h
def gx_bf (R : Nat → Nat) (fn : Nat → Int32) (x : Nat) (e : Int32) : Bool := go_bf R fn x e.toNatClampNeg
def gx_at (rc fi : Nat → Int32) (R : Nat → Nat) (fn : Nat → Int32) (i : Nat) : Prop := i < 48 ∧ rc i = nI (R i) ∧ R i < 2 ^ 31 ∧ fi i = fn i
theorem gx_io5 {post : SX → Prop} {x : Nat} {R : Nat → Nat} {fn : Nat → Int32} (hx : gx_at rc fi R fn x) : ∀ k f (ev : Nat → Int32), k < 48 → k < f → (∀ j, j < k → ∃ i, ev j = nI i ∧ gx_at rc fi R fn i) → post (en, gr, st, oc, yv, mk, tm, cn, us, ws, rd, wi, vf, fa, de, rc, fi, gi_ins (gx_bf R fn x) (nI x) k ev, pl, la, so) → wX_insertInOrder_5 post (nI x) en gr st oc yv f (nI k) mk tm cn us ws rd wi vf fa de rc fi ev pl la so := by
  intro k
  induction k with
  | zero =>
    intro f ev hk hf hs h
    obtain ⟨f, rfl⟩ : ∃ m, f = m + 1 := ⟨f - 1, by omega⟩
    rw [wX_insertInOrder_5]
    exact br_t (nI_le (Nat.le_refl 0) (by decide)) ⟨vp_in_nI (by omega) (by omega), nm_r (e' := gi_up ev 0 (nI x)) (by rw [nI_clamp (by omega)]; rfl) h⟩
  | succ k ih =>
    intro f ev hk hf hs h
    obtain ⟨f, rfl⟩ : ∃ m, f = m + 1 := ⟨f - 1, by omega⟩
    rw [wX_insertInOrder_5]
    have e1 : nI (k + 1) - 1 = nI k := nI_pred k
    have c1 : (nI (k + 1) - 1).toNatClampNeg = k := by rw [e1]; exact nI_clamp (by omega)
    have v1 : vp_in (nI (k + 1) - 1) 48 := by rw [e1]; exact vp_in_nI (by omega) (by omega)
    have c2 : (nI (k + 1)).toNatClampNeg = k + 1 := nI_clamp (by omega)
    have v2 : vp_in (nI (k + 1)) 48 := vp_in_nI hk (by omega)
    obtain ⟨i, ei, hi⟩ := hs k (by omega)
    refine br_f (nI_nle (by omega) (by omega)) ⟨v1, ?_⟩
    rw [c1, c2]
    rw [gi_ins] at h
    have eb : gx_bf R fn x (ev k) = go_bf R fn x i := by unfold gx_bf; rw [ei, nI_clamp (by have := hi.1; omega)]
    rw [eb] at h
    have call : ∀ P : Int32 → Prop, P (gd_bi (go_bf R fn x i)) → wpX_comesBefore P (en, gr, st, oc, yv, mk, tm, cn, us, ws, rd, wi, vf, fa, de, rc, fi, ev, pl, la, so) (nI x) (ev k) := fun P hP => by
      rw [ei]
      exact gx_cb hx.1 hi.1 hx.2.1 hi.2.1 hx.2.2.1 hi.2.2.1 hx.2.2.2 hi.2.2.2 hP
    refine call _ (gd_br (fun q => ⟨v2, nm_r (e' := gi_up ev (k + 1) (nI x)) rfl ?_⟩) (fun q => ⟨v1, v2, nm_r (e' := gi_up ev (k + 1) (ev k)) rfl (nm_r (pk_m1 k) (ih f _ (by omega) (by omega) (fun j hj => ?_) ?_))⟩))
    · rw [if_neg (by rw [q]; decide)] at h; exact h
    · rw [gi_un (by omega)]; exact hs j (by omega)
    · rw [if_pos q] at h; exact h
theorem gx_io {post : SX → Prop} {x k : Nat} {R : Nat → Nat} {fn : Nat → Int32} (hx : gx_at rc fi R fn x) (hk : k < 48) (hs : ∀ j, j < k → ∃ i, ev j = nI i ∧ gx_at rc fi R fn i) (h : post (en, gr, st, nI k, yv, mk, tm, cn, us, ws, rd, wi, vf, fa, de, rc, fi, gi_ins (gx_bf R fn x) (nI x) k ev, pl, la, so)) : wpX_insertInOrder post (en, gr, st, nI k, yv, mk, tm, cn, us, ws, rd, wi, vf, fa, de, rc, fi, ev, pl, la, so) (nI x) := ⟨k + 1, gx_io5 hx k (k + 1) ev hk (by omega) hs h⟩
theorem gx_pa46 {post : SX → Prop} {n k : Nat} {F : Nat → Nat} (hk : k ≤ 48) (hF : ∀ j, j < k → F j < 48) (hi : ∀ i j, i < j → j < k → F i ≠ F j) (he : ∀ j, j < k → ev j = nI (F j)) (h : ∀ pl' : Nat → Int32, (∀ j, j < k → pl' (F j) = nI j) → post (en, gr, st, nI k, yv, mk, tm, cn, us, ws, rd, wi, vf, fa, de, rc, fi, ev, pl', la, so)) :
    ∀ d i f (pl : Nat → Int32), i + d = k → d < f → (∀ j, j < i → pl (F j) = nI j) → wX_putAllInOrder_46 post en gr st (nI k) yv f (nI i) mk tm cn us ws rd wi vf fa de rc fi ev pl la so := by
  intro d
  induction d with
  | zero =>
    intro i f pl hd hf hp
    obtain ⟨f, rfl⟩ : ∃ m, f = m + 1 := ⟨f - 1, by omega⟩
    rw [wX_putAllInOrder_46]
    have e : i = k := by omega
    subst e
    exact br_t (nI_le (Nat.le_refl _) (by omega)) (h pl hp)
  | succ d ih =>
    intro i f pl hd hf hp
    obtain ⟨f, rfl⟩ : ∃ m, f = m + 1 := ⟨f - 1, by omega⟩
    rw [wX_putAllInOrder_46]
    have c : (nI i).toNatClampNeg = i := nI_clamp (by omega)
    have v : vp_in (nI i) 48 := vp_in_nI (by omega) (by omega)
    have hFi := hF i (by omega)
    refine br_f (nI_ge (by omega) (by omega)) ⟨v, ?_⟩
    rw [c, he i (by omega), nI_clamp (show F i < 2 ^ 31 by omega)]
    refine ⟨vp_in_nI hFi (by omega), nm_e (nm_r (nI_1 i) (ih (i + 1) f _ (by omega) (by omega) (fun j hj => ?_)))⟩
    by_cases q : j = i
    · subst q; exact pk_us
    · rw [pk_un (hi j i (by omega) (by omega))]; exact hp j (by omega)
theorem gx_pa7 {post : SX → Prop} {n : Nat} {R : Nat → Nat} {fn : Nat → Int32} (hn : n ≤ 48) (hR : ∀ j, R j < 2 ^ 31) (hr : ∀ j, j < n → rc j = gx_rc (R j) ∧ (R j ≠ 0 → fi j = fn j))
    (h : ∀ ev' pl' : Nat → Int32, (∀ j, j < (go_st R fn n).1 → ev' j = nI ((go_st R fn n).2 j)) → (∀ j, j < (go_st R fn n).1 → pl' ((go_st R fn n).2 j) = nI j) → post (nI n, gr, st, nI (go_st R fn n).1, yv, mk, tm, cn, us, ws, rd, wi, vf, fa, de, rc, fi, ev', pl', la, so)) :
    ∀ d i f (ev : Nat → Int32), i + d = n → d < f → (∀ j, j < (go_st R fn i).1 → ev j = nI ((go_st R fn i).2 j)) → wX_putAllInOrder_7 post f (nI i) (nI n) gr st (nI (go_st R fn i).1) yv mk tm cn us ws rd wi vf fa de rc fi ev pl la so := by
  have at' : ∀ j, j < n → R j ≠ 0 → gx_at rc fi R fn j := fun j hj h0 => ⟨by omega, by rw [(hr j hj).1, gx_rcN h0], hR j, (hr j hj).2 h0⟩
  intro d
  induction d with
  | zero =>
    intro i f ev hd hf hp
    obtain ⟨f, rfl⟩ : ∃ m, f = m + 1 := ⟨f - 1, by omega⟩
    rw [wX_putAllInOrder_7]
    have e : i = n := by omega
    subst e
    obtain ⟨g1, g2, g3, g4⟩ := go_is R fn i
    refine br_t (nI_le (Nat.le_refl _) (by omega)) ⟨(go_st R fn i).1 + 1, ?_⟩
    exact gx_pa46 (n := i) (by omega) (fun j hj => by have := (g2 j hj).1; omega) g3 hp (fun pl' hp' => h ev pl' hp hp') (go_st R fn i).1 0 _ pl (by omega) (by omega) (fun j hj => absurd hj (by omega))
  | succ d ih =>
    intro i f ev hd hf hp
    obtain ⟨f, rfl⟩ : ∃ m, f = m + 1 := ⟨f - 1, by omega⟩
    rw [wX_putAllInOrder_7]
    obtain ⟨g1, g2, g3, g4⟩ := go_is R fn i
    have ih := ih (i + 1) f
    refine br_f (nI_ge (by omega) (by omega)) (gx_ir (R := R i) (by omega) (hR i) (hr i (by omega)).1 (fun e => br_t rfl (nm_r (nI_1 i) ?_)) (fun e => br_f (by decide) ?_))
    · rw [go_f e] at ih
      exact ih ev (by omega) (by omega) hp
    · rw [go_t e] at ih
      refine gx_io (R := R) (fn := fn) (at' i (by omega) e) (by omega) (fun j hj => ⟨_, hp j hj, at' _ (by have := (g2 j hj).1; omega) (g2 j hj).2⟩) (nm_r (nI_1 _) (nm_r (nI_1 i) (ih _ (by omega) (by omega) ?_)))
      refine gi_below nI (gx_bf R fn i) (go_bf R fn i) i hp (fun j hj => ?_)
      unfold gx_bf
      rw [nI_clamp (by have := (g2 j hj).1; omega)]
theorem gx_pa {post : SX → Prop} {n : Nat} {R : Nat → Nat} {fn : Nat → Int32} (hn : n ≤ 48) (hR : ∀ j, R j < 2 ^ 31) (hr : ∀ j, j < n → rc j = gx_rc (R j) ∧ (R j ≠ 0 → fi j = fn j))
    (h : ∀ ev' pl' : Nat → Int32, (∀ j, j < (go_st R fn n).1 → ev' j = nI ((go_st R fn n).2 j)) → (∀ j, j < (go_st R fn n).1 → pl' ((go_st R fn n).2 j) = nI j) → post (nI n, gr, st, nI (go_st R fn n).1, yv, mk, tm, cn, us, ws, rd, wi, vf, fa, de, rc, fi, ev', pl', la, so)) : wpX_putAllInOrder post (nI n, gr, st, oc, yv, mk, tm, cn, us, ws, rd, wi, vf, fa, de, rc, fi, ev, pl, la, so) :=
  ⟨n + 1, gx_pa7 hn hR hr h n 0 (n + 1) ev (by omega) (by omega) (fun j hj => absurd hj (Nat.not_lt_zero _))⟩
theorem gx_me {post : Int32 → SX → Prop} {D : gd_D} {n g m : Nat} {o2 : Option Nat} {t : Int32} {c : Bool} (I : gd_Inv D n g) (hn : n < 48) (hm : m < 4) (S : gx_S D mk tm cn us ws rd wi) (V : gv_ok D n vf) (L : gx_L D n la) (h2 : gm_lt n o2)
    (h : ∀ o1 u', gm_own D n m o1 → gx_R (gm_D D n m o1 o2 t c) (n + 1) (gm_g D n g m o1 o2) u' → post (nI n) u') : wpX_makeEvent post (nI n, nI g, st, oc, yv, mk, tm, cn, us, ws, rd, wi, vf, fa, de, rc, fi, ev, pl, la, so) (nI m) (gf_dv o2) t (gd_bi c) := by
  have i48 := I.1
  obtain ⟨o1, hla, ho⟩ := L m hm
  have h1 := gm_own_lt ho
  have I' := gm_inv (t := t) (c := c) I hn hm ho h2
  have S' := gx_S_make (n := n) (m := m) (o1 := o1) (o2 := o2) (t := t) (c := c) S
  have V' := gv_make (m := m) (own := o1) (other := o2) (t := t) (c := c) I hn V
  have L' := gx_L_make (m := m) (o1 := o1) (o2 := o2) (t := t) (c := c) L
  have h := fun u' => h o1 u' ho
  obtain ⟨hmk, htm, hcn, hus, hws, hrd, hwi⟩ := S
  subst hus
  have cm : (nI m).toNatClampNeg = m := nI_clamp (by omega)
  have vm : vp_in (nI m) 4 := vp_in_nI hm (by omega)
  have cn' : (nI n).toNatClampNeg = n := nI_clamp (by omega)
  have vn : vp_in (nI n) 48 := vp_in_nI hn (by omega)
  have k1 := gm_lt48 i48 h1
  have k2 := gm_lt48 i48 h2
  have hmk' : ∀ j, upd mk n (nI m) j = nI (gi_up (gd_mk D) n m j) := gi_map nI hmk n m
  have h4' : ∀ j, gi_up (gd_mk D) n m j < 4 := I'.2.2.1
  refine ⟨vm, nm_r (e' := gf_dv o1) (by rw [cm]; exact hla) ⟨vn, nm_r (e' := upd mk n (nI m)) (by rw [cn']) ⟨vn, nm_r (e' := upd tm n t) (by rw [cn']) ⟨vn, nm_r (e' := upd cn n (gd_bi c)) (by rw [cn', gd_biV]) ⟨vm, nm_r (e' := upd la m (nI n)) (by rw [cm]) (nm_r (nI_1 n) ?_)⟩⟩⟩⟩⟩
  refine gx_kn k1 ?_
  refine gx_kn k2 ?_
  rw [gm_kn_eq, gm_kn_eq]
  refine ⟨vn, nm_r (e' := vp_updL (gd_us D) n (gm_U D n o1 o2)) (by rw [cn']; rfl) ?_⟩
  refine gx_wk (mn := gi_up (gd_mk D) n m) hn hmk' h4' ⟨vn, nm_r (e' := vp_updL ws n (gm_W D n m o1 o2)) (by rw [cn']; rfl) ?_⟩
  refine gx_pr (D := D) (m := m) hn I hrd hwi pk_uLs h1 h2 ?_
  refine gx_da I' S' V' (fun yv' fa' de' hF => ?_)
  refine gx_cs I' S'.2.2.2.2.2.1 S'.2.2.2.2.2.2 (fun j hj => (hF j hj).1) ?_
  refine gx_ra I' S' (fun j hj => (hF j hj).1) (fun rc' fi' so' hR => ?_)
  refine gx_pa (R := gr_R (gm_D D n m o1 o2 t c) (n + 1) (gm_g D n g m o1 o2)) (fn := go_fn (gm_D D n m o1 o2 t c) (n + 1) (gm_g D n g m o1 o2)) I'.1 (fun j => ?_) hR (fun ev' pl' hE hP => ?_)
  · have a := gr_R_le (gm_D D n m o1 o2 t c) (n + 1) (gm_g D n g m o1 o2) j
    have b := gs_S_le (gm_D D n m o1 o2 t c) (n + 1) (gm_g D n g m o1 o2)
    have c := I'.2.1
    omega
  · exact h _ ⟨rfl, rfl, S', V', L', hF, rfl, hR, rfl, hE, hP⟩
end
end
section
/-! ===== the reference: its readers, and a new event ===== -/
def gy_lv : Option Nat → Int32
  | none => -1
  | some p => nI p
theorem gm_own_uni {D : gd_D} {n m : Nat} {o o' : Option Nat} (h : gm_own D n m o) (h' : gm_own D n m o') : o = o' := by
  cases o with
  | none =>
    cases o' with
    | none => rfl
    | some p => exact absurd h'.2.1 (h p h'.1)
  | some q =>
    cases o' with
    | none => exact absurd h.2.1 (h' q h.1)
    | some p =>
      rcases Nat.lt_trichotomy p q with l | l | l
      · exact absurd h.2.1 (h'.2.2 q l h.1)
      · rw [l]
      · exact absurd h'.2.1 (h.2.2 p l h'.1)
theorem gy_uu (f : Nat → Int64) (n : Nat) (a b : Int64) : vp_updL (vp_updL f n a) n b = vp_updL f n b := by
  funext j
  unfold vp_updL
  split <;> rfl
theorem gy_lvn {o : Option Nat} (ho : gm_lt 48 o) : (o = none ∧ gy_lv o < 0) ∨ (∃ p, o = some p ∧ p < 48 ∧ gy_lv o = nI p ∧ ¬ gy_lv o < 0) := by
  cases o with
  | none => exact Or.inl ⟨rfl, by decide⟩
  | some p =>
    have hp : p < 48 := ho
    exact Or.inr ⟨p, rfl, hp, rfl, nI_pos (by omega)⟩
section
variable {ct gt sr oy my : Int32} {mk tm cn : Nat → Int32} {us ws : Nat → Int64} {rd wi vt fm dc ry fy od sy : Nat → Int32}
theorem gy_has {post : Int32 → Prop} {s : Int64} {k : Nat} (hk : k < 48) (h : post (gd_bi (gb s k))) : wpY_has post (ct, gt, sr, oy, my, mk, tm, cn, us, ws, rd, wi, vt, fm, dc, ry, fy, od, sy) s (nI k) := by
  cases e : gb s k with
  | true => rw [e] at h; exact br_t ((gb_sh s (by omega)).mpr e) h
  | false => rw [e] at h; exact br_f (fun z => by rw [(gb_sh s (by omega)).mp z] at e; cases e) h
theorem gy_wo' {post : Int32 → Prop} {x k : Nat} {b : Bool} {r : Int32} (hx : x < 48) (hw : wi x = gd_bi b) (hr : rd x = nI k) (h : post (gd_bi (b && decide (nI k = r)))) : wpY_isWitness post (ct, gt, sr, oy, my, mk, tm, cn, us, ws, rd, wi, vt, fm, dc, ry, fy, od, sy) (nI x) r := by
  have c : (nI x).toNatClampNeg = x := nI_clamp (by omega)
  have v : vp_in (nI x) 48 := vp_in_nI hx (by omega)
  refine ⟨v, ?_⟩
  rw [c, hw, hr]
  refine gd_br (fun e => ?_) (fun e => ⟨v, ?_⟩)
  · subst e; exact h
  · subst e
    by_cases q : nI k = r
    · rw [decide_eq_true q] at h; exact br_t q h
    · rw [decide_eq_false q] at h; exact br_f q h
theorem gy_wo {post : Int32 → Prop} {x k r : Nat} {b : Bool} (hx : x < 48) (hw : wi x = gd_bi b) (hr : rd x = nI k) (hk : k < 2 ^ 31) (hr2 : r < 2 ^ 31) (h : post (gd_bi (b && (k == r)))) : wpY_isWitness post (ct, gt, sr, oy, my, mk, tm, cn, us, ws, rd, wi, vt, fm, dc, ry, fy, od, sy) (nI x) (nI r) :=
  gy_wo' hx hw hr (by rw [gd_dec hk hr2]; exact h)
theorem gy_lo7 {post : Int32 → Prop} {D : gd_D} {n m : Nat} (hn : n ≤ 48) (hm : m < 4) (hmk : ∀ j, mk j = nI (gd_mk D j)) (h4 : ∀ j, gd_mk D j < 4) (h : ∀ o, gm_own D n m o → post (gy_lv o)) :
    ∀ i f, i ≤ n → i < f → (∀ j, i ≤ j → j < n → gd_mk D j ≠ m) → wY_latestOf_7 post (nI m) ct gt sr oy my mk tm cn us ws rd wi vt fm dc ry fy od sy f (nI i - 1) := by
  intro i
  induction i with
  | zero =>
    intro f hi hf hno
    obtain ⟨f, rfl⟩ : ∃ k, f = k + 1 := ⟨f - 1, by omega⟩
    rw [wY_latestOf_7]
    exact br_t (by decide) (h none (fun j hj => hno j (Nat.zero_le _) hj))
  | succ i ih =>
    intro f hi hf hno
    obtain ⟨f, rfl⟩ : ∃ k, f = k + 1 := ⟨f - 1, by omega⟩
    rw [wY_latestOf_7, nI_pred]
    refine br_f (nI_pos (by omega)) ⟨vp_in_nI (by omega) (by omega), ?_⟩
    rw [nI_clamp (by omega), hmk]
    have hi4 := h4 i
    refine pk_eq (gd_mk D i) m (fun e => h (some i) ⟨by omega, e, fun j h1 h2 => hno j (by omega) h2⟩) (fun e => nm_r (e' := nI i - 1) (Int32.sub_eq_add_neg _ _).symm (ih f (by omega) (by omega) (fun j h1 h2 => ?_)))
    by_cases q : j = i
    · subst q; exact e
    · exact hno j (by omega) h2
theorem gy_lo {post : Int32 → Prop} {D : gd_D} {n m : Nat} (hn : n ≤ 48) (hm : m < 4) (hmk : ∀ j, mk j = nI (gd_mk D j)) (h4 : ∀ j, gd_mk D j < 4) (h : ∀ o, gm_own D n m o → post (gy_lv o)) : wpY_latestOf post (nI n, gt, sr, oy, my, mk, tm, cn, us, ws, rd, wi, vt, fm, dc, ry, fy, od, sy) (nI m) :=
  nm_e ⟨n + 1, gy_lo7 hn hm hmk h4 h n (n + 1) (Nat.le_refl _) (by omega) (fun j h1 h2 => absurd h2 (by omega))⟩
theorem gy_ot17 {post : Int32 → Prop} {J : Int32 → Int32 → Prop} {s : Int64} {k m : Nat} {mn : Nat → Nat} (hm : m < 4) (hmk : ∀ j, mk j = nI (mn j)) (h4 : ∀ j, mn j < 4)
    (h : J (nI (k + (if gc_any (fun z => gb s z && (mn z == m)) 48 = true then 1 else 0))) (nI (m + 1))) :
    ∀ d i f, i + d = 48 → d < f → wY_ofThree_17 post J s (nI k) (nI m) ct gt sr oy my mk tm cn us ws rd wi vt fm dc ry fy od sy f (gd_bi (gc_any (fun z => gb s z && (mn z == m)) i)) (nI i) := by
  intro d
  induction d with
  | zero =>
    intro i f hi hf
    obtain ⟨f, rfl⟩ : ∃ q, f = q + 1 := ⟨f - 1, by omega⟩
    rw [wY_ofThree_17]
    have e : i = 48 := by omega
    subst e
    refine br_t (nI_le (Nat.le_refl 48) (by omega)) (gd_br (fun e => nm_r (nI_1 m) ?_) (fun e => nm_r (nI_1 k) (nm_r (nI_1 m) ?_)))
    · rw [if_neg (by rw [e]; decide)] at h; exact h
    · rw [if_pos e] at h; exact h
  | succ d ih =>
    intro i f hi hf
    obtain ⟨f, rfl⟩ : ∃ q, f = q + 1 := ⟨f - 1, by omega⟩
    rw [wY_ofThree_17]
    have ih := ih (i + 1) f (by omega) (by omega)
    rw [gc_any] at ih
    have hi4 := h4 i
    refine br_f (nI_ge (b := 48) (by omega) (by decide)) (gd_br (fun e => gy_has (by omega) (gd_br (fun e2 => nm_r (nI_1 i) ?_) (fun e2 => ⟨vp_in_nI (by omega) (by omega), ?_⟩))) (fun e => nm_r (nI_1 i) ?_))
    · rw [e, e2, Bool.false_and, Bool.or_false] at ih; exact ih
    · rw [nI_clamp (by omega), hmk]
      refine pk_eq (mn i) m (fun q => nm_r (nI_1 i) ?_) (fun q => nm_r (nI_1 i) ?_)
      · rw [e, e2, beq_iff_eq.mpr q] at ih; exact ih
      · rw [e, e2, beq_eq_false_iff_ne.mpr q] at ih; exact ih
    · rw [e, Bool.true_or] at ih; exact ih
theorem gy_ot5 {post : Int32 → Prop} {s : Int64} {mn : Nat → Nat} (hmk : ∀ j, mk j = nI (mn j)) (h4 : ∀ j, mn j < 4) (h : post (gd_bi (decide (3 ≤ gc_mem mn (gb s) 48)))) :
    ∀ d i f, i + d = 4 → d < f → wY_ofThree_5 post s ct gt sr oy my mk tm cn us ws rd wi vt fm dc ry fy od sy f (nI (gc_cnt (fun m => gc_any (fun z => gb s z && (mn z == m)) 48) i)) (nI i) := by
  intro d
  induction d with
  | zero =>
    intro i f hi hf
    obtain ⟨f, rfl⟩ : ∃ q, f = q + 1 := ⟨f - 1, by omega⟩
    rw [wY_ofThree_5]
    have e : i = 4 := by omega
    subst e
    have b := gc_mem_le mn (gb s) 48
    refine br_t (nI_le (Nat.le_refl 4) (by omega)) (pk_lt (gc_mem mn (gb s) 48) 3 (fun l => ?_) (fun l => ?_))
    · rw [decide_eq_false (by omega)] at h; exact h
    · rw [decide_eq_true l] at h; exact h
  | succ d ih =>
    intro i f hi hf
    obtain ⟨f, rfl⟩ : ∃ q, f = q + 1 := ⟨f - 1, by omega⟩
    rw [wY_ofThree_5]
    exact br_f (nI_ge (b := 4) (by omega) (by decide)) ⟨49, gy_ot17 (by omega) hmk h4 (ih (i + 1) f (by omega) (by omega)) 48 0 49 (by omega) (by omega)⟩
theorem gy_ot {post : Int32 → Prop} {s : Int64} {mn : Nat → Nat} (hmk : ∀ j, mk j = nI (mn j)) (h4 : ∀ j, mn j < 4) (h : post (gd_bi (decide (3 ≤ gc_mem mn (gb s) 48)))) : wpY_ofThree post (ct, gt, sr, oy, my, mk, tm, cn, us, ws, rd, wi, vt, fm, dc, ry, fy, od, sy) s := ⟨5, gy_ot5 hmk h4 h 4 0 5 (by omega) (by omega)⟩
theorem gy_wu17 {post : Int64 → Prop} {J : Int64 → Int32 → Prop} {y x : Nat} {a : Int64} {mn : Nat → Nat} (hy : y < 48) (hx : x < 48) (hmk : ∀ j, mk j = nI (mn j)) (h4 : ∀ j, mn j < 4)
    (h : J (if gm_c mn us y x = true then a ||| (1 : Int64) <<< ((nI x).toInt64 &&& 63) else a) (nI (x + 1))) :
    ∀ d i f, i + d = y + 1 → d < f → wY_wellUnderOf_17 post J (nI y) a (nI x) ct gt sr oy my mk tm cn us ws rd wi vt fm dc ry fy od sy f (gw_set (fun z => gb (us y) z && gb (us z) x) i) (nI i) := by
  intro d
  induction d with
  | zero =>
    intro i f hi hf
    obtain ⟨f, rfl⟩ : ∃ q, f = q + 1 := ⟨f - 1, by omega⟩
    rw [wY_wellUnderOf_17]
    have e : i = y + 1 := by omega
    subst e
    refine br_t (nI_lt (by omega) (by omega)) (gy_ot hmk h4 ?_)
    rw [gw_mem mn _ (by omega)]
    refine gd_br (fun e => nm_r (nI_1 x) ?_) (fun e => nm_e (nm_r (nI_1 x) ?_))
    · have e : gm_c mn us y x = false := e
      rw [if_neg (by rw [e]; decide)] at h; exact h
    · have e : gm_c mn us y x = true := e
      rw [if_pos e] at h; exact h
  | succ d ih =>
    intro i f hi hf
    obtain ⟨f, rfl⟩ : ∃ q, f = q + 1 := ⟨f - 1, by omega⟩
    rw [wY_wellUnderOf_17]
    have ih := ih (i + 1) f (by omega) (by omega)
    rw [gw_set] at ih
    refine br_f (nI_nlt (by omega) (by omega)) ⟨vp_in_nI hy (by omega), ?_⟩
    rw [nI_clamp (show y < 2 ^ 31 by omega), nI_clamp (show i < 2 ^ 31 by omega)]
    refine gy_has (by omega) (gd_br (fun e => nm_r (nI_1 i) ?_) (fun e => ⟨vp_in_nI (by omega) (by omega), gy_has hx (gd_br (fun e2 => nm_r (nI_1 i) ?_) (fun e2 => nm_e (nm_r (nI_1 i) ?_)))⟩))
    · rw [e, Bool.false_and, if_neg (by decide)] at ih; exact ih
    · rw [e2, Bool.and_false, if_neg (by decide)] at ih; exact ih
    · rw [e, e2, Bool.true_and, if_pos rfl] at ih; exact ih
theorem gy_wu5 {post : Int64 → Prop} {y : Nat} {mn : Nat → Nat} (hy : y < 48) (hmk : ∀ j, mk j = nI (mn j)) (h4 : ∀ j, mn j < 4) (h : post (gw_set (gm_c mn us y) (y + 1))) :
    ∀ d i f, i + d = y + 1 → d < f → wY_wellUnderOf_5 post (nI y) ct gt sr oy my mk tm cn us ws rd wi vt fm dc ry fy od sy f (gw_set (gm_c mn us y) i) (nI i) := by
  intro d
  induction d with
  | zero =>
    intro i f hi hf
    obtain ⟨f, rfl⟩ : ∃ q, f = q + 1 := ⟨f - 1, by omega⟩
    rw [wY_wellUnderOf_5]
    have e : i = y + 1 := by omega
    subst e
    exact br_t (nI_lt (by omega) (by omega)) h
  | succ d ih =>
    intro i f hi hf
    obtain ⟨f, rfl⟩ : ∃ q, f = q + 1 := ⟨f - 1, by omega⟩
    rw [wY_wellUnderOf_5]
    have ih := ih (i + 1) f (by omega) (by omega)
    rw [gw_set] at ih
    exact br_f (nI_nlt (by omega) (by omega)) ⟨y + 2, gy_wu17 hy (by omega) hmk h4 ih (y + 1) 0 (y + 2) (by omega) (by omega)⟩
theorem gy_wu {post : Int64 → Prop} {y : Nat} {mn : Nat → Nat} (hy : y < 48) (hmk : ∀ j, mk j = nI (mn j)) (h4 : ∀ j, mn j < 4) (h : post (gw_set (gm_c mn us y) (y + 1))) : wpY_wellUnderOf post (ct, gt, sr, oy, my, mk, tm, cn, us, ws, rd, wi, vt, fm, dc, ry, fy, od, sy) (nI y) :=
  ⟨y + 2, gy_wu5 hy hmk h4 h (y + 1) 0 (y + 2) (by omega) (by omega)⟩
end
end
section
/-! ===== the reference: a new event ===== -/
section
variable {ct gt sr oy my : Int32} {mk tm cn : Nat → Int32} {us ws : Nat → Int64} {rd wi vt fm dc ry fy od sy : Nat → Int32}
theorem gy_277 {post : Int32 → SY → Prop} {n g R : Nat} {w : Bool} (hn : n < 48) (hg : g < 2 ^ 31) (hR : R < 2 ^ 31) (hrd : rd n = nI R)
    (h : post (nI n) (nI (n + 1), nI (if g < R then R else g), sr, oy, my, mk, tm, cn, us, ws, rd, upd wi n (gd_bi w), vt, fm, dc, ry, fy, od, sy)) : wY_make_277 post (nI n) (gd_bi w) (nI n) (nI n) (nI g) sr oy my mk tm cn us ws rd wi vt fm dc ry fy od sy := by
  have c : (nI n).toNatClampNeg = n := nI_clamp (by omega)
  have v : vp_in (nI n) 48 := vp_in_nI hn (by omega)
  refine ⟨v, nm_r (e' := upd wi n (gd_bi w)) (by rw [c, gd_biV]) ⟨v, ?_⟩⟩
  rw [c, hrd]
  refine pk_le R g (fun l => nm_r (nI_1 n) ?_) (fun l => ⟨v, nm_r (nI_1 n) ?_⟩)
  · rw [if_neg (by omega)] at h; exact h
  · rw [if_pos l] at h; exact h
theorem gy_245 {post : Int32 → SY → Prop} {D : gd_D} {n g R : Nat} {o1 : Option Nat} (hn : n < 48) (hg : g < 2 ^ 31) (hR1 : 1 ≤ R) (hR : R < 2 ^ 31) (hrd : ∀ j, rd j = nI (gd_rd D j)) (hb : ∀ j, gd_rd D j < 2 ^ 31) (h1 : gm_lt n o1)
    (h : post (nI n) (nI (n + 1), nI (if g < R then R else g), sr, oy, my, mk, tm, cn, us, ws, upd rd n (nI R), upd wi n (gd_bi (decide (gm_rp D o1 < R))), vt, fm, dc, ry, fy, od, sy)) : wY_make_245 post (gy_lv o1) (nI n) (nI R) (nI n) (nI n) (nI g) sr oy my mk tm cn us ws rd wi vt fm dc ry fy od sy := by
  have c : (nI n).toNatClampNeg = n := nI_clamp (by omega)
  have v : vp_in (nI n) 48 := vp_in_nI hn (by omega)
  refine ⟨v, nm_r (e' := upd rd n (nI R)) (by rw [c]) ?_⟩
  cases o1 with
  | none =>
    rw [decide_eq_true (show gm_rp D none < R from hR1)] at h
    exact br_t (by decide) (gy_277 (w := true) hn hg hR pk_us h)
  | some p =>
    have hp : p < n := h1
    have cp : (nI p).toNatClampNeg = p := nI_clamp (by omega)
    refine br_f (nI_pos (by omega)) ⟨vp_in_nI (by omega) (by omega), v, ?_⟩
    show ((upd rd n (nI R) (nI n).toNatClampNeg ≤ upd rd n (nI R) (nI p).toNatClampNeg → _) ∧ (¬ upd rd n (nI R) (nI n).toNatClampNeg ≤ upd rd n (nI R) (nI p).toNatClampNeg → _))
    rw [c, cp, pk_us, pk_un (by omega), hrd]
    have hbp := hb p
    refine pk_le R (gd_rd D p) (fun l => ?_) (fun l => ?_)
    · rw [decide_eq_false (show ¬ gm_rp D (some p) < R by show ¬ gd_rd D p < R; omega)] at h
      exact gy_277 (w := false) hn hg hR pk_us h
    · rw [decide_eq_true (show gm_rp D (some p) < R from l)] at h
      exact gy_277 (w := true) hn hg hR pk_us h
theorem gy_151 {post : Int32 → SY → Prop} {D : gd_D} {n g m : Nat} {o1 o2 : Option Nat} (I : gd_Inv D n g) (hn : n < 48) (hm : m < 4) (hmk : ∀ j, mk j = nI (gi_up (gd_mk D) n m j)) (hrd : ∀ j, rd j = nI (gd_rd D j)) (hwi : ∀ j, wi j = gd_bi (gd_wi D j)) (hW : ws n = gm_W D n m o1 o2) (h1 : gm_lt n o1) (hno : o1 = none → o2 = none)
    (h : post (nI n) (nI (n + 1), nI (gm_g D n g m o1 o2), sr, oy, my, mk, tm, cn, us, ws, upd rd n (nI (gm_r D n m o1 o2)), upd wi n (gd_bi (gm_w D n m o1 o2)), vt, fm, dc, ry, fy, od, sy)) :
    ∀ d i f, i + d = n → d < f → wY_make_151 post (gy_lv o1) (nI n) (nI (gm_r0 D o1 o2)) (nI n) (nI g) sr oy my mk tm cn us ws rd wi vt fm dc ry fy od sy f (gw_set (gm_ps D (gm_W D n m o1 o2) (gm_r0 D o1 o2)) i) (nI i) := by
  have i48 := I.1
  have ig := I.2.1
  have ird := I.2.2.2.1
  have r0 := gm_r0_le I o1 o2
  have rr := gm_r_r0 D n m o1 o2
  have hb : ∀ j, gd_rd D j < 2 ^ 31 := fun j => by have := ird j; omega
  have h4 : ∀ j, gi_up (gd_mk D) n m j < 4 := fun j => by
    by_cases e : j = n
    · subst e; rw [gi_us]; exact hm
    · rw [gi_un e]; exact I.2.2.1 j
  have fin : wY_make_245 post (gy_lv o1) (nI n) (nI (gm_r D n m o1 o2)) (nI n) (nI n) (nI g) sr oy my mk tm cn us ws rd wi vt fm dc ry fy od sy := gy_245 hn (by omega) rr.2.2 (by omega) hrd hb h1 h
  have mem : gc_mem (gi_up (gd_mk D) n m) (gm_ps D (gm_W D n m o1 o2) (gm_r0 D o1 o2)) n = gc_cnt (gm_ps D (gm_W D n m o1 o2) (gm_r0 D o1 o2)) n := by
    rw [← gm_inj I]
    exact gc_mem_congr (fun z _ => rfl) (fun z hz => gi_un (by omega))
  intro d
  induction d with
  | zero =>
    intro i f hi hf
    obtain ⟨f, rfl⟩ : ∃ q, f = q + 1 := ⟨f - 1, by omega⟩
    rw [wY_make_151]
    have e : i = n := by omega
    subst e
    refine br_t (nI_le (Nat.le_refl _) (by omega)) ?_
    cases o1 with
    | none =>
      have e2 := hno rfl
      subst e2
      have e3 : gm_r D i m none none = 1 := by unfold gm_r; exact if_pos (Or.inl rfl)
      rw [e3] at fin
      exact br_f (by decide) fin
    | some p =>
      have hp : p < i := h1
      have hrp : 1 ≤ gm_r0 D (some p) o2 := Nat.le_trans (I.2.2.2.2.1 p hp) (gm_r0_own D (some p) o2)
      refine br_t (nI_pos' (by omega)) (gy_ot hmk h4 ?_)
      rw [gw_mem _ _ (by omega), mem]
      refine gd_br (fun e => ?_) (fun e => ?_)
      · rw [decide_eq_false_iff_not] at e
        have e3 : gm_r D i m (some p) o2 = gm_r0 D (some p) o2 := by
          unfold gm_r
          refine if_neg (fun q => ?_)
          rcases q with q | q
          · omega
          · exact e q
        rw [e3] at fin
        exact fin
      · rw [decide_eq_true_eq] at e
        have e3 : gm_r D i m (some p) o2 = gm_r0 D (some p) o2 + 1 := by unfold gm_r; exact if_pos (Or.inr e)
        rw [e3] at fin
        rw [nI_1]
        exact fin
  | succ d ih =>
    intro i f hi hf
    obtain ⟨f, rfl⟩ : ∃ q, f = q + 1 := ⟨f - 1, by omega⟩
    rw [wY_make_151]
    have ih := ih (i + 1) f (by omega) (by omega)
    rw [gw_set] at ih
    unfold gm_ps at ih
    have v : vp_in (nI i) 48 := vp_in_nI (by omega) (by omega)
    have hbi := hb i
    refine br_f (nI_ge (by omega) (by omega)) ⟨v, ?_⟩
    rw [nI_clamp (show i < 2 ^ 31 by omega), nI_clamp (show n < 2 ^ 31 by omega), hwi, hrd, hW]
    refine gd_br (fun e => nm_r (nI_1 i) ?_) (fun e => ⟨v, pk_eq (gd_rd D i) (gm_r0 D o1 o2) (fun q => ⟨vp_in_nI hn (by omega), gy_has (by omega) (gd_br (fun e2 => nm_r (nI_1 i) ?_) (fun e2 => nm_e (nm_r (nI_1 i) ?_)))⟩) (fun q => nm_r (nI_1 i) ?_)⟩)
    · rw [e, Bool.false_and, Bool.false_and, if_neg (by decide)] at ih; exact ih
    · rw [e2, Bool.and_false, if_neg (by decide)] at ih; exact ih
    · rw [e, e2, beq_iff_eq.mpr q, if_pos (by rfl)] at ih; exact ih
    · rw [beq_eq_false_iff_ne.mpr q, Bool.and_false, Bool.false_and, if_neg (by decide)] at ih; exact ih
theorem gy_120 {post : Int32 → SY → Prop} {D : gd_D} {n g m : Nat} {o1 o2 : Option Nat} (I : gd_Inv D n g) (hn : n < 48) (hm : m < 4) (hmk : ∀ j, mk j = nI (gi_up (gd_mk D) n m j)) (hrd : ∀ j, rd j = nI (gd_rd D j)) (hwi : ∀ j, wi j = gd_bi (gd_wi D j)) (hW : ws n = gm_W D n m o1 o2) (h1 : gm_lt n o1) (h2 : gm_lt n o2) (hno : o1 = none → o2 = none)
    (h : post (nI n) (nI (n + 1), nI (gm_g D n g m o1 o2), sr, oy, my, mk, tm, cn, us, ws, upd rd n (nI (gm_r D n m o1 o2)), upd wi n (gd_bi (gm_w D n m o1 o2)), vt, fm, dc, ry, fy, od, sy)) : wY_make_120 post (gy_lv o1) (gy_lv o2) (nI n) (nI (gm_rp D o1)) (nI n) (nI g) sr oy my mk tm cn us ws rd wi vt fm dc ry fy od sy := by
  have ig := I.2.1
  have a1 := gm_rp_le I o1
  have fin : ∃ f, wY_make_151 post (gy_lv o1) (nI n) (nI (gm_r0 D o1 o2)) (nI n) (nI g) sr oy my mk tm cn us ws rd wi vt fm dc ry fy od sy f 0 0 := ⟨n + 1, gy_151 I hn hm hmk hrd hwi hW h1 hno h n 0 (n + 1) (by omega) (by omega)⟩
  cases o2 with
  | none =>
    have e : gm_r0 D o1 none = gm_rp D o1 := by
      unfold gm_r0
      show (if 0 < gm_rp D o1 then gm_rp D o1 else 0) = _
      split <;> omega
    rw [e] at fin
    exact br_t (by decide) fin
  | some p =>
    have hp : p < n := h2
    have v : vp_in (nI p) 48 := vp_in_nI (by omega) (by omega)
    have c : (nI p).toNatClampNeg = p := nI_clamp (by omega)
    have a2 := I.2.2.2.1 p
    refine br_f (nI_pos (by omega)) ⟨v, ?_⟩
    show ((rd (nI p).toNatClampNeg ≤ _ → _) ∧ (¬ rd (nI p).toNatClampNeg ≤ _ → vp_in (nI p) 48 ∧ (∀ x, x = rd (nI p).toNatClampNeg → _)))
    rw [c, hrd]
    refine pk_le (gd_rd D p) (gm_rp D o1) (fun l => ?_) (fun l => ⟨v, nm_e ?_⟩)
    · have e : gm_r0 D o1 (some p) = gm_rp D o1 := by
        unfold gm_r0
        show (if gd_rd D p < gm_rp D o1 then gm_rp D o1 else gd_rd D p) = _
        split <;> omega
      rw [e] at fin
      exact fin
    · have e : gm_r0 D o1 (some p) = gd_rd D p := by
        unfold gm_r0
        show (if gd_rd D p < gm_rp D o1 then gm_rp D o1 else gd_rd D p) = _
        exact if_neg (by omega)
      rw [e] at fin
      exact fin
theorem gy_93 {post : Int32 → SY → Prop} {D : gd_D} {n g m : Nat} {o1 o2 : Option Nat} (I : gd_Inv D n g) (hn : n < 48) (hm : m < 4) (hmk : ∀ j, mk j = nI (gi_up (gd_mk D) n m j)) (hus : us = gi_up (gd_us D) n (gm_U D n o1 o2)) (hrd : ∀ j, rd j = nI (gd_rd D j)) (hwi : ∀ j, wi j = gd_bi (gd_wi D j)) (h1 : gm_lt n o1) (h2 : gm_lt n o2) (hno : o1 = none → o2 = none)
    (h : post (nI n) (nI (n + 1), nI (gm_g D n g m o1 o2), sr, oy, my, mk, tm, cn, us, vp_updL ws n (gm_W D n m o1 o2), upd rd n (nI (gm_r D n m o1 o2)), upd wi n (gd_bi (gm_w D n m o1 o2)), vt, fm, dc, ry, fy, od, sy)) : wY_make_93 post (gy_lv o1) (gy_lv o2) (nI n) (nI n) (nI g) sr oy my mk tm cn us ws rd wi vt fm dc ry fy od sy := by
  subst hus
  have h4 : ∀ j, gi_up (gd_mk D) n m j < 4 := fun j => by
    by_cases e : j = n
    · subst e; rw [gi_us]; exact hm
    · rw [gi_un e]; exact I.2.2.1 j
  have c : (nI n).toNatClampNeg = n := nI_clamp (by omega)
  have v : vp_in (nI n) 48 := vp_in_nI hn (by omega)
  refine gy_wu hn hmk h4 ⟨v, nm_r (e' := vp_updL ws n (gm_W D n m o1 o2)) (by rw [c]; rfl) ?_⟩
  have fin := gy_120 (us := gi_up (gd_us D) n (gm_U D n o1 o2)) (ws := vp_updL ws n (gm_W D n m o1 o2)) I hn hm hmk hrd hwi pk_uLs h1 h2 hno h
  cases o1 with
  | none => exact br_f (by decide) fin
  | some p =>
    have hp : p < n := h1
    refine br_t (nI_pos' (by omega)) ⟨vp_in_nI (by omega) (by omega), ?_⟩
    show wY_make_120 post (nI p) (gy_lv o2) (nI n) (rd (nI p).toNatClampNeg) (nI n) (nI g) sr oy my mk tm cn (gi_up (gd_us D) n (gm_U D n (some p) o2)) (vp_updL ws n (gm_W D n m (some p) o2)) rd wi vt fm dc ry fy od sy
    rw [nI_clamp (by omega), hrd]
    exact fin
theorem gy_mk {post : Int32 → SY → Prop} {D : gd_D} {n g m : Nat} {o1 o2 : Option Nat} {t : Int32} {c : Bool} (I : gd_Inv D n g) (hn : n < 48) (hm : m < 4) (S : gx_S D mk tm cn us ws rd wi) (h1 : gm_lt n o1) (h2 : gm_lt n o2) (hno : o1 = none → o2 = none)
    (h : post (nI n) (nI (n + 1), nI (gm_g D n g m o1 o2), sr, oy, my, upd mk n (nI m), upd tm n t, upd cn n (gd_bi c), vp_updL us n (gm_U D n o1 o2), vp_updL ws n (gm_W D n m o1 o2), upd rd n (nI (gm_r D n m o1 o2)), upd wi n (gd_bi (gm_w D n m o1 o2)), vt, fm, dc, ry, fy, od, sy)) : wpY_make post (nI n, nI g, sr, oy, my, mk, tm, cn, us, ws, rd, wi, vt, fm, dc, ry, fy, od, sy) (nI m) (gy_lv o1) (gy_lv o2) t (gd_bi c) := by
  obtain ⟨hmk, htm, hcn, hus, hws, hrd, hwi⟩ := S
  subst hus
  have cl : (nI n).toNatClampNeg = n := nI_clamp (by omega)
  have v : vp_in (nI n) 48 := vp_in_nI hn (by omega)
  have hmk' : ∀ j, upd mk n (nI m) j = nI (gi_up (gd_mk D) n m j) := gi_map nI hmk n m
  have s93 : wY_make_93 post (gy_lv o1) (gy_lv o2) (nI n) (nI n) (nI g) sr oy my (upd mk n (nI m)) (upd tm n t) (upd cn n (gd_bi c)) (vp_updL (gd_us D) n (gm_U D n o1 o2)) ws rd wi vt fm dc ry fy od sy := gy_93 I hn hm hmk' rfl hrd hwi h1 h2 hno h
  have s68 : wY_make_68 post (gy_lv o1) (gy_lv o2) (nI n) (nI n) (nI g) sr oy my (upd mk n (nI m)) (upd tm n t) (upd cn n (gd_bi c)) (vp_updL (gd_us D) n (((1 : Int64) <<< ((nI n).toInt64 &&& 63)) ||| gm_kn D o1)) ws rd wi vt fm dc ry fy od sy := by
    cases o2 with
    | none =>
      have e : gm_U D n o1 none = ((1 : Int64) <<< ((nI n).toInt64 &&& 63)) ||| gm_kn D o1 := Int64.or_zero
      rw [e] at s93
      exact br_t (by decide) s93
    | some p =>
      have hp : p < n := h2
      refine br_f (nI_pos (by omega)) ⟨v, vp_in_nI (by omega) (by omega), v, nm_r (e' := vp_updL (gd_us D) n (gm_U D n o1 (some p))) ?_ s93⟩
      show vp_updL (vp_updL (gd_us D) n _) (nI n).toNatClampNeg (vp_updL (gd_us D) n _ (nI n).toNatClampNeg ||| vp_updL (gd_us D) n _ (nI p).toNatClampNeg) = _
      rw [cl, nI_clamp (show p < 2 ^ 31 by omega), gy_uu, pk_uLs, pk_uLn (by omega)]
      rfl
  refine ⟨v, nm_r (e' := upd mk n (nI m)) (by rw [cl]) ⟨v, nm_r (e' := upd tm n t) (by rw [cl]) ⟨v, nm_r (e' := upd cn n (gd_bi c)) (by rw [cl, gd_biV]) ⟨v, nm_r (e' := vp_updL (gd_us D) n ((1 : Int64) <<< ((nI n).toInt64 &&& 63))) (by rw [cl]) ?_⟩⟩⟩⟩
  cases o1 with
  | none =>
    have e : ((1 : Int64) <<< ((nI n).toInt64 &&& 63)) ||| gm_kn D none = (1 : Int64) <<< ((nI n).toInt64 &&& 63) := Int64.or_zero
    rw [e] at s68
    exact br_t (by decide) s68
  | some p =>
    have hp : p < n := h1
    refine br_f (nI_pos (by omega)) ⟨v, vp_in_nI (by omega) (by omega), v, nm_r (e' := vp_updL (gd_us D) n (((1 : Int64) <<< ((nI n).toInt64 &&& 63)) ||| gm_kn D (some p))) ?_ s68⟩
    show vp_updL (vp_updL (gd_us D) n _) (nI n).toNatClampNeg (vp_updL (gd_us D) n _ (nI n).toNatClampNeg ||| vp_updL (gd_us D) n _ (nI p).toNatClampNeg) = _
    rw [cl, nI_clamp (show p < 2 ^ 31 by omega), gy_uu, pk_uLs, pk_uLn (by omega)]
    rfl
end
end
section
/-! ===== the reference: votes and fame ===== -/
def gy_V (D : gd_D) (n x r y : Nat) (v : Nat → Int32) : Prop :=
  ∀ z, z < n → gd_wi D z = true → gd_rd D x < gd_rd D z → (gd_rd D z < r ∨ (gd_rd D z = r ∧ z < y)) → v z = gd_bi (gf_v D x z)
theorem gy_V_skip {D : gd_D} {n x r y : Nat} {v : Nat → Int32} (h : gy_V D n x r y v) (hy : (gd_wi D y && (gd_rd D y == r)) = false) : gy_V D n x r (y + 1) v := by
  intro z hz hw hr hc
  refine h z hz hw hr ?_
  rcases hc with hc | ⟨h1, h2⟩
  · exact Or.inl hc
  · by_cases e : z = y
    · subst e
      rw [hw, h1, beq_self_eq_true] at hy
      cases hy
    · exact Or.inr ⟨h1, by omega⟩
theorem gy_V_end {D : gd_D} {n x r : Nat} {v : Nat → Int32} (h : gy_V D n x r n v) : gy_V D n x (r + 1) 0 v := fun z hz hw hr hc => h z hz hw hr (by omega)
theorem gy_V_ask {D : gd_D} {n x r y : Nat} {v : Nat → Int32} (h : gy_V D n x r y v) : gy_V D n x r (y + 1) (upd v y (gd_bi (gf_v D x y))) := by
  intro z hz hw hr hc
  by_cases e : z = y
  · subst e; exact pk_us
  · rw [pk_un e]; exact h z hz hw hr (by omega)
theorem gy_V_vo {D : gd_D} {n x r y : Nat} {v : Nat → Int32} (h : gy_V D n x r y v) (hy : gd_rd D y = r) (h2 : gd_rd D x + 2 ≤ gd_rd D y) : ∀ z, z < n → gd_vo D z y = true → v z = gd_bi (gf_v D x z) := by
  intro z hz hv
  unfold gd_vo at hv
  rw [Bool.and_eq_true, Bool.and_eq_true, beq_iff_eq] at hv
  exact h z hz hv.1.1 (by omega) (by omega)
theorem gd_bi_inj {a b : Bool} : gd_bi a = gd_bi b ↔ a = b := by cases a <;> cases b <;> decide
section
variable {ct gt sr oy my : Int32} {mk tm cn : Nat → Int32} {us ws : Nat → Int64} {rd wi vt fm dc ry fy od sy : Nat → Int32}
theorem gy_cv5 {post : Int32 → Prop} {D : gd_D} {n g y : Nat} {b : Bool} {v : Nat → Bool} (I : gd_Inv D n g) (hy : y < n) (hws : ws = gd_ws D) (hrd : ∀ j, rd j = nI (gd_rd D j)) (hwi : ∀ j, wi j = gd_bi (gd_wi D j)) (hv : ∀ z, z < n → gd_vo D z y = true → vt z = gd_bi (v z))
    (h : post (nI (gc_cnt (fun z => gd_vo D z y && (v z == b)) n))) :
    ∀ d i f, i + d = n → d < f → wY_countVotes_5 post (nI y) (gd_bi b) (nI n) gt sr oy my mk tm cn us ws rd wi vt fm dc ry fy od sy f (nI (gc_cnt (fun z => gd_vo D z y && (v z == b)) i)) (nI i) := by
  have i48 := I.1
  have ig := I.2.1
  have ird := I.2.2.2.1
  have ry1 := I.2.2.2.2.1 y hy
  have ryg := ird y
  subst hws
  have e1 : nI (gd_rd D y) - 1 = nI (gd_rd D y - 1) := by
    obtain ⟨k, hk⟩ : ∃ k, gd_rd D y = k + 1 := ⟨gd_rd D y - 1, by omega⟩
    rw [hk]; exact nI_pred k
  have cy : (nI y).toNatClampNeg = y := nI_clamp (by omega)
  have vy : vp_in (nI y) 48 := vp_in_nI (by omega) (by omega)
  intro d
  induction d with
  | zero =>
    intro i f hi hf
    obtain ⟨f, rfl⟩ : ∃ q, f = q + 1 := ⟨f - 1, by omega⟩
    rw [wY_countVotes_5]
    have e : i = n := by omega
    subst e
    exact br_t (nI_le (Nat.le_refl _) (by omega)) h
  | succ d ih =>
    intro i f hi hf
    obtain ⟨f, rfl⟩ : ∃ q, f = q + 1 := ⟨f - 1, by omega⟩
    rw [wY_countVotes_5]
    have ih := ih (i + 1) f (by omega) (by omega)
    rw [gc_cnt] at ih
    have ri := ird i
    have skip : (gd_vo D i y && (v i == b)) = false → wY_countVotes_5 post (nI y) (gd_bi b) (nI n) gt sr oy my mk tm cn us (gd_ws D) rd wi vt fm dc ry fy od sy f (nI (gc_cnt (fun z => gd_vo D z y && (v z == b)) i)) (nI (i + 1)) := by
      intro q
      rw [if_neg (by rw [q]; decide)] at ih
      exact ih
    have e2 : (gd_rd D i == gd_rd D y - 1) = (gd_rd D i + 1 == gd_rd D y) := by
      by_cases q : gd_rd D i + 1 = gd_rd D y
      · rw [beq_iff_eq.mpr q, beq_iff_eq]; omega
      · rw [beq_eq_false_iff_ne.mpr q, beq_eq_false_iff_ne]; omega
    refine br_f (nI_ge (by omega) (by omega)) ⟨vy, ?_⟩
    rw [cy, hrd y, e1]
    refine gy_wo (by omega) (hwi i) (hrd i) (by omega) (by omega) ?_
    rw [e2]
    refine gd_br (fun e => nm_r (nI_1 i) (skip ?_)) (fun e => ⟨vy, gy_has (by omega) (gd_br (fun e3 => nm_r (nI_1 i) (skip ?_)) (fun e3 => ⟨vp_in_nI (by omega) (by omega), ?_⟩))⟩)
    · unfold gd_vo; rw [e, Bool.false_and, Bool.false_and]
    · have e3 : gd_wb D i y = false := e3
      unfold gd_vo; rw [e3, Bool.and_false, Bool.false_and]
    · have e3 : gd_wb D i y = true := e3
      have ev : gd_vo D i y = true := by unfold gd_vo; rw [e, e3]; rfl
      rw [nI_clamp (by omega), hv i (by omega) ev]
      by_cases q : v i = b
      · rw [if_pos (by rw [ev, beq_iff_eq.mpr q]; rfl)] at ih
        exact br_t (gd_bi_inj.mpr q) (nm_r (nI_1 _) (nm_r (nI_1 i) ih))
      · exact br_f (fun z => q (gd_bi_inj.mp z)) (nm_r (nI_1 i) (skip (by rw [beq_eq_false_iff_ne.mpr q, Bool.and_false])))
theorem gy_cv {post : Int32 → Prop} {D : gd_D} {n g y : Nat} {b : Bool} {v : Nat → Bool} (I : gd_Inv D n g) (hy : y < n) (hws : ws = gd_ws D) (hrd : ∀ j, rd j = nI (gd_rd D j)) (hwi : ∀ j, wi j = gd_bi (gd_wi D j)) (hv : ∀ z, z < n → gd_vo D z y = true → vt z = gd_bi (v z))
    (h : post (nI (gc_cnt (fun z => gd_vo D z y && (v z == b)) 48))) : wpY_countVotes post (nI n, gt, sr, oy, my, mk, tm, cn, us, ws, rd, wi, vt, fm, dc, ry, fy, od, sy) (nI y) (gd_bi b) := by
  refine ⟨n + 1, gy_cv5 I hy hws hrd hwi hv ?_ n 0 (n + 1) (by omega) (by omega)⟩
  rw [gc_cnt_ext (p := fun z => gd_vo D z y && (v z == b)) I.1 (fun z h1 h2 => by
    show (gd_vo D z y && (v z == b)) = false
    unfold gd_vo
    rw [I.2.2.2.2.2.2.2.2.2 z h1, Bool.false_and, Bool.false_and, Bool.false_and])] at h
  exact h
theorem gy_vt110 {post : Int32 → SY → Prop} {y k a : Nat} {v : Bool} (hy : y < 48) (hk : k < 2 ^ 31) (ha : a < 2 ^ 31) (h : post (gd_bi (decide (k % 5 ≠ 0) && decide (3 ≤ a))) (ct, gt, sr, oy, my, mk, tm, cn, us, ws, rd, wi, upd vt y (gd_bi v), fm, dc, ry, fy, od, sy)) : wY_vote_110 post (nI k) (nI a) (gd_bi v) (nI y) ct gt sr oy my mk tm cn us ws rd wi vt fm dc ry fy od sy := by
  have h5 : nI k - nI k / 5 * 5 = nI (k % 5) := pk_rem (d := 5) hk (by decide) (by decide)
  refine ⟨vp_in_nI hy (by omega), nm_r (e' := upd vt y (gd_bi v)) (by rw [nI_clamp (by omega), gd_biV]) ⟨by decide, ?_⟩⟩
  rw [h5]
  refine pk_eq (k % 5) 0 (fun z => ?_) (fun z => pk_lt a 3 (fun l => ?_) (fun l => ?_))
  · rw [decide_eq_false (by omega), Bool.false_and] at h; exact h
  · rw [decide_eq_false (show ¬ 3 ≤ a by omega), Bool.and_false] at h; exact h
  · rw [decide_eq_true (show k % 5 ≠ 0 from z), decide_eq_true l] at h; exact h
theorem gy_vt80 {post : Int32 → SY → Prop} {y k a : Nat} {mo c : Bool} (hy : y < 48) (hk : k < 2 ^ 31) (ha : a < 2 ^ 31) (hc : cn y = gd_bi c) (h : post (gd_bi (decide (k % 5 ≠ 0) && decide (3 ≤ a))) (ct, gt, sr, oy, my, mk, tm, cn, us, ws, rd, wi, upd vt y (gd_bi (if k % 5 = 0 ∧ decide (3 ≤ a) = false then c else mo)), fm, dc, ry, fy, od, sy)) : wY_vote_80 post (nI y) (nI k) (gd_bi mo) (nI a) ct gt sr oy my mk tm cn us ws rd wi vt fm dc ry fy od sy := by
  have h5 : nI k - nI k / 5 * 5 = nI (k % 5) := pk_rem (d := 5) hk (by decide) (by decide)
  refine ⟨by decide, ?_⟩
  rw [h5]
  refine pk_eq (k % 5) 0 (fun z => pk_le 3 a (fun l => ?_) (fun l => ⟨vp_in_nI hy (by omega), ?_⟩)) (fun z => ?_)
  · rw [if_neg (fun t : k % 5 = 0 ∧ decide (3 ≤ a) = false => by rw [decide_eq_true l] at t; exact absurd t.2 (by decide))] at h
    exact gy_vt110 hy hk ha h
  · rw [if_pos ⟨z, decide_eq_false (by omega)⟩] at h
    rw [nI_clamp (by omega), hc]
    exact gy_vt110 hy hk ha h
  · rw [if_neg (fun t : k % 5 = 0 ∧ decide (3 ≤ a) = false => z t.1)] at h
    exact gy_vt110 hy hk ha h
theorem gy_vt {post : Int32 → SY → Prop} {D : gd_D} {n g x y : Nat} (I : gd_Inv D n g) (hx : x < n) (hy : y < n) (S : gx_S D mk tm cn us ws rd wi) (hlt : gd_rd D x < gd_rd D y) (hv : gd_rd D x + 2 ≤ gd_rd D y → ∀ z, z < n → gd_vo D z y = true → vt z = gd_bi (gf_v D x z))
    (h : post (gd_bi (gf_dec D x y)) (nI n, gt, sr, oy, my, mk, tm, cn, us, ws, rd, wi, upd vt y (gd_bi (gf_v D x y)), fm, dc, ry, fy, od, sy)) : wpY_vote post (nI n, gt, sr, oy, my, mk, tm, cn, us, ws, rd, wi, vt, fm, dc, ry, fy, od, sy) (nI x) (nI y) := by
  have i48 := I.1
  have ig := I.2.1
  have ryg := I.2.2.2.1 y
  obtain ⟨hmk, htm, hcn, hus, hws, hrd, hwi⟩ := S
  have cx : (nI x).toNatClampNeg = x := nI_clamp (by omega)
  have cy : (nI y).toNatClampNeg = y := nI_clamp (by omega)
  have vx : vp_in (nI x) 48 := vp_in_nI (by omega) (by omega)
  have vy : vp_in (nI y) 48 := vp_in_nI (by omega) (by omega)
  refine ⟨vy, vx, nm_r (e' := nI (gd_rd D y - gd_rd D x)) (by rw [cx, cy, hrd, hrd]; exact pk_sub (by omega)) ?_⟩
  refine pk_eq (gd_rd D y - gd_rd D x) 1 (fun e => ⟨vy, ?_⟩) (fun e => ?_)
  · have e : gd_rd D y = gd_rd D x + 1 := by omega
    rw [gf_dec_1 e, gf_v_1 e] at h
    rw [cy]
    subst hus
    exact gy_has (by omega) ⟨vy, nm_r (e' := upd vt y (gd_bi (gd_ub D x y))) (by rw [gd_biV]; rfl) h⟩
  · have hv := hv (by omega)
    have ly : gf_yes D (gf_v D x) y ≤ 48 := gc_cnt_le _ _
    have ln : gf_no D (gf_v D x) y ≤ 48 := gc_cnt_le _ _
    obtain ⟨ey, en2⟩ := gf_cnt_v (D := D) (x := x) (y := y) (v := gf_v D x) (fun z _ _ => rfl)
    refine gy_cv (b := true) I hy hws hrd hwi hv (gy_cv (b := false) I hy hws hrd hwi hv ?_)
    have b1 : gc_cnt (fun z => gd_vo D z y && (gf_v D x z == true)) 48 = gf_yes D (gf_v D x) y := gc_cnt_congr fun z _ => by cases gf_v D x z <;> rfl
    have b2 : gc_cnt (fun z => gd_vo D z y && (gf_v D x z == false)) 48 = gf_no D (gf_v D x) y := gc_cnt_congr fun z _ => by cases gf_v D x z <;> rfl
    rw [b1, b2]
    rw [gf_dec_s (by omega), gf_v_s (by omega)] at h
    have key : wY_vote_66 post (nI y) (nI (gd_rd D y - gd_rd D x)) (nI (gf_yes D (gf_v D x) y)) (nI (gf_no D (gf_v D x) y)) (gd_bi (gf_mo D (gf_vt D x (gd_rd D y - gd_rd D x - 1)) y)) (nI n) gt sr oy my mk tm cn us ws rd wi vt fm dc ry fy od sy := by
      rw [ey, en2]
      rw [ey] at ly
      rw [en2] at ln
      unfold gf_en at h
      refine gd_br (fun q => ?_) (fun q => ?_)
      · rw [if_neg (by rw [q]; decide)] at h
        exact gy_vt80 (by omega) (by omega) (by omega) (hcn y) h
      · rw [if_pos q] at h
        exact gy_vt80 (by omega) (by omega) (by omega) (hcn y) h
    have emo : gf_mo D (gf_vt D x (gd_rd D y - gd_rd D x - 1)) y = decide (gf_no D (gf_v D x) y ≤ gf_yes D (gf_v D x) y) := by unfold gf_mo; rw [ey, en2]
    rw [emo] at key
    refine pk_lt _ _ (fun l2 => ?_) (fun l2 => ?_) rfl rfl (by omega) (by omega)
    · rw [decide_eq_false (by omega)] at key; exact key
    · rw [decide_eq_true l2] at key; exact key
theorem gy_as33 {post : SY → Prop} {J : Int32 → Int32 → Int32 → Int32 → Int32 → Int32 → (Nat → Int32) → (Nat → Int32) → (Nat → Int32) → (Nat → Int64) → (Nat → Int64) → (Nat → Int32) → (Nat → Int32) → (Nat → Int32) → (Nat → Int32) → (Nat → Int32) → (Nat → Int32) → (Nat → Int32) → (Nat → Int32) → (Nat → Int32) → Prop}
    {D : gd_D} {n g x j : Nat} {fm0 dc0 : Nat → Int32} (I : gd_Inv D n g) (S : gx_S D mk tm cn us ws rd wi) (hx : x < n) (hj2 : gd_rd D x + 1 + j ≤ g)
    (K : ∀ vt' fm' dc' : Nat → Int32, (∀ i, i ≠ x → fm' i = fm0 i ∧ dc' i = dc0 i) → fm' x = nI (gf_val D x (gf_out D n x (j + 1))) → dc' x = gy_lv (gf_out D n x (j + 1)) → (gf_out D n x (j + 1) = none → gy_V D n x (gd_rd D x + 1 + j + 1) 0 vt') → J (nI (gd_rd D x + 1 + j + 1)) (nI n) (nI g) sr oy my mk tm cn us ws rd wi vt' fm' dc' ry fy od sy) :
    ∀ d y f (vt fm dc : Nat → Int32), y + d = n → d < f → (∀ i, i ≠ x → fm i = fm0 i ∧ dc i = dc0 i) → fm x = nI (gf_val D x (gf_in (gf_at D x (gd_rd D x + 1 + j)) (gf_out D n x j) y)) → dc x = gy_lv (gf_in (gf_at D x (gd_rd D x + 1 + j)) (gf_out D n x j) y) → (∀ d, gf_in (gf_at D x (gd_rd D x + 1 + j)) (gf_out D n x j) y = some d → d < 48) → (gf_in (gf_at D x (gd_rd D x + 1 + j)) (gf_out D n x j) y = none → gy_V D n x (gd_rd D x + 1 + j) y vt) → wY_ask_33 post J (nI x) (nI (gd_rd D x + 1 + j)) f (nI y) (nI n) (nI g) sr oy my mk tm cn us ws rd wi vt fm dc ry fy od sy := by
  have i48 := I.1
  have ig := I.2.1
  have ird := I.2.2.2.1
  have hrd := S.2.2.2.2.2.1
  have hwi := S.2.2.2.2.2.2
  have cx : (nI x).toNatClampNeg = x := nI_clamp (by omega)
  have vx : vp_in (nI x) 48 := vp_in_nI (by omega) (by omega)
  intro d
  induction d with
  | zero =>
    intro y f vt fm dc hy hf ho h1 h2 _ h3
    obtain ⟨f, rfl⟩ : ∃ q, f = q + 1 := ⟨f - 1, by omega⟩
    rw [wY_ask_33]
    have e : y = n := by omega
    subst e
    exact br_t (nI_le (Nat.le_refl _) (by omega)) (nm_r (nI_1 _) (K vt fm dc ho h1 h2 (fun q => gy_V_end (h3 q))))
  | succ d ih =>
    intro y f vt fm dc hy hf ho h1 h2 hd48 h3
    obtain ⟨f, rfl⟩ : ∃ q, f = q + 1 := ⟨f - 1, by omega⟩
    rw [wY_ask_33]
    have cy : (nI y).toNatClampNeg = y := nI_clamp (by omega)
    have vy : vp_in (nI y) 48 := vp_in_nI (by omega) (by omega)
    have hry := ird y
    have hrx := ird x
    refine br_f (nI_ge (by omega) (by omega)) ⟨vx, ?_⟩
    rw [cx, h2]
    have ih := ih (y + 1) f
    cases hs : gf_in (gf_at D x (gd_rd D x + 1 + j)) (gf_out D n x j) y with
    | some q =>
      rw [hs] at h1 h2
      have hq := hd48 q hs
      rw [gf_in_s hs] at ih
      exact br_t (nI_pos' (by omega)) (nm_r (nI_1 y) (ih vt fm dc (by omega) (by omega) ho h1 h2 (fun d' e => by cases e; exact hq) (fun e => by cases e)))
    | none =>
      rw [hs] at h1 h2
      have h3 := h3 hs
      have none' : gf_at D x (gd_rd D x + 1 + j) y = false → ∀ vt' : Nat → Int32, gy_V D n x (gd_rd D x + 1 + j) (y + 1) vt' → wY_ask_33 post J (nI x) (nI (gd_rd D x + 1 + j)) f (nI (y + 1)) (nI n) (nI g) sr oy my mk tm cn us ws rd wi vt' fm dc ry fy od sy := by
        intro hat vt' hV
        rw [gf_in_f hs hat] at ih
        exact ih vt' fm dc (by omega) (by omega) ho h1 h2 (fun d' e => by cases e) (fun _ => hV)
      refine br_f (by decide) (gy_wo (by omega) (hwi y) (hrd y) (by omega) (by omega) (gd_br (fun e => nm_r (nI_1 y) (none' ?_ vt (gy_V_skip h3 e))) (fun e => ?_)))
      · unfold gf_at; rw [e, Bool.false_and]
      · have e' := e
        rw [Bool.and_eq_true, beq_iff_eq] at e'
        refine gy_vt (D := D) I hx (by omega) S (by omega) (fun h2 => gy_V_vo h3 e'.2 h2) (gd_br (fun hd => nm_r (nI_1 y) (none' ?_ _ (gy_V_ask h3))) (fun hd => ?_))
        · unfold gf_at; rw [hd, Bool.and_false]
        · have hat : gf_at D x (gd_rd D x + 1 + j) y = true := by unfold gf_at; rw [hd, e]; rfl
          rw [gf_in_t hs hat] at ih
          refine ⟨vx, nm_r (e' := upd dc x (nI y)) rfl ⟨vy, ?_⟩⟩
          rw [cy, pk_us]
          refine gd_br (fun q => ⟨vx, nm_r (e' := upd fm x (nI 1)) rfl (nm_r (nI_1 y) (ih _ _ _ (by omega) (by omega) (fun i hi => ?_) ?_ pk_us (fun d' e2 => by cases e2; omega) (fun e2 => by cases e2)))⟩) (fun q => ⟨vx, nm_r (e' := upd fm x (nI 2)) rfl (nm_r (nI_1 y) (ih _ _ _ (by omega) (by omega) (fun i hi => ?_) ?_ pk_us (fun d' e2 => by cases e2; omega) (fun e2 => by cases e2)))⟩)
          · rw [pk_un hi, pk_un hi]; exact ho i hi
          · rw [pk_us]; unfold gf_val; show nI 1 = nI (if gf_v D x y = true then 2 else 1); rw [if_neg (by rw [q]; decide)]
          · rw [pk_un hi, pk_un hi]; exact ho i hi
          · rw [pk_us]; unfold gf_val; show nI 2 = nI (if gf_v D x y = true then 2 else 1); rw [if_pos q]
end
end
section
/-! ===== the reference: ask, settled, received, final time ===== -/
theorem gf_in_lt {p : Nat → Bool} {s : Option Nat} {d : Nat} : ∀ k, gf_in p s k = some d → s = some d ∨ d < k := by
  intro k
  induction k with
  | zero => intro h; exact Or.inl h
  | succ k ih =>
    intro h
    rw [gf_in] at h
    cases e : gf_in p s k with
    | some q =>
      rw [e] at h
      have h : some q = some d := h
      rw [h] at e
      rcases ih e with a | a
      · exact Or.inl a
      · exact Or.inr (by omega)
    | none =>
      rw [e] at h
      have h : (if p k = true then some k else none) = some d := h
      split at h
      · cases h; exact Or.inr (by omega)
      · cases h
theorem gf_out_lt {D : gd_D} {n x d : Nat} : ∀ j, gf_out D n x j = some d → d < n := by
  intro j
  induction j with
  | zero => intro h; cases h
  | succ j ih =>
    intro h
    rw [gf_out] at h
    rcases gf_in_lt n h with a | a
    · exact ih a
    · exact a
theorem gs_fm_f {D : gd_D} {n g r i : Nat} (h : (gd_wi D i && (gd_rd D i == r)) = false) : gs_fm D n g r i = false := by
  cases e : gs_fm D n g r i with
  | false => rfl
  | true =>
    unfold gs_fm at e
    rw [Bool.and_eq_true, beq_iff_eq] at e
    rw [gf_F_w e.1, e.2] at h
    cases h
theorem gs_fm_w {D : gd_D} {n g r i : Nat} (h : (gd_wi D i && (gd_rd D i == r)) = true) : gs_fm D n g r i = (gf_F D n g i == 2) := by
  rw [Bool.and_eq_true] at h
  unfold gs_fm
  rw [h.2, Bool.and_true]
section
variable {ct gt sr oy my : Int32} {mk tm cn : Nat → Int32} {us ws : Nat → Int64} {rd wi vt fm dc ry fy od sy : Nat → Int32}
theorem gy_as23 {post : SY → Prop} {D : gd_D} {n g x : Nat} {fm0 dc0 : Nat → Int32} (I : gd_Inv D n g) (S : gx_S D mk tm cn us ws rd wi) (hx : x < n)
    (K : ∀ vt' fm' dc' : Nat → Int32, (∀ i, i ≠ x → fm' i = fm0 i ∧ dc' i = dc0 i) → fm' x = nI (gf_val D x (gf_de D n g x)) → dc' x = gy_lv (gf_de D n g x) → post (nI n, nI g, sr, oy, my, mk, tm, cn, us, ws, rd, wi, vt', fm', dc', ry, fy, od, sy)) :
    ∀ d j f (vt fm dc : Nat → Int32), j + d = g - gd_rd D x → d < f → (∀ i, i ≠ x → fm i = fm0 i ∧ dc i = dc0 i) → fm x = nI (gf_val D x (gf_out D n x j)) → dc x = gy_lv (gf_out D n x j) → (gf_out D n x j = none → gy_V D n x (gd_rd D x + 1 + j) 0 vt) → wY_ask_23 post (nI x) f (nI (gd_rd D x + 1 + j)) (nI n) (nI g) sr oy my mk tm cn us ws rd wi vt fm dc ry fy od sy := by
  have i48 := I.1
  have ig := I.2.1
  have ird := I.2.2.2.1 x
  intro d
  induction d with
  | zero =>
    intro j f vt fm dc hj hf ho h1 h2 h3
    obtain ⟨f, rfl⟩ : ∃ k, f = k + 1 := ⟨f - 1, by omega⟩
    rw [wY_ask_23]
    have e : j = g - gd_rd D x := by omega
    subst e
    exact br_t (nI_lt (by omega) (by omega)) (K vt fm dc ho h1 h2)
  | succ d ih =>
    intro j f vt fm dc hj hf ho h1 h2 h3
    obtain ⟨f, rfl⟩ : ∃ k, f = k + 1 := ⟨f - 1, by omega⟩
    rw [wY_ask_23]
    refine br_f (nI_nlt (by omega) (by omega)) ⟨n + 1, ?_⟩
    exact gy_as33 I S hx (by omega) (fun vt' fm' dc' a1 a2 a3 a4 => ih (j + 1) f vt' fm' dc' (by omega) (by omega) a1 a2 a3 a4) n 0 (n + 1) vt fm dc (by omega) (by omega) ho h1 h2 (fun d' e => by have := gf_out_lt j e; omega) h3
theorem gy_as {post : SY → Prop} {D : gd_D} {n g x : Nat} (I : gd_Inv D n g) (S : gx_S D mk tm cn us ws rd wi) (hx : x < n)
    (K : ∀ vt' fm' dc' : Nat → Int32, (∀ i, i ≠ x → fm' i = fm i ∧ dc' i = dc i) → fm' x = nI (gf_val D x (gf_de D n g x)) → dc' x = gy_lv (gf_de D n g x) → post (nI n, nI g, sr, oy, my, mk, tm, cn, us, ws, rd, wi, vt', fm', dc', ry, fy, od, sy)) : wpY_ask post (nI n, nI g, sr, oy, my, mk, tm, cn, us, ws, rd, wi, vt, fm, dc, ry, fy, od, sy) (nI x) := by
  have i48 := I.1
  have ig := I.2.1
  have ird := I.2.2.2.1 x
  have hrd := S.2.2.2.2.2.1
  have c : (nI x).toNatClampNeg = x := nI_clamp (by omega)
  have v : vp_in (nI x) 48 := vp_in_nI (by omega) (by omega)
  refine ⟨v, nm_r (e' := upd fm x 0) (by rw [c]) ⟨v, nm_r (e' := upd dc x (-1)) (by rw [c]) ⟨v, nm_r (e' := nI (gd_rd D x + 1 + 0)) (by rw [c, hrd, nI_1]) ⟨g + 2, ?_⟩⟩⟩⟩
  exact gy_as23 I S hx K (g - gd_rd D x) 0 (g + 2) vt _ _ (by omega) (by omega) (fun i hi => ⟨pk_un hi, pk_un hi⟩) pk_us pk_us (fun _ z hz hw hr hc => by omega)
theorem gy_se4 {post : Int32 → Prop} {D : gd_D} {n g r : Nat} (I : gd_Inv D n g) (hrd : ∀ j, rd j = nI (gd_rd D j)) (hwi : ∀ j, wi j = gd_bi (gd_wi D j)) (hF : ∀ j, j < n → gd_wi D j = true → fm j = nI (gf_F D n g j)) (hr : r < 2 ^ 31) (h : post (gd_bi (gs_p D n g r))) :
    ∀ d i f, i + d = n → d < f → gc_any (gs_op D n g r) i = false → wY_isSettled_4 post (nI r) (nI n) (nI g) sr oy my mk tm cn us ws rd wi vt fm dc ry fy od sy f (gd_bi (gc_any (gs_fm D n g r) i)) (nI i) := by
  have i48 := I.1
  have ig := I.2.1
  have ird := I.2.2.2.1
  intro d
  induction d with
  | zero =>
    intro i f hi hf ho
    obtain ⟨f, rfl⟩ : ∃ k, f = k + 1 := ⟨f - 1, by omega⟩
    rw [wY_isSettled_4]
    have e : i = n := by omega
    subst e
    unfold gs_p gs_ok at h
    rw [ho, Bool.not_false, Bool.true_and] at h
    refine br_t (nI_le (Nat.le_refl _) (by omega)) (gd_br (fun e => ?_) (fun e => pk_le g r (fun l => ?_) (fun l => ?_)))
    · rw [e, Bool.and_false] at h; exact h
    · rw [decide_eq_false (by omega), Bool.false_and] at h; exact h
    · rw [decide_eq_true l, e] at h; exact h
  | succ d ih =>
    intro i f hi hf ho
    obtain ⟨f, rfl⟩ : ∃ k, f = k + 1 := ⟨f - 1, by omega⟩
    rw [wY_isSettled_4]
    have ri := ird i
    have c : (nI i).toNatClampNeg = i := nI_clamp (by omega)
    have v : vp_in (nI i) 48 := vp_in_nI (by omega) (by omega)
    have ih := fun hp => ih (i + 1) f (by omega) (by omega) (gc_any_s ho hp)
    rw [gc_any] at ih
    refine br_f (nI_ge (by omega) (by omega)) (gy_wo (by omega) (hwi i) (hrd i) (by omega) hr (gd_br (fun e => nm_r (nI_1 i) ?_) (fun e => ⟨v, ?_⟩)))
    · have ih := ih (by unfold gs_op; rw [e, Bool.false_and])
      rw [gs_fm_f e, Bool.or_false] at ih
      exact ih
    · have e' := e
      rw [Bool.and_eq_true] at e'
      rw [c, hF i (by omega) e'.1]
      rw [gs_fm_w e] at ih
      have fl := gf_F_le D n g i
      refine pk_eq (gf_F D n g i) 0 (fun z => ?_) (fun z => ?_)
      · have : gs_p D n g r = false := by
          unfold gs_p gs_ok
          rw [gc_any_t (p := gs_op D n g r) (i := i) (by omega) (by unfold gs_op; rw [e, z]; rfl)]
          rw [Bool.not_true, Bool.false_and, Bool.and_false]
        rw [this] at h
        exact h
      · have ih := ih (by unfold gs_op; rw [e, beq_eq_false_iff_ne.mpr z]; rfl)
        refine gd_br (fun q => ⟨v, pk_eq (gf_F D n g i) 2 (fun q2 => nm_r (nI_1 i) ?_) (fun q2 => nm_r (nI_1 i) ?_)⟩) (fun q => nm_r (nI_1 i) ?_)
        · rw [q, beq_iff_eq.mpr q2] at ih; exact ih
        · rw [q, beq_eq_false_iff_ne.mpr q2] at ih; exact ih
        · rw [q, Bool.true_or] at ih; exact ih
theorem gy_se {post : Int32 → Prop} {D : gd_D} {n g r : Nat} (I : gd_Inv D n g) (hrd : ∀ j, rd j = nI (gd_rd D j)) (hwi : ∀ j, wi j = gd_bi (gd_wi D j)) (hF : ∀ j, j < n → gd_wi D j = true → fm j = nI (gf_F D n g j)) (hr : r < 2 ^ 31) (h : post (gd_bi (gs_p D n g r))) : wpY_isSettled post (nI n, nI g, sr, oy, my, mk, tm, cn, us, ws, rd, wi, vt, fm, dc, ry, fy, od, sy) (nI r) :=
  ⟨n + 1, gy_se4 I hrd hwi hF hr h n 0 (n + 1) (by omega) (by omega) rfl⟩
theorem gy_re2 {post : Int32 → Prop} {D : gd_D} {n g x r : Nat} (I : gd_Inv D n g) (hx : x < n) (hus : us = gd_us D) (hrd : ∀ j, rd j = nI (gd_rd D j)) (hwi : ∀ j, wi j = gd_bi (gd_wi D j)) (hF : ∀ j, j < n → gd_wi D j = true → fm j = nI (gf_F D n g j)) (hr : r < 2 ^ 31) (h : post (gd_bi (gr_un D n g x r))) :
    ∀ d i f, i + d = n → d < f → gc_any (fun w => gs_fm D n g r w && !gd_ub D x w) i = false → wY_isReceived_2 post (nI x) (nI r) (nI n) gt sr oy my mk tm cn us ws rd wi vt fm dc ry fy od sy f (nI i) := by
  have i48 := I.1
  have ig := I.2.1
  have ird := I.2.2.2.1
  subst hus
  intro d
  induction d with
  | zero =>
    intro i f hi hf ho
    obtain ⟨f, rfl⟩ : ∃ k, f = k + 1 := ⟨f - 1, by omega⟩
    rw [wY_isReceived_2]
    have e : i = n := by omega
    subst e
    unfold gr_un at h
    rw [ho] at h
    exact br_t (nI_le (Nat.le_refl _) (by omega)) h
  | succ d ih =>
    intro i f hi hf ho
    obtain ⟨f, rfl⟩ : ∃ k, f = k + 1 := ⟨f - 1, by omega⟩
    rw [wY_isReceived_2]
    have ri := ird i
    have c : (nI i).toNatClampNeg = i := nI_clamp (by omega)
    have v : vp_in (nI i) 48 := vp_in_nI (by omega) (by omega)
    have ih := fun hp => ih (i + 1) f (by omega) (by omega) (gc_any_s ho hp)
    refine br_f (nI_ge (by omega) (by omega)) (gy_wo (by omega) (hwi i) (hrd i) (by omega) hr (gd_br (fun e => nm_r (nI_1 i) (ih ?_)) (fun e => ⟨v, ?_⟩)))
    · show (gs_fm D n g r i && !gd_ub D x i) = false
      rw [gs_fm_f e, Bool.false_and]
    · have e' := e
      rw [Bool.and_eq_true] at e'
      rw [c, hF i (by omega) e'.1]
      have fl := gf_F_le D n g i
      refine pk_eq (gf_F D n g i) 2 (fun z => ⟨v, gy_has (by omega) (gd_br (fun e2 => ?_) (fun e2 => nm_r (nI_1 i) (ih ?_)))⟩) (fun z => nm_r (nI_1 i) (ih ?_))
      · have e2 : gd_ub D x i = false := e2
        have e3 : gs_fm D n g r i = true := by rw [gs_fm_w e, beq_iff_eq]; exact z
        have : gr_un D n g x r = false := by
          unfold gr_un
          rw [gc_any_t (p := fun w => gs_fm D n g r w && !gd_ub D x w) (i := i) (by omega) (by show (gs_fm D n g r i && !gd_ub D x i) = true; rw [e3, e2]; rfl)]
          rfl
        rw [this] at h
        exact h
      · have e2 : gd_ub D x i = true := e2
        show (gs_fm D n g r i && !gd_ub D x i) = false
        rw [e2, Bool.not_true, Bool.and_false]
      · show (gs_fm D n g r i && !gd_ub D x i) = false
        rw [gs_fm_w e, beq_eq_false_iff_ne.mpr z, Bool.false_and]
theorem gy_re {post : Int32 → Prop} {D : gd_D} {n g x r : Nat} (I : gd_Inv D n g) (hx : x < n) (hus : us = gd_us D) (hrd : ∀ j, rd j = nI (gd_rd D j)) (hwi : ∀ j, wi j = gd_bi (gd_wi D j)) (hF : ∀ j, j < n → gd_wi D j = true → fm j = nI (gf_F D n g j)) (hr : r < 2 ^ 31) (h : post (gd_bi (gr_un D n g x r))) : wpY_isReceived post (nI n, gt, sr, oy, my, mk, tm, cn, us, ws, rd, wi, vt, fm, dc, ry, fy, od, sy) (nI x) (nI r) :=
  ⟨n + 1, gy_re2 I hx hus hrd hwi hF hr h n 0 (n + 1) (by omega) (by omega) rfl⟩
theorem gy_so41 {post : SY → Prop} {t : Int32} {k M : Nat} (hk : k < 48) (h : post (ct, gt, sr, oy, nI (M + 1), mk, tm, cn, us, ws, rd, wi, vt, fm, dc, ry, fy, od, gi_up sy k t)) : wY_sort_41 post t (nI k) ct gt sr oy (nI M) mk tm cn us ws rd wi vt fm dc ry fy od sy :=
  ⟨vp_in_nI hk (by omega), nm_r (e' := gi_up sy k t) (by rw [nI_clamp (by omega)]; rfl) (nm_r (nI_1 M) h)⟩
theorem gy_so5 {post : SY → Prop} {t : Int32} {M : Nat} : ∀ k f (sy : Nat → Int32), k < 48 → k < f → post (ct, gt, sr, oy, nI (M + 1), mk, tm, cn, us, ws, rd, wi, vt, fm, dc, ry, fy, od, gi_ins (gt_lt t) t k sy) → wY_sort_5 post t ct gt sr oy (nI M) f (nI k) mk tm cn us ws rd wi vt fm dc ry fy od sy := by
  intro k
  induction k with
  | zero =>
    intro f sy hk hf h
    obtain ⟨f, rfl⟩ : ∃ m, f = m + 1 := ⟨f - 1, by omega⟩
    rw [wY_sort_5]
    exact br_t (nI_le (Nat.le_refl 0) (by decide)) (gy_so41 hk h)
  | succ k ih =>
    intro f sy hk hf h
    obtain ⟨f, rfl⟩ : ∃ m, f = m + 1 := ⟨f - 1, by omega⟩
    rw [wY_sort_5]
    have e1 : nI (k + 1) - 1 = nI k := nI_pred k
    have c1 : (nI (k + 1) - 1).toNatClampNeg = k := by rw [e1]; exact nI_clamp (by omega)
    have v1 : vp_in (nI (k + 1) - 1) 48 := by rw [e1]; exact vp_in_nI (by omega) (by omega)
    have c2 : (nI (k + 1)).toNatClampNeg = k + 1 := nI_clamp (by omega)
    have v2 : vp_in (nI (k + 1)) 48 := vp_in_nI hk (by omega)
    refine br_f (nI_nle (by omega) (by omega)) ⟨v1, ?_⟩
    rw [c1, c2]
    rw [gi_ins] at h
    by_cases q : sy k ≤ t
    · rw [if_neg (by unfold gt_lt; rw [decide_eq_true_eq]; exact Int32.not_lt.mpr q)] at h
      exact br_t q (gy_so41 hk h)
    · rw [if_pos (by unfold gt_lt; rw [decide_eq_true_eq]; exact Int32.not_le.mp q)] at h
      exact br_f q ⟨v1, v2, nm_r (e' := gi_up sy (k + 1) (sy k)) rfl (nm_r (pk_m1 k) (ih f _ (by omega) (by omega) h))⟩
theorem gy_so {post : SY → Prop} {t : Int32} {k : Nat} (hk : k < 48) (h : post (ct, gt, sr, oy, nI (k + 1), mk, tm, cn, us, ws, rd, wi, vt, fm, dc, ry, fy, od, gi_ins (gt_lt t) t k sy)) : wpY_sort post (ct, gt, sr, oy, nI k, mk, tm, cn, us, ws, rd, wi, vt, fm, dc, ry, fy, od, sy) t := ⟨k + 1, gy_so5 k (k + 1) sy hk (by omega) h⟩
theorem gy_ft2 {post : Int32 → Prop} {D : gd_D} {n g x w : Nat} (I : gd_Inv D n g) (hx : x < n) (hw : w < n) (hxw : gd_ub D x w = true) (hmk : ∀ j, mk j = nI (gd_mk D j)) (htm : tm = gd_tm D) (hus : us = gd_us D) (h : post (gt_ft D x w)) :
    ∀ d z f, z + d = n → d < f → (∀ i, i < z → gt_p D x w i = false) → wY_firstTime_2 post (nI x) (nI w) (nI n) gt sr oy my mk tm cn us ws rd wi vt fm dc ry fy od sy f (nI z) := by
  have i48 := I.1
  have h4 := I.2.2.1
  subst htm hus
  have cw : (nI w).toNatClampNeg = w := nI_clamp (by omega)
  have vw : vp_in (nI w) 48 := vp_in_nI (by omega) (by omega)
  intro d
  induction d with
  | zero =>
    intro z f hz hf hn
    have hpw : gt_p D x w w = true := by
      unfold gt_p
      rw [beq_self_eq_true, I.2.2.2.2.2.2.1 w hw, hxw]
      rfl
    rw [hn w (by omega)] at hpw
    cases hpw
  | succ d ih =>
    intro z f hz hf hn
    obtain ⟨f, rfl⟩ : ∃ k, f = k + 1 := ⟨f - 1, by omega⟩
    rw [wY_firstTime_2]
    have cz : (nI z).toNatClampNeg = z := nI_clamp (by omega)
    have vz : vp_in (nI z) 48 := vp_in_nI (by omega) (by omega)
    have next : gt_p D x w z = false → wY_firstTime_2 post (nI x) (nI w) (nI n) gt sr oy my mk (gd_tm D) cn (gd_us D) ws rd wi vt fm dc ry fy od sy f (nI (z + 1)) := fun e =>
      ih (z + 1) f (by omega) (by omega) (fun i hi => by
        by_cases q : i = z
        · subst q; exact e
        · exact hn i (by omega))
    have az := h4 z
    have aw := h4 w
    refine br_f (nI_ge (by omega) (by omega)) ⟨vz, vw, ?_⟩
    rw [cz, cw, hmk, hmk]
    refine pk_eq _ _ (fun e => ⟨vw, gy_has (by omega) (gd_br (fun e1 => nm_r (nI_1 z) (next ?_)) (fun e1 => ⟨vz, gy_has (by omega) (gd_br (fun e2 => nm_r (nI_1 z) (next ?_)) (fun e2 => ⟨vz, ?_⟩))⟩))⟩) (fun e => nm_r (nI_1 z) (next ?_)) rfl rfl (by omega) (by omega)
    · have e1 : gd_ub D z w = false := e1
      unfold gt_p; rw [e1, Bool.and_false, Bool.false_and]
    · have e2 : gd_ub D x z = false := e2
      unfold gt_p; rw [e2, Bool.and_false]
    · have e1 : gd_ub D z w = true := e1
      have e2 : gd_ub D x z = true := e2
      have hp : gt_p D x w z = true := by unfold gt_p; rw [e, e1, e2, beq_self_eq_true]; rfl
      rw [gt_ft_all I hw hxw hp hn] at h
      exact h
    · unfold gt_p; rw [beq_eq_false_iff_ne.mpr e, Bool.false_and, Bool.false_and]
theorem gy_ft {post : Int32 → Prop} {D : gd_D} {n g x w : Nat} (I : gd_Inv D n g) (hx : x < n) (hw : w < n) (hxw : gd_ub D x w = true) (hmk : ∀ j, mk j = nI (gd_mk D j)) (htm : tm = gd_tm D) (hus : us = gd_us D) (h : post (gt_ft D x w)) : wpY_firstTime post (nI n, gt, sr, oy, my, mk, tm, cn, us, ws, rd, wi, vt, fm, dc, ry, fy, od, sy) (nI x) (nI w) :=
  ⟨n + 1, gy_ft2 I hx hw hxw hmk htm hus h n 0 (n + 1) (by omega) (by omega) (fun i hi => absurd hi (by omega))⟩
theorem gy_fo7 {post : Int32 → SY → Prop} {D : gd_D} {n g x r : Nat} (I : gd_Inv D n g) (hx : x < n) (S : gx_S D mk tm cn us ws rd wi) (hF : ∀ j, j < n → gd_wi D j = true → fm j = nI (gf_F D n g j)) (hr : r < 2 ^ 31) (hok : gs_ok D n g r = true) (hun : gr_un D n g x r = true) (h : ∀ (my' : Int32) (sy' : Nat → Int32), post (gt_fi D n g x r) (nI n, gt, sr, oy, my', mk, tm, cn, us, ws, rd, wi, vt, fm, dc, ry, fy, od, sy')) :
    ∀ d w f (sy : Nat → Int32), w + d = n → d < f → (∀ j, j < (gt_st (gs_fm D n g r) (gt_ft D x) w).1 → sy j = (gt_st (gs_fm D n g r) (gt_ft D x) w).2 j) → wY_finalOf_7 post (nI x) (nI r) f (nI w) (nI n) gt sr oy (nI (gt_st (gs_fm D n g r) (gt_ft D x) w).1) mk tm cn us ws rd wi vt fm dc ry fy od sy := by
  have i48 := I.1
  have ig := I.2.1
  have ird := I.2.2.2.1
  have tot := gs_fm_le I r
  have pos := gs_fm_pos hok
  have num := gt_num (gs_fm D n g r) (gt_ft D x)
  obtain ⟨hmk, htm, hcn, hus, hws, hrd, hwi⟩ := S
  intro d
  induction d with
  | zero =>
    intro w f sy hw hf hs
    obtain ⟨f, rfl⟩ : ∃ m, f = m + 1 := ⟨f - 1, by omega⟩
    rw [wY_finalOf_7]
    have e : w = n := by omega
    subst e
    have nn := num w
    have q : nI (gt_st (gs_fm D w g r) (gt_ft D x) w).1 / 2 = nI ((gt_st (gs_fm D w g r) (gt_ft D x) w).1 / 2) := pk_div (d := 2) (by omega) (by decide) (by decide)
    refine br_t (nI_le (Nat.le_refl _) (by omega)) ⟨by decide, ?_⟩
    rw [q]
    refine ⟨vp_in_nI (by omega) (by omega), ?_⟩
    rw [nI_clamp (by omega), hs _ (by omega)]
    exact h _ sy
  | succ d ih =>
    intro w f sy hw hf hs
    obtain ⟨f, rfl⟩ : ∃ m, f = m + 1 := ⟨f - 1, by omega⟩
    rw [wY_finalOf_7]
    have hrw := ird w
    have nw := num w
    have c : (nI w).toNatClampNeg = w := nI_clamp (by omega)
    have v : vp_in (nI w) 48 := vp_in_nI (by omega) (by omega)
    have cw : gc_cnt (gs_fm D n g r) w ≤ gc_cnt (gs_fm D n g r) n := gc_cnt_mono (by omega)
    have skip : gs_fm D n g r w = false → wY_finalOf_7 post (nI x) (nI r) f (nI (w + 1)) (nI n) gt sr oy (nI (gt_st (gs_fm D n g r) (gt_ft D x) w).1) mk tm cn us ws rd wi vt fm dc ry fy od sy := by
      intro e
      have ih := ih (w + 1) f sy (by omega) (by omega)
      rw [gt_f e] at ih
      exact ih hs
    refine br_f (nI_ge (by omega) (by omega)) (gy_wo (by omega) (hwi w) (hrd w) (by omega) hr (gd_br (fun e => nm_r (nI_1 w) (skip (gs_fm_f e))) (fun e => ⟨v, ?_⟩)))
    have e' := e
    rw [Bool.and_eq_true] at e'
    rw [c, hF w (by omega) e'.1]
    have fl := gf_F_le D n g w
    refine pk_eq (gf_F D n g w) 2 (fun z => ?_) (fun z => nm_r (nI_1 w) (skip (by rw [gs_fm_w e, beq_eq_false_iff_ne.mpr z])))
    have ef : gs_fm D n g r w = true := by rw [gs_fm_w e, beq_iff_eq]; exact z
    have hxw : gd_ub D x w = true := by
      unfold gr_un at hun
      rw [Bool.not_eq_true'] at hun
      have := (gc_any_false _ _).mp hun w (by omega)
      have this : (gs_fm D n g r w && !gd_ub D x w) = false := this
      rw [ef, Bool.true_and] at this
      cases q : gd_ub D x w with
      | true => rfl
      | false => rw [q] at this; cases this
    have ih := ih (w + 1) f
    rw [gt_t ef] at ih
    refine gy_ft I hx (by omega) hxw hmk htm hus (gy_so (by omega) (nm_r (nI_1 w) (ih _ (by omega) (by omega) ?_)))
    exact gi_below id (gt_lt (gt_ft D x w)) (gt_lt (gt_ft D x w)) (gt_ft D x w) hs (fun j _ => rfl)
theorem gy_fo {post : Int32 → SY → Prop} {D : gd_D} {n g x r : Nat} (I : gd_Inv D n g) (hx : x < n) (S : gx_S D mk tm cn us ws rd wi) (hF : ∀ j, j < n → gd_wi D j = true → fm j = nI (gf_F D n g j)) (hr : r < 2 ^ 31) (hok : gs_ok D n g r = true) (hun : gr_un D n g x r = true) (h : ∀ (my' : Int32) (sy' : Nat → Int32), post (gt_fi D n g x r) (nI n, gt, sr, oy, my', mk, tm, cn, us, ws, rd, wi, vt, fm, dc, ry, fy, od, sy')) : wpY_finalOf post (nI n, gt, sr, oy, my, mk, tm, cn, us, ws, rd, wi, vt, fm, dc, ry, fy, od, sy) (nI x) (nI r) :=
  ⟨n + 1, gy_fo7 I hx S hF hr hok hun h n 0 (n + 1) sy (by omega) (by omega) (fun j hj => absurd hj (Nat.not_lt_zero _))⟩
end
end
section
/-! ===== the reference: the order, and all worked out ===== -/
def gy_fv (D : gd_D) (n g j : Nat) : Int32 := if gr_R D n g j = 0 then 0 else go_fn D n g j
section
variable {ct gt sr oy my : Int32} {mk tm cn : Nat → Int32} {us ws : Nat → Int64} {rd wi vt fm dc ry fy od sy : Nat → Int32}
theorem gy_ib {post : Int32 → Prop} {x e : Nat} {R : Nat → Nat} {fn : Nat → Int32} (hx : gx_at ry fy R fn x) (he : gx_at ry fy R fn e) (hex : e < x) (h : post (gd_bi (go_bf R fn x e))) : wpY_isBefore post (ct, gt, sr, oy, my, mk, tm, cn, us, ws, rd, wi, vt, fm, dc, ry, fy, od, sy) (nI x) (nI e) := by
  obtain ⟨x1, x2, x3, x4⟩ := hx
  obtain ⟨y1, y2, y3, y4⟩ := he
  have cx : (nI x).toNatClampNeg = x := nI_clamp (by omega)
  have ce : (nI e).toNatClampNeg = e := nI_clamp (by omega)
  have vx : vp_in (nI x) 48 := vp_in_nI x1 (by omega)
  have ve : vp_in (nI e) 48 := vp_in_nI y1 (by omega)
  refine ⟨vx, ve, ?_⟩
  rw [cx, ce, x2, y2, x4, y4]
  unfold go_bf at h
  refine pk_eq (R x) (R e) (fun q => ⟨vx, ve, ?_⟩) (fun q => ⟨vx, ve, ?_⟩)
  · rw [if_pos q] at h
    by_cases l0 : fn x = fn e
    · rw [decide_eq_false (by rw [l0]; exact Int32.lt_irrefl)] at h
      exact br_t l0 (br_t (nI_le (by omega) (by omega)) h)
    · refine br_f l0 ⟨vx, ve, ?_⟩
      by_cases l : fn e ≤ fn x
      · rw [decide_eq_false (Int32.not_lt.mpr l)] at h; exact br_t l h
      · rw [decide_eq_true (Int32.not_le.mp l)] at h; exact br_f l h
  · rw [if_neg q] at h
    refine pk_le (R e) (R x) (fun l => ?_) (fun l => ?_)
    · rw [decide_eq_false (by omega)] at h; exact h
    · rw [decide_eq_true l] at h; exact h
theorem gy_po45 {post : SY → Prop} {t : Int32} {k M : Nat} (hk : k < 48) (h : post (ct, gt, sr, nI (M + 1), my, mk, tm, cn, us, ws, rd, wi, vt, fm, dc, ry, fy, gi_up od k t, sy)) : wY_putInOrder_45 post t (nI k) ct gt sr (nI M) my mk tm cn us ws rd wi vt fm dc ry fy od sy :=
  ⟨vp_in_nI hk (by omega), nm_r (e' := gi_up od k t) (by rw [nI_clamp (by omega)]; rfl) (nm_r (nI_1 M) h)⟩
theorem gy_po5 {post : SY → Prop} {x M : Nat} {R : Nat → Nat} {fn : Nat → Int32} (hx : gx_at ry fy R fn x) : ∀ k f (od : Nat → Int32), k < 48 → k < f → (∀ j, j < k → ∃ i, od j = nI i ∧ gx_at ry fy R fn i ∧ i < x) → post (ct, gt, sr, nI (M + 1), my, mk, tm, cn, us, ws, rd, wi, vt, fm, dc, ry, fy, gi_ins (gx_bf R fn x) (nI x) k od, sy) → wY_putInOrder_5 post (nI x) ct gt sr (nI M) my f (nI k) mk tm cn us ws rd wi vt fm dc ry fy od sy := by
  intro k
  induction k with
  | zero =>
    intro f od hk hf hs h
    obtain ⟨f, rfl⟩ : ∃ m, f = m + 1 := ⟨f - 1, by omega⟩
    rw [wY_putInOrder_5]
    exact br_t (nI_le (Nat.le_refl 0) (by decide)) (gy_po45 hk h)
  | succ k ih =>
    intro f od hk hf hs h
    obtain ⟨f, rfl⟩ : ∃ m, f = m + 1 := ⟨f - 1, by omega⟩
    rw [wY_putInOrder_5]
    have e1 : nI (k + 1) - 1 = nI k := nI_pred k
    have c1 : (nI (k + 1) - 1).toNatClampNeg = k := by rw [e1]; exact nI_clamp (by omega)
    have v1 : vp_in (nI (k + 1) - 1) 48 := by rw [e1]; exact vp_in_nI (by omega) (by omega)
    have c2 : (nI (k + 1)).toNatClampNeg = k + 1 := nI_clamp (by omega)
    have v2 : vp_in (nI (k + 1)) 48 := vp_in_nI hk (by omega)
    obtain ⟨i, ei, hi, hix⟩ := hs k (by omega)
    refine br_f (nI_nle (by omega) (by omega)) ⟨v1, ?_⟩
    rw [c1, c2]
    rw [gi_ins] at h
    have eb : gx_bf R fn x (od k) = go_bf R fn x i := by unfold gx_bf; rw [ei, nI_clamp (by have := hi.1; omega)]
    rw [eb] at h
    have call : ∀ P : Int32 → Prop, P (gd_bi (go_bf R fn x i)) → wpY_isBefore P (ct, gt, sr, nI M, my, mk, tm, cn, us, ws, rd, wi, vt, fm, dc, ry, fy, od, sy) (nI x) (od k) := fun P hP => by
      rw [ei]
      exact gy_ib hx hi hix hP
    refine call _ (gd_br (fun q => gy_po45 hk ?_) (fun q => ⟨v1, v2, nm_r (e' := gi_up od (k + 1) (od k)) rfl (nm_r (pk_m1 k) (ih f _ (by omega) (by omega) (fun j hj => ?_) ?_))⟩))
    · rw [if_neg (by rw [q]; decide)] at h; exact h
    · rw [gi_un (by omega)]; exact hs j (by omega)
    · rw [if_pos q] at h; exact h
theorem gy_po {post : SY → Prop} {x k : Nat} {R : Nat → Nat} {fn : Nat → Int32} (hx : gx_at ry fy R fn x) (hk : k < 48) (hs : ∀ j, j < k → ∃ i, od j = nI i ∧ gx_at ry fy R fn i ∧ i < x) (h : post (ct, gt, sr, nI (k + 1), my, mk, tm, cn, us, ws, rd, wi, vt, fm, dc, ry, fy, gi_ins (gx_bf R fn x) (nI x) k od, sy)) : wpY_putInOrder post (ct, gt, sr, nI k, my, mk, tm, cn, us, ws, rd, wi, vt, fm, dc, ry, fy, od, sy) (nI x) := ⟨k + 1, gy_po5 hx k (k + 1) od hk (by omega) hs h⟩
theorem gy_w95 {post : SY → Prop} {J : Int32 → Int32 → Int32 → Int32 → Int32 → Int32 → (Nat → Int32) → (Nat → Int32) → (Nat → Int32) → (Nat → Int64) → (Nat → Int64) → (Nat → Int32) → (Nat → Int32) → (Nat → Int32) → (Nat → Int32) → (Nat → Int32) → (Nat → Int32) → (Nat → Int32) → (Nat → Int32) → (Nat → Int32) → Prop}
    {D : gd_D} {n g x k : Nat} {ry0 : Nat → Int32} (I : gd_Inv D n g) (S : gx_S D mk tm cn us ws rd wi) (hF : ∀ j, j < n → gd_wi D j = true → fm j = nI (gf_F D n g j)) (hx : x < n) (hk : k < 48) (hfy : fy x = 0)
    (hs : ∀ j, j < k → ∃ i, od j = nI i ∧ gx_at ry0 fy (gr_R D n g) (go_fn D n g) i ∧ i < x)
    (K0 : gr_R D n g x = 0 → ∀ ry' : Nat → Int32, (∀ i, i ≠ x → ry' i = ry0 i) → ry' x = nI (gr_R D n g x) → J (nI (x + 1)) (nI n) gt sr (nI k) my mk tm cn us ws rd wi vt fm dc ry' fy od sy)
    (K1 : gr_R D n g x ≠ 0 → ∀ (my' : Int32) (ry' sy' : Nat → Int32), (∀ i, i ≠ x → ry' i = ry0 i) → ry' x = nI (gr_R D n g x) → J (nI (x + 1)) (nI n) gt sr (nI (k + 1)) my' mk tm cn us ws rd wi vt fm dc ry' (upd fy x (go_fn D n g x)) (gi_ins (gx_bf (gr_R D n g) (go_fn D n g) x) (nI x) k od) sy') :
    ∀ r f v (ry : Nat → Int32), r ≤ gs_S D n g → r < f → (∀ i, i ≠ x → ry i = ry0 i) → ry x = nI v → gr_D (gr_un D n g x) (gs_S D n g) r v → wY_workOut_95 post J (nI x) (nI n) gt sr (nI k) my f (nI r) mk tm cn us ws rd wi vt fm dc ry fy od sy := by
  have i48 := I.1
  have ig := I.2.1
  have iS := gs_S_le D n g
  have iR := gr_R_le D n g x
  have c : (nI x).toNatClampNeg = x := nI_clamp (by omega)
  have v0 : vp_in (nI x) 48 := vp_in_nI (by omega) (by omega)
  intro r
  induction r with
  | zero =>
    intro f v ry hr hf ho hv hD
    obtain ⟨f, rfl⟩ : ∃ m, f = m + 1 := ⟨f - 1, by omega⟩
    rw [wY_workOut_95]
    have e : gr_R D n g x = v := gr_D_e hD
    rw [← e] at hv
    refine br_t (nI_le (Nat.le_refl 0) (by decide)) ⟨v0, ?_⟩
    rw [c, hv]
    refine pk_le (gr_R D n g x) 0 (fun l => nm_r (nI_1 x) (K0 (by omega) ry ho hv)) (fun l => ⟨v0, ?_⟩)
    have l' : gr_R D n g x ≠ 0 := by omega
    refine gy_fo I hx S hF (by omega) (gs_S_ok l iR).2 (gr_R_un l') (fun my' sy' => ⟨v0, nm_r (e' := upd fy x (go_fn D n g x)) rfl ?_⟩)
    have hat : ∀ i, i < x → gx_at ry0 fy (gr_R D n g) (go_fn D n g) i → gx_at ry (upd fy x (go_fn D n g x)) (gr_R D n g) (go_fn D n g) i := fun i hi a => ⟨a.1, (ho i (by omega)).trans a.2.1, a.2.2.1, (pk_un (by omega)).trans a.2.2.2⟩
    refine gy_po (R := gr_R D n g) (fn := go_fn D n g) ⟨by omega, hv, by omega, pk_us⟩ hk (fun j hj => ?_) (nm_r (nI_1 x) (K1 l' my' ry sy' ho hv))
    obtain ⟨i, a1, a2, a3⟩ := hs j hj
    exact ⟨i, a1, hat i a3 a2, a3⟩
  | succ r ih =>
    intro f v ry hr hf ho hv hD
    obtain ⟨f, rfl⟩ : ∃ m, f = m + 1 := ⟨f - 1, by omega⟩
    rw [wY_workOut_95]
    refine br_f (nI_nle (by omega) (by omega)) (gy_re I hx S.2.2.2.1 S.2.2.2.2.2.1 S.2.2.2.2.2.2 hF (by omega) (gd_br (fun e => nm_r (pk_m1 r) (ih f v ry (by omega) (by omega) ho hv (gr_D_f hD e))) (fun e => ⟨v0, nm_r (e' := upd ry x (nI (r + 1))) (by rw [c]) (nm_r (pk_m1 r) (ih f (r + 1) _ (by omega) (by omega) (fun i hi => (pk_un hi).trans (ho i hi)) pk_us (gr_D_t (v := v) hr e)))⟩)))
theorem gy_w68 {post : SY → Prop} {D : gd_D} {n g : Nat} (I : gd_Inv D n g) (S : gx_S D mk tm cn us ws rd wi) (hF : ∀ j, j < n → gd_wi D j = true → fm j = nI (gf_F D n g j))
    (K : ∀ (my' : Int32) (ry' fy' od' sy' : Nat → Int32), (∀ j, j < n → ry' j = nI (gr_R D n g j) ∧ fy' j = gy_fv D n g j) → (∀ j, j < (go_O D n g).1 → od' j = nI ((go_O D n g).2 j)) → post (nI n, gt, nI (gs_S D n g), nI (go_O D n g).1, my', mk, tm, cn, us, ws, rd, wi, vt, fm, dc, ry', fy', od', sy')) :
    ∀ d i f (my : Int32) (ry fy od sy : Nat → Int32), i + d = n → d < f → (∀ j, j < i → ry j = nI (gr_R D n g j) ∧ fy j = gy_fv D n g j) → (∀ j, j < (go_st (gr_R D n g) (go_fn D n g) i).1 → od j = nI ((go_st (gr_R D n g) (go_fn D n g) i).2 j)) → wY_workOut_68 post f (nI i) (nI n) gt (nI (gs_S D n g)) (nI (go_st (gr_R D n g) (go_fn D n g) i).1) my mk tm cn us ws rd wi vt fm dc ry fy od sy := by
  have i48 := I.1
  have ig := I.2.1
  have iS := gs_S_le D n g
  intro d
  induction d with
  | zero =>
    intro i f my ry fy od sy hi hf h1 h2
    obtain ⟨f, rfl⟩ : ∃ m, f = m + 1 := ⟨f - 1, by omega⟩
    rw [wY_workOut_68]
    have e : i = n := by omega
    subst e
    exact br_t (nI_le (Nat.le_refl _) (by omega)) (K my ry fy od sy h1 h2)
  | succ d ih =>
    intro i f my ry fy od sy hi hf h1 h2
    obtain ⟨f, rfl⟩ : ∃ m, f = m + 1 := ⟨f - 1, by omega⟩
    rw [wY_workOut_68]
    have c : (nI i).toNatClampNeg = i := nI_clamp (by omega)
    have v : vp_in (nI i) 48 := vp_in_nI (by omega) (by omega)
    obtain ⟨g1, g2, g3, g4⟩ := go_is (gr_R D n g) (go_fn D n g) i
    have ih := ih (i + 1) f
    refine br_f (nI_ge (by omega) (by omega)) ⟨v, nm_r (e' := upd ry i 0) (by rw [c]) ⟨v, nm_r (e' := upd fy i 0) (by rw [c]) ⟨gs_S D n g + 1, ?_⟩⟩⟩
    have old : ∀ (ry' fy' : Nat → Int32), (∀ j, j ≠ i → ry' j = upd ry i 0 j) → (∀ j, j ≠ i → fy' j = fy j) → ry' i = nI (gr_R D n g i) → fy' i = gy_fv D n g i → ∀ j, j < i + 1 → ry' j = nI (gr_R D n g j) ∧ fy' j = gy_fv D n g j := by
      intro ry' fy' a1 a2 a3 a4 j hj
      by_cases q : j = i
      · subst q; exact ⟨a3, a4⟩
      · rw [a1 j q, a2 j q, pk_un q]; exact h1 j (by omega)
    refine gy_w95 (ry0 := upd ry i 0) I S hF (by omega) (by omega) pk_us (fun j hj => ?_) (fun e ry' a1 a2 => ?_) (fun e my' ry' sy' a1 a2 => ?_) (gs_S D n g) (gs_S D n g + 1) 0 (upd ry i 0) (Nat.le_refl _) (by omega) (fun _ _ => rfl) pk_us (gr_D_0 _ _)
    · have b := g2 j hj
      have hR := gr_R_le D n g ((go_st (gr_R D n g) (go_fn D n g) i).2 j)
      have hh := h1 _ b.1
      refine ⟨_, h2 j hj, ⟨by omega, (pk_un (by omega)).trans hh.1, by omega, (pk_un (by omega)).trans ?_⟩, b.1⟩
      rw [hh.2]
      exact if_neg b.2
    · rw [go_f e] at ih
      refine ih my ry' _ od sy (by omega) (by omega) (old ry' _ a1 (fun j hj => pk_un hj) a2 ?_) h2
      rw [pk_us]
      exact (if_pos e).symm
    · rw [go_t e] at ih
      refine ih my' ry' _ _ sy' (by omega) (by omega) (old ry' _ a1 (fun j hj => by rw [pk_un hj, pk_un hj]) a2 ?_) ?_
      · rw [pk_us]; exact (if_neg e).symm
      · refine gi_below nI (gx_bf (gr_R D n g) (go_fn D n g) i) (go_bf (gr_R D n g) (go_fn D n g) i) i h2 (fun j hj => ?_)
        unfold gx_bf
        rw [nI_clamp (by have := (g2 j hj).1; omega)]
theorem gy_w35 {post : SY → Prop} {D : gd_D} {n g : Nat} (I : gd_Inv D n g) (S : gx_S D mk tm cn us ws rd wi) (hF : ∀ j, j < n → gd_wi D j = true → fm j = nI (gf_F D n g j))
    (K : ∀ (my' : Int32) (ry' fy' od' sy' : Nat → Int32), (∀ j, j < n → ry' j = nI (gr_R D n g j) ∧ fy' j = gy_fv D n g j) → (∀ j, j < (go_O D n g).1 → od' j = nI ((go_O D n g).2 j)) → post (nI n, nI g, nI (gs_S D n g), nI (go_O D n g).1, my', mk, tm, cn, us, ws, rd, wi, vt, fm, dc, ry', fy', od', sy')) :
    ∀ d s f, s + d = g → d < f → gs_go (gs_p D n g) (g - s) s = gs_S D n g → wY_workOut_35 post (nI n) (nI g) oy my mk tm cn us ws rd wi vt fm dc ry fy od sy f (nI s) := by
  have i48 := I.1
  have ig := I.2.1
  have fin : ∃ f, wY_workOut_68 post f 0 (nI n) (nI g) (nI (gs_S D n g)) 0 my mk tm cn us ws rd wi vt fm dc ry fy od sy := ⟨n + 1, gy_w68 I S hF K n 0 (n + 1) my ry fy od sy (by omega) (by omega) (fun j hj => absurd hj (by omega)) (fun j hj => absurd hj (Nat.not_lt_zero _))⟩
  intro d
  induction d with
  | zero =>
    intro s f hs hf hg
    obtain ⟨f, rfl⟩ : ∃ k, f = k + 1 := ⟨f - 1, by omega⟩
    rw [wY_workOut_35]
    dsimp only
    rw [nI_1 s]
    have hp : gs_p D n g (s + 1) = false := by unfold gs_p; rw [decide_eq_false (by omega), Bool.false_and]
    refine gy_se I S.2.2.2.2.2.1 S.2.2.2.2.2.2 hF (by omega) ?_
    rw [hp]
    rw [gs_stop hp] at hg
    rw [← hg] at fin
    exact br_t rfl fin
  | succ d ih =>
    intro s f hs hf hg
    obtain ⟨f, rfl⟩ : ∃ k, f = k + 1 := ⟨f - 1, by omega⟩
    rw [wY_workOut_35]
    dsimp only
    rw [nI_1 s]
    refine gy_se I S.2.2.2.2.2.1 S.2.2.2.2.2.2 hF (by omega) (gd_br (fun hp => ?_) (fun hp => nm_e (ih (s + 1) f (by omega) (by omega) ?_)))
    · rw [gs_stop hp] at hg
      rw [← hg] at fin
      exact fin
    · have e2 : g - s = (g - (s + 1)) + 1 := by omega
      rw [e2, gs_step hp] at hg
      exact hg
theorem gy_w2 {post : SY → Prop} {D : gd_D} {n g : Nat} (I : gd_Inv D n g) (S : gx_S D mk tm cn us ws rd wi)
    (K : ∀ (my' : Int32) (vt' fm' dc' ry' fy' od' sy' : Nat → Int32), (∀ j, j < n → ry' j = nI (gr_R D n g j) ∧ fy' j = gy_fv D n g j) → (∀ j, j < (go_O D n g).1 → od' j = nI ((go_O D n g).2 j)) → post (nI n, nI g, nI (gs_S D n g), nI (go_O D n g).1, my', mk, tm, cn, us, ws, rd, wi, vt', fm', dc', ry', fy', od', sy')) :
    ∀ d i f (vt fm dc : Nat → Int32), i + d = n → d < f → (∀ j, j < i → gd_wi D j = true → fm j = nI (gf_F D n g j)) → wY_workOut_2 post f (nI i) (nI n) (nI g) sr oy my mk tm cn us ws rd wi vt fm dc ry fy od sy := by
  have i48 := I.1
  have hwi := S.2.2.2.2.2.2
  intro d
  induction d with
  | zero =>
    intro i f vt fm dc hi hf h
    obtain ⟨f, rfl⟩ : ∃ k, f = k + 1 := ⟨f - 1, by omega⟩
    rw [wY_workOut_2]
    have e : i = n := by omega
    subst e
    exact br_t (nI_le (Nat.le_refl _) (by omega)) ⟨g + 1, gy_w35 I S h (fun my' ry' fy' od' sy' a b => K my' vt fm dc ry' fy' od' sy' a b) g 0 (g + 1) (by omega) (by omega) rfl⟩
  | succ d ih =>
    intro i f vt fm dc hi hf h
    obtain ⟨f, rfl⟩ : ∃ k, f = k + 1 := ⟨f - 1, by omega⟩
    rw [wY_workOut_2]
    refine br_f (nI_ge (by omega) (by omega)) ⟨vp_in_nI (by omega) (by omega), ?_⟩
    rw [nI_clamp (by omega), hwi i]
    refine gd_br (fun e => nm_r (nI_1 i) (ih (i + 1) f vt fm dc (by omega) (by omega) (fun j hj hw => ?_))) (fun e => gy_as I S (by omega) (fun vt' fm' dc' a1 a2 a3 => nm_r (nI_1 i) (ih (i + 1) f vt' fm' dc' (by omega) (by omega) (fun j hj hw => ?_))))
    · by_cases q : j = i
      · subst q; rw [e] at hw; cases hw
      · exact h j (by omega) hw
    · by_cases q : j = i
      · subst q
        rw [a2]
        unfold gf_F
        rw [if_pos e]
      · rw [(a1 j q).1]; exact h j (by omega) hw
theorem gy_wk {post : SY → Prop} {D : gd_D} {n g : Nat} (I : gd_Inv D n g) (S : gx_S D mk tm cn us ws rd wi)
    (K : ∀ (my' : Int32) (vt' fm' dc' ry' fy' od' sy' : Nat → Int32), (∀ j, j < n → ry' j = nI (gr_R D n g j) ∧ fy' j = gy_fv D n g j) → (∀ j, j < (go_O D n g).1 → od' j = nI ((go_O D n g).2 j)) → post (nI n, nI g, nI (gs_S D n g), nI (go_O D n g).1, my', mk, tm, cn, us, ws, rd, wi, vt', fm', dc', ry', fy', od', sy')) : wpY_workOut post (nI n, nI g, sr, oy, my, mk, tm, cn, us, ws, rd, wi, vt, fm, dc, ry, fy, od, sy) :=
  ⟨n + 1, gy_w2 I S K n 0 (n + 1) vt fm dc (by omega) (by omega) (fun j hj => absurd hj (by omega))⟩
end
end
section
/-! ===== the relation; questions that only read ===== -/
def gy_R (D : gd_D) (n g : Nat) (v : SY) : Prop := match v with
  | (ct, gt, sr, oy, my, mkk, tm, cn, us, ws, rd, wi, vt, fm, dc, ry, fy, od, sy) => ct = nI n ∧ gt = nI g ∧ gx_S D mkk tm cn us ws rd wi
/-- both sides hold the same data of the same events; the component holds all that follows from them -/
def i_Rel (k : Nat) (u : SX) (v : SY) : Prop := ∃ (D : gd_D) (n g : Nat), gd_Inv D n g ∧ gx_R D n g u ∧ gy_R D n g v
theorem i_up {k : Nat} {u : SX} {v : SY} (h : i_Rel k u v) : i_Rel (k + 5) u v := h
def gd_0 : gd_D := (fun _ => 0, fun _ => 0, fun _ => false, fun _ => 0, fun _ => 0, fun _ => 0, fun _ => false)
theorem gd_Inv0 : gd_Inv gd_0 0 0 :=
  ⟨by omega, Nat.le_refl _, fun _ => (by decide : 0 < 4), fun _ => Nat.le_refl _, fun j hj => absurd hj (Nat.not_lt_zero _), fun y hy => absurd hy (Nat.not_lt_zero _), fun y hy => absurd hy (Nat.not_lt_zero _), fun y hy => absurd hy (Nat.not_lt_zero _), fun x y _ hy => absurd hy (Nat.not_lt_zero _), fun _ _ => rfl⟩
theorem gd_S0 : gx_S gd_0 (fun _ => 0) (fun _ => 0) (fun _ => 0) (fun _ => 0) (fun _ => 0) (fun _ => 0) (fun _ => 0) :=
  ⟨fun _ => rfl, rfl, fun _ => rfl, rfl, rfl, fun _ => rfl, fun _ => rfl⟩
section
variable {en gr st oc : Int32} {yv : Int64} {mk tm cn : Nat → Int32} {us ws : Nat → Int64} {rd wi : Nat → Int32} {vf : Nat → Int64} {fa de rc fi ev pl la so : Nat → Int32}
theorem gx_in {post : SX → Prop} (h : ∀ la' : Nat → Int32, (∀ j, j < 4 → la' j = -2) → post (en, gr, st, oc, yv, mk, tm, cn, us, ws, rd, wi, vf, fa, de, rc, fi, ev, pl, la', so)) : ∀ d i f (la : Nat → Int32), i + d = 4 → d < f → (∀ j, j < i → la j = -2) → wX_init_132 post en gr st oc yv f (nI i) mk tm cn us ws rd wi vf fa de rc fi ev pl la so := by
  intro d
  induction d with
  | zero =>
    intro i f la hi hf hl
    obtain ⟨f, rfl⟩ : ∃ k, f = k + 1 := ⟨f - 1, by omega⟩
    rw [wX_init_132]
    have e : i = 4 := by omega
    subst e
    exact br_t (nI_le (Nat.le_refl 4) (by omega)) (h la hl)
  | succ d ih =>
    intro i f la hi hf hl
    obtain ⟨f, rfl⟩ : ∃ k, f = k + 1 := ⟨f - 1, by omega⟩
    rw [wX_init_132]
    refine br_f (nI_ge (b := 4) (by omega) (by decide)) ⟨vp_in_nI (by omega) (by omega), nm_r (e' := upd la i (-2)) (by rw [nI_clamp (by omega)]) (nm_r (nI_1 i) (ih (i + 1) f _ (by omega) (by omega) (fun j hj => ?_)))⟩
    by_cases q : j = i
    · subst q; exact pk_us
    · rw [pk_un q]; exact hl j (by omega)
theorem gx_g1 {post : Int32 → Prop} {n j : Nat} (hj : j < n) (hn : n ≤ 48) (h : post 1) : wpX_isGood post (nI n, gr, st, oc, yv, mk, tm, cn, us, ws, rd, wi, vf, fa, de, rc, fi, ev, pl, la, so) (nI j) := br_f (nI_pos (by omega)) (br_f (nI_ge hj (by omega)) h)
theorem gx_g0 {post : Int32 → Prop} {n : Nat} {x : Int32} (hx : x < 0 ∨ nI n ≤ x) (h : post 0) : wpX_isGood post (nI n, gr, st, oc, yv, mk, tm, cn, us, ws, rd, wi, vf, fa, de, rc, fi, ev, pl, la, so) x := by
  by_cases q : x < 0
  · exact br_t q h
  · exact br_f q (br_t (hx.resolve_left q) h)
theorem gx_m1 {post : Int32 → Prop} {j : Nat} (hj : j < 4) (h : post 1) : wpX_isMember post (en, gr, st, oc, yv, mk, tm, cn, us, ws, rd, wi, vf, fa, de, rc, fi, ev, pl, la, so) (nI j) := br_f (nI_pos (by omega)) (br_f (nI_ge (b := 4) hj (by decide)) h)
theorem gx_m0 {post : Int32 → Prop} {x : Int32} (hx : x < 0 ∨ nI 4 ≤ x) (h : post 0) : wpX_isMember post (en, gr, st, oc, yv, mk, tm, cn, us, ws, rd, wi, vf, fa, de, rc, fi, ev, pl, la, so) x := by
  by_cases q : x < 0
  · exact br_t q h
  · exact br_f q (br_t (hx.resolve_left q) h)
theorem gx_ws4 {post : Int32 → Prop} {D : gd_D} {n : Nat} {r : Int32} (hn : n ≤ 48) (hrd : ∀ j, rd j = nI (gd_rd D j)) (hwi : ∀ j, wi j = gd_bi (gd_wi D j)) (h : post (nI (gc_cnt (gg_w D r) n))) :
    ∀ d i f, i + d = n → d < f → wX_witnesses_4 post r (nI n) gr st oc yv mk tm cn us ws rd wi vf fa de rc fi ev pl la so f (nI (gc_cnt (gg_w D r) i)) (nI i) := by
  intro d
  induction d with
  | zero =>
    intro i f hi hf
    obtain ⟨f, rfl⟩ : ∃ k, f = k + 1 := ⟨f - 1, by omega⟩
    rw [wX_witnesses_4]
    have e : i = n := by omega
    subst e
    exact br_t (nI_le (Nat.le_refl _) (by omega)) h
  | succ d ih =>
    intro i f hi hf
    obtain ⟨f, rfl⟩ : ∃ k, f = k + 1 := ⟨f - 1, by omega⟩
    rw [wX_witnesses_4]
    have ih := ih (i + 1) f (by omega) (by omega)
    rw [gc_cnt] at ih
    refine br_f (nI_ge (by omega) (by omega)) (gx_wo' (by omega) (hwi i) (hrd i) (gd_br (fun e => nm_r (nI_1 i) ?_) (fun e => nm_r (nI_1 _) (nm_r (nI_1 i) ?_))))
    · have e : gg_w D r i = false := e
      rw [if_neg (by rw [e]; decide)] at ih; exact ih
    · have e : gg_w D r i = true := e
      rw [if_pos e] at ih; exact ih
theorem gx_di4 {post : Int32 → Prop} {k : Nat} (hk : k ≤ 48) (h : post (gg_sum ev k)) : ∀ d i f, i + d = k → d < f → wX_digest_4 post en gr st (nI k) yv mk tm cn us ws rd wi vf fa de rc fi ev pl la so f (gg_sum ev i) (nI i) := by
  intro d
  induction d with
  | zero =>
    intro i f hi hf
    obtain ⟨f, rfl⟩ : ∃ k, f = k + 1 := ⟨f - 1, by omega⟩
    rw [wX_digest_4]
    have e : i = k := by omega
    subst e
    exact br_t (nI_le (Nat.le_refl _) (by omega)) h
  | succ d ih =>
    intro i f hi hf
    obtain ⟨f, rfl⟩ : ∃ k, f = k + 1 := ⟨f - 1, by omega⟩
    rw [wX_digest_4]
    have ih := ih (i + 1) f (by omega) (by omega)
    exact br_f (nI_ge (by omega) (by omega)) ⟨vp_in_nI (by omega) (by omega), nm_r (e' := gg_sum ev (i + 1)) (by rw [nI_clamp (by omega)]; rfl) (nm_r (nI_1 i) ih)⟩
end
section
variable {ct gt sr oy my : Int32} {mk tm cn : Nat → Int32} {us ws : Nat → Int64} {rd wi vt fm dc ry fy od sy : Nat → Int32}
theorem gy_b0 {post : Int32 → Prop} {n j : Nat} (hj : j < n) (hn : n ≤ 48) (h : post 0) : wpY_bad post (nI n, gt, sr, oy, my, mk, tm, cn, us, ws, rd, wi, vt, fm, dc, ry, fy, od, sy) (nI j) := br_f (nI_pos (by omega)) (br_t (nI_lt hj (by omega)) h)
theorem gy_b1 {post : Int32 → Prop} {n : Nat} {x : Int32} (hx : x < 0 ∨ nI n ≤ x) (h : post 1) : wpY_bad post (nI n, gt, sr, oy, my, mk, tm, cn, us, ws, rd, wi, vt, fm, dc, ry, fy, od, sy) x := by
  by_cases q : x < 0
  · exact br_t q h
  · exact br_f q (br_f (Int32.not_lt.mpr (hx.resolve_left q)) h)
theorem gy_ws4 {post : Int32 → Prop} {D : gd_D} {n : Nat} {r : Int32} (hn : n ≤ 48) (hrd : ∀ j, rd j = nI (gd_rd D j)) (hwi : ∀ j, wi j = gd_bi (gd_wi D j)) (h : post (nI (gc_cnt (gg_w D r) n))) :
    ∀ d i f, i + d = n → d < f → wY_witnesses_4 post r (nI n) gt sr oy my mk tm cn us ws rd wi vt fm dc ry fy od sy f (nI (gc_cnt (gg_w D r) i)) (nI i) := by
  intro d
  induction d with
  | zero =>
    intro i f hi hf
    obtain ⟨f, rfl⟩ : ∃ k, f = k + 1 := ⟨f - 1, by omega⟩
    rw [wY_witnesses_4]
    have e : i = n := by omega
    subst e
    exact br_t (nI_le (Nat.le_refl _) (by omega)) h
  | succ d ih =>
    intro i f hi hf
    obtain ⟨f, rfl⟩ : ∃ k, f = k + 1 := ⟨f - 1, by omega⟩
    rw [wY_witnesses_4]
    have ih := ih (i + 1) f (by omega) (by omega)
    rw [gc_cnt] at ih
    refine br_f (nI_ge (by omega) (by omega)) (gy_wo' (by omega) (hwi i) (hrd i) (gd_br (fun e => nm_r (nI_1 i) ?_) (fun e => nm_r (nI_1 _) (nm_r (nI_1 i) ?_))))
    · have e : gg_w D r i = false := e
      rw [if_neg (by rw [e]; decide)] at ih; exact ih
    · have e : gg_w D r i = true := e
      rw [if_pos e] at ih; exact ih
theorem gy_di8 {post : Int32 → SY → Prop} {k : Nat} (hk : k ≤ 48) (h : post (gg_sum od k) (ct, gt, sr, nI k, my, mk, tm, cn, us, ws, rd, wi, vt, fm, dc, ry, fy, od, sy)) : ∀ d i f, i + d = k → d < f → wY_digest_8 post ct gt sr (nI k) my mk tm cn us ws rd wi vt fm dc ry fy od sy f (gg_sum od i) (nI i) := by
  intro d
  induction d with
  | zero =>
    intro i f hi hf
    obtain ⟨f, rfl⟩ : ∃ k, f = k + 1 := ⟨f - 1, by omega⟩
    rw [wY_digest_8]
    have e : i = k := by omega
    subst e
    exact br_t (nI_le (Nat.le_refl _) (by omega)) h
  | succ d ih =>
    intro i f hi hf
    obtain ⟨f, rfl⟩ : ∃ k, f = k + 1 := ⟨f - 1, by omega⟩
    rw [wY_digest_8]
    have ih := ih (i + 1) f (by omega) (by omega)
    exact br_f (nI_ge (by omega) (by omega)) ⟨vp_in_nI (by omega) (by omega), nm_r (e' := gg_sum od (i + 1)) (by rw [nI_clamp (by omega)]; rfl) (nm_r (nI_1 i) ih)⟩
theorem gy_pl16 {post : Int32 → SY → Prop} {k x : Nat} {F : Nat → Nat} (hk : k ≤ 48) (hx : x < 48) (hF : ∀ j, j < k → F j < 48) (ho : ∀ j, j < k → od j = nI (F j)) (h0 : (∀ j, j < k → F j ≠ x) → post (-2) (ct, gt, sr, nI k, my, mk, tm, cn, us, ws, rd, wi, vt, fm, dc, ry, fy, od, sy)) (h1 : ∀ j, j < k → F j = x → post (nI j) (ct, gt, sr, nI k, my, mk, tm, cn, us, ws, rd, wi, vt, fm, dc, ry, fy, od, sy)) :
    ∀ d i f, i + d = k → d < f → (∀ j, j < i → F j ≠ x) → wY_placeOf_16 post (nI x) ct gt sr (nI k) my mk tm cn us ws rd wi vt fm dc ry fy od sy f (nI i) := by
  intro d
  induction d with
  | zero =>
    intro i f hi hf hn
    obtain ⟨f, rfl⟩ : ∃ k, f = k + 1 := ⟨f - 1, by omega⟩
    rw [wY_placeOf_16]
    have e : i = k := by omega
    subst e
    exact br_t (nI_le (Nat.le_refl _) (by omega)) (h0 hn)
  | succ d ih =>
    intro i f hi hf hn
    obtain ⟨f, rfl⟩ : ∃ k, f = k + 1 := ⟨f - 1, by omega⟩
    rw [wY_placeOf_16]
    have hFi := hF i (by omega)
    refine br_f (nI_ge (by omega) (by omega)) ⟨vp_in_nI (by omega) (by omega), ?_⟩
    rw [nI_clamp (by omega), ho i (by omega)]
    refine pk_eq (F i) x (fun e => h1 i (by omega) e) (fun e => nm_r (nI_1 i) (ih (i + 1) f (by omega) (by omega) (fun j hj => ?_)))
    by_cases q : j = i
    · subst q; exact e
    · exact hn j (by omega)
end
theorem gd_bz (v : Int32) : lw_bz v = gd_bi (decide (v ≠ 0)) := by
  unfold lw_bz gd_bi
  by_cases e : v = 0
  · rw [if_pos e, if_neg (by rw [decide_eq_true_eq]; exact fun z => z e)]
  · rw [if_neg e, if_pos (by rw [decide_eq_true_eq]; exact e)]
end
section
/-! ===== the owed statements: the start, and the questions ===== -/
theorem i_vc0 : wpX_init (fun u => wpY_init (fun v => i_Rel 0 u v)) := by
  refine ⟨5, gx_in (fun la' hl => ?_) 4 0 5 (fun _ => 0) (by omega) (by omega) (fun j hj => absurd hj (Nat.not_lt_zero _))⟩
  refine ⟨gd_0, 0, 0, gd_Inv0, ⟨rfl, rfl, gd_S0, fun y hy => absurd hy (Nat.not_lt_zero _), fun m hm => ⟨none, hl m hm, fun j hj => absurd hj (Nat.not_lt_zero _)⟩, fun j hj => absurd hj (Nat.not_lt_zero _), rfl, fun j hj => absurd hj (Nat.not_lt_zero _), rfl, fun j hj => absurd hj (Nat.not_lt_zero _), fun j hj => absurd hj (Nat.not_lt_zero _)⟩, ⟨rfl, rfl, gd_S0⟩⟩
theorem i_vc_events {k : Nat} {u : SX} {v : SY} (I : i_Rel k u v) (hk : k + 5 ≤ 2560) : wpX_events (fun r => wpY_events (fun r' => r' = r ∧ i_Rel (k + 5) u v) v) u := by
  have J : i_Rel (k + 5) u v := I
  obtain ⟨D, n, g, Iv, hX, hY⟩ := I
  have J' : ∀ v' : SY, gy_R D n g v' → i_Rel (k + 5) u v' := fun v' h => ⟨D, n, g, Iv, hX, h⟩
  have i48 := Iv.1
  have ig := Iv.2.1
  obtain ⟨en, gr, st, oc, yv, mk, tm, cn, us, ws, rd, wi, vf, fa, de, rc, fi, ev, pl, la, so⟩ := u
  obtain ⟨ct, gt, sr, oy, my, mk2, tm2, cn2, us2, ws2, rd2, wi2, vt, fm, dc, ry, fy, od, sy⟩ := v
  obtain ⟨rfl, rfl, S, V, L, w1, rfl, w3, rfl, w5, w6⟩ := hX
  obtain ⟨rfl, rfl, S2⟩ := hY
  exact ⟨rfl, J⟩
theorem i_vc_latest {k : Nat} {u : SX} {v : SY} (I : i_Rel k u v) (hk : k + 5 ≤ 2560) (v1 : Int32) : wpX_latest (fun r => wpY_latest (fun r' => r' = r ∧ i_Rel (k + 5) u v) v v1) u v1 := by
  have J : i_Rel (k + 5) u v := I
  obtain ⟨D, n, g, Iv, hX, hY⟩ := I
  have J' : ∀ v' : SY, gy_R D n g v' → i_Rel (k + 5) u v' := fun v' h => ⟨D, n, g, Iv, hX, h⟩
  have i48 := Iv.1
  have ig := Iv.2.1
  obtain ⟨en, gr, st, oc, yv, mk, tm, cn, us, ws, rd, wi, vf, fa, de, rc, fi, ev, pl, la, so⟩ := u
  obtain ⟨ct, gt, sr, oy, my, mk2, tm2, cn2, us2, ws2, rd2, wi2, vt, fm, dc, ry, fy, od, sy⟩ := v
  obtain ⟨rfl, rfl, S, V, L, w1, rfl, w3, rfl, w5, w6⟩ := hX
  obtain ⟨rfl, rfl, S2⟩ := hY
  unfold wpX_latest wpY_latest
  rcases pk_ix v1 (n := 4) (by omega) with h | h | ⟨j, hj, rfl⟩
  · exact gx_m0 (Or.inl h) (br_t rfl (br_t h ⟨rfl, J⟩))
  · refine gx_m0 (Or.inr h) (br_t rfl ?_)
    by_cases q : v1 < 0
    · exact br_t q ⟨rfl, J⟩
    · exact br_f q (br_f (fun z => absurd (Int32.le_trans h z) (by decide)) ⟨rfl, J⟩)
  · obtain ⟨o, ho, hw⟩ := L j hj
    refine gx_m1 hj (br_f (by decide) ⟨vp_in_nI hj (by omega), br_f (nI_pos (by omega)) (br_t (nI_le (b := 3) (by omega) (by decide)) ?_)⟩)
    rw [nI_clamp (by omega), ho]
    refine gy_lo i48 hj S2.1 Iv.2.2.1 (fun o1 h1 => ?_)
    rw [gm_own_uni h1 hw]
    cases o with
    | none => exact br_f (by decide) ⟨rfl, J⟩
    | some p =>
      have hp : p < n := hw.1
      refine br_t (nI_pos' (by omega)) (gy_lo i48 hj S2.1 Iv.2.2.1 (fun o2 h2 => ?_))
      rw [gm_own_uni h2 hw]
      exact ⟨rfl, J⟩
theorem i_vc_under {k : Nat} {u : SX} {v : SY} (I : i_Rel k u v) (hk : k + 5 ≤ 2560) (v1 : Int32) (v2 : Int32) : wpX_under (fun r => wpY_under (fun r' => r' = r ∧ i_Rel (k + 5) u v) v v1 v2) u v1 v2 := by
  have J : i_Rel (k + 5) u v := I
  obtain ⟨D, n, g, Iv, hX, hY⟩ := I
  have J' : ∀ v' : SY, gy_R D n g v' → i_Rel (k + 5) u v' := fun v' h => ⟨D, n, g, Iv, hX, h⟩
  have i48 := Iv.1
  have ig := Iv.2.1
  obtain ⟨en, gr, st, oc, yv, mk, tm, cn, us, ws, rd, wi, vf, fa, de, rc, fi, ev, pl, la, so⟩ := u
  obtain ⟨ct, gt, sr, oy, my, mk2, tm2, cn2, us2, ws2, rd2, wi2, vt, fm, dc, ry, fy, od, sy⟩ := v
  obtain ⟨rfl, rfl, S, V, L, w1, rfl, w3, rfl, w5, w6⟩ := hX
  obtain ⟨rfl, rfl, S2⟩ := hY
  unfold wpX_under wpY_under
  have bad1 : v1 < 0 ∨ nI n ≤ v1 ∨ ∃ j : Nat, j < n ∧ v1 = nI j := pk_ix v1 (by omega)
  have bad2 : v2 < 0 ∨ nI n ≤ v2 ∨ ∃ j : Nat, j < n ∧ v2 = nI j := pk_ix v2 (by omega)
  rw [← or_assoc] at bad1 bad2
  rcases bad1 with h | ⟨x, hx, rfl⟩
  · exact gx_g0 h (br_t rfl (gy_b1 h (br_f (by decide) ⟨rfl, J⟩)))
  · refine gx_g1 hx i48 (br_f (by decide) ?_)
    rcases bad2 with h | ⟨y, hy, rfl⟩
    · exact gx_g0 h (br_t rfl (gy_b0 hx i48 (br_t rfl (gy_b1 h (br_f (by decide) ⟨rfl, J⟩)))))
    · refine gx_g1 hy i48 (br_f (by decide) (gx_un (by omega) (by omega) ?_))
      have e1 := S.2.2.2.1
      have e2 := S2.2.2.2.1
      subst e1 e2
      have c : (nI y).toNatClampNeg = y := nI_clamp (by omega)
      refine gd_br (fun e => gy_b0 hx i48 (br_t rfl (gy_b0 hy i48 (br_t rfl ⟨vp_in_nI (by omega) (by omega), gy_has (by omega) (gd_br (fun e2 => ⟨rfl, J⟩) (fun e2 => ?_))⟩)))) (fun e => gy_b0 hx i48 (br_t rfl (gy_b0 hy i48 (br_t rfl ⟨vp_in_nI (by omega) (by omega), gy_has (by omega) (gd_br (fun e2 => ?_) (fun e2 => ⟨rfl, J⟩))⟩))))
      · rw [c, e] at e2; cases e2
      · rw [c, e] at e2; cases e2
theorem i_vc_wellUnder {k : Nat} {u : SX} {v : SY} (I : i_Rel k u v) (hk : k + 5 ≤ 2560) (v1 : Int32) (v2 : Int32) : wpX_wellUnder (fun r => wpY_wellUnder (fun r' => r' = r ∧ i_Rel (k + 5) u v) v v1 v2) u v1 v2 := by
  have J : i_Rel (k + 5) u v := I
  obtain ⟨D, n, g, Iv, hX, hY⟩ := I
  have J' : ∀ v' : SY, gy_R D n g v' → i_Rel (k + 5) u v' := fun v' h => ⟨D, n, g, Iv, hX, h⟩
  have i48 := Iv.1
  have ig := Iv.2.1
  obtain ⟨en, gr, st, oc, yv, mk, tm, cn, us, ws, rd, wi, vf, fa, de, rc, fi, ev, pl, la, so⟩ := u
  obtain ⟨ct, gt, sr, oy, my, mk2, tm2, cn2, us2, ws2, rd2, wi2, vt, fm, dc, ry, fy, od, sy⟩ := v
  obtain ⟨rfl, rfl, S, V, L, w1, rfl, w3, rfl, w5, w6⟩ := hX
  obtain ⟨rfl, rfl, S2⟩ := hY
  unfold wpX_wellUnder wpY_wellUnder
  have bad1 : v1 < 0 ∨ nI n ≤ v1 ∨ ∃ j : Nat, j < n ∧ v1 = nI j := pk_ix v1 (by omega)
  have bad2 : v2 < 0 ∨ nI n ≤ v2 ∨ ∃ j : Nat, j < n ∧ v2 = nI j := pk_ix v2 (by omega)
  rw [← or_assoc] at bad1 bad2
  rcases bad1 with h | ⟨x, hx, rfl⟩
  · exact gx_g0 h (br_t rfl (gy_b1 h (br_f (by decide) ⟨rfl, J⟩)))
  · refine gx_g1 hx i48 (br_f (by decide) ?_)
    rcases bad2 with h | ⟨y, hy, rfl⟩
    · exact gx_g0 h (br_t rfl (gy_b0 hx i48 (br_t rfl (gy_b1 h (br_f (by decide) ⟨rfl, J⟩)))))
    · refine gx_g1 hy i48 (br_f (by decide) (gx_wu (by omega) (by omega) ?_))
      have e1 := S.2.2.2.2.1
      have e2 := S2.2.2.2.2.1
      subst e1 e2
      have c : (nI y).toNatClampNeg = y := nI_clamp (by omega)
      refine gd_br (fun e => gy_b0 hx i48 (br_t rfl (gy_b0 hy i48 (br_t rfl ⟨vp_in_nI (by omega) (by omega), gy_has (by omega) (gd_br (fun e2 => ⟨rfl, J⟩) (fun e2 => ?_))⟩)))) (fun e => gy_b0 hx i48 (br_t rfl (gy_b0 hy i48 (br_t rfl ⟨vp_in_nI (by omega) (by omega), gy_has (by omega) (gd_br (fun e2 => ?_) (fun e2 => ⟨rfl, J⟩))⟩))))
      · rw [c, e] at e2; cases e2
      · rw [c, e] at e2; cases e2
theorem i_vc_round {k : Nat} {u : SX} {v : SY} (I : i_Rel k u v) (hk : k + 5 ≤ 2560) (v1 : Int32) : wpX_round (fun r => wpY_round (fun r' => r' = r ∧ i_Rel (k + 5) u v) v v1) u v1 := by
  have J : i_Rel (k + 5) u v := I
  obtain ⟨D, n, g, Iv, hX, hY⟩ := I
  have J' : ∀ v' : SY, gy_R D n g v' → i_Rel (k + 5) u v' := fun v' h => ⟨D, n, g, Iv, hX, h⟩
  have i48 := Iv.1
  have ig := Iv.2.1
  obtain ⟨en, gr, st, oc, yv, mk, tm, cn, us, ws, rd, wi, vf, fa, de, rc, fi, ev, pl, la, so⟩ := u
  obtain ⟨ct, gt, sr, oy, my, mk2, tm2, cn2, us2, ws2, rd2, wi2, vt, fm, dc, ry, fy, od, sy⟩ := v
  obtain ⟨rfl, rfl, S, V, L, w1, rfl, w3, rfl, w5, w6⟩ := hX
  obtain ⟨rfl, rfl, S2⟩ := hY
  unfold wpX_round wpY_round
  have bad1 : v1 < 0 ∨ nI n ≤ v1 ∨ ∃ j : Nat, j < n ∧ v1 = nI j := pk_ix v1 (by omega)
  rw [← or_assoc] at bad1
  rcases bad1 with h | ⟨x, hx, rfl⟩
  · exact gx_g0 h (br_t rfl (gy_b1 h (br_f (by decide) ⟨rfl, J⟩)))
  · refine gx_g1 hx i48 (br_f (by decide) ⟨vp_in_nI (by omega) (by omega), gy_b0 hx i48 (br_t rfl ⟨vp_in_nI (by omega) (by omega), ?_, J⟩)⟩)
    rw [S.2.2.2.2.2.1, S2.2.2.2.2.2.1]
theorem i_vc_witness {k : Nat} {u : SX} {v : SY} (I : i_Rel k u v) (hk : k + 5 ≤ 2560) (v1 : Int32) : wpX_witness (fun r => wpY_witness (fun r' => r' = r ∧ i_Rel (k + 5) u v) v v1) u v1 := by
  have J : i_Rel (k + 5) u v := I
  obtain ⟨D, n, g, Iv, hX, hY⟩ := I
  have J' : ∀ v' : SY, gy_R D n g v' → i_Rel (k + 5) u v' := fun v' h => ⟨D, n, g, Iv, hX, h⟩
  have i48 := Iv.1
  have ig := Iv.2.1
  obtain ⟨en, gr, st, oc, yv, mk, tm, cn, us, ws, rd, wi, vf, fa, de, rc, fi, ev, pl, la, so⟩ := u
  obtain ⟨ct, gt, sr, oy, my, mk2, tm2, cn2, us2, ws2, rd2, wi2, vt, fm, dc, ry, fy, od, sy⟩ := v
  obtain ⟨rfl, rfl, S, V, L, w1, rfl, w3, rfl, w5, w6⟩ := hX
  obtain ⟨rfl, rfl, S2⟩ := hY
  unfold wpX_witness wpY_witness
  dsimp only
  have bad1 : v1 < 0 ∨ nI n ≤ v1 ∨ ∃ j : Nat, j < n ∧ v1 = nI j := pk_ix v1 (by omega)
  rw [← or_assoc] at bad1
  rcases bad1 with h | ⟨x, hx, rfl⟩
  · exact gx_g0 h (br_t rfl (gy_b1 h (br_f (by decide) ⟨rfl, J⟩)))
  · have v : vp_in (nI x) 48 := vp_in_nI (by omega) (by omega)
    refine gx_g1 hx i48 (br_f (by decide) ⟨v, ?_⟩)
    rw [S.2.2.2.2.2.2, S2.2.2.2.2.2.2]
    exact gd_br (fun e => gy_b0 hx i48 (br_t rfl ⟨v, gd_br (fun _ => ⟨rfl, J⟩) (fun e2 => by rw [e] at e2; cases e2)⟩)) (fun e => gy_b0 hx i48 (br_t rfl ⟨v, gd_br (fun e2 => by rw [e] at e2; cases e2) (fun _ => ⟨rfl, J⟩)⟩))
theorem i_vc_witnesses {k : Nat} {u : SX} {v : SY} (I : i_Rel k u v) (hk : k + 5 ≤ 2560) (v1 : Int32) : wpX_witnesses (fun r => wpY_witnesses (fun r' => r' = r ∧ i_Rel (k + 5) u v) v v1) u v1 := by
  have J : i_Rel (k + 5) u v := I
  obtain ⟨D, n, g, Iv, hX, hY⟩ := I
  have J' : ∀ v' : SY, gy_R D n g v' → i_Rel (k + 5) u v' := fun v' h => ⟨D, n, g, Iv, hX, h⟩
  have i48 := Iv.1
  have ig := Iv.2.1
  obtain ⟨en, gr, st, oc, yv, mk, tm, cn, us, ws, rd, wi, vf, fa, de, rc, fi, ev, pl, la, so⟩ := u
  obtain ⟨ct, gt, sr, oy, my, mk2, tm2, cn2, us2, ws2, rd2, wi2, vt, fm, dc, ry, fy, od, sy⟩ := v
  obtain ⟨rfl, rfl, S, V, L, w1, rfl, w3, rfl, w5, w6⟩ := hX
  obtain ⟨rfl, rfl, S2⟩ := hY
  exact ⟨n + 1, gx_ws4 i48 S.2.2.2.2.2.1 S.2.2.2.2.2.2 ⟨n + 1, gy_ws4 i48 S2.2.2.2.2.2.1 S2.2.2.2.2.2.2 ⟨rfl, J⟩ n 0 (n + 1) (by omega) (by omega)⟩ n 0 (n + 1) (by omega) (by omega)⟩
theorem i_vc_fame {k : Nat} {u : SX} {v : SY} (I : i_Rel k u v) (hk : k + 5 ≤ 2560) (v1 : Int32) : wpX_fame (fun r => wpY_fame (fun r' v' => r' = r ∧ i_Rel (k + 5) u v') v v1) u v1 := by
  have J : i_Rel (k + 5) u v := I
  obtain ⟨D, n, g, Iv, hX, hY⟩ := I
  have J' : ∀ v' : SY, gy_R D n g v' → i_Rel (k + 5) u v' := fun v' h => ⟨D, n, g, Iv, hX, h⟩
  have i48 := Iv.1
  have ig := Iv.2.1
  obtain ⟨en, gr, st, oc, yv, mk, tm, cn, us, ws, rd, wi, vf, fa, de, rc, fi, ev, pl, la, so⟩ := u
  obtain ⟨ct, gt, sr, oy, my, mk2, tm2, cn2, us2, ws2, rd2, wi2, vt, fm, dc, ry, fy, od, sy⟩ := v
  obtain ⟨rfl, rfl, S, V, L, w1, rfl, w3, rfl, w5, w6⟩ := hX
  obtain ⟨rfl, rfl, S2⟩ := hY
  unfold wpX_fame wpY_fame
  dsimp only
  have bad1 : v1 < 0 ∨ nI n ≤ v1 ∨ ∃ j : Nat, j < n ∧ v1 = nI j := pk_ix v1 (by omega)
  rw [← or_assoc] at bad1
  rcases bad1 with h | ⟨x, hx, rfl⟩
  · exact gx_g0 h (br_t rfl (gy_b1 h (br_f (by decide) ⟨rfl, J⟩)))
  · have v : vp_in (nI x) 48 := vp_in_nI (by omega) (by omega)
    have c : (nI x).toNatClampNeg = x := nI_clamp (by omega)
    refine gx_g1 hx i48 (br_f (by decide) ⟨v, ?_⟩)
    rw [c, S.2.2.2.2.2.2, S2.2.2.2.2.2.2, (w1 x hx).1]
    refine gd_br (fun e => gy_b0 hx i48 (br_t rfl ⟨v, gd_br (fun _ => ⟨rfl, J⟩) (fun e2 => by rw [e] at e2; cases e2)⟩)) (fun e => ⟨v, gy_b0 hx i48 (br_t rfl ⟨v, gd_br (fun e2 => by rw [e] at e2; cases e2) (fun _ => ?_)⟩)⟩)
    refine gy_as Iv S2 hx (fun vt' fm' dc' a1 a2 a3 => ⟨v, ?_, J' _ ⟨rfl, rfl, S2⟩⟩)
    refine a2.trans ?_
    unfold gf_F
    rw [if_pos e]
theorem i_vc_decider {k : Nat} {u : SX} {v : SY} (I : i_Rel k u v) (hk : k + 5 ≤ 2560) (v1 : Int32) : wpX_decider (fun r => wpY_decider (fun r' v' => r' = r ∧ i_Rel (k + 5) u v') v v1) u v1 := by
  have J : i_Rel (k + 5) u v := I
  obtain ⟨D, n, g, Iv, hX, hY⟩ := I
  have J' : ∀ v' : SY, gy_R D n g v' → i_Rel (k + 5) u v' := fun v' h => ⟨D, n, g, Iv, hX, h⟩
  have i48 := Iv.1
  have ig := Iv.2.1
  obtain ⟨en, gr, st, oc, yv, mk, tm, cn, us, ws, rd, wi, vf, fa, de, rc, fi, ev, pl, la, so⟩ := u
  obtain ⟨ct, gt, sr, oy, my, mk2, tm2, cn2, us2, ws2, rd2, wi2, vt, fm, dc, ry, fy, od, sy⟩ := v
  obtain ⟨rfl, rfl, S, V, L, w1, rfl, w3, rfl, w5, w6⟩ := hX
  obtain ⟨rfl, rfl, S2⟩ := hY
  unfold wpX_decider wpY_decider
  dsimp only
  have bad1 : v1 < 0 ∨ nI n ≤ v1 ∨ ∃ j : Nat, j < n ∧ v1 = nI j := pk_ix v1 (by omega)
  rw [← or_assoc] at bad1
  rcases bad1 with h | ⟨x, hx, rfl⟩
  · exact gx_g0 h (br_t rfl (gy_b1 h (br_f (by decide) ⟨rfl, J⟩)))
  · have v : vp_in (nI x) 48 := vp_in_nI (by omega) (by omega)
    have c : (nI x).toNatClampNeg = x := nI_clamp (by omega)
    refine gx_g1 hx i48 (br_f (by decide) ⟨v, ?_⟩)
    rw [c, S.2.2.2.2.2.2, S2.2.2.2.2.2.2, (w1 x hx).2]
    refine gd_br (fun e => gy_b0 hx i48 (br_t rfl ⟨v, gd_br (fun _ => ⟨rfl, J⟩) (fun e2 => by rw [e] at e2; cases e2)⟩)) (fun e => ⟨v, gy_b0 hx i48 (br_t rfl ⟨v, gd_br (fun e2 => by rw [e] at e2; cases e2) (fun _ => ?_)⟩)⟩)
    refine gy_as Iv S2 hx (fun vt' fm' dc' a1 a2 a3 => ⟨v, ?_⟩)
    dsimp only
    rw [a3]
    unfold gf_d
    rw [if_pos e]
    cases hd : gf_de D n g x with
    | none => exact br_f (by decide) ⟨rfl, J' _ ⟨rfl, rfl, S2⟩⟩
    | some d =>
      have := gf_out_lt _ hd
      exact br_t (nI_pos' (by omega)) ⟨v, rfl, J' _ ⟨rfl, rfl, S2⟩⟩
end
section
/-! ===== the owed statements: what is worked out ===== -/
theorem i_vc_settled {k : Nat} {u : SX} {v : SY} (I : i_Rel k u v) (hk : k + 5 ≤ 2560) : wpX_settled (fun r => wpY_settled (fun r' v' => r' = r ∧ i_Rel (k + 5) u v') v) u := by
  have J : i_Rel (k + 5) u v := I
  obtain ⟨D, n, g, Iv, hX, hY⟩ := I
  have J' : ∀ v' : SY, gy_R D n g v' → i_Rel (k + 5) u v' := fun v' h => ⟨D, n, g, Iv, hX, h⟩
  have i48 := Iv.1
  have ig := Iv.2.1
  obtain ⟨en, gr, st, oc, yv, mk, tm, cn, us, ws, rd, wi, vf, fa, de, rc, fi, ev, pl, la, so⟩ := u
  obtain ⟨ct, gt, sr, oy, my, mk2, tm2, cn2, us2, ws2, rd2, wi2, vt, fm, dc, ry, fy, od, sy⟩ := v
  obtain ⟨rfl, rfl, S, V, L, w1, rfl, w3, rfl, w5, w6⟩ := hX
  obtain ⟨rfl, rfl, S2⟩ := hY
  unfold wpX_settled wpY_settled
  exact gy_wk Iv S2 (fun my' vt' fm' dc' ry' fy' od' sy' a b => ⟨rfl, J' _ ⟨rfl, rfl, S2⟩⟩)
theorem i_vc_received {k : Nat} {u : SX} {v : SY} (I : i_Rel k u v) (hk : k + 5 ≤ 2560) (v1 : Int32) : wpX_received (fun r => wpY_received (fun r' v' => r' = r ∧ i_Rel (k + 5) u v') v v1) u v1 := by
  have J : i_Rel (k + 5) u v := I
  obtain ⟨D, n, g, Iv, hX, hY⟩ := I
  have J' : ∀ v' : SY, gy_R D n g v' → i_Rel (k + 5) u v' := fun v' h => ⟨D, n, g, Iv, hX, h⟩
  have i48 := Iv.1
  have ig := Iv.2.1
  obtain ⟨en, gr, st, oc, yv, mk, tm, cn, us, ws, rd, wi, vf, fa, de, rc, fi, ev, pl, la, so⟩ := u
  obtain ⟨ct, gt, sr, oy, my, mk2, tm2, cn2, us2, ws2, rd2, wi2, vt, fm, dc, ry, fy, od, sy⟩ := v
  obtain ⟨rfl, rfl, S, V, L, w1, rfl, w3, rfl, w5, w6⟩ := hX
  obtain ⟨rfl, rfl, S2⟩ := hY
  unfold wpX_received wpY_received
  dsimp only
  have bad1 : v1 < 0 ∨ nI n ≤ v1 ∨ ∃ j : Nat, j < n ∧ v1 = nI j := pk_ix v1 (by omega)
  rw [← or_assoc] at bad1
  rcases bad1 with h | ⟨x, hx, rfl⟩
  · exact gx_g0 h (br_t rfl (gy_b1 h (br_f (by decide) ⟨rfl, J⟩)))
  · have v : vp_in (nI x) 48 := vp_in_nI (by omega) (by omega)
    have c : (nI x).toNatClampNeg = x := nI_clamp (by omega)
    have iR := gr_R_le D n g x
    have iS := gs_S_le D n g
    refine gx_g1 hx i48 (br_f (by decide) ⟨v, ?_⟩)
    rw [c, (w3 x hx).1]
    refine gy_b0 hx i48 (br_t rfl (gy_wk Iv S2 (fun my' vt' fm' dc' ry' fy' od' sy' a b => ⟨v, ?_⟩)))
    dsimp only
    rw [(a x hx).1]
    refine pk_eq (gr_R D n g x) 0 (fun e => ⟨?_, J' _ ⟨rfl, rfl, S2⟩⟩) (fun e => ⟨v, ?_, J' _ ⟨rfl, rfl, S2⟩⟩)
    · rw [e]; rfl
    · exact (gx_rcN e).symm
theorem i_vc_finalTime {k : Nat} {u : SX} {v : SY} (I : i_Rel k u v) (hk : k + 5 ≤ 2560) (v1 : Int32) : wpX_finalTime (fun r => wpY_finalTime (fun r' v' => r' = r ∧ i_Rel (k + 5) u v') v v1) u v1 := by
  have J : i_Rel (k + 5) u v := I
  obtain ⟨D, n, g, Iv, hX, hY⟩ := I
  have J' : ∀ v' : SY, gy_R D n g v' → i_Rel (k + 5) u v' := fun v' h => ⟨D, n, g, Iv, hX, h⟩
  have i48 := Iv.1
  have ig := Iv.2.1
  obtain ⟨en, gr, st, oc, yv, mk, tm, cn, us, ws, rd, wi, vf, fa, de, rc, fi, ev, pl, la, so⟩ := u
  obtain ⟨ct, gt, sr, oy, my, mk2, tm2, cn2, us2, ws2, rd2, wi2, vt, fm, dc, ry, fy, od, sy⟩ := v
  obtain ⟨rfl, rfl, S, V, L, w1, rfl, w3, rfl, w5, w6⟩ := hX
  obtain ⟨rfl, rfl, S2⟩ := hY
  unfold wpX_finalTime wpY_finalTime
  dsimp only
  have bad1 : v1 < 0 ∨ nI n ≤ v1 ∨ ∃ j : Nat, j < n ∧ v1 = nI j := pk_ix v1 (by omega)
  rw [← or_assoc] at bad1
  rcases bad1 with h | ⟨x, hx, rfl⟩
  · exact gx_g0 h (br_t rfl (gy_b1 h (br_f (by decide) ⟨rfl, J⟩)))
  · have v : vp_in (nI x) 48 := vp_in_nI (by omega) (by omega)
    have c : (nI x).toNatClampNeg = x := nI_clamp (by omega)
    have iR := gr_R_le D n g x
    have iS := gs_S_le D n g
    refine gx_g1 hx i48 (br_f (by decide) (gx_ir (R := gr_R D n g x) (by omega) (by omega) (w3 x hx).1 (fun e => br_t rfl (gy_b0 hx i48 (br_t rfl (gy_wk Iv S2 (fun my' vt' fm' dc' ry' fy' od' sy' a b => ⟨v, ?_, J' _ ⟨rfl, rfl, S2⟩⟩))))) (fun e => br_f (by decide) ⟨v, gy_b0 hx i48 (br_t rfl (gy_wk Iv S2 (fun my' vt' fm' dc' ry' fy' od' sy' a b => ⟨v, ?_, J' _ ⟨rfl, rfl, S2⟩⟩)))⟩)))
    · show fy' (nI x).toNatClampNeg = 0
      rw [c, (a x hx).2]
      exact if_pos e
    · show fy' (nI x).toNatClampNeg = fi (nI x).toNatClampNeg
      rw [c, (a x hx).2, (w3 x hx).2 e]
      exact if_neg e
theorem i_vc_ordered {k : Nat} {u : SX} {v : SY} (I : i_Rel k u v) (hk : k + 5 ≤ 2560) : wpX_ordered (fun r => wpY_ordered (fun r' v' => r' = r ∧ i_Rel (k + 5) u v') v) u := by
  have J : i_Rel (k + 5) u v := I
  obtain ⟨D, n, g, Iv, hX, hY⟩ := I
  have J' : ∀ v' : SY, gy_R D n g v' → i_Rel (k + 5) u v' := fun v' h => ⟨D, n, g, Iv, hX, h⟩
  have i48 := Iv.1
  have ig := Iv.2.1
  obtain ⟨en, gr, st, oc, yv, mk, tm, cn, us, ws, rd, wi, vf, fa, de, rc, fi, ev, pl, la, so⟩ := u
  obtain ⟨ct, gt, sr, oy, my, mk2, tm2, cn2, us2, ws2, rd2, wi2, vt, fm, dc, ry, fy, od, sy⟩ := v
  obtain ⟨rfl, rfl, S, V, L, w1, rfl, w3, rfl, w5, w6⟩ := hX
  obtain ⟨rfl, rfl, S2⟩ := hY
  unfold wpX_ordered wpY_ordered
  exact gy_wk Iv S2 (fun my' vt' fm' dc' ry' fy' od' sy' a b => ⟨rfl, J' _ ⟨rfl, rfl, S2⟩⟩)
theorem i_vc_orderAt {k : Nat} {u : SX} {v : SY} (I : i_Rel k u v) (hk : k + 5 ≤ 2560) (v1 : Int32) : wpX_orderAt (fun r => wpY_orderAt (fun r' v' => r' = r ∧ i_Rel (k + 5) u v') v v1) u v1 := by
  have J : i_Rel (k + 5) u v := I
  obtain ⟨D, n, g, Iv, hX, hY⟩ := I
  have J' : ∀ v' : SY, gy_R D n g v' → i_Rel (k + 5) u v' := fun v' h => ⟨D, n, g, Iv, hX, h⟩
  have i48 := Iv.1
  have ig := Iv.2.1
  obtain ⟨en, gr, st, oc, yv, mk, tm, cn, us, ws, rd, wi, vf, fa, de, rc, fi, ev, pl, la, so⟩ := u
  obtain ⟨ct, gt, sr, oy, my, mk2, tm2, cn2, us2, ws2, rd2, wi2, vt, fm, dc, ry, fy, od, sy⟩ := v
  obtain ⟨rfl, rfl, S, V, L, w1, rfl, w3, rfl, w5, w6⟩ := hX
  obtain ⟨rfl, rfl, S2⟩ := hY
  unfold wpX_orderAt wpY_orderAt
  dsimp only
  have o1 := (go_is (gr_R D n g) (go_fn D n g) n).1
  have o1 : (go_O D n g).1 ≤ n := o1
  by_cases q : v1 < 0
  · exact br_t q (gy_wk Iv S2 (fun my' vt' fm' dc' ry' fy' od' sy' a b => br_t q ⟨rfl, J' _ ⟨rfl, rfl, S2⟩⟩))
  · refine br_f q ?_
    rcases pk_ix v1 (n := (go_O D n g).1) (by omega) with h | h | ⟨j, hj, rfl⟩
    · exact absurd h q
    · exact br_t h (gy_wk Iv S2 (fun my' vt' fm' dc' ry' fy' od' sy' a b => br_f q (br_f (Int32.not_lt.mpr h) ⟨rfl, J' _ ⟨rfl, rfl, S2⟩⟩)))
    · have v : vp_in (nI j) 48 := vp_in_nI (by omega) (by omega)
      have c : (nI j).toNatClampNeg = j := nI_clamp (by omega)
      refine br_f (nI_ge hj (by omega)) ⟨v, gy_wk Iv S2 (fun my' vt' fm' dc' ry' fy' od' sy' a b => br_f q (br_t (nI_lt hj (by omega)) ⟨v, ?_, J' _ ⟨rfl, rfl, S2⟩⟩))⟩
      show od' (nI j).toNatClampNeg = ev (nI j).toNatClampNeg
      rw [c, w5 j hj, b j hj]
theorem i_vc_placeOf {k : Nat} {u : SX} {v : SY} (I : i_Rel k u v) (hk : k + 5 ≤ 2560) (v1 : Int32) : wpX_placeOf (fun r => wpY_placeOf (fun r' v' => r' = r ∧ i_Rel (k + 5) u v') v v1) u v1 := by
  have J : i_Rel (k + 5) u v := I
  obtain ⟨D, n, g, Iv, hX, hY⟩ := I
  have J' : ∀ v' : SY, gy_R D n g v' → i_Rel (k + 5) u v' := fun v' h => ⟨D, n, g, Iv, hX, h⟩
  have i48 := Iv.1
  have ig := Iv.2.1
  obtain ⟨en, gr, st, oc, yv, mk, tm, cn, us, ws, rd, wi, vf, fa, de, rc, fi, ev, pl, la, so⟩ := u
  obtain ⟨ct, gt, sr, oy, my, mk2, tm2, cn2, us2, ws2, rd2, wi2, vt, fm, dc, ry, fy, od, sy⟩ := v
  obtain ⟨rfl, rfl, S, V, L, w1, rfl, w3, rfl, w5, w6⟩ := hX
  obtain ⟨rfl, rfl, S2⟩ := hY
  unfold wpX_placeOf wpY_placeOf
  dsimp only
  obtain ⟨o1, o2, o3, o4⟩ := go_is (gr_R D n g) (go_fn D n g) n
  have o1 : (go_O D n g).1 ≤ n := o1
  have oF : ∀ j, j < (go_O D n g).1 → (go_O D n g).2 j < 48 := fun j hj => by have : (go_O D n g).2 j < n := (o2 j hj).1; omega
  have bad1 : v1 < 0 ∨ nI n ≤ v1 ∨ ∃ j : Nat, j < n ∧ v1 = nI j := pk_ix v1 (by omega)
  rw [← or_assoc] at bad1
  rcases bad1 with h | ⟨x, hx, rfl⟩
  · exact gx_g0 h (br_t rfl (gy_b1 h (br_f (by decide) ⟨rfl, J⟩)))
  · have v : vp_in (nI x) 48 := vp_in_nI (by omega) (by omega)
    have c : (nI x).toNatClampNeg = x := nI_clamp (by omega)
    have iR := gr_R_le D n g x
    have iS := gs_S_le D n g
    refine gx_g1 hx i48 (br_f (by decide) (gx_ir (R := gr_R D n g x) (by omega) (by omega) (w3 x hx).1 (fun e => br_t rfl (gy_b0 hx i48 (br_t rfl (gy_wk Iv S2 (fun my' vt' fm' dc' ry' fy' od' sy' a b => ⟨(go_O D n g).1 + 1, ?_⟩))))) (fun e => br_f (by decide) ⟨v, gy_b0 hx i48 (br_t rfl (gy_wk Iv S2 (fun my' vt' fm' dc' ry' fy' od' sy' a b => ⟨(go_O D n g).1 + 1, ?_⟩)))⟩)))
    · refine gy_pl16 (F := (go_O D n g).2) (by omega) (by omega) oF b (fun _ => ⟨rfl, J' _ ⟨rfl, rfl, S2⟩⟩) (fun j hj hF => ?_) (go_O D n g).1 0 ((go_O D n g).1 + 1) (by omega) (by omega) (fun j hj => absurd hj (by omega))
      have : gr_R D n g ((go_O D n g).2 j) ≠ 0 := (o2 j hj).2
      rw [hF] at this
      exact absurd e this
    · refine gy_pl16 (F := (go_O D n g).2) (by omega) (by omega) oF b (fun hno => ?_) (fun j hj hF => ⟨?_, J' _ ⟨rfl, rfl, S2⟩⟩) (go_O D n g).1 0 ((go_O D n g).1 + 1) (by omega) (by omega) (fun j hj => absurd hj (by omega))
      · obtain ⟨j, hj, ej⟩ := o4 x hx e
        exact absurd ej (hno j hj)
      · rw [c, ← hF, w6 j hj]
theorem i_vc_digest {k : Nat} {u : SX} {v : SY} (I : i_Rel k u v) (hk : k + 5 ≤ 2560) : wpX_digest (fun r => wpY_digest (fun r' v' => r' = r ∧ i_Rel (k + 5) u v') v) u := by
  have J : i_Rel (k + 5) u v := I
  obtain ⟨D, n, g, Iv, hX, hY⟩ := I
  have J' : ∀ v' : SY, gy_R D n g v' → i_Rel (k + 5) u v' := fun v' h => ⟨D, n, g, Iv, hX, h⟩
  have i48 := Iv.1
  have ig := Iv.2.1
  obtain ⟨en, gr, st, oc, yv, mk, tm, cn, us, ws, rd, wi, vf, fa, de, rc, fi, ev, pl, la, so⟩ := u
  obtain ⟨ct, gt, sr, oy, my, mk2, tm2, cn2, us2, ws2, rd2, wi2, vt, fm, dc, ry, fy, od, sy⟩ := v
  obtain ⟨rfl, rfl, S, V, L, w1, rfl, w3, rfl, w5, w6⟩ := hX
  obtain ⟨rfl, rfl, S2⟩ := hY
  have o1 := (go_is (gr_R D n g) (go_fn D n g) n).1
  have o1 : (go_O D n g).1 ≤ n := o1
  refine ⟨(go_O D n g).1 + 1, gx_di4 (by omega) ?_ (go_O D n g).1 0 ((go_O D n g).1 + 1) (by omega) (by omega)⟩
  unfold wpY_digest
  refine gy_wk Iv S2 (fun my' vt' fm' dc' ry' fy' od' sy' a b => ⟨(go_O D n g).1 + 1, gy_di8 (by omega) ⟨?_, J' _ ⟨rfl, rfl, S2⟩⟩ (go_O D n g).1 0 ((go_O D n g).1 + 1) (by omega) (by omega)⟩)
  exact gg_congr fun j hj => (b j hj).trans (w5 j hj).symm
end
section
/-! ===== the owed statements: a new event ===== -/
section
variable {ct gt sr oy my : Int32} {mk tm cn : Nat → Int32} {us ws : Nat → Int64} {rd wi vt fm dc ry fy od sy : Nat → Int32}
theorem gy_me {post : Int32 → SY → Prop} {D : gd_D} {n g m : Nat} {o1 o2 : Option Nat} {t : Int32} {c : Bool} (Iv : gd_Inv D n g) (hn : n < 48) (hm : m < 4) (S : gx_S D mk tm cn us ws rd wi) (ho : gm_own D n m o1) (h2 : gm_lt n o2) (hno : o1 = none → o2 = none)
    (h : ∀ v', gy_R (gm_D D n m o1 o2 t c) (n + 1) (gm_g D n g m o1 o2) v' → post (nI n) v') : wpY_make post (nI n, nI g, sr, oy, my, mk, tm, cn, us, ws, rd, wi, vt, fm, dc, ry, fy, od, sy) (nI m) (gy_lv o1) (gy_lv o2) t (gd_bi c) :=
  gy_mk Iv hn hm S (gm_own_lt ho) h2 hno (h _ ⟨rfl, rfl, gx_S_make S⟩)
end
theorem i_vc_alone {k : Nat} {u : SX} {v : SY} (I : i_Rel k u v) (hk : k + 5 ≤ 2560) (v1 : Int32) (v2 : Int32) (v3 : Int32) : wpX_alone (fun r u' => wpY_alone (fun r' v' => r' = r ∧ i_Rel (k + 5) u' v') v v1 v2 (lw_bz v3)) u v1 v2 (lw_bz v3) := by
  have J : i_Rel (k + 5) u v := I
  obtain ⟨D, n, g, Iv, hX, hY⟩ := I
  have J' : ∀ v' : SY, gy_R D n g v' → i_Rel (k + 5) u v' := fun v' h => ⟨D, n, g, Iv, hX, h⟩
  have i48 := Iv.1
  have ig := Iv.2.1
  obtain ⟨en, gr, st, oc, yv, mk, tm, cn, us, ws, rd, wi, vf, fa, de, rc, fi, ev, pl, la, so⟩ := u
  obtain ⟨ct, gt, sr, oy, my, mk2, tm2, cn2, us2, ws2, rd2, wi2, vt, fm, dc, ry, fy, od, sy⟩ := v
  obtain ⟨rfl, rfl, S, V, L, w1, rfl, w3, rfl, w5, w6⟩ := hX
  obtain ⟨rfl, rfl, S2⟩ := hY
  rw [gd_bz]
  unfold wpX_alone wpY_alone
  dsimp only
  rcases pk_ix v1 (n := 4) (by omega) with h | h | ⟨m, hm, rfl⟩
  · exact gx_m0 (Or.inl h) (br_t rfl (br_t h ⟨rfl, J⟩))
  · refine gx_m0 (Or.inr h) (br_t rfl ?_)
    by_cases q : v1 < 0
    · exact br_t q ⟨rfl, J⟩
    · exact br_f q (br_f (fun z => absurd (Int32.le_trans h z) (by decide)) ⟨rfl, J⟩)
  · have a3 : nI m ≤ 3 := nI_le (b := 3) (by omega) (by decide)
    have a0 : ¬ nI m < 0 := nI_pos (by omega)
    refine gx_m1 hm (br_f (by decide) (pk_lt n 48 (fun hn => ?_) (fun hn => br_f a0 (br_t a3 (pk_eq n 48 (fun _ => ⟨rfl, J⟩) (fun e => absurd hn (by omega)))))))
    refine gx_me (o2 := none) Iv hn hm S V L trivial (fun o1 u' ho hR => ?_)
    obtain ⟨b1, b2, b3, b4, b5, b6, b7, b8, b9, b10, b11, b12, b13, b14, b15, b16, b17, b18, b19, b20, b21⟩ := u'
    dsimp only
    refine br_f a0 (br_t a3 (pk_eq n 48 (fun e => absurd hn (by omega)) (fun e => gy_lo i48 hm S2.1 Iv.2.2.1 (fun o h1 => ?_))))
    rw [gm_own_uni h1 ho]
    refine gy_me (o2 := none) Iv hn hm S2 ho trivial (fun _ => rfl) (fun v' hY => ?_)
    obtain ⟨c1, c2, c3, c4, c5, c6, c7, c8, c9, c10, c11, c12, c13, c14, c15, c16, c17, c18, c19⟩ := v'
    exact ⟨rfl, _, _, _, gm_inv (other := none) Iv hn hm ho trivial, hR, hY⟩
theorem i_vc_gossip {k : Nat} {u : SX} {v : SY} (I : i_Rel k u v) (hk : k + 5 ≤ 2560) (v1 : Int32) (v2 : Int32) (v3 : Int32) (v4 : Int32) : wpX_gossip (fun r u' => wpY_gossip (fun r' v' => r' = r ∧ i_Rel (k + 5) u' v') v v1 v2 v3 (lw_bz v4)) u v1 v2 v3 (lw_bz v4) := by
  have J : i_Rel (k + 5) u v := I
  obtain ⟨D, n, g, Iv, hX, hY⟩ := I
  have J' : ∀ v' : SY, gy_R D n g v' → i_Rel (k + 5) u v' := fun v' h => ⟨D, n, g, Iv, hX, h⟩
  have i48 := Iv.1
  have ig := Iv.2.1
  obtain ⟨en, gr, st, oc, yv, mk, tm, cn, us, ws, rd, wi, vf, fa, de, rc, fi, ev, pl, la, so⟩ := u
  obtain ⟨ct, gt, sr, oy, my, mk2, tm2, cn2, us2, ws2, rd2, wi2, vt, fm, dc, ry, fy, od, sy⟩ := v
  obtain ⟨rfl, rfl, S, V, L, w1, rfl, w3, rfl, w5, w6⟩ := hX
  obtain ⟨rfl, rfl, S2⟩ := hY
  rw [gd_bz]
  unfold wpX_gossip wpY_gossip
  dsimp only
  rcases pk_ix v1 (n := 4) (by omega) with h | h | ⟨m, hm, rfl⟩
  · exact gx_m0 (Or.inl h) (br_t rfl (br_t h ⟨rfl, J⟩))
  · refine gx_m0 (Or.inr h) (br_t rfl ?_)
    by_cases q : v1 < 0
    · exact br_t q ⟨rfl, J⟩
    · exact br_f q (br_t (Int32.lt_of_lt_of_le (by decide) h) ⟨rfl, J⟩)
  · have a3 : ¬ 3 < nI m := nI_nlt (a := 3) (by omega) (by decide)
    have a0 : ¬ nI m < 0 := nI_pos (by omega)
    refine gx_m1 hm (br_f (by decide) ?_)
    have bad2 : v2 < 0 ∨ nI n ≤ v2 ∨ ∃ j : Nat, j < n ∧ v2 = nI j := pk_ix v2 (by omega)
    rw [← or_assoc] at bad2
    rcases bad2 with h | ⟨p, hp, rfl⟩
    · exact gx_g0 h (br_t rfl (br_f a0 (br_f a3 (gy_b1 h (br_f (by decide) ⟨rfl, J⟩)))))
    · have vp : vp_in (nI p) 48 := vp_in_nI (by omega) (by omega)
      have vm : vp_in (nI m) 4 := vp_in_nI hm (by omega)
      have cp : (nI p).toNatClampNeg = p := nI_clamp (by omega)
      have cm : (nI m).toNatClampNeg = m := nI_clamp (by omega)
      have m4 := Iv.2.2.1 p
      obtain ⟨o, ho, hw⟩ := L m hm
      refine gx_g1 hp i48 (br_f (by decide) ⟨vp, ?_⟩)
      rw [cp, cm, S.1, S2.1, ho]
      refine pk_eq (gd_mk D p) m (fun e => br_f a0 (br_f a3 (gy_b0 hp i48 (br_t rfl ⟨vp, pk_eq (gd_mk D p) m (fun _ => ⟨rfl, J⟩) (fun q => absurd e q)⟩)))) (fun e => ⟨vm, ?_⟩)
      cases o with
      | none =>
        refine br_t rfl (br_f a0 (br_f a3 (gy_b0 hp i48 (br_t rfl ⟨vp, pk_eq (gd_mk D p) m (fun q => absurd q e) (fun _ => gy_lo i48 hm S2.1 Iv.2.2.1 (fun o' h1 => ?_))⟩))))
        rw [gm_own_uni h1 hw]
        exact br_f (by decide) ⟨rfl, J⟩
      | some o =>
        have hon : o < n := hw.1
        refine br_f (gd_ne2 (by omega)) (pk_lt n 48 (fun hn => ?_) (fun hn => ?_))
        · refine gx_me (o2 := some p) Iv hn hm S V L hp (fun o1 u' ho1 hR => ?_)
          rw [gm_own_uni ho1 hw] at hR
          obtain ⟨b1, b2, b3, b4, b5, b6, b7, b8, b9, b10, b11, b12, b13, b14, b15, b16, b17, b18, b19, b20, b21⟩ := u'
          dsimp only
          refine br_f a0 (br_f a3 (gy_b0 hp i48 (br_t rfl ⟨vp, pk_eq (gd_mk D p) m (fun q => absurd q e) (fun _ => gy_lo i48 hm S2.1 Iv.2.2.1 (fun o' h1 => ?_))⟩)))
          rw [gm_own_uni h1 hw]
          refine br_t (nI_pos' (by omega)) (pk_eq n 48 (fun z => absurd hn (by omega)) (fun _ => gy_lo i48 hm S2.1 Iv.2.2.1 (fun o'' h2 => ?_)))
          rw [gm_own_uni h2 hw]
          refine gy_me (o2 := some p) Iv hn hm S2 hw hp (fun z => by cases z) (fun v' hY => ?_)
          obtain ⟨c1, c2, c3, c4, c5, c6, c7, c8, c9, c10, c11, c12, c13, c14, c15, c16, c17, c18, c19⟩ := v'
          exact ⟨rfl, _, _, _, gm_inv (other := some p) Iv hn hm hw hp, hR, hY⟩
        · refine br_f a0 (br_f a3 (gy_b0 hp i48 (br_t rfl ⟨vp, pk_eq (gd_mk D p) m (fun q => absurd q e) (fun _ => gy_lo i48 hm S2.1 Iv.2.2.1 (fun o' h1 => ?_))⟩)))
          rw [gm_own_uni h1 hw]
          exact br_t (nI_pos' (by omega)) (pk_eq n 48 (fun _ => ⟨rfl, J⟩) (fun z => absurd hn (by omega)))
end
