/-! numbers: ints and longs as whole numbers, with their size -/
def R6 (a : Int64) (A : Int) (M : Nat) : Prop := a.toInt = A ∧ A.natAbs ≤ M
def R3 (a : Int32) (A : Int) (M : Nat) : Prop := a.toInt = A ∧ A.natAbs ≤ M
theorem bm64 {x : Int} (h : x.natAbs < 2 ^ 63) : x.bmod (2 ^ 64) = x := Int.bmod_eq_of_le_mul_two (by omega) (by omega)
theorem bm32 {x : Int} (h : x.natAbs < 2 ^ 31) : x.bmod (2 ^ 32) = x := Int.bmod_eq_of_le_mul_two (by omega) (by omega)
theorem R6.add {a b : Int64} {A B : Int} {M N : Nat} (ha : R6 a A M) (hb : R6 b B N) (h : M + N < 2 ^ 63) : R6 (a + b) (A + B) (M + N) := by
  have h2 : (A + B).natAbs ≤ M + N := by have := ha.2; have := hb.2; omega
  refine ⟨?_, h2⟩
  rw [Int64.toInt_add, ha.1, hb.1, bm64 (by omega)]
theorem R6.sub {a b : Int64} {A B : Int} {M N : Nat} (ha : R6 a A M) (hb : R6 b B N) (h : M + N < 2 ^ 63) : R6 (a - b) (A - B) (M + N) := by
  have h2 : (A - B).natAbs ≤ M + N := by have := ha.2; have := hb.2; omega
  refine ⟨?_, h2⟩
  rw [Int64.toInt_sub, ha.1, hb.1, bm64 (by omega)]
theorem R6.mul {a b : Int64} {A B : Int} {M N : Nat} (ha : R6 a A M) (hb : R6 b B N) (h : M * N < 2 ^ 63) : R6 (a * b) (A * B) (M * N) := by
  have h2 : (A * B).natAbs ≤ M * N := by rw [Int.natAbs_mul]; exact Nat.mul_le_mul ha.2 hb.2
  refine ⟨?_, h2⟩
  rw [Int64.toInt_mul, ha.1, hb.1, bm64 (by omega)]
theorem R6.neg {a : Int64} {A : Int} {M : Nat} (ha : R6 a A M) (h : M < 2 ^ 63) : R6 (-a) (-A) M := by
  have h2 : (-A).natAbs ≤ M := by have := ha.2; omega
  refine ⟨?_, h2⟩
  rw [Int64.toInt_neg, ha.1, bm64 (by omega)]
theorem tdiv_abs (A B : Int) : (A.tdiv B).natAbs ≤ A.natAbs := by
  rw [Int.natAbs_tdiv]; exact Nat.div_le_self _ _
theorem R6.div {a b : Int64} {A B : Int} {M N : Nat} (ha : R6 a A M) (hb : R6 b B N) (h : M < 2 ^ 63) : R6 (a / b) (A.tdiv B) M := by
  have h2 : (A.tdiv B).natAbs ≤ M := Nat.le_trans (tdiv_abs A B) ha.2
  refine ⟨?_, h2⟩
  rw [Int64.toInt_div, ha.1, hb.1, bm64 (by omega)]
theorem R6.weak {a : Int64} {A : Int} {M N : Nat} (ha : R6 a A M) (h : M ≤ N) : R6 a A N := ⟨ha.1, Nat.le_trans ha.2 h⟩
theorem R6.to {a : Int64} {A B : Int} {M : Nat} (ha : R6 a A M) (h : A = B) : R6 a B M := h ▸ ha
theorem R6.lt {a b : Int64} {A B : Int} {M N : Nat} (ha : R6 a A M) (hb : R6 b B N) : a < b ↔ A < B := by rw [Int64.lt_iff_toInt_lt, ha.1, hb.1]
theorem R6.le {a b : Int64} {A B : Int} {M N : Nat} (ha : R6 a A M) (hb : R6 b B N) : a ≤ b ↔ A ≤ B := by rw [Int64.le_iff_toInt_le, ha.1, hb.1]
theorem R6.eq {a b : Int64} {A B : Int} {M N : Nat} (ha : R6 a A M) (hb : R6 b B N) : a = b ↔ A = B := by rw [← Int64.toInt_inj, ha.1, hb.1]
theorem R6_0 : R6 0 0 0 := ⟨by decide, by decide⟩
theorem R6_1 : R6 1 1 1 := ⟨by decide, by decide⟩
theorem R6_2 : R6 2 2 2 := ⟨by decide, by decide⟩
theorem R3.add {a b : Int32} {A B : Int} {M N : Nat} (ha : R3 a A M) (hb : R3 b B N) (h : M + N < 2 ^ 31) : R3 (a + b) (A + B) (M + N) := by
  have h2 : (A + B).natAbs ≤ M + N := by have := ha.2; have := hb.2; omega
  refine ⟨?_, h2⟩
  rw [Int32.toInt_add, ha.1, hb.1, bm32 (by omega)]
theorem R3.sub {a b : Int32} {A B : Int} {M N : Nat} (ha : R3 a A M) (hb : R3 b B N) (h : M + N < 2 ^ 31) : R3 (a - b) (A - B) (M + N) := by
  have h2 : (A - B).natAbs ≤ M + N := by have := ha.2; have := hb.2; omega
  refine ⟨?_, h2⟩
  rw [Int32.toInt_sub, ha.1, hb.1, bm32 (by omega)]
theorem R3.mul {a b : Int32} {A B : Int} {M N : Nat} (ha : R3 a A M) (hb : R3 b B N) (h : M * N < 2 ^ 31) : R3 (a * b) (A * B) (M * N) := by
  have h2 : (A * B).natAbs ≤ M * N := by rw [Int.natAbs_mul]; exact Nat.mul_le_mul ha.2 hb.2
  refine ⟨?_, h2⟩
  rw [Int32.toInt_mul, ha.1, hb.1, bm32 (by omega)]
theorem R3.div {a b : Int32} {A B : Int} {M N : Nat} (ha : R3 a A M) (hb : R3 b B N) (h : M < 2 ^ 31) : R3 (a / b) (A.tdiv B) M := by
  have h2 : (A.tdiv B).natAbs ≤ M := Nat.le_trans (tdiv_abs A B) ha.2
  refine ⟨?_, h2⟩
  rw [Int32.toInt_div, ha.1, hb.1, bm32 (by omega)]
theorem R3.weak {a : Int32} {A : Int} {M N : Nat} (ha : R3 a A M) (h : M ≤ N) : R3 a A N := ⟨ha.1, Nat.le_trans ha.2 h⟩
theorem R3.to {a : Int32} {A B : Int} {M : Nat} (ha : R3 a A M) (h : A = B) : R3 a B M := h ▸ ha
theorem R3.lt {a b : Int32} {A B : Int} {M N : Nat} (ha : R3 a A M) (hb : R3 b B N) : a < b ↔ A < B := by rw [Int32.lt_iff_toInt_lt, ha.1, hb.1]
theorem R3.le {a b : Int32} {A B : Int} {M N : Nat} (ha : R3 a A M) (hb : R3 b B N) : a ≤ b ↔ A ≤ B := by rw [Int32.le_iff_toInt_le, ha.1, hb.1]
theorem R3.eq {a b : Int32} {A B : Int} {M N : Nat} (ha : R3 a A M) (hb : R3 b B N) : a = b ↔ A = B := by rw [← Int32.toInt_inj, ha.1, hb.1]
theorem R3.i2l {a : Int32} {A : Int} {M : Nat} (ha : R3 a A M) : R6 a.toInt64 A M := ⟨by rw [Int32.toInt_toInt64, ha.1], ha.2⟩
theorem R6.l2i {a : Int64} {A : Int} {M : Nat} (ha : R6 a A M) (h : M < 2 ^ 31) : R3 a.toInt32 A M := ⟨by rw [Int64.toInt_toInt32, ha.1, bm32 (by have := ha.2; omega)], ha.2⟩
theorem R3_0 : R3 0 0 0 := ⟨by decide, by decide⟩
theorem R3_1 : R3 1 1 1 := ⟨by decide, by decide⟩
theorem R3_m1 : R3 (-1) (-1) 1 := ⟨by decide, by decide⟩
theorem R3_nI {n : Nat} (h : n < 2 ^ 31) : R3 (nI n) n n := ⟨nI_toInt h, by omega⟩
theorem R3.inj {a b : Int32} {A : Int} {M N : Nat} (ha : R3 a A M) (hb : R3 b A N) : a = b := Int32.toInt_inj.mp (ha.1.trans hb.1.symm)
theorem R6.inj {a b : Int64} {A : Int} {M N : Nat} (ha : R6 a A M) (hb : R6 b A N) : a = b := Int64.toInt_inj.mp (ha.1.trans hb.1.symm)
/-! masks -/
def mk (P : Nat → Bool) : Nat → Nat
  | 0 => 0
  | n + 1 => if P n then mk P n ||| 2 ^ n else mk P n
theorem mk_bit (P : Nat → Bool) : ∀ (n i : Nat), (mk P n).testBit i = (decide (i < n) && P i)
  | 0, i => by simp [mk]
  | n + 1, i => by
    unfold mk
    have ih := mk_bit P n i
    by_cases h : P n
    · rw [if_pos h, Nat.testBit_or, ih, Nat.testBit_two_pow]
      by_cases e : n = i
      · subst e; simp [h]
      · by_cases h2 : i < n
        · simp [h2, e, Nat.lt_succ_of_lt h2]
        · simp [h2, e, show ¬ i < n + 1 by omega]
    · rw [if_neg h, ih]
      by_cases e : n = i
      · subst e; simp [h]
      · by_cases h2 : i < n
        · simp [h2, Nat.lt_succ_of_lt h2]
        · simp [h2, show ¬ i < n + 1 by omega]
theorem mk_lt (P : Nat → Bool) : ∀ n : Nat, mk P n < 2 ^ n
  | 0 => by simp [mk]
  | n + 1 => by
    unfold mk
    have ih := mk_lt P n
    have h2 : 2 ^ n < 2 ^ (n + 1) := Nat.pow_lt_pow_right (by decide) (by omega)
    by_cases h : P n
    · rw [if_pos h]; exact Nat.or_lt_two_pow (by omega) h2
    · rw [if_neg h]; omega
theorem mk_congr {P Q : Nat → Bool} : ∀ {n : Nat}, (∀ i, i < n → P i = Q i) → mk P n = mk Q n
  | 0, _ => rfl
  | n + 1, h => by
    unfold mk
    rw [mk_congr (n := n) (fun i hi => h i (by omega)), h n (by omega)]
theorem mk_eq {n m : Nat} {P : Nat → Bool} (hm : m < 2 ^ n) (h : ∀ i, i < n → m.testBit i = P i) : m = mk P n := by
  apply Nat.eq_of_testBit_eq
  intro i
  rw [mk_bit]
  by_cases hi : i < n
  · simp [hi, h i hi]
  · simp [hi]
    exact Nat.testBit_lt_two_pow (Nat.lt_of_lt_of_le hm (Nat.pow_le_pow_right (by decide) (by omega)))
theorem mk_and (P Q : Nat → Bool) (n : Nat) : mk P n &&& mk Q n = mk (fun i => P i && Q i) n := by
  apply Nat.eq_of_testBit_eq
  intro i
  rw [Nat.testBit_and, mk_bit, mk_bit, mk_bit]
  by_cases hi : i < n <;> simp [hi]
theorem mk_or (P Q : Nat → Bool) (n : Nat) : mk P n ||| mk Q n = mk (fun i => P i || Q i) n := by
  apply Nat.eq_of_testBit_eq
  intro i
  rw [Nat.testBit_or, mk_bit, mk_bit, mk_bit]
  by_cases hi : i < n <;> simp [hi]
theorem mk_zero {P : Nat → Bool} {n : Nat} : mk P n = 0 ↔ ∀ i, i < n → P i = false := by
  constructor
  · intro h i hi
    have := mk_bit P n i
    rw [h] at this
    simpa [hi] using this.symm
  · intro h
    rw [mk_congr (Q := fun _ => false) h]
    apply Nat.eq_of_testBit_eq
    intro i
    rw [mk_bit]; simp
theorem nI_or (a b : Nat) : nI a ||| nI b = nI (a ||| b) := by
  apply Int32.toBitVec_inj.mp
  show BitVec.ofNat 32 a ||| BitVec.ofNat 32 b = BitVec.ofNat 32 (a ||| b)
  apply BitVec.eq_of_toNat_eq
  simp [BitVec.toNat_or, BitVec.toNat_ofNat, Nat.or_mod_two_pow]
theorem nI_and (a b : Nat) : nI a &&& nI b = nI (a &&& b) := by
  apply Int32.toBitVec_inj.mp
  show BitVec.ofNat 32 a &&& BitVec.ofNat 32 b = BitVec.ofNat 32 (a &&& b)
  apply BitVec.eq_of_toNat_eq
  simp [BitVec.toNat_and, BitVec.toNat_ofNat, Nat.and_mod_two_pow]
theorem nI_shl : ∀ k, k < 12 → (1 : Int32) <<< (nI k &&& 31) = nI (2 ^ k) := by decide
theorem nI_inj {a b : Nat} (ha : a < 2 ^ 31) (hb : b < 2 ^ 31) (h : nI a = nI b) : a = b := (nI_eq ha hb).mp h
/-- how many -/
def ct (P : Nat → Bool) : Nat → Nat
  | 0 => 0
  | n + 1 => ct P n + (if P n then 1 else 0)
theorem ct_le (P : Nat → Bool) : ∀ n, ct P n ≤ n
  | 0 => Nat.le_refl _
  | n + 1 => by unfold ct; have := ct_le P n; split <;> omega
theorem ct_congr {P Q : Nat → Bool} : ∀ {n : Nat}, (∀ i, i < n → P i = Q i) → ct P n = ct Q n
  | 0, _ => rfl
  | n + 1, h => by
    unfold ct
    rw [ct_congr (n := n) (fun i hi => h i (by omega)), h n (by omega)]
