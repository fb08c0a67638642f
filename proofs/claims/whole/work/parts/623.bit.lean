/-! bits and counts -/
def bcV (p0 : Int32) : Int32 :=
  let x9 := p0 - ((p0.toUInt32 >>> ((1 : Int32).toUInt32 &&& Int32.toUInt32 31)).toInt32 &&& (1431655765 : Int32))
  let x23 := (x9 &&& (858993459 : Int32)) + ((x9.toUInt32 >>> ((2 : Int32).toUInt32 &&& Int32.toUInt32 31)).toInt32 &&& (858993459 : Int32))
  let x33 := (x23 + (x23.toUInt32 >>> ((4 : Int32).toUInt32 &&& Int32.toUInt32 31)).toInt32) &&& (252645135 : Int32)
  let x40 := x33 + (x33.toUInt32 >>> ((8 : Int32).toUInt32 &&& Int32.toUInt32 31)).toInt32
  let x47 := x40 + (x40.toUInt32 >>> ((16 : Int32).toUInt32 &&& Int32.toUInt32 31)).toInt32
  x47 &&& (63 : Int32)
theorem bcV_all : ∀ a, a < 64 → ∀ b, b < 64 → bcV (nI (64 * a + b)) = nI (ct (Nat.testBit (64 * a + b)) 12) := by decide +kernel
theorem bcV_eq {a : Nat} (h : a < 4096) : bcV (nI a) = nI (ct (Nat.testBit a) 12) := by
  have := bcV_all (a / 64) (by omega) (a % 64) (by omega)
  rw [show 64 * (a / 64) + a % 64 = a by omega] at this
  exact this
theorem s_bc {a : Nat} (h : a < 4096) (Q : Int32 → Prop) (hQ : Q (nI (ct (Nat.testBit a) 12))) : wp_J6_bitCount_0f7a4 (nI a) Q := by
  rw [← bcV_eq h] at hQ
  intro x9 e9 x23 e23 x33 e33 x40 e40 x47 e47
  subst e9 e23 e33 e40 e47
  exact hQ
theorem ct_cut {P : Nat → Bool} {n : Nat} : ∀ {m : Nat}, n ≤ m → ct (fun i => decide (i < n) && P i) m = ct P n
  | 0, h => by
    have : n = 0 := by omega
    subst this; rfl
  | m + 1, h => by
    rw [ct]
    by_cases e : n = m + 1
    · subst e
      rw [ct]
      have h1 : ct (fun i => decide (i < m + 1) && P i) m = ct P m := ct_congr (fun i hi => by simp [show i < m + 1 by omega])
      rw [h1]; simp
    · rw [ct_cut (P := P) (n := n) (m := m) (by omega)]
      simp [show ¬ m < n by omega]
theorem ct_mk {P : Nat → Bool} {n : Nat} (h : n ≤ 12) : ct (Nat.testBit (mk P n)) 12 = ct P n := by
  rw [← ct_cut (P := P) h]
  exact ct_congr (fun i _ => mk_bit P n i)
theorem mk_4096 {P : Nat → Bool} {n : Nat} (h : n ≤ 12) : mk P n < 4096 := Nat.lt_of_lt_of_le (mk_lt P n) (by
  have : (2 : Nat) ^ n ≤ 2 ^ 12 := Nat.pow_le_pow_right (by decide) h
  exact this)
theorem mk_31 {P : Nat → Bool} {n : Nat} (h : n ≤ 12) : mk P n < 2 ^ 31 := Nat.lt_trans (mk_4096 h) (by decide)
theorem s_bcm {P : Nat → Bool} {n : Nat} (h : n ≤ 12) (Q : Int32 → Prop) (hQ : Q (nI (ct P n))) : wp_J6_bitCount_0f7a4 (nI (mk P n)) Q := s_bc (mk_4096 h) Q (by rw [ct_mk h]; exact hQ)
theorem mk_nz {P : Nat → Bool} {n : Nat} (h : n ≤ 12) : nI (mk P n) = 0 ↔ ∀ i, i < n → P i = false := by
  rw [← nI_0, nI_eq (mk_31 h) (by decide), mk_zero]
theorem nI_mand (P Q : Nat → Bool) (n : Nat) : nI (mk P n) &&& nI (mk Q n) = nI (mk (fun i => P i && Q i) n) := by rw [nI_and, mk_and]
theorem nI_mor (P Q : Nat → Bool) (n : Nat) : nI (mk P n) ||| nI (mk Q n) = nI (mk (fun i => P i || Q i) n) := by rw [nI_or, mk_or]
theorem nI_andn (P Q : Nat → Bool) (n : Nat) : nI (mk P n) &&& (nI (mk Q n) ^^^ (-1)) = nI (mk (fun i => P i && !Q i) n) := by
  apply Int32.toBitVec_inj.mp
  show BitVec.ofNat 32 (mk P n) &&& (BitVec.ofNat 32 (mk Q n) ^^^ BitVec.allOnes 32) = BitVec.ofNat 32 (mk (fun i => P i && !Q i) n)
  apply BitVec.eq_of_getLsbD_eq
  intro i hi
  rw [BitVec.getLsbD_and, BitVec.getLsbD_xor, BitVec.getLsbD_ofNat, BitVec.getLsbD_ofNat, BitVec.getLsbD_ofNat, BitVec.getLsbD_allOnes, mk_bit, mk_bit, mk_bit]
  by_cases h1 : i < n <;> cases P i <;> cases Q i <;> simp [h1, hi]
theorem par_nI (c : Nat) (h : c < 2 ^ 31) : nI c &&& 1 = nI (c % 2) := pk_andN (by omega) 1 (by decide)
theorem xor_nI : ∀ a, a < 2 → ∀ b, b < 2 → nI a ^^^ nI b = nI ((a + b) % 2) := by decide
theorem up2_k {f : Nat → Nat → Int32} {r k : Nat} {v : Int32} : va_up f r (upd (f r) k v) r k = v := by unfold va_up; simp [pk_us]
theorem up2_o {f : Nat → Nat → Int32} {r r' k j : Nat} {v : Int32} (h : r' ≠ r) : va_up f r (upd (f r) k v) r' j = f r' j := by unfold va_up; simp [h]
theorem up2_j {f : Nat → Nat → Int32} {r r' k j : Nat} {v : Int32} (h : j ≠ k) : va_up f r (upd (f r) k v) r' j = f r' j := by
  by_cases e : r' = r
  · subst e; unfold va_up; simp [pk_un h]
  · exact up2_o e
