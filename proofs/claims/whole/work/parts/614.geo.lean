/-! geometry over whole numbers; the edge from (ax, ay) to (bx, bz), the point (x / d, y / d) -/
def sd (ax ay bx bz x y d : Int) : Int := (bx - ax) * (y - ay * d) - (bz - ay) * (x - ax * d)
abbrev lxle (x y d z w e : Int) : Prop := x * e < z * d ∨ (x * e = z * d ∧ y * e ≤ w * d)
abbrev lxlt (x y d z w e : Int) : Prop := x * e < z * d ∨ (x * e = z * d ∧ y * e < w * d)
abbrev eqv (x y d z w e : Int) : Prop := x * e = z * d ∧ y * e = w * d
abbrev onZ (ax ay bx bz x y d : Int) : Prop := sd ax ay bx bz x y d = 0 ∧ lxle ax ay 1 x y d ∧ lxle x y d bx bz 1
abbrev lxe (ax ay bx bz : Int) : Prop := ax < bx ∨ (ax = bx ∧ ay < bz)
theorem pm_le {p a b : Int} (hp : 0 < p) : p * a ≤ p * b ↔ a ≤ b := ⟨fun h => Int.le_of_mul_le_mul_left h hp, fun h => Int.mul_le_mul_of_nonneg_left h (Int.le_of_lt hp)⟩
theorem pm_lt {p a b : Int} (hp : 0 < p) : p * a < p * b ↔ a < b := ⟨fun h => Int.lt_of_mul_lt_mul_left h (Int.le_of_lt hp), fun h => Int.mul_lt_mul_of_pos_left h hp⟩
theorem pm_eq {p a b : Int} (hp : p ≠ 0) : p * a = p * b ↔ a = b := ⟨fun h => Int.eq_of_mul_eq_mul_left hp h, fun h => by rw [h]⟩
theorem pm_nn {p a : Int} (hp : 0 < p) : 0 ≤ p * a ↔ 0 ≤ a := by have := pm_le (a := 0) (b := a) hp; rwa [Int.mul_zero] at this
theorem pm_np {p a : Int} (hp : 0 < p) : p * a ≤ 0 ↔ a ≤ 0 := by have := pm_le (a := a) (b := 0) hp; rwa [Int.mul_zero] at this
theorem pm_po {p a : Int} (hp : 0 < p) : 0 < p * a ↔ 0 < a := by have := pm_lt (a := 0) (b := a) hp; rwa [Int.mul_zero] at this
theorem pm_ng {p a : Int} (hp : 0 < p) : p * a < 0 ↔ a < 0 := by have := pm_lt (a := a) (b := 0) hp; rwa [Int.mul_zero] at this
theorem pm_z {p a : Int} (hp : p ≠ 0) : p * a = 0 ↔ a = 0 := by have := pm_eq (a := a) (b := 0) hp; rwa [Int.mul_zero] at this
/-- on the line: between the ends in the order = in the box -/
theorem box_core {p q u v d : Int} (hd : 0 < d) (hl : 0 < p ∨ (p = 0 ∧ 0 < q)) (hs : p * v = q * u) : ((0 < u ∨ (u = 0 ∧ 0 ≤ v)) ∧ (u < p * d ∨ (u = p * d ∧ v ≤ q * d))) ↔ (0 ≤ u ∧ u ≤ p * d ∧ (0 ≤ q → 0 ≤ v ∧ v ≤ q * d) ∧ (q < 0 → q * d ≤ v ∧ v ≤ 0)) := by
  rcases hl with hp | ⟨rfl, hq⟩
  · constructor
    · rintro ⟨h1, h2⟩
      have hu0 : 0 ≤ u := by omega
      have hu1 : u ≤ p * d := by omega
      refine ⟨hu0, hu1, fun hq => ⟨?_, ?_⟩, fun hq => ⟨?_, ?_⟩⟩
      · rw [← pm_nn hp, hs]; exact Int.mul_nonneg hq hu0
      · rw [← pm_le hp, hs, show p * (q * d) = q * (p * d) by grind]; exact Int.mul_le_mul_of_nonneg_left hu1 hq
      · rw [← pm_le hp, hs, show p * (q * d) = q * (p * d) by grind]
        have := Int.mul_le_mul_of_nonneg_left hu1 (show 0 ≤ -q by omega)
        rw [Int.neg_mul, Int.neg_mul] at this; omega
      · rw [← pm_np hp, hs]
        have := Int.mul_nonneg (show 0 ≤ -q by omega) hu0
        rw [Int.neg_mul] at this; omega
    · rintro ⟨h1, h2, -, -⟩
      constructor
      · by_cases h : u = 0
        · right; refine ⟨h, ?_⟩
          rw [h, Int.mul_zero] at hs
          have := (pm_z (by omega)).mp hs
          omega
        · left; omega
      · by_cases h : u = p * d
        · right; refine ⟨h, ?_⟩
          rw [h, show q * (p * d) = p * (q * d) by grind] at hs
          have := (pm_eq (by omega)).mp hs
          omega
        · left; omega
  · have hu : u = 0 := by
      rw [Int.zero_mul] at hs
      exact (pm_z (by omega)).mp hs.symm
    subst hu
    rw [Int.zero_mul]
    constructor
    · rintro ⟨h1, h2⟩
      refine ⟨by omega, by omega, fun _ => ⟨by omega, by omega⟩, fun h => by omega⟩
    · rintro ⟨-, -, h3, -⟩
      have := h3 (by omega)
      exact ⟨Or.inr ⟨rfl, this.1⟩, Or.inr ⟨rfl, this.2⟩⟩
theorem onZ_box {ax ay bx bz x y d : Int} (hd : 0 < d) (hl : lxe ax ay bx bz) : onZ ax ay bx bz x y d ↔ (ax * d ≤ x ∧ x ≤ bx * d ∧ (ay ≤ bz → ay * d ≤ y ∧ y ≤ bz * d) ∧ (bz < ay → bz * d ≤ y ∧ y ≤ ay * d) ∧ sd ax ay bx bz x y d = 0) := by
  have hl' : 0 < bx - ax ∨ (bx - ax = 0 ∧ 0 < bz - ay) := by unfold lxe at hl; omega
  have hbx : (bx - ax) * d = bx * d - ax * d := Int.sub_mul _ _ _
  have hbz : (bz - ay) * d = bz * d - ay * d := Int.sub_mul _ _ _
  unfold onZ lxle
  rw [Int.mul_one, Int.mul_one]
  constructor
  · rintro ⟨hs, h1, h2⟩
    have hs' : (bx - ax) * (y - ay * d) = (bz - ay) * (x - ax * d) := by unfold sd at hs; omega
    have := (box_core hd hl' hs').mp ⟨by omega, by rw [hbx, hbz]; omega⟩
    rw [hbx, hbz] at this
    exact ⟨by omega, by omega, fun h => by have := this.2.2.1 (by omega); omega, fun h => by have := this.2.2.2 (by omega); omega, hs⟩
  · rintro ⟨h1, h2, h3, h4, hs⟩
    have hs' : (bx - ax) * (y - ay * d) = (bz - ay) * (x - ax * d) := by unfold sd at hs; omega
    have := (box_core hd hl' hs').mpr ⟨by omega, by rw [hbx]; omega, fun h => by rw [hbz]; have := h3 (by omega); omega, fun h => by rw [hbz]; have := h4 (by omega); omega⟩
    rw [hbx, hbz] at this
    exact ⟨hs, by omega, by omega⟩
theorem lexmul {p q t : Int} (hl : 0 < p ∨ (p = 0 ∧ 0 < q)) : (0 < t * p ∨ (t * p = 0 ∧ 0 ≤ t * q)) ↔ 0 ≤ t := by
  rw [Int.mul_comm t p, Int.mul_comm t q]
  rcases hl with hp | ⟨rfl, hq⟩
  · rw [pm_po hp, pm_z (by omega)]
    constructor
    · omega
    · intro h
      by_cases h0 : t = 0
      · right; exact ⟨h0, by rw [h0, Int.mul_zero]; omega⟩
      · left; omega
  · rw [Int.zero_mul, pm_nn hq]; omega
/-- a point of an edge's line by its parameter -/
theorem onZ_par {ax ay bx bz t d : Int} (hd : 0 < d) (hl : lxe ax ay bx bz) : onZ ax ay bx bz (ax * d + t * (bx - ax)) (ay * d + t * (bz - ay)) d ↔ 0 ≤ t ∧ t ≤ d := by
  have hl' : 0 < bx - ax ∨ (bx - ax = 0 ∧ 0 < bz - ay) := by unfold lxe at hl; omega
  have e1 := lexmul (t := t) hl'
  have e2 := lexmul (t := d - t) hl'
  unfold onZ lxle sd
  rw [Int.mul_one, Int.mul_one]
  have k1 : (bx - ax) * (ay * d + t * (bz - ay) - ay * d) - (bz - ay) * (ax * d + t * (bx - ax) - ax * d) = 0 := by grind
  have k2 : (d - t) * (bx - ax) = bx * d - (ax * d + t * (bx - ax)) := by grind
  have k3 : (d - t) * (bz - ay) = bz * d - (ay * d + t * (bz - ay)) := by grind
  rw [k2, k3] at e2
  constructor
  · rintro ⟨-, h1, h2⟩
    exact ⟨e1.mp (by omega), by have := e2.mp (by omega); omega⟩
  · rintro ⟨h1, h2⟩
    have f1 := e1.mpr h1
    have f2 := e2.mpr (by omega)
    exact ⟨k1, by omega, by omega⟩
/-- the determinant of two edges' directions -/
def dt (ax ay bx bz cx cy ex ez : Int) : Int := (bx - ax) * (ez - cy) - (bz - ay) * (ex - cx)
/-- a point on both lines is where they meet -/
theorem meet_uni {ax ay bx bz cx cy ex ez x y d : Int} (h1 : sd ax ay bx bz x y d = 0) (h2 : sd cx cy ex ez x y d = 0) :
    x * dt ax ay bx bz cx cy ex ez = (ax * dt ax ay bx bz cx cy ex ez + ((cx - ax) * (ez - cy) - (cy - ay) * (ex - cx)) * (bx - ax)) * d ∧
    y * dt ax ay bx bz cx cy ex ez = (ay * dt ax ay bx bz cx cy ex ez + ((cx - ax) * (ez - cy) - (cy - ay) * (ex - cx)) * (bz - ay)) * d := by
  unfold sd at h1 h2; unfold dt
  constructor <;> grind
/-- the meeting point's two parameters -/
theorem meet_both (ax ay bx bz cx cy ex ez : Int) :
    ax * dt ax ay bx bz cx cy ex ez + ((cx - ax) * (ez - cy) - (cy - ay) * (ex - cx)) * (bx - ax) = cx * dt ax ay bx bz cx cy ex ez + ((cx - ax) * (bz - ay) - (cy - ay) * (bx - ax)) * (ex - cx) ∧
    ay * dt ax ay bx bz cx cy ex ez + ((cx - ax) * (ez - cy) - (cy - ay) * (ex - cx)) * (bz - ay) = cy * dt ax ay bx bz cx cy ex ez + ((cx - ax) * (bz - ay) - (cy - ay) * (bx - ax)) * (ez - cy) := by
  unfold dt
  constructor <;> grind
theorem sd_hom {ax ay bx bz x y d z w e : Int} (h : eqv x y d z w e) : sd ax ay bx bz x y d * e = sd ax ay bx bz z w e * d := by
  obtain ⟨h1, h2⟩ := h
  unfold sd
  grind
theorem sd_eqv {ax ay bx bz x y d z w e : Int} (h : eqv x y d z w e) (hd : 0 < d) (he : 0 < e) : sd ax ay bx bz x y d = 0 ↔ sd ax ay bx bz z w e = 0 := by
  have := sd_hom (ax := ax) (ay := ay) (bx := bx) (bz := bz) h
  constructor
  · intro h0; rw [h0, Int.zero_mul, Int.mul_comm] at this; exact (pm_z (by omega)).mp this.symm
  · intro h0; rw [h0, Int.zero_mul, Int.mul_comm] at this; exact (pm_z (by omega)).mp this
