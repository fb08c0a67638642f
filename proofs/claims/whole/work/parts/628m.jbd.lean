/-! results: bounds, bound, area -/
def inB (r : Nat) (a b : Bool) : Bool := if r = 0 then a || b else if r = 1 then a && b else if r = 2 then a && !b else a != b
def b2i (b : Bool) : Int32 := if b then 1 else 0
theorem b2i_nar (b : Bool) : narrow .boolean (.int (b2i b)) = .int (b2i b) := by cases b <;> rfl
theorem b2i_inj {a b : Bool} : b2i a = b2i b ↔ a = b := by cases a <;> cases b <;> decide
theorem b2i_0 {a : Bool} : b2i a = 0 ↔ a = false := by cases a <;> decide
theorem s_cins {r : Nat} (hr : r < 4) (a b : Bool) (Q : Int32 → Prop) (h : Q (b2i (inB r a b))) : wp_X2_isInside (nI r) (b2i a) (b2i b) Q := by
  have z0 : ¬ ((1 : Int32) = 0) := by decide
  have z1 : ¬ ((0 : Int32) = 1) := by decide
  rcases (show r = 0 ∨ r = 1 ∨ r = 2 ∨ r = 3 by omega) with rfl | rfl | rfl | rfl
  · refine ⟨fun _ => ?_, fun z => absurd z (by decide), fun z => absurd z (by decide), fun z => absurd rfl z⟩
    cases a <;> cases b
    · exact ⟨fun z => absurd rfl z, fun _ => ⟨fun _ => ⟨nb0, h⟩, fun z => absurd rfl z⟩⟩
    · exact ⟨fun z => absurd rfl z, fun _ => ⟨fun z => absurd z z0, fun _ => ⟨nb1, h⟩⟩⟩
    · exact ⟨fun _ => ⟨nb1, h⟩, fun z => absurd z z0⟩
    · exact ⟨fun _ => ⟨nb1, h⟩, fun z => absurd z z0⟩
  · refine ⟨fun z => absurd z (by decide), fun _ => ?_, fun z => absurd z (by decide), fun _ z => absurd rfl z⟩
    cases a <;> cases b
    · exact ⟨fun _ => ⟨nb0, h⟩, fun z => absurd rfl z⟩
    · exact ⟨fun _ => ⟨nb0, h⟩, fun z => absurd rfl z⟩
    · exact ⟨fun z => absurd z z0, fun _ => ⟨fun _ => ⟨nb0, h⟩, fun z => absurd rfl z⟩⟩
    · exact ⟨fun z => absurd z z0, fun _ => ⟨fun z => absurd z z0, fun _ => ⟨nb1, h⟩⟩⟩
  · refine ⟨fun z => absurd z (by decide), fun z => absurd z (by decide), fun _ => ?_, fun _ _ z => absurd rfl z⟩
    cases a <;> cases b
    · exact ⟨fun _ => ⟨nb0, h⟩, fun z => absurd rfl z⟩
    · exact ⟨fun _ => ⟨nb0, h⟩, fun z => absurd rfl z⟩
    · exact ⟨fun z => absurd z z0, fun _ => ⟨fun z => absurd rfl z, fun _ => ⟨nb1, h⟩⟩⟩
    · exact ⟨fun z => absurd z z0, fun _ => ⟨fun _ => ⟨nb0, h⟩, fun z => absurd z z0⟩⟩
  · refine ⟨fun z => absurd z (by decide), fun z => absurd z (by decide), fun z => absurd z (by decide), fun _ _ _ => ?_⟩
    cases a <;> cases b
    · exact ⟨fun _ => ⟨nb0, h⟩, fun z => absurd rfl z⟩
    · exact ⟨fun z => absurd z z1, fun _ => ⟨nb1, h⟩⟩
    · exact ⟨fun z => absurd z z0, fun _ => ⟨nb1, h⟩⟩
    · exact ⟨fun _ => ⟨nb0, h⟩, fun z => absurd rfl z⟩
theorem s_rins {r : Nat} (hr : r < 4) (a b : Bool) (Q : Int32 → Prop) (h : Q (b2i (inB r a b))) : wp_X5_inside (nI r) (b2i a) (b2i b) Q := by
  have z0 : ¬ ((1 : Int32) = 0) := by decide
  have z1 : ¬ ((0 : Int32) = 1) := by decide
  rcases (show r = 0 ∨ r = 1 ∨ r = 2 ∨ r = 3 by omega) with rfl | rfl | rfl | rfl
  · refine ⟨fun z => absurd rfl z, fun _ => ?_⟩
    cases a <;> cases b
    · exact ⟨fun z => absurd rfl z, fun _ => ⟨fun _ => ⟨nb0, h⟩, fun z => absurd rfl z⟩⟩
    · exact ⟨fun z => absurd rfl z, fun _ => ⟨fun z => absurd z z0, fun _ => ⟨nb1, h⟩⟩⟩
    · exact ⟨fun _ => ⟨nb1, h⟩, fun z => absurd z z0⟩
    · exact ⟨fun _ => ⟨nb1, h⟩, fun z => absurd z z0⟩
  · refine ⟨fun _ => ⟨fun z => absurd rfl z, fun _ => ?_⟩, fun z => absurd z (by decide)⟩
    cases a <;> cases b
    · exact ⟨fun _ => ⟨nb0, h⟩, fun z => absurd rfl z⟩
    · exact ⟨fun _ => ⟨nb0, h⟩, fun z => absurd rfl z⟩
    · exact ⟨fun z => absurd z z0, fun _ => ⟨fun _ => ⟨nb0, h⟩, fun z => absurd rfl z⟩⟩
    · exact ⟨fun z => absurd z z0, fun _ => ⟨fun z => absurd z z0, fun _ => ⟨nb1, h⟩⟩⟩
  · refine ⟨fun _ => ⟨fun _ => ⟨fun z => absurd rfl z, fun _ => ?_⟩, fun z => absurd z (by decide)⟩, fun z => absurd z (by decide)⟩
    cases a <;> cases b
    · exact ⟨fun _ => ⟨nb0, h⟩, fun z => absurd rfl z⟩
    · exact ⟨fun _ => ⟨nb0, h⟩, fun z => absurd rfl z⟩
    · exact ⟨fun z => absurd z z0, fun _ => ⟨fun z => absurd rfl z, fun _ => ⟨nb1, h⟩⟩⟩
    · exact ⟨fun z => absurd z z0, fun _ => ⟨fun _ => ⟨nb0, h⟩, fun z => absurd z z0⟩⟩
  · refine ⟨fun _ => ⟨fun _ => ⟨fun _ => ?_, fun z => absurd z (by decide)⟩, fun z => absurd z (by decide)⟩, fun z => absurd z (by decide)⟩
    cases a <;> cases b
    · exact ⟨fun _ => ⟨nb0, h⟩, fun z => absurd rfl z⟩
    · exact ⟨fun z => absurd z z1, fun _ => ⟨nb1, h⟩⟩
    · exact ⟨fun z => absurd z z0, fun _ => ⟨nb1, h⟩⟩
    · exact ⟨fun _ => ⟨nb0, h⟩, fun z => absurd rfl z⟩
/-- is the left, the right side of piece k inside result r -/
def lB (es : List Ed) (P : List Pt) (pcs : List (Nat × Nat)) (r k : Nat) : Bool := (pcs[k]?).any (fun ij => inB r (decide (lef es P 0 ij.1 ij.2 = 1)) (decide (lef es P 1 ij.1 ij.2 = 1)))
def rB (es : List Ed) (P : List Pt) (pcs : List (Nat × Nat)) (r k : Nat) : Bool := (pcs[k]?).any (fun ij => inB r (decide (rig es P 0 ij.1 ij.2 = 1)) (decide (rig es P 1 ij.1 ij.2 = 1)))
def dvB (es : List Ed) (P : List Pt) (pcs : List (Nat × Nat)) (r k : Nat) : Bool := lB es P pcs r k != rB es P pcs r k
theorem nI_b2i {n : Nat} (h : n < 2) : nI n = b2i (decide (n = 1)) := by
  rcases (show n = 0 ∨ n = 1 by omega) with rfl | rfl <;> decide
theorem nz_b {n : Nat} (h : n < 2) : nI n = 0 ↔ decide (n = 1) = false := by
  rcases (show n = 0 ∨ n = 1 by omega) with rfl | rfl <;> decide
theorem s_left {es : List Ed} {P : List Pt} {pcs : List (Nat × Nat)} {qF : Nat → Nat → Int32} (hQ : RQ qF es P pcs) (hl : pcs.length ≤ 276) {k : Nat} (hk : k < pcs.length) {r : Nat} (hr : r < 4) (Q : Int32 → Prop) (h : Q (b2i (lB es P pcs r k))) : wp_X2_isLeftInside (nI k) (nI r) qF Q := by
  obtain ⟨⟨i, j⟩, hij⟩ := lg hk
  obtain ⟨-, -, q3⟩ := hQ k (i, j) hij
  have q4 := (q3 0 (by decide)).2.1
  have q5 := (q3 1 (by decide)).2.1
  dsimp only at q4 q5
  have v := vin (show k < 276 by omega) (show 276 < 2 ^ 31 by decide)
  have ek := cl_nI (show k < 2 ^ 31 by omega)
  have hb : lB es P pcs r k = inB r (decide (lef es P 0 i j = 1)) (decide (lef es P 1 i j = 1)) := by unfold lB; rw [hij]; rfl
  rw [hb] at h
  have c4 : (4 : Int32).toNatClampNeg = 4 + 0 := by decide
  have c5 : (5 : Int32).toNatClampNeg = 4 + 1 := by decide
  have fin : ∀ a b : Bool, a = decide (lef es P 0 i j = 1) → b = decide (lef es P 1 i j = 1) → wp_X2_isLeftInside_L33 (nI k) (nI r) qF Q (b2i b) (b2i a) (nI r) := by
    intro a b ea eb
    subst ea eb
    exact s_cins hr _ _ _ ⟨b2i_nar _, h⟩
  have t17 : ∀ a : Bool, a = decide (lef es P 0 i j = 1) → wp_X2_isLeftInside_L17 (nI k) (nI r) qF Q (b2i a) (nI r) := by
    intro a ea
    unfold wp_X2_isLeftInside_L17
    rw [ek, c5, q5, nz_b lef_lt]
    exact ⟨vin (e := 5) (by decide) (by decide), v, fun z => fin a false ea z.symm, fun z => fin a true ea (btr z).symm⟩
  unfold wp_X2_isLeftInside
  rw [ek, c4, q4, nz_b lef_lt]
  exact ⟨vin (e := 4) (by decide) (by decide), v, fun z => t17 false z.symm, fun z => t17 true (btr z).symm⟩
theorem s_right {es : List Ed} {P : List Pt} {pcs : List (Nat × Nat)} {qF : Nat → Nat → Int32} (hQ : RQ qF es P pcs) (hl : pcs.length ≤ 276) {k : Nat} (hk : k < pcs.length) {r : Nat} (hr : r < 4) (Q : Int32 → Prop) (h : Q (b2i (rB es P pcs r k))) : wp_X2_isRightInside (nI k) (nI r) qF Q := by
  obtain ⟨⟨i, j⟩, hij⟩ := lg hk
  obtain ⟨-, -, q3⟩ := hQ k (i, j) hij
  have q4 := (q3 0 (by decide)).2.2
  have q5 := (q3 1 (by decide)).2.2
  dsimp only at q4 q5
  have v := vin (show k < 276 by omega) (show 276 < 2 ^ 31 by decide)
  have ek := cl_nI (show k < 2 ^ 31 by omega)
  have hb : rB es P pcs r k = inB r (decide (rig es P 0 i j = 1)) (decide (rig es P 1 i j = 1)) := by unfold rB; rw [hij]; rfl
  rw [hb] at h
  have c4 : (6 : Int32).toNatClampNeg = 6 + 0 := by decide
  have c5 : (7 : Int32).toNatClampNeg = 6 + 1 := by decide
  have fin : ∀ a b : Bool, a = decide (rig es P 0 i j = 1) → b = decide (rig es P 1 i j = 1) → wp_X2_isRightInside_L35 (nI k) (nI r) qF Q (b2i b) (b2i a) (nI r) := by
    intro a b ea eb
    subst ea eb
    exact s_cins hr _ _ _ ⟨b2i_nar _, h⟩
  have t17 : ∀ a : Bool, a = decide (rig es P 0 i j = 1) → wp_X2_isRightInside_L18 (nI k) (nI r) qF Q (b2i a) (nI r) := by
    intro a ea
    unfold wp_X2_isRightInside_L18
    rw [ek, c5, q5, nz_b rig_lt]
    exact ⟨vin (e := 7) (by decide) (by decide), v, fun z => fin a false ea z.symm, fun z => fin a true ea (btr z).symm⟩
  unfold wp_X2_isRightInside
  rw [ek, c4, q4, nz_b rig_lt]
  exact ⟨vin (e := 6) (by decide) (by decide), v, fun z => t17 false z.symm, fun z => t17 true (btr z).symm⟩
theorem s_divs {es : List Ed} {P : List Pt} {pcs : List (Nat × Nat)} {qF : Nat → Nat → Int32} (hQ : RQ qF es P pcs) (hl : pcs.length ≤ 276) {k : Nat} (hk : k < pcs.length) {r : Nat} (hr : r < 4) (Q : Int32 → Prop) (h : Q (b2i (dvB es P pcs r k))) : wp_X2_divides (nI k) (nI r) qF Q := by
  unfold dvB at h
  refine s_left hQ hl hk hr _ (s_right hQ hl hk hr _ ?_)
  show _ ∧ _
  rw [b2i_inj]
  refine ⟨fun z => ⟨nb0, ?_⟩, fun z => ⟨nb1, ?_⟩⟩
  · rw [z, bne_self_eq_false] at h; exact h
  · have : (lB es P pcs r k != rB es P pcs r k) = true := bne_iff_ne.mpr z
    rw [this] at h; exact h
/-- what the reference's `bounding` answers -/
def bdV (l r : Bool) : Int32 := if l = r then 0 else if l then 1 else -1
theorem s_bding {es : List Ed} {P : List Pt} {pcs : List (Nat × Nat)} {rLe rRi : Nat → Int32} (hT : RT rLe rRi es P pcs pcs.length) (hl : pcs.length ≤ 276) {k : Nat} (hk : k < pcs.length) {r : Nat} (hr : r < 4) (Q : Int32 → Prop) (h : Q (bdV (lB es P pcs r k) (rB es P pcs r k))) : wp_X5_bounding (nI r) (nI k) rLe rRi Q := by
  obtain ⟨⟨i, j⟩, hij⟩ := lg hk
  have t0 := hT k (i, j) hk hij 0 (by decide)
  have t1 := hT k (i, j) hk hij 1 (by decide)
  dsimp only at t0 t1
  rw [Nat.add_zero] at t0
  have hb : lB es P pcs r k = inB r (decide (lef es P 0 i j = 1)) (decide (lef es P 1 i j = 1)) := by unfold lB; rw [hij]; rfl
  have hb2 : rB es P pcs r k = inB r (decide (rig es P 0 i j = 1)) (decide (rig es P 1 i j = 1)) := by unfold rB; rw [hij]; rfl
  have va := vin (show 2 * k < 600 by omega) (show 600 < 2 ^ 31 by decide)
  have vb := vin (show 2 * k + 1 < 600 by omega) (show 600 < 2 ^ 31 by decide)
  unfold wp_X5_bounding
  rw [t2, nI_1, cl_nI (show 2 * k < 2 ^ 31 by omega), cl_nI (show 2 * k + 1 < 2 ^ 31 by omega), t0.1, t0.2, t1.1, t1.2, nI_b2i lef_lt, nI_b2i lef_lt, nI_b2i rig_lt, nI_b2i rig_lt]
  refine ⟨va, vb, s_rins hr _ _ _ ⟨va, vb, s_rins hr _ _ _ ?_⟩⟩
  rw [← hb, ← hb2, b2i_inj, b2i_0]
  unfold bdV at h
  refine ⟨fun z => ?_, fun z => ?_⟩
  · rw [if_neg z] at h
    refine ⟨fun y => ?_, fun y => ?_⟩
    · rw [y] at h; exact h
    · rw [btr y] at h; exact h
  · rw [if_pos z] at h; exact h
theorem bd_0 {l r : Bool} : bdV l r = 0 ↔ (l != r) = false := by cases l <;> cases r <;> decide
theorem i4r (p : Int32) : (¬ p < 0 ∧ p < 4) ↔ ∃ r, r < 4 ∧ p = nI r := by
  constructor
  · rintro ⟨h0, h1⟩
    exact idx (n := 4) (by decide) h0 (by rw [show nI 4 = (4 : Int32) by decide]; exact h1)
  · rintro ⟨r, hr, rfl⟩
    exact ⟨nI_pos (by omega), by rw [show (4 : Int32) = nI 4 by decide, nI_ltI (by omega) (by decide)]; exact hr⟩
theorem s_needR {p0 : Int32} {Q : Prop} {X : String → Prop} (h : ∀ r, r < 4 → p0 = nI r → Q) (h' : (¬ ∃ r, r < 4 ∧ p0 = nI r) → X xIA) : wp_X4_needResult p0 Q X :=
  ⟨fun z => h' (fun y => ((i4r p0).mpr y).1 z), fun z1 => ⟨fun z2 => by
    obtain ⟨r, hr, e⟩ := (i4r p0).mp ⟨z1, z2⟩
    exact h r hr e, fun z => h' (fun y => z ((i4r p0).mpr y).2)⟩⟩
theorem s_lacks {p0 rF rMd : Int32} {Q : Int32 → Int32 → Prop} (h0 : rMd = 0 → Q 1 1) (h1 : ¬ rMd = 0 → ∀ r, r < 4 → p0 = nI r → Q 0 0) (h2 : ¬ rMd = 0 → (¬ ∃ r, r < 4 ∧ p0 = nI r) → Q 1 2) : wp_X5_lacks p0 rF rMd Q := by
  have e3 : p0 ≤ 3 ↔ ¬ (3 : Int32) < p0 := Int32.not_lt.symm
  refine ⟨fun m => ⟨fun z => ⟨fun y => absurd y (by decide), fun _ => ⟨nb1, h2 m (fun y => ((i4r p0).mpr y).1 z)⟩⟩, fun z1 => ⟨fun z2 => ?_, fun z2 => ⟨fun y => absurd y (by decide), fun _ => ⟨nb1, h2 m (fun y => z2 ?_)⟩⟩⟩⟩, fun m => ⟨fun y => absurd y (by decide), fun _ => ⟨nb1, h0 m⟩⟩⟩
  · obtain ⟨k, hk, e⟩ := (rngI (n := 3) (by decide) (by decide)).mp ⟨z1, z2⟩
    exact ⟨fun _ => ⟨nb0, h1 m k (by omega) e⟩, fun y => absurd (by decide) y⟩
  · obtain ⟨r, hr, e⟩ := y
    exact ((rngI (n := 3) (by decide) (by decide)).mpr ⟨r, by omega, e⟩).2
def mdQ (es : List Ed) (P : List Pt) (pcs : List (Nat × Nat)) (cM nQ rMd rQ : Int32) (qF : Nat → Nat → Int32) (rLe rRi : Nat → Int32) : Prop := cM = 1 ∧ rMd = 1 ∧ nQ = nI pcs.length ∧ rQ = nI pcs.length ∧ pcs.length ≤ 276 ∧ RQ qF es P pcs ∧ RT rLe rRi es P pcs pcs.length
theorem j_bounds {es : List Ed} {P : List Pt} {pcs : List (Nat × Nat)} {cM nQ rMd rQ : Int32} {qF : Nat → Nat → Int32} {rLe rRi : Nat → Int32} (hst : (cM = 0 ∧ rMd = 0) ∨ mdQ es P pcs cM nQ rMd rQ qF rLe rRi) (p0 : Int32) : ∃ k v, k < 4 ∧ (∀ oL Q, ans k v Q → wp_L_bounds p0 cM qF nQ oL Q) ∧ ∀ rF Q, Q v (nI k) → wp_X5_bounds p0 rF rMd rQ rLe rRi Q := by
  have z1 : ¬ ((1 : Int32) = 0) := by decide
  rcases hst with ⟨rfl, rfl⟩ | ⟨rfl, rfl, rfl, rfl, hl, hQ, hT⟩
  · exact ⟨1, 0, by decide, fun oL Q h => ⟨fun z => absurd rfl z, fun _ => Or.inl ⟨rfl, h oL (fun z => absurd z (by decide))⟩⟩, fun rF Q h => s_lacks (fun _ => ⟨fun z => absurd z z1, fun _ => h⟩) (fun z => absurd rfl z) (fun z => absurd rfl z)⟩
  · by_cases hv : ∃ r, r < 4 ∧ p0 = nI r
    · obtain ⟨r, hr, rfl⟩ := hv
      refine ⟨0, nI (ct (dvB es P pcs r) pcs.length), by decide, fun oL Q h => ⟨fun _ => s_needR (fun r' hr' e => ?_) (fun z => absurd ⟨r, hr, rfl⟩ z), fun z => absurd z z1⟩, fun rF Q h => s_lacks (fun z => absurd z z1) (fun _ r' hr' e => ⟨fun _ => ?_, fun z => absurd rfl z⟩) (fun _ z => absurd ⟨r, hr, rfl⟩ z)⟩
      · have key : ∀ m k, k + m = pcs.length → wp_X4_bounds_L12 (nI r) 1 qF (nI pcs.length) (fun r4 => (vp_in (0 : Int32) 1 ∧ (∀ y8 : Nat → Int64, y8 = vp_updL oL (0 : Int32).toNatClampNeg (r4.toInt64) → (Q 0 y8)))) (fun E9 => (E9 = xIS ∧ (Q 1 oL)) ∨ (E9 = xIA ∧ (Q 2 oL))) (m + 1) (nI (ct (dvB es P pcs r) k)) (nI k) := by
          intro m
          induction m with
          | zero =>
            intro k hk
            rw [wp_X4_bounds_L12]
            have e' : k = pcs.length := by omega
            subst e'
            exact ⟨fun _ => ans_0 rfl h, fun z => absurd (nI_le (Nat.le_refl _) (by omega)) z⟩
          | succ m ih =>
            intro k hk
            have ih2 := ih (k + 1) (by omega)
            rw [wp_X4_bounds_L12]
            refine ⟨fun z => absurd z (nI_ge (by omega) (by omega)), fun _ => s_divs hQ hl (by omega) hr _ ?_⟩
            rw [b2i_0]
            refine ⟨fun z => ?_, fun z => ?_⟩
            · show wp_X4_bounds_L12 _ _ _ _ _ _ _ _ (nI k + 1)
              rw [nI_1]
              rw [ct, if_neg (by rw [z]; decide)] at ih2
              exact ih2
            · show wp_X4_bounds_L12 _ _ _ _ _ _ _ _ (nI k + 1)
              rw [nI_1, nI_1]
              rw [ct, if_pos (btr z)] at ih2
              exact ih2
        exact ⟨pcs.length + 1, key pcs.length 0 (by omega)⟩
      · have key : ∀ m k, k + m = pcs.length → wp_X5_bounds_L14 (nI r) 1 (nI pcs.length) rLe rRi Q (m + 1) (nI (ct (dvB es P pcs r) k)) (nI k) 0 := by
          intro m
          induction m with
          | zero =>
            intro k hk
            rw [wp_X5_bounds_L14]
            have e' : k = pcs.length := by omega
            subst e'
            exact ⟨fun _ => h, fun z => absurd (nI_le (Nat.le_refl _) (by omega)) z⟩
          | succ m ih =>
            intro k hk
            have ih2 := ih (k + 1) (by omega)
            rw [wp_X5_bounds_L14]
            refine ⟨fun z => absurd z (nI_ge (by omega) (by omega)), fun _ => s_bding hT hl (by omega) hr _ ?_⟩
            rw [bd_0]
            refine ⟨fun z => fun x ex => ?_, fun z => fun x ex => ?_⟩
            · rw [← nI_0, nI_add, Nat.add_zero] at ex
              rw [ex, nI_1]
              rw [ct, if_neg (by unfold dvB; rw [z]; decide)] at ih2
              exact ih2
            · rw [nI_1] at ex
              rw [ex, nI_1]
              rw [ct, if_pos (show dvB es P pcs r k = true from btr z)] at ih2
              exact ih2
        exact ⟨pcs.length + 1, key pcs.length 0 (by omega)⟩
    · exact ⟨2, 0, by decide, fun oL Q h => ⟨fun _ => s_needR (fun r hr e => absurd ⟨r, hr, e⟩ hv) (fun _ => Or.inr ⟨rfl, h oL (fun z => absurd z (by decide))⟩), fun z => absurd z z1⟩, fun rF Q h => s_lacks (fun z => absurd z z1) (fun _ r hr e => absurd ⟨r, hr, e⟩ hv) (fun _ _ => ⟨fun z => absurd z z1, fun _ => h⟩)⟩
theorem ct_mono {A : Nat → Bool} {a b : Nat} (h : a ≤ b) : ct A a ≤ ct A b := by
  induction b with
  | zero => rw [show a = 0 by omega]; exact Nat.le_refl _
  | succ b ih =>
    by_cases c : a = b + 1
    · rw [c]; exact Nat.le_refl _
    · have := ih (by omega)
      rw [ct]; omega
theorem ct_uni {A : Nat → Bool} {j k t : Nat} (h1 : A j = true) (h2 : ct A j = t) (h3 : A k = true) (h4 : ct A k = t) : j = k := by
  rcases Nat.lt_trichotomy j k with c | c | c
  · have := ct_mono (A := A) (a := j + 1) (b := k) (by omega)
    rw [ct, if_pos h1] at this; omega
  · exact c
  · have := ct_mono (A := A) (a := k + 1) (b := j) (by omega)
    rw [ct, if_pos h3] at this; omega
theorem s_cbound {es : List Ed} {P : List Pt} {pcs : List (Nat × Nat)} {qF : Nat → Nat → Int32} (hQ : RQ qF es P pcs) (hl : pcs.length ≤ 276) {r : Nat} (hr : r < 4) {p1 cM : Int32} {Q : Int32 → Prop} {X : String → Prop} (h1 : ∀ j, j < pcs.length → dvB es P pcs r j = true → nI (ct (dvB es P pcs r) j) = p1 → Q (nI j)) (h2 : (∀ j, j < pcs.length → dvB es P pcs r j = true → ¬ nI (ct (dvB es P pcs r) j) = p1) → X xNS) : ∃ n, wp_X4_bound_L13 (nI r) p1 cM qF (nI pcs.length) Q X n 0 0 := by
  have key : ∀ m k, k + m = pcs.length → (∀ j, j < k → dvB es P pcs r j = true → ¬ nI (ct (dvB es P pcs r) j) = p1) → wp_X4_bound_L13 (nI r) p1 cM qF (nI pcs.length) Q X (m + 1) (nI (ct (dvB es P pcs r) k)) (nI k) := by
    intro m
    induction m with
    | zero =>
      intro k hk hno
      rw [wp_X4_bound_L13]
      have e' : k = pcs.length := by omega
      subst e'
      exact ⟨fun _ => h2 hno, fun z => absurd (nI_le (Nat.le_refl _) (by omega)) z⟩
    | succ m ih =>
      intro k hk hno
      rw [wp_X4_bound_L13]
      refine ⟨fun z => absurd z (nI_ge (by omega) (by omega)), fun _ => s_divs hQ hl (by omega) hr _ ?_⟩
      rw [b2i_0]
      refine ⟨fun z => ?_, fun z => ⟨fun z2 => ?_, fun z2 => h1 k (by omega) (btr z) z2⟩⟩
      · have ih2 := ih (k + 1) (by omega) (fun j hj hd => by
          by_cases c : j = k
          · subst c; rw [z] at hd; cases hd
          · exact hno j (by omega) hd)
        show wp_X4_bound_L13 _ _ _ _ _ _ _ _ _ (nI k + 1)
        rw [nI_1]
        rw [ct, if_neg (by rw [z]; decide)] at ih2
        exact ih2
      · have ih2 := ih (k + 1) (by omega) (fun j hj hd => by
          by_cases c : j = k
          · subst c; exact z2
          · exact hno j (by omega) hd)
        show wp_X4_bound_L13 _ _ _ _ _ _ _ _ _ (nI k + 1)
        rw [nI_1, nI_1]
        rw [ct, if_pos (btr z)] at ih2
        exact ih2
  exact ⟨pcs.length + 1, key pcs.length 0 (by omega) (fun j hj => absurd hj (by omega))⟩
theorem s_rbound {es : List Ed} {P : List Pt} {pcs : List (Nat × Nat)} {rLe rRi : Nat → Int32} (hT : RT rLe rRi es P pcs pcs.length) (hl : pcs.length ≤ 276) {r : Nat} (hr : r < 4) {t : Nat} (ht : t < 2 ^ 31) {rMd rF : Int32} {Q : Int32 → Int32 → Prop} {K : Int32 → Prop} (h1 : ∀ j, j < pcs.length → dvB es P pcs r j = true → ct (dvB es P pcs r) j = t → Q (nI j) rF) (h2 : (∀ j, j < pcs.length → dvB es P pcs r j = true → ¬ ct (dvB es P pcs r) j = t) → K rF) : ∃ n, wp_X5_bound_L15 (nI r) (nI t) rMd (nI pcs.length) rLe rRi Q K n (nI t) 0 rF := by
  have key : ∀ m k, k + m = pcs.length → ct (dvB es P pcs r) k ≤ t → (∀ j, j < k → dvB es P pcs r j = true → ¬ ct (dvB es P pcs r) j = t) → wp_X5_bound_L15 (nI r) (nI t) rMd (nI pcs.length) rLe rRi Q K (m + 1) (nI (t - ct (dvB es P pcs r) k)) (nI k) rF := by
    intro m
    induction m with
    | zero =>
      intro k hk hct hno
      rw [wp_X5_bound_L15]
      have e' : k = pcs.length := by omega
      subst e'
      exact ⟨fun _ => h2 hno, fun z => absurd (nI_le (Nat.le_refl _) (by omega)) z⟩
    | succ m ih =>
      intro k hk hct hno
      rw [wp_X5_bound_L15]
      refine ⟨fun z => absurd z (nI_ge (by omega) (by omega)), fun _ => ⟨fun z => absurd z (nI_pos ht), fun _ => s_bding hT hl (by omega) hr _ ?_⟩⟩
      rw [bd_0, ← nI_0, nI_eq (by omega) (by decide)]
      refine ⟨fun z => ?_, fun z => ?_⟩
      · have hd : dvB es P pcs r k = false := z
        have ih2 := ih (k + 1) (by omega) (by rw [ct, hd]; exact hct) (fun j hj hd2 => by
          by_cases c : j = k
          · subst c; rw [hd] at hd2; cases hd2
          · exact hno j (by omega) hd2)
        show wp_X5_bound_L15 _ _ _ _ _ _ _ _ _ _ (nI k + 1) _
        rw [nI_1]
        rw [ct, hd] at ih2
        exact ih2
      · have hd : dvB es P pcs r k = true := btr z
        refine ⟨fun z2 => ?_, fun z2 => h1 k (by omega) hd (by omega)⟩
        have ih2 := ih (k + 1) (by omega) (by rw [ct, if_pos hd]; omega) (fun j hj hd2 => by
          by_cases c : j = k
          · subst c; omega
          · exact hno j (by omega) hd2)
        show wp_X5_bound_L15 _ _ _ _ _ _ _ _ _ _ (nI k + 1) _
        rw [nI_1]
        rw [ct, if_pos hd] at ih2
        rw [show t - ct (dvB es P pcs r) k = (t - (ct (dvB es P pcs r) k + 1)) + 1 by omega, pk_m1]
        exact ih2
  exact ⟨pcs.length + 1, key pcs.length 0 (by omega) (Nat.zero_le _) (fun j hj => absurd hj (by omega))⟩
theorem j_bound {es : List Ed} {P : List Pt} {pcs : List (Nat × Nat)} {cM nQ rMd rQ : Int32} {qF : Nat → Nat → Int32} {rLe rRi : Nat → Int32} (hst : (cM = 0 ∧ rMd = 0) ∨ mdQ es P pcs cM nQ rMd rQ qF rLe rRi) (p0 p1 : Int32) : ∃ k v, k < 4 ∧ (∀ oL Q, ans k v Q → wp_L_bound p0 p1 cM qF nQ oL Q) ∧ ∀ rF Q, Q v (nI k) → wp_X5_bound p0 p1 rF rMd rQ rLe rRi Q := by
  have z1 : ¬ ((1 : Int32) = 0) := by decide
  rcases hst with ⟨rfl, rfl⟩ | ⟨rfl, rfl, rfl, rfl, hl, hQ, hT⟩
  · exact ⟨1, 0, by decide, fun oL Q h => ⟨fun z => absurd rfl z, fun _ => Or.inl ⟨rfl, h oL (fun z => absurd z (by decide))⟩⟩, fun rF Q h => s_lacks (fun _ => ⟨fun z => absurd z z1, fun _ => h⟩) (fun z => absurd rfl z) (fun z => absurd rfl z)⟩
  · by_cases hv : ∃ r, r < 4 ∧ p0 = nI r
    · obtain ⟨r, hr, rfl⟩ := hv
      have hcl : ∀ j, j < pcs.length → ct (dvB es P pcs r) j < 2 ^ 31 := fun j hj => by
        have := ct_le (dvB es P pcs r) j; omega
      by_cases hneg : p1 < 0
      · refine ⟨3, 0, by decide, fun oL Q h => ⟨fun _ => s_needR (fun r' hr' e => ?_) (fun z => absurd ⟨r, hr, rfl⟩ z), fun z => absurd z z1⟩, fun rF Q h => s_lacks (fun z => absurd z z1) (fun _ r' hr' e => ⟨fun _ => ⟨1, ?_⟩, fun z => absurd rfl z⟩) (fun _ z => absurd ⟨r, hr, rfl⟩ z)⟩
        · refine s_cbound hQ hl hr (fun j hj _ e2 => ?_) (fun _ => Or.inr (Or.inr ⟨rfl, h oL (fun z => absurd z (by decide))⟩))
          rw [← e2] at hneg
          exact absurd hneg (nI_pos (hcl j hj))
        · rw [wp_X5_bound_L15]
          exact ⟨fun _ => h, fun _ => ⟨fun _ => h, fun z => absurd hneg z⟩⟩
      · obtain ⟨t, ht, rfl⟩ : ∃ t, t < 2 ^ 31 ∧ p1 = nI t := by
          have z0 : (0 : Int32).toInt = 0 := by decide
          rw [Int32.lt_iff_toInt_lt, z0] at hneg
          have hlt := Int32.toInt_lt p1
          refine ⟨p1.toInt.toNat, by omega, ?_⟩
          apply Int32.toInt_inj.mp
          rw [nI_toInt (by omega)]; omega
        by_cases hex : ∃ k, k < pcs.length ∧ dvB es P pcs r k = true ∧ ct (dvB es P pcs r) k = t
        · obtain ⟨k, hk, k1, k2⟩ := hex
          refine ⟨0, nI k, by decide, fun oL Q h => ⟨fun _ => s_needR (fun r' hr' e => ?_) (fun z => absurd ⟨r, hr, rfl⟩ z), fun z => absurd z z1⟩, fun rF Q h => s_lacks (fun z => absurd z z1) (fun _ r' hr' e => ⟨fun _ => ?_, fun z => absurd rfl z⟩) (fun _ z => absurd ⟨r, hr, rfl⟩ z)⟩
          · refine s_cbound hQ hl hr (fun j hj hd e2 => ?_) (fun z => absurd (by rw [k2]) (z k hk k1))
            rw [nI_eq (hcl j hj) ht] at e2
            rw [ct_uni hd e2 k1 k2]
            exact ans_0 rfl h
          · refine s_rbound hT hl hr ht (fun j hj hd e2 => ?_) (fun z => absurd k2 (z k hk k1))
            rw [ct_uni hd e2 k1 k2]; exact h
        · refine ⟨3, 0, by decide, fun oL Q h => ⟨fun _ => s_needR (fun r' hr' e => ?_) (fun z => absurd ⟨r, hr, rfl⟩ z), fun z => absurd z z1⟩, fun rF Q h => s_lacks (fun z => absurd z z1) (fun _ r' hr' e => ⟨fun _ => ?_, fun z => absurd rfl z⟩) (fun _ z => absurd ⟨r, hr, rfl⟩ z)⟩
          · refine s_cbound hQ hl hr (fun j hj hd e2 => ?_) (fun _ => Or.inr (Or.inr ⟨rfl, h oL (fun z => absurd z (by decide))⟩))
            rw [nI_eq (hcl j hj) ht] at e2
            exact absurd ⟨j, hj, hd, e2⟩ hex
          · exact s_rbound hT hl hr ht (fun j hj hd e2 => absurd ⟨j, hj, hd, e2⟩ hex) (fun _ => h)
    · exact ⟨2, 0, by decide, fun oL Q h => ⟨fun _ => s_needR (fun r hr e => absurd ⟨r, hr, e⟩ hv) (fun _ => Or.inr (Or.inl ⟨rfl, h oL (fun z => absurd z (by decide))⟩)), fun z => absurd z z1⟩, fun rF Q h => s_lacks (fun z => absurd z z1) (fun _ r hr e => absurd ⟨r, hr, e⟩ hv) (fun _ _ => ⟨fun z => absurd z z1, fun _ => h⟩)⟩
