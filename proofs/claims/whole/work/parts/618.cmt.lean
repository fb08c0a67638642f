/-! the class's meeting points -/
theorem s_gd {A B : Nat} (hA : A < 2 ^ 31) (hB : B < 2 ^ 31) (Q : Int32 → Prop) (h : Q (nI (Nat.gcd A B))) : wp_X3_greatestDivisor (nI A) (nI B) Q := by
  have key : ∀ m g s t, (s < g ∨ s = 0) → g * s < 2 ^ m → t + m < 64 → g < 2 ^ 31 → Nat.gcd g s = Nat.gcd A B → wp_X3_greatestDivisor_L7 (nI A) (nI B) Q (fun v2 => (wp_X3_greatestDivisor_L34 (nI A) (nI B) Q v2)) (m + 1) (nI g) (nI s) (nI t) := by
    intro m
    induction m with
    | zero =>
      intro g s t h1 h2 h3 h4 h5
      have hs : s = 0 := by
        rcases h1 with h1 | h1
        · have : g * s = 0 := by omega
          rcases Nat.mul_eq_zero.mp this with h | h <;> omega
        · exact h1
      subst hs
      rw [Nat.gcd_zero_right] at h5
      rw [wp_X3_greatestDivisor_L7]
      refine ⟨fun z => absurd z (by rw [show (64 : Int32) = nI 64 by decide]; exact nI_ge (by omega) (by omega)), fun _ => ⟨fun _ => ?_, fun z => absurd nI_0 z⟩⟩
      show Q (nI g)
      rw [h5]; exact h
    | succ m ih =>
      intro g s t h1 h2 h3 h4 h5
      rw [wp_X3_greatestDivisor_L7]
      refine ⟨fun z => absurd z (by rw [show (64 : Int32) = nI 64 by decide]; exact nI_ge (by omega) (by omega)), fun _ => ⟨fun z => ?_, fun z => ⟨z, fun x21 e21 => ?_⟩⟩⟩
      · have hs : s = 0 := (nI_eq (by omega) (by decide)).mp (z.trans nI_0.symm)
        subst hs
        rw [Nat.gcd_zero_right] at h5
        show Q (nI g)
        rw [h5]; exact h
      · have hs : 0 < s := by
          apply Nat.pos_of_ne_zero
          intro e; subst e; exact z nI_0
        have hsg : s < g := by omega
        rw [e21, pk_rem (by omega) hs (by omega), nI_1]
        have hr := Nat.mod_lt g hs
        have hd : g / s * s + g % s = g := by rw [Nat.mul_comm]; exact Nat.div_add_mod g s
        have hq : 1 ≤ g / s := (Nat.le_div_iff_mul_le hs).mpr (by omega)
        have hq2 : s ≤ g / s * s := Nat.le_mul_of_pos_left s hq
        refine ih s (g % s) (t + 1) (Or.inl hr) ?_ (by omega) (by omega) ?_
        · have k1 : s * (2 * (g % s)) ≤ s * g := Nat.mul_le_mul_left s (by omega)
          rw [Nat.mul_comm s g] at k1
          have k2 : s * (2 * (g % s)) = 2 * (s * (g % s)) := by rw [Nat.mul_left_comm]
          have k3 : 2 ^ (m + 1) = 2 * 2 ^ m := by rw [Nat.pow_succ, Nat.mul_comm]
          omega
        · rw [← h5, Nat.gcd_comm s, ← Nat.gcd_rec, Nat.gcd_comm]
  refine ⟨64, ?_⟩
  rw [wp_X3_greatestDivisor_L7]
  refine ⟨fun z => absurd z (by decide), fun _ => ⟨fun z => ?_, fun z => ⟨z, fun x21 e21 => ?_⟩⟩⟩
  · have hs : B = 0 := (nI_eq (by omega) (by decide)).mp (z.trans nI_0.symm)
    subst hs
    rw [Nat.gcd_zero_right] at h
    exact h
  · have hs : 0 < B := by
      apply Nat.pos_of_ne_zero
      intro e; subst e; exact z nI_0
    rw [e21, pk_rem (by omega) hs (by omega)]
    have hr := Nat.mod_lt A hs
    refine key 62 B (A % B) 1 (Or.inl hr) ?_ (by decide) hB ?_
    · have k1 : B * (A % B) ≤ B * B := Nat.mul_le_mul_left B (by omega)
      have k2 : B * B < 2 ^ 31 * 2 ^ 31 := Nat.mul_lt_mul_of_lt_of_le hB (by omega) (by decide)
      have k3 : (2 : Nat) ^ 31 * 2 ^ 31 = 2 ^ 62 := by decide
      omega
    · rw [Nat.gcd_comm B, ← Nat.gcd_rec, Nat.gcd_comm]
theorem R3.abs {x : Int32} {X : Int} {M : Nat} (h : R3 x X M) (hM : M < 2 ^ 31) : (if 0 ≤ x then x else 0 - x) = nI X.natAbs := by
  have hb := h.2
  by_cases c : 0 ≤ x
  · rw [if_pos c]
    rw [R3_0.le h] at c
    exact h.inj ((R3_nI (n := X.natAbs) (by omega)).to (by omega))
  · rw [if_neg c]
    rw [R3_0.le h] at c
    exact ((R3_0.sub h (by omega)).to (B := (X.natAbs : Int)) (by omega)).inj (R3_nI (n := X.natAbs) (by omega))
abbrev dtE (q r : Ed) : Int := dt q.1 q.2.1 q.2.2.1 q.2.2.2.1 r.1 r.2.1 r.2.2.1 r.2.2.2.1
def sg (z : Int) : Int := if 0 < z then 1 else -1
def mD (q r : Ed) : Int := sg (dtE q r) * dtE q r
def mT (q r : Ed) : Int := sg (dtE q r) * ((r.1 - q.1) * (r.2.2.2.1 - r.2.1) - (r.2.1 - q.2.1) * (r.2.2.1 - r.1))
def mU (q r : Ed) : Int := sg (dtE q r) * ((r.1 - q.1) * (q.2.2.2.1 - q.2.1) - (r.2.1 - q.2.1) * (q.2.2.1 - q.1))
def mX (q r : Ed) : Int := q.1 * mD q r + mT q r * (q.2.2.1 - q.1)
def mY (q r : Ed) : Int := q.2.1 * mD q r + mT q r * (q.2.2.2.1 - q.2.1)
abbrev mO (q r : Ed) : Prop := dtE q r ≠ 0 ∧ onE q (mX q r) (mY q r) (mD q r) ∧ onE r (mX q r) (mY q r) (mD q r)
def mtL (q r : Ed) (l : List Pt) : List Pt := if mO q r then insL (rdc (mX q r) (mY q r) (mD q r)) l else l
theorem mD_pos {q r : Ed} (h : dtE q r ≠ 0) : 0 < mD q r := by
  unfold mD sg
  split <;> omega
theorem mXb (q r : Ed) : mX q r = r.1 * mD q r + mU q r * (r.2.2.1 - r.1) ∧ mY q r = r.2.1 * mD q r + mU q r * (r.2.2.2.1 - r.2.1) := by
  have := meet_both q.1 q.2.1 q.2.2.1 q.2.2.2.1 r.1 r.2.1 r.2.2.1 r.2.2.2.1
  unfold mX mY mT mU mD
  generalize sg (dtE q r) = s
  have e : dtE q r = dt q.1 q.2.1 q.2.2.1 q.2.2.2.1 r.1 r.2.1 r.2.2.1 r.2.2.2.1 := rfl
  rw [e]
  generalize dt q.1 q.2.1 q.2.2.1 q.2.2.2.1 r.1 r.2.1 r.2.2.1 r.2.2.2.1 = D at *
  obtain ⟨h1, h2⟩ := this
  constructor
  · have h3 : s * _ = s * _ := congrArg (s * ·) h1
    grind
  · have h3 : s * _ = s * _ := congrArg (s * ·) h2
    grind
theorem mO_iff {q r : Ed} (hq : EdOK q) (hr : EdOK r) (h : dtE q r ≠ 0) : mO q r ↔ (0 ≤ mT q r ∧ mT q r ≤ mD q r ∧ 0 ≤ mU q r ∧ mU q r ≤ mD q r) := by
  have h1 := onZ_par (t := mT q r) (mD_pos h) hq.2.2.2.2.1
  have h2 := onZ_par (t := mU q r) (mD_pos h) hr.2.2.2.2.1
  have e1 : onE q (mX q r) (mY q r) (mD q r) ↔ 0 ≤ mT q r ∧ mT q r ≤ mD q r := h1
  have e2 : onE r (mX q r) (mY q r) (mD q r) ↔ 0 ≤ mU q r ∧ mU q r ≤ mD q r := by
    rw [(mXb q r).1, (mXb q r).2]; exact h2
  unfold mO
  rw [e1, e2]
  constructor
  · rintro ⟨-, ⟨a, b⟩, c, d⟩; exact ⟨a, b, c, d⟩
  · rintro ⟨a, b, c, d⟩; exact ⟨h, ⟨a, b⟩, c, d⟩
set_option maxRecDepth 10000 in
theorem s_addMeeting {fX fY lX lY : Nat → Int32} {es : List Ed} (hE : RE fX fY lX lY es) {a b : Nat} {q r : Ed} (ha : es[a]? = some q) (hb : es[b]? = some r) {x y d : Nat → Int32} {l : List Pt} (hR : RP x y d l) (h78 : (mtL q r l).length ≤ 78) (Q : (Nat → Int32) → (Nat → Int32) → (Nat → Int32) → Int32 → Prop) (h : ∀ x' y' d', RP x' y' d' (mtL q r l) → Q x' y' d' (nI (mtL q r l).length)) : wp_X3_addMeeting (nI a) (nI b) x y d (nI l.length) fX fY lX lY Q := by
  have hla := hE.lt ha
  have hlb := hE.lt hb
  obtain ⟨a1, a2, a3, a4⟩ := hE.r ha
  obtain ⟨b1, b2, b3, b4⟩ := hE.r hb
  have hva := vin hla (show 12 < 2 ^ 31 by decide)
  have hvb := vin hlb (show 12 < 2 ^ 31 by decide)
  have no : ¬ mO q r → Q x y d (nI l.length) := fun z => by
    unfold mtL at h; rw [if_neg z] at h; exact h x y d hR
  have sax := a3.sub a1 (by decide)
  have say := a4.sub a2 (by decide)
  have sbx := b3.sub b1 (by decide)
  have sby := b4.sub b2 (by decide)
  have gx := b1.sub a1 (by decide)
  have gy := b2.sub a2 (by decide)
  have dd : R3 _ (dtE q r) 7200 := (((sax.mul sby (by decide)).sub (sbx.mul say (by decide)) (by decide)).to (B := dtE q r) (by unfold dtE dt; rw [Int.mul_comm (r.2.2.1 - r.1)])).weak (by decide)
  have rest : ∀ z0 : Int32, R3 z0 (sg (dtE q r)) 1 → dtE q r ≠ 0 → wp_X3_addMeeting_L71 (nI a) (nI b) fX fY lX lY Q (((lX a - fX a) * (lY b - fY b)) - ((lX b - fX b) * (lY a - fY a))) (fX b - fX a) (fY b - fY a) z0 x y d (nI l.length) := by
    intro z0 hz hne
    have hO := mO_iff (hE.ok ha) (hE.ok hb) hne
    intro x78 e78
    have r78 : R3 x78 (mD q r) 7200 := by rw [e78]; exact (hz.mul dd (by decide)).weak (by decide)
    refine s_spanX hlb _ (s_spanY hlb _ ?_)
    intro x100 e100
    have r100 : R3 x100 (mT q r) 7200 := by
      rw [e100]
      exact ((hz.mul ((gx.mul sby (by decide)).sub (sbx.mul gy (by decide)) (by decide)) (by decide)).to (B := mT q r) (by unfold mT; rw [Int.mul_comm (r.2.2.1 - r.1)])).weak (by decide)
    refine s_spanX hla _ (s_spanY hla _ ?_)
    intro x122 e122
    have r122 : R3 x122 (mU q r) 7200 := by
      rw [e122]
      exact ((hz.mul ((gx.mul say (by decide)).sub (sax.mul gy (by decide)) (by decide)) (by decide)).to (B := mU q r) (by unfold mU; rw [Int.mul_comm (q.2.2.1 - q.1)])).weak (by decide)
    rw [r100.lt R3_0, r78.lt r100, r122.lt R3_0, r122.le r78]
    refine ⟨fun c => no (by rw [hO]; omega), fun c1 => ⟨fun c => no (by rw [hO]; omega), fun c2 => ⟨fun c => no (by rw [hO]; omega), fun c3 => ⟨fun c4 => ⟨hva, s_spanX hla _ ?_⟩, fun c => no (by rw [hO]; omega)⟩⟩⟩⟩
    rw [cl_nI (show a < 2 ^ 31 by omega)]
    intro x167 e167
    have r167 : R3 x167 (mX q r) 648000 := by
      rw [e167]; exact ((a1.mul r78 (by decide)).add (r100.mul sax (by decide)) (by decide)).weak (by decide)
    refine ⟨hva, s_spanY hla _ ?_⟩
    intro x187 e187
    have r187 : R3 x187 (mY q r) 648000 := by
      rw [e187]; exact ((a2.mul r78 (by decide)).add (r100.mul say (by decide)) (by decide)).weak (by decide)
    have hO' : mO q r := hO.mpr ⟨by omega, by omega, by omega, c4⟩
    have hp := mD_pos hne
    rw [r167.abs (by decide), r187.abs (by decide), show x78 = nI (mD q r).natAbs from r78.inj ((R3_nI (by have := r78.2; omega)).to (by omega))]
    have l1 := r78.2
    have l2 := r167.2
    have l3 := r187.2
    refine s_gd (by omega) (by omega) _ (s_gd ?_ (by omega) _ ?_)
    · have := Nat.le_of_dvd (by omega) (Nat.gcd_dvd_left (mD q r).natAbs (mX q r).natAbs); omega
    have hg : Nat.gcd (Nat.gcd (mD q r).natAbs (mX q r).natAbs) (mY q r).natAbs = gof (mX q r) (mY q r) (mD q r) := by
      show _ = Nat.gcd (Nat.gcd (mX q r).natAbs (mY q r).natAbs) (mD q r).natAbs
      rw [Nat.gcd_assoc, Nat.gcd_comm]
    rw [hg]
    have hgp := gof_pos (X := mX q r) (Y := mY q r) hp
    have hgl : gof (mX q r) (mY q r) (mD q r) ≤ 7200 := by
      have := Nat.le_of_dvd (show 0 < (mD q r).natAbs by omega) (Int.natAbs_dvd_natAbs.mpr (gof_dvd (mX q r) (mY q r) (mD q r)).2.2)
      rw [Int.natAbs_natCast] at this
      omega
    have rg := (R3_nI (n := gof (mX q r) (mY q r) (mD q r)) (by omega)).weak hgl
    have rw78 : R3 (nI (mD q r).natAbs) (mD q r) 7200 := ⟨by rw [nI_toInt (by omega)]; omega, l1⟩
    have hn0 : ¬ nI (gof (mX q r) (mY q r) (mD q r)) = 0 := nI_ne0 hgp (by omega)
    refine ⟨fun z => absurd z (nI_nle hgp (by omega)), fun _ => ⟨hn0, hn0, hn0, s_insert (n := rdc (mX q r) (mY q r) (mD q r)) hR ⟨(r167.div rg (by decide)).weak (by decide), (r187.div rg (by decide)).weak (by decide), (rw78.div rg (by decide)).weak (by decide)⟩ (rdc_red hp) ?_ _ ?_⟩⟩
    · unfold mtL at h78; rw [if_pos hO'] at h78; exact h78
    · unfold mtL at h; rw [if_pos hO'] at h; exact h
  unfold wp_X3_addMeeting
  refine s_spanX hla _ (s_spanY hla _ (s_spanX hlb _ (s_spanY hlb _ ?_)))
  show _ ∧ _
  rw [cl_nI (show a < 2 ^ 31 by omega), cl_nI (show b < 2 ^ 31 by omega), dd.eq R3_0, dd.le R3_0]
  refine ⟨fun hne => ⟨hvb, hva, fun x44 e44 => ⟨hvb, hva, fun x59 e59 => ?_⟩⟩, fun hz => no (fun z => z.1 hz)⟩
  subst e44 e59
  refine ⟨fun c => rest _ ?_ hne, fun c => rest _ ?_ hne⟩
  · unfold sg; rw [if_neg (by omega)]; exact R3_m1
  · unfold sg; rw [if_pos (by omega)]; exact R3_1
