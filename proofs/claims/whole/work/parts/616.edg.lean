/-! edges: what the class's methods answer -/
abbrev Ed : Type := Int × Int × Int × Int × Nat
def EdOK (q : Ed) : Prop := q.1.natAbs ≤ 30 ∧ q.2.1.natAbs ≤ 30 ∧ q.2.2.1.natAbs ≤ 30 ∧ q.2.2.2.1.natAbs ≤ 30 ∧ lxe q.1 q.2.1 q.2.2.1 q.2.2.2.1 ∧ q.2.2.2.2 < 2
abbrev sdE (q : Ed) (x y d : Int) : Int := sd q.1 q.2.1 q.2.2.1 q.2.2.2.1 x y d
abbrev onE (q : Ed) (x y d : Int) : Prop := onZ q.1 q.2.1 q.2.2.1 q.2.2.2.1 x y d
abbrev abv (q : Ed) (x y d : Int) : Prop := q.1 * d ≤ x ∧ x < q.2.2.1 * d ∧ sdE q x y d < 0
def onB (es : List Ed) (x y d : Int) (e : Nat) : Bool := (es[e]?).any (fun q => decide (onE q x y d))
def abB (es : List Ed) (x y d : Int) (e : Nat) : Bool := (es[e]?).any (fun q => decide (abv q x y d))
/-- the rows hold these edges -/
def RE (fX fY lX lY : Nat → Int32) (es : List Ed) : Prop := es.length ≤ 12 ∧ (∀ q ∈ es, EdOK q) ∧ ∀ e q, es[e]? = some q → (fX e).toInt = q.1 ∧ (fY e).toInt = q.2.1 ∧ (lX e).toInt = q.2.2.1 ∧ (lY e).toInt = q.2.2.2.1
theorem RE.lt {fX fY lX lY : Nat → Int32} {es : List Ed} (h : RE fX fY lX lY es) {e : Nat} {q : Ed} (he : es[e]? = some q) : e < 12 := Nat.lt_of_lt_of_le (List.getElem?_eq_some_iff.mp he).1 h.1
theorem RE.ok {fX fY lX lY : Nat → Int32} {es : List Ed} (h : RE fX fY lX lY es) {e : Nat} {q : Ed} (he : es[e]? = some q) : EdOK q := h.2.1 q (List.mem_of_getElem? he)
theorem RE.r {fX fY lX lY : Nat → Int32} {es : List Ed} (h : RE fX fY lX lY es) {e : Nat} {q : Ed} (he : es[e]? = some q) : R3 (fX e) q.1 30 ∧ R3 (fY e) q.2.1 30 ∧ R3 (lX e) q.2.2.1 30 ∧ R3 (lY e) q.2.2.2.1 30 := by
  obtain ⟨h1, h2, h3, h4⟩ := h.2.2 e q he
  obtain ⟨k1, k2, k3, k4, -⟩ := h.ok he
  exact ⟨⟨h1, k1⟩, ⟨h2, k2⟩, ⟨h3, k3⟩, ⟨h4, k4⟩⟩
theorem vin {e n : Nat} (h : e < n) (hn : n < 2 ^ 31) : vp_in (nI e) n := vp_in_nI h hn
theorem cl_nI {e : Nat} (h : e < 2 ^ 31) : (nI e).toNatClampNeg = e := nI_clamp h
/-- the turn, as both the class and the reference reckon it -/
theorem tv_R {fx fy lx ly : Int32} {q : Ed} (h1 : R3 fx q.1 30) (h2 : R3 fy q.2.1 30) (h3 : R3 lx q.2.2.1 30) (h4 : R3 ly q.2.2.2.1 30) {x y d : Int64} {X Y D : Int} (hx : R6 x X (2 ^ 40)) (hy : R6 y Y (2 ^ 40)) (hd : R6 d D (2 ^ 34)) :
    R6 (((lx - fx).toInt64 * (y - (fy.toInt64 * d))) - ((ly - fy).toInt64 * (x - (fx.toInt64 * d)))) (sdE q X Y D) (2 ^ 50) :=
  ((((h3.sub h1 (by decide)).i2l.mul (hy.sub (h2.i2l.mul hd (by decide)) (by decide)) (by decide)).sub ((h4.sub h2 (by decide)).i2l.mul (hx.sub (h1.i2l.mul hd (by decide)) (by decide)) (by decide)) (by decide)).weak (by decide))
theorem s_spanX {e : Nat} (he : e < 12) {fX lX : Nat → Int32} (Q : Int32 → Prop) (h : Q (lX e - fX e)) : wp_X0_spanX (nI e) fX lX Q := by
  refine ⟨vin he (by decide), vin he (by decide), ?_⟩
  rw [cl_nI (by omega)]; exact h
theorem s_spanY {e : Nat} (he : e < 12) {fY lY : Nat → Int32} (Q : Int32 → Prop) (h : Q (lY e - fY e)) : wp_X0_spanY (nI e) fY lY Q := by
  refine ⟨vin he (by decide), vin he (by decide), ?_⟩
  rw [cl_nI (by omega)]; exact h
theorem s_turn {fX fY lX lY : Nat → Int32} {es : List Ed} (hR : RE fX fY lX lY es) {e : Nat} {q : Ed} (he : es[e]? = some q) {x y d : Int64} {X Y D : Int} (hx : R6 x X (2 ^ 40)) (hy : R6 y Y (2 ^ 40)) (hd : R6 d D (2 ^ 34)) (Q : Int64 → Prop) (h : ∀ v, R6 v (sdE q X Y D) (2 ^ 50) → Q v) : wp_X0_turn (nI e) x y d fX fY lX lY Q := by
  have hl := hR.lt he
  obtain ⟨h1, h2, h3, h4⟩ := hR.r he
  refine s_spanX hl _ ⟨vin hl (by decide), s_spanY hl _ ⟨vin hl (by decide), ?_⟩⟩
  rw [cl_nI (by omega)]
  exact h _ (tv_R h1 h2 h3 h4 hx hy hd)
theorem nb0 : narrow .boolean (.int (0 : Int32)) = .int 0 := rfl
theorem nb1 : narrow .boolean (.int (1 : Int32)) = .int 1 := rfl
set_option maxRecDepth 10000 in
theorem s_holds {fX fY lX lY : Nat → Int32} {es : List Ed} (hR : RE fX fY lX lY es) {e : Nat} {q : Ed} (he : es[e]? = some q) {x y d : Int64} {X Y D : Int} (hx : R6 x X (2 ^ 40)) (hy : R6 y Y (2 ^ 40)) (hd : R6 d D (2 ^ 34)) (hD : 0 < D) (Q : Int32 → Prop) (h : Q (if onE q X Y D then 1 else 0)) : wp_X0_holds (nI e) x y d fX fY lX lY Q := by
  have hl := hR.lt he
  obtain ⟨h1, h2, h3, h4⟩ := hR.r he
  have hbox : onE q X Y D ↔ _ := onZ_box (x := X) (y := Y) hD (hR.ok he).2.2.2.2.1
  have hv := vin hl (show 12 < 2 ^ 31 by decide)
  have no : ¬ onE q X Y D → wp_X0_holds_L107 (nI e) x y d fX fY lX lY Q := fun hn => ⟨nb0, by rw [if_neg hn] at h; exact h⟩
  unfold wp_X0_holds
  rw [cl_nI (show e < 2 ^ 31 by omega)]
  refine ⟨hv, hv, fun x19 e19 => ⟨hv, hv, fun x40 e40 => ⟨hv, fun c => no ?_, fun c1 => ⟨hv, fun c => no ?_, fun c2 => ⟨fun c => no ?_, fun c3 => ⟨fun c => no ?_, fun c4 => s_turn hR he hx hy hd _ (fun v hv2 => ⟨fun c => no ?_, fun c5 => ⟨nb1, ?_⟩⟩)⟩⟩⟩⟩⟩⟩
  all_goals
    have g1 := h1.i2l.mul hd (by decide)
    have g2 := h3.i2l.mul hd (by decide)
    have gl : R6 x19 ((if q.2.2.2.1 < q.2.1 then q.2.2.2.1 else q.2.1) * D) (30 * 2 ^ 34) := by
      rw [e19]
      by_cases cc : (lY e) < (fY e)
      · rw [if_pos cc, if_pos ((h4.lt h2).mp cc)]; exact h4.i2l.mul hd (by decide)
      · rw [if_neg cc, if_neg (fun z => cc ((h4.lt h2).mpr z))]; exact h2.i2l.mul hd (by decide)
    have gh : R6 x40 ((if q.2.1 < q.2.2.2.1 then q.2.2.2.1 else q.2.1) * D) (30 * 2 ^ 34) := by
      rw [e40]
      by_cases cc : (fY e) < (lY e)
      · rw [if_pos cc, if_pos ((h2.lt h4).mp cc)]; exact h4.i2l.mul hd (by decide)
      · rw [if_neg cc, if_neg (fun z => cc ((h2.lt h4).mpr z))]; exact h2.i2l.mul hd (by decide)
  · rw [hbox]; have := (hx.lt g1).mp c; omega
  · rw [hbox]; have := (g2.lt hx).mp c; omega
  · rw [hbox]
    have k := (hy.lt gl).mp c
    by_cases cc : q.2.2.2.1 < q.2.1
    · rw [if_pos cc] at k; intro z; have := z.2.2.2.1 cc; omega
    · rw [if_neg cc] at k; intro z; have := z.2.2.1 (by omega); omega
  · rw [hbox]
    have k := (gh.lt hy).mp c
    by_cases cc : q.2.1 < q.2.2.2.1
    · rw [if_pos cc] at k; intro z; have := z.2.2.1 (by omega); omega
    · rw [if_neg cc] at k; intro z
      by_cases c6 : q.2.2.2.1 < q.2.1
      · have := z.2.2.2.1 c6; omega
      · have e6 : q.2.2.2.1 = q.2.1 := by omega
        have := z.2.2.1 (by omega)
        rw [e6] at this; omega
  · rw [hbox]; intro z; exact c ((hv2.eq R6_0).mpr z.2.2.2.2)
  · have hz := (hv2.eq R6_0).mp c5
    have k1 := Int.not_lt.mp (fun z => c1 ((hx.lt g1).mpr z))
    have k2 := Int.not_lt.mp (fun z => c2 ((g2.lt hx).mpr z))
    have k3 := Int.not_lt.mp (fun z => c3 ((hy.lt gl).mpr z))
    have k4 := Int.not_lt.mp (fun z => c4 ((gh.lt hy).mpr z))
    have : onE q X Y D := by
      rw [hbox]
      refine ⟨by omega, by omega, fun c7 => ?_, fun c7 => ?_, hz⟩
      · rw [if_neg (by omega)] at k3
        by_cases c8 : q.2.1 < q.2.2.2.1
        · rw [if_pos c8] at k4; omega
        · rw [if_neg c8] at k4
          have e6 : q.2.2.2.1 = q.2.1 := by omega
          rw [e6]; omega
      · rw [if_pos c7] at k3
        rw [if_neg (by omega)] at k4
        omega
    rw [if_pos this] at h
    exact h
theorem ble_nI {a b : Nat} (ha : a < 2 ^ 31) (hb : b < 2 ^ 31) : nI a ≤ nI b ↔ a ≤ b := nI_leI ha hb
/-- the edges that go through a point, as a mask -/
theorem s_through {fX fY lX lY : Nat → Int32} {es : List Ed} (hR : RE fX fY lX lY es) {x y d : Int64} {X Y D : Int} (hx : R6 x X (2 ^ 40)) (hy : R6 y Y (2 ^ 40)) (hd : R6 d D (2 ^ 34)) (hD : 0 < D) (Q : Int32 → Prop) (h : Q (nI (mk (onB es X Y D) es.length))) : wp_X0_through x y d fX fY lX lY (nI es.length) Q := by
  have key : ∀ m e, e + m = es.length → wp_X0_through_L6 x y d fX fY lX lY (nI es.length) Q (m + 1) (nI (mk (onB es X Y D) e)) (nI e) := by
    intro m
    induction m with
    | zero =>
      intro e he
      rw [wp_X0_through_L6]
      refine ⟨fun _ => ?_, fun c => absurd ((ble_nI (by have := hR.1; omega) (by have := hR.1; omega)).mpr (by omega)) c⟩
      rw [show e = es.length by omega]; exact h
    | succ m ih =>
      intro e he
      have hlen := hR.1
      have hel : e < es.length := by omega
      obtain ⟨q, hq⟩ : ∃ q, es[e]? = some q := ⟨_, List.getElem?_eq_getElem hel⟩
      rw [wp_X0_through_L6]
      refine ⟨fun c => absurd ((ble_nI (by omega) (by omega)).mp c) (by omega), fun _ => s_holds hR hq hx hy hd hD _ ?_⟩
      have hb : onB es X Y D e = decide (onE q X Y D) := by unfold onB; rw [hq]; rfl
      have ih2 := ih (e + 1) (by omega)
      by_cases c : onE q X Y D
      · rw [if_pos c]
        refine ⟨fun z => absurd z (by decide), fun _ => fun x35 e35 => ?_⟩
        show wp_X0_through_L6 x y d fX fY lX lY (nI es.length) Q (m + 1) x35 (nI e + 1)
        rw [e35, nI_shl e (by omega), nI_or, nI_1]
        rw [mk, hb, if_pos (decide_eq_true c)] at ih2
        exact ih2
      · rw [if_neg c]
        refine ⟨fun _ => ?_, fun z => absurd rfl z⟩
        show wp_X0_through_L6 x y d fX fY lX lY (nI es.length) Q (m + 1) _ (nI e + 1)
        rw [nI_1]
        rw [mk, hb, if_neg (by simp [c])] at ih2
        exact ih2
  exact ⟨es.length + 1, key es.length 0 (by omega)⟩
theorem s_above {fX fY lX lY : Nat → Int32} {es : List Ed} (hR : RE fX fY lX lY es) {x y d : Int64} {X Y D : Int} (hx : R6 x X (2 ^ 40)) (hy : R6 y Y (2 ^ 40)) (hd : R6 d D (2 ^ 34)) (Q : Int32 → Prop) (h : Q (nI (mk (abB es X Y D) es.length))) : wp_X0_above x y d fX fY lX lY (nI es.length) Q := by
  have key : ∀ m e, e + m = es.length → wp_X0_above_L6 x y d fX fY lX lY (nI es.length) Q (m + 1) (nI (mk (abB es X Y D) e)) (nI e) := by
    intro m
    induction m with
    | zero =>
      intro e he
      rw [wp_X0_above_L6]
      refine ⟨fun _ => ?_, fun c => absurd ((ble_nI (by have := hR.1; omega) (by have := hR.1; omega)).mpr (by omega)) c⟩
      rw [show e = es.length by omega]; exact h
    | succ m ih =>
      intro e he
      have hlen := hR.1
      have hel : e < es.length := by omega
      obtain ⟨q, hq⟩ : ∃ q, es[e]? = some q := ⟨_, List.getElem?_eq_getElem hel⟩
      obtain ⟨h1, h2, h3, h4⟩ := hR.r hq
      have hv := vin (hR.lt hq) (show 12 < 2 ^ 31 by decide)
      have hb : abB es X Y D e = decide (abv q X Y D) := by unfold abB; rw [hq]; rfl
      have g1 := h1.i2l.mul hd (by decide)
      have g2 := h3.i2l.mul hd (by decide)
      have ih2 := ih (e + 1) (by omega)
      have no : ¬ abv q X Y D → wp_X0_above_L71 x y d fX fY lX lY (nI es.length) Q (wp_X0_above_L6 x y d fX fY lX lY (nI es.length) Q (m + 1)) (nI (mk (abB es X Y D) e)) (nI e) := by
        intro c
        show wp_X0_above_L6 x y d fX fY lX lY (nI es.length) Q (m + 1) _ (nI e + 1)
        rw [nI_1]
        rw [mk, hb, if_neg (by simp [c])] at ih2
        exact ih2
      rw [wp_X0_above_L6, cl_nI (show e < 2 ^ 31 by omega)]
      refine ⟨fun c => absurd ((ble_nI (by omega) (by omega)).mp c) (by omega), fun _ => ⟨hv, fun c => no (fun z => ?_), fun c1 => ⟨hv, fun c => no (fun z => ?_), fun c2 => s_turn hR hq hx hy hd _ (fun v hv2 => ⟨fun c => no (fun z => ?_), fun c3 => fun x69 e69 => ?_⟩)⟩⟩⟩
      · have := (hx.lt g1).mp c; have := z.1; omega
      · have := (g2.le hx).mp c; have := z.2.1; omega
      · have := (R6_0.le hv2).mp c; have := z.2.2; omega
      · have c : abv q X Y D := ⟨Int.not_lt.mp (fun z => c1 ((hx.lt g1).mpr z)), Int.not_le.mp (fun z => c2 ((g2.le hx).mpr z)), Int.not_le.mp (fun z => c3 ((R6_0.le hv2).mpr z))⟩
        show wp_X0_above_L6 x y d fX fY lX lY (nI es.length) Q (m + 1) x69 (nI e + 1)
        rw [e69, nI_shl e (by omega), nI_or, nI_1]
        rw [mk, hb, if_pos (decide_eq_true c)] at ih2
        exact ih2
  exact ⟨es.length + 1, key es.length 0 (by omega)⟩
