/-! vertex, clear, where -/
theorem i2r (p : Int32) : (¬ p < 0 ∧ p < 2) ↔ (p = 0 ∨ p = 1) := by
  constructor
  · rintro ⟨h0, h1⟩
    obtain ⟨k, hk, e⟩ := idx (n := 2) (by decide) h0 (by rw [show nI 2 = (2 : Int32) by decide]; exact h1)
    rcases (show k = 0 ∨ k = 1 by omega) with rfl | rfl
    · exact Or.inl e
    · exact Or.inr e
  · rintro (rfl | rfl) <;> decide
theorem s_needP {p0 : Int32} {Q : Prop} {X : String → Prop} (h : (p0 = 0 ∨ p0 = 1) → Q) (h' : ¬ (p0 = 0 ∨ p0 = 1) → X xIA) : wp_X4_needPolygon p0 Q X :=
  ⟨fun z => h' (fun y => ((i2r p0).mpr y).1 z), fun z1 => ⟨fun z2 => h ((i2r p0).mp ⟨z1, z2⟩), fun z => h' (fun y => z ((i2r p0).mpr y).2)⟩⟩
theorem s_isP {p0 : Int32} {Q : Int32 → Prop} (h : (p0 = 0 ∨ p0 = 1) → Q 1) (h' : ¬ (p0 = 0 ∨ p0 = 1) → Q 0) : wp_X5_isPolygon p0 Q :=
  ⟨fun z => ⟨nb1, h (Or.inl z)⟩, fun z => ⟨fun z2 => ⟨nb0, h' (fun y => y.elim z z2)⟩, fun z2 => ⟨nb1, h (Or.inr z2)⟩⟩⟩
abbrev wtn (a m : Int32) : Prop := ¬ a < -m ∧ ¬ m < a
theorem s_wtn {a m : Int32} {Q : Int32 → Prop} (h : wtn a m → Q 1) (h' : ¬ wtn a m → Q 0) : wp_X4_isWithin a m Q :=
  ⟨fun z => ⟨nb0, h' (fun y => y.1 z)⟩, fun z1 => ⟨fun z => ⟨nb0, h' (fun y => y.2 z)⟩, fun z2 => ⟨nb1, h ⟨z1, z2⟩⟩⟩⟩
theorem pol {p : Int32} (h : p = 0 ∨ p = 1) : ∃ n, n < 2 ∧ p = nI n := by
  rcases h with rfl | rfl
  · exact ⟨0, by decide, by decide⟩
  · exact ⟨1, by decide, by decide⟩
theorem wtn_R {a m : Int32} {M : Nat} (hm : m = nI M) (hM : M < 2 ^ 30) (h : wtn a m) : R3 a a.toInt M := by
  refine ⟨rfl, ?_⟩
  subst hm
  have r := R3_nI (n := M) (by omega)
  have e : (-(nI M)).toInt = -(M : Int) := by
    rw [Int32.toInt_neg, r.1, bm32 (by omega)]
  obtain ⟨h1, h2⟩ := h
  rw [Int32.lt_iff_toInt_lt, e] at h1
  rw [Int32.lt_iff_toInt_lt, r.1] at h2
  omega
def setV (V : Nat → List Vt) (p : Nat) (l : List Vt) : Nat → List Vt := fun q => if q = p then l else V q
theorem setV_s {V : Nat → List Vt} {p : Nat} {l : List Vt} : setV V p l p = l := if_pos rfl
theorem setV_n {V : Nat → List Vt} {p q : Nat} {l : List Vt} (h : q ≠ p) : setV V p l q = V q := if_neg h
theorem VOK_push {V : Nat → List Vt} (h : VOK V) {p : Nat} (hl : (V p).length < 6) {v : Vt} (hv : VtB v) (hp : p < 2) : VOK (setV V p (V p ++ [v])) := by
  intro q hq
  by_cases c : q = p
  · subst c
    rw [setV_s]
    refine ⟨by rw [List.length_append, List.length_singleton]; omega, fun w hw => ?_⟩
    rcases List.mem_append.mp hw with hw | hw
    · exact (h q hq).2 w hw
    · rw [List.mem_singleton.mp hw]; exact hv
  · rw [setV_n c]; exact h q hq
theorem VOK_clr {V : Nat → List Vt} (h : VOK V) {p : Nat} : VOK (setV V p []) := by
  intro q hq
  by_cases c : q = p
  · subst c
    rw [setV_s]
    exact ⟨Nat.zero_le _, fun w hw => absurd hw List.not_mem_nil⟩
  · rw [setV_n c]; exact h q hq
theorem RVc_push {cX cY : Nat → Nat → Int32} {cN : Nat → Int32} {V : Nat → List Vt} (h : RVc cX cY cN V) {p : Nat} {x y : Int32} : RVc (va_up cX p (upd (cX p) (V p).length x)) (va_up cY p (upd (cY p) (V p).length y)) (upd cN p (nI ((V p).length + 1))) (setV V p (V p ++ [(x.toInt, y.toInt)])) := by
  intro q hq
  by_cases c : q = p
  · subst c
    rw [setV_s, pk_us]
    refine ⟨by rw [List.length_append, List.length_singleton], fun k v hk => ?_⟩
    rw [push_get] at hk
    by_cases c1 : k < (V q).length
    · rw [if_pos c1] at hk
      rw [up2_j (by omega), up2_j (by omega)]
      exact (h q hq).2 k v hk
    · rw [if_neg c1] at hk
      by_cases c2 : k = (V q).length
      · rw [if_pos c2] at hk
        injection hk with hk
        subst hk; subst c2
        rw [up2_k, up2_k]; exact ⟨rfl, rfl⟩
      · rw [if_neg c2] at hk; cases hk
  · rw [setV_n c, pk_un c]
    refine ⟨(h q hq).1, fun k v hk => ?_⟩
    rw [up2_o c, up2_o c]
    exact (h q hq).2 k v hk
theorem RVr_push {rS rVx rVy : Nat → Int32} {V : Nat → List Vt} (h : RVr rS rVx rVy V) (hK : VOK V) {p : Nat} (hp : p < 2) (hl : (V p).length < 6) {x y : Int32} : RVr (upd rS p (nI ((V p).length + 1))) (upd rVx (6 * p + (V p).length) x) (upd rVy (6 * p + (V p).length) y) (setV V p (V p ++ [(x.toInt, y.toInt)])) := by
  intro q hq
  by_cases c : q = p
  · subst c
    rw [setV_s, pk_us]
    refine ⟨by rw [List.length_append, List.length_singleton], fun k v hk => ?_⟩
    rw [push_get] at hk
    by_cases c1 : k < (V q).length
    · rw [if_pos c1] at hk
      rw [pk_un (by omega), pk_un (by omega)]
      exact (h q hq).2 k v hk
    · rw [if_neg c1] at hk
      by_cases c2 : k = (V q).length
      · rw [if_pos c2] at hk
        injection hk with hk
        subst hk; subst c2
        rw [pk_us, pk_us]; exact ⟨rfl, rfl⟩
      · rw [if_neg c2] at hk; cases hk
  · rw [setV_n c, pk_un c]
    refine ⟨(h q hq).1, fun k v hk => ?_⟩
    have := lgl hk
    have := (hK q hq).1
    rw [pk_un (by omega), pk_un (by omega)]
    exact (h q hq).2 k v hk
theorem RVc_clr {cX cY : Nat → Nat → Int32} {cN : Nat → Int32} {V : Nat → List Vt} (h : RVc cX cY cN V) {p : Nat} : RVc cX cY (upd cN p 0) (setV V p []) := by
  intro q hq
  by_cases c : q = p
  · subst c
    rw [setV_s, pk_us]
    exact ⟨nI_0.symm, fun k v hk => by simp at hk⟩
  · rw [setV_n c, pk_un c]; exact h q hq
theorem RVr_clr {rS rVx rVy : Nat → Int32} {V : Nat → List Vt} (h : RVr rS rVx rVy V) {p : Nat} : RVr (upd rS p 0) rVx rVy (setV V p []) := by
  intro q hq
  by_cases c : q = p
  · subst c
    rw [setV_s, pk_us]
    exact ⟨nI_0.symm, fun k v hk => by simp at hk⟩
  · rw [setV_n c, pk_un c]; exact h q hq
theorem j_vertex {cX cY : Nat → Nat → Int32} {cN rS rVx rVy : Nat → Int32} {V : Nat → List Vt} (hK : VOK V) (hC : RVc cX cY cN V) (hR : RVr rS rVx rVy V) (p0 p1 p2 : Int32) : ∃ k v V', k < 4 ∧ VOK V' ∧ (∀ oL Q, (∀ cX cY cN (oL : Nat → Int64), RVc cX cY cN V' → (k = 0 → oL 0 = v.toInt64) → Q (nI k) cX cY cN oL) → wp_L_vertex p0 p1 p2 cX cY cN oL Q) ∧ ∀ rF Q, (∀ rS rVx rVy, RVr rS rVx rVy V' → Q v (nI k) rS rVx rVy) → wp_X5_vertex p0 p1 p2 rF rS rVx rVy Q := by
  have z1 : ¬ ((1 : Int32) = 0) := by decide
  by_cases hp : p0 = 0 ∨ p0 = 1
  · by_cases hw : wtn p1 30 ∧ wtn p2 30
    · obtain ⟨n, hn, e⟩ := pol hp
      have hl := (hK n hn).1
      have en := cl_nI (show n < 2 ^ 31 by omega)
      have v2 := vin hn (show 2 < 2 ^ 31 by decide)
      have hcN := (hC n hn).1
      have hrS := (hR n hn).1
      have e6 : (6 : Int32) = nI 6 := by decide
      have b1 := wtn_R (M := 30) (by decide) (by decide) hw.1
      have b2 := wtn_R (M := 30) (by decide) (by decide) hw.2
      have w5 : ∀ rF Q z, wp_X5_vertex_L36 p0 p1 p2 Q 1 rF rS rVx rVy → z = rF → wp_X5_vertex p0 p1 p2 z rS rVx rVy Q := by
        intro rF Q z h ez
        subst ez
        refine s_isP (fun _ => ⟨fun z => absurd z z1, fun _ => ⟨fun z => absurd z hw.1.1, fun _ => ⟨fun z => absurd z hw.1.2, fun _ => ⟨fun z => absurd z hw.2.1, fun _ => ⟨fun z => absurd z hw.2.2, fun _ => h⟩⟩⟩⟩⟩) (fun z => absurd hp z)
      have w4 : ∀ oL Q, (vp_in p0 2 ∧ (∀ x38 : Int32, x38 = (cN p0.toNatClampNeg) → ((x38 < 6 → (vp_in p0 2 ∧ (vp_in x38 6 ∧ (∀ y66 : Nat → Nat → Int32, y66 = va_up cX p0.toNatClampNeg (upd (cX p0.toNatClampNeg) x38.toNatClampNeg p1) → (vp_in p0 2 ∧ (vp_in x38 6 ∧ (∀ y76 : Nat → Nat → Int32, y76 = va_up cY p0.toNatClampNeg (upd (cY p0.toNatClampNeg) x38.toNatClampNeg p2) → (vp_in p0 2 ∧ (∀ y86 : Nat → Int32, y86 = upd cN p0.toNatClampNeg (x38 + 1) → (vp_in (0 : Int32) 1 ∧ ∀ y11 : Nat → Int64, y11 = vp_updL oL (0 : Int32).toNatClampNeg ((x38 + 1).toInt64) → (Q 0 y66 y76 y86 y11))))))))))) ∧ (¬ (x38 < 6) → Q 2 cX cY cN oL)))) → wp_L_vertex p0 p1 p2 cX cY cN oL Q := by
        intro oL Q h
        refine s_needP (fun _ => s_wtn (fun _ => ⟨fun z => absurd z z1, fun _ => s_wtn (fun _ => ⟨fun _ => ⟨h.1, fun x38 e38 => ⟨(h.2 x38 e38).1, fun z => Or.inr ⟨rfl, (h.2 x38 e38).2 z⟩⟩⟩, fun z => absurd z z1⟩) (fun z => absurd hw.2 z)⟩) (fun z => absurd hw.1 z)) (fun z => absurd hp z)
      subst e
      rw [en] at w4
      by_cases hf : (V n).length < 6
      · refine ⟨0, nI ((V n).length + 1), setV V n (V n ++ [(p1.toInt, p2.toInt)]), by decide, VOK_push hK hf ⟨b1.2, b2.2⟩ hn, fun oL Q h => w4 oL Q ⟨v2, fun x38 e38 => ?_⟩, fun rF Q h => w5 rF Q rF ⟨fun _ => ⟨v2, fun _ => ⟨fun _ => ?_, fun z => absurd (by decide) z⟩, fun z => ?_⟩, fun z => absurd z z1⟩ rfl⟩
        · rw [hcN] at e38
          subst e38
          have v6 := vin hf (show 6 < 2 ^ 31 by decide)
          refine ⟨fun _ => ⟨v2, v6, fun y66 e66 => ⟨v2, v6, fun y76 e76 => ⟨v2, fun y86 e86 => ⟨vin (e := 0) (by decide) (by decide), fun y11 e11 => ?_⟩⟩⟩⟩, fun z => absurd (by rw [e6, nI_ltI (by omega) (by decide)]; exact hf) z⟩
          rw [cl_nI (show (V n).length < 2 ^ 31 by omega)] at e66 e76
          rw [nI_1] at e86 e11
          subst e66 e76 e86
          refine h _ _ _ _ (RVc_push hC) (fun _ => ?_)
          rw [e11]; rfl
        · rw [en, hrS, e6, pk_mul, nI_add, cl_nI (show 6 * n + (V n).length < 2 ^ 31 by omega), nI_1]
          have v12 := vin (show 6 * n + (V n).length < 12 by omega) (show 12 < 2 ^ 31 by decide)
          refine ⟨v2, v12, fun y92 e92 => ⟨v2, v12, fun y109 e109 => ⟨v2, v2, fun y119 e119 => ⟨v2, ?_⟩⟩⟩⟩
          subst e92 e109 e119
          rw [pk_us]
          exact h _ _ _ (RVr_push hR hK hn hf)
        · rw [en, hrS, e6, nI_eq (by omega) (by decide)] at z
          omega
      · have h6 : (V n).length = 6 := by omega
        refine ⟨2, 0, V, by decide, hK, fun oL Q h => w4 oL Q ⟨v2, fun x38 e38 => ?_⟩, fun rF Q h => w5 rF Q rF ⟨fun _ => ⟨v2, fun z => ?_, fun _ => ⟨fun z => absurd z (by decide), fun _ => h _ _ _ hR⟩⟩, fun z => absurd z z1⟩ rfl⟩
        · rw [hcN] at e38
          subst e38
          exact ⟨fun z => absurd (by rw [e6, nI_ltI (by omega) (by decide)] at z; exact z) hf, fun _ => h _ _ _ _ hC (fun z => absurd z (by decide))⟩
        · rw [en, hrS, e6, nI_eq (by omega) (by decide)] at z
          exact absurd h6 z
    · refine ⟨1, 0, V, by decide, hK, fun oL Q h => s_needP (fun _ => s_wtn (fun y1 => ⟨fun z => absurd z z1, fun _ => s_wtn (fun y2 => absurd ⟨y1, y2⟩ hw) (fun _ => ⟨fun z => absurd rfl z, fun _ => Or.inl ⟨rfl, h _ _ _ _ hC (fun z => absurd z (by decide))⟩⟩)⟩) (fun _ => ⟨fun _ => Or.inl ⟨rfl, h _ _ _ _ hC (fun z => absurd z (by decide))⟩, fun z => absurd rfl z⟩)) (fun z => absurd hp z), fun rF Q h => s_isP (fun _ => ?_) (fun z => absurd hp z)⟩
      have no : wp_X5_vertex_L35 p0 p1 p2 Q rF rS rVx rVy := ⟨fun z => absurd rfl z, fun _ => ⟨fun z => absurd z (by decide), fun _ => h _ _ _ hR⟩⟩
      exact ⟨fun z => absurd z z1, fun _ => ⟨fun _ => no, fun a1 => ⟨fun _ => no, fun a2 => ⟨fun _ => no, fun a3 => ⟨fun _ => no, fun a4 => absurd ⟨⟨a1, a2⟩, ⟨a3, a4⟩⟩ hw⟩⟩⟩⟩⟩
  · refine ⟨1, 0, V, by decide, hK, fun oL Q h => s_needP (fun z => absurd z hp) (fun _ => Or.inl ⟨rfl, h _ _ _ _ hC (fun z => absurd z (by decide))⟩), fun rF Q h => s_isP (fun z => absurd z hp) (fun _ => ⟨fun _ => ⟨fun z => absurd rfl z, fun _ => ⟨fun z => absurd z (by decide), fun _ => h _ _ _ hR⟩⟩, fun z => absurd rfl z⟩)⟩
theorem j_clear {cX cY : Nat → Nat → Int32} {cN rS rVx rVy : Nat → Int32} {V : Nat → List Vt} (hK : VOK V) (hC : RVc cX cY cN V) (hR : RVr rS rVx rVy V) (p0 : Int32) : ∃ k v V', k < 4 ∧ VOK V' ∧ (∀ oL Q, (∀ cN (oL : Nat → Int64), RVc cX cY cN V' → (k = 0 → oL 0 = v.toInt64) → Q (nI k) cN oL) → wp_L_clear p0 cN oL Q) ∧ ∀ rF Q, (∀ rS, RVr rS rVx rVy V' → Q v (nI k) rS) → wp_X5_clear p0 rF rS Q := by
  have z1 : ¬ ((1 : Int32) = 0) := by decide
  by_cases hp : p0 = 0 ∨ p0 = 1
  · obtain ⟨n, hn, e⟩ := pol hp
    have en := cl_nI (show n < 2 ^ 31 by omega)
    have v2 := vin hn (show 2 < 2 ^ 31 by decide)
    have hcN := (hC n hn).1
    have hrS := (hR n hn).1
    refine ⟨0, nI (V n).length, setV V n [], by decide, VOK_clr hK, fun oL Q h => s_needP (fun _ => ?_) (fun z => absurd hp z), fun rF Q h => s_isP (fun _ => ⟨fun z => absurd z z1, fun _ => ?_⟩) (fun z => absurd hp z)⟩
    · subst e
      rw [en]
      refine ⟨v2, fun x10 e10 => ⟨v2, fun y17 e17 => ⟨vin (e := 0) (by decide) (by decide), fun y8 e8 => ?_⟩⟩⟩
      rw [hcN] at e10
      subst e10 e17
      refine h _ _ (RVc_clr hC) (fun _ => ?_)
      rw [e8]; rfl
    · subst e
      refine ⟨fun _ => ⟨v2, fun x31 e31 => ⟨v2, fun y38 e38 => ?_⟩⟩, fun z => absurd (by decide) z⟩
      rw [en] at e31 e38
      rw [hrS] at e31
      subst e31 e38
      exact h _ (RVr_clr hR)
  · refine ⟨1, 0, V, by decide, hK, fun oL Q h => s_needP (fun z => absurd z hp) (fun _ => ⟨rfl, h _ _ hC (fun z => absurd z (by decide))⟩), fun rF Q h => s_isP (fun z => absurd z hp) (fun _ => ⟨fun _ => ⟨fun z => absurd z (by decide), fun _ => h _ hR⟩, fun z => absurd rfl z⟩)⟩
theorem s_rwhere {es : List Ed} {rAx rAy rBx rBy rO : Nat → Int32} (hE : RE rAx rAy rBx rBy es) (hW : RW rO es) {p : Nat} (hp : p < 2) {x y d : Int32} {X Y D : Int} (hx : R6 x.toInt64 X (2 ^ 40)) (hy : R6 y.toInt64 Y (2 ^ 40)) (hd : R6 d.toInt64 D (2 ^ 34)) {rMd rF : Int32} (Q : Int32 → Int32 → Prop) (h1 : (∃ e, e < es.length ∧ (onB es X Y D e && ownB es p e) = true) → Q 2 rF) (h2 : (∀ e, e < es.length → (onB es X Y D e && ownB es p e) = false) → Q (nI (ct (fun e => abB es X Y D e && ownB es p e) es.length % 2)) rF) : ∃ n, wp_X5_where_L89 (nI p) x y d rMd (nI es.length) rAx rAy rBx rBy rO Q n 0 rF := by
  have hn := hE.1
  have key : ∀ m e, e + m = es.length → (∀ f, f < e → (onB es X Y D f && ownB es p f) = false) → wp_X5_where_L89 (nI p) x y d rMd (nI es.length) rAx rAy rBx rBy rO Q (m + 1) (nI e) rF := by
    intro m
    induction m with
    | zero =>
      intro e he hno
      rw [wp_X5_where_L89]
      have e' : e = es.length := by omega
      subst e'
      refine ⟨fun _ => s_rabove hE hW hp hx hy hd _ ⟨by decide, ?_⟩, fun z => absurd (nI_le (Nat.le_refl _) (by omega)) z⟩
      have hc := ct_le (fun e => abB es X Y D e && ownB es p e) es.length
      rw [show (2 : Int32) = nI 2 by decide, pk_rem (by omega) (by decide) (by decide)]
      exact h2 hno
    | succ m ih =>
      intro e he hno
      obtain ⟨q, hq⟩ := lg (show e < es.length by omega)
      have hown : q.2.2.2.2 < 2 := (hE.ok hq).2.2.2.2.2
      have hb : onB es X Y D e = decide (onE q X Y D) := by unfold onB; rw [hq]; rfl
      have ho := ownB_at (p := p) hq
      have nxt : (onB es X Y D e && ownB es p e) = false → wp_X5_where_L127 (nI p) x y d rMd (nI es.length) rAx rAy rBx rBy rO Q (wp_X5_where_L89 (nI p) x y d rMd (nI es.length) rAx rAy rBx rBy rO Q (m + 1)) (nI e) rF := by
        intro hf
        show wp_X5_where_L89 _ _ _ _ _ _ _ _ _ _ _ _ _ (nI e + 1) _
        rw [nI_1]
        refine ih (e + 1) (by omega) (fun f hf2 => ?_)
        by_cases c : f = e
        · subst c; exact hf
        · exact hno f (by omega)
      rw [wp_X5_where_L89, cl_nI (show e < 2 ^ 31 by omega), hW e q hq, nI_eq (by omega) (by omega)]
      refine ⟨fun z => absurd z (nI_ge (by omega) (by omega)), fun _ => ⟨vin (show e < 12 by omega) (by decide), fun z => nxt ?_, fun z => s_onEdge hE hq hx hy hd _ ?_⟩⟩
      · rw [ho, show (q.2.2.2.2 == p) = false from Bool.eq_false_iff.mpr (fun y => z (beq_iff_eq.mp y)), Bool.and_false]
      · by_cases c : onE q X Y D
        · rw [if_pos c]
          refine ⟨fun z => absurd z (by decide), fun _ => h1 ⟨e, by omega, ?_⟩⟩
          rw [hb, ho, Bool.and_eq_true]
          exact ⟨decide_eq_true c, beq_iff_eq.mpr z⟩
        · rw [if_neg c]
          refine ⟨fun _ => nxt ?_, fun z => absurd rfl z⟩
          rw [hb, decide_eq_false c, Bool.false_and]
  exact ⟨es.length + 1, key es.length 0 (by omega) (fun f hf => absurd hf (by omega))⟩
theorem j_where {es : List Ed} {cM nE rMd rE : Int32} {fX fY lX lY oP rAx rAy rBx rBy rO : Nat → Int32} (hst : (cM = 0 ∧ rMd = 0) ∨ (cM = 1 ∧ rMd = 1 ∧ nE = nI es.length ∧ rE = nI es.length ∧ RE fX fY lX lY es ∧ RO oP es ∧ RE rAx rAy rBx rBy es ∧ RW rO es)) (p0 p1 p2 p3 : Int32) : ∃ k v, k < 4 ∧ (∀ oL Q, ans k v Q → wp_L_where p0 p1 p2 p3 cM fX fY lX lY oP nE oL Q) ∧ ∀ rF Q, Q v (nI k) → wp_X5_where p0 p1 p2 p3 rF rMd rE rAx rAy rBx rBy rO Q := by
  have z1 : ¬ ((1 : Int32) = 0) := by decide
  have all : ∀ rF Q, (∀ z0, wp_X5_where_L50 p0 p1 p2 p3 rMd rE rAx rAy rBx rBy rO Q z0 rF) → wp_X5_where p0 p1 p2 p3 rF rMd rE rAx rAy rBx rBy rO Q := fun rF Q h => s_isP (fun _ => ⟨fun _ => h 0, fun _ => ⟨fun _ => h 0, fun _ => ⟨fun _ => h 0, fun _ => ⟨fun _ => h 0, fun _ => ⟨fun _ => h 0, fun _ => ⟨fun _ => h 0, fun _ => ⟨fun _ => h 0, fun _ => h 1⟩⟩⟩⟩⟩⟩⟩) (fun _ => ⟨fun _ => h 0, fun z => absurd rfl z⟩)
  rcases hst with ⟨rfl, rfl⟩ | ⟨rfl, rfl, rfl, rfl, hE, hO, hR, hW⟩
  · exact ⟨1, 0, by decide, fun oL Q h => ⟨fun z => absurd rfl z, fun _ => Or.inl ⟨rfl, h oL (fun z => absurd z (by decide))⟩⟩, fun rF Q h => all rF Q (fun z0 => ⟨fun z => absurd rfl z, fun _ => ⟨fun z => absurd z (by decide), fun _ => h⟩⟩)⟩
  · have hn := hE.1
    by_cases hv : (p0 = 0 ∨ p0 = 1) ∧ wtn p1 100000 ∧ wtn p2 100000 ∧ ¬ p3 < 1 ∧ p3 ≤ 1000
    · obtain ⟨v0, v1, v2, v3, v4⟩ := hv
      obtain ⟨n, hn2, e⟩ := pol v0
      have en := cl_nI (show n < 2 ^ 31 by omega)
      have b1 := wtn_R (M := 100000) (by decide) (by decide) v1
      have b2 := wtn_R (M := 100000) (by decide) (by decide) v2
      have hd3 : 0 < p3.toInt ∧ p3.toInt ≤ 1000 := by
        have a1 : (1 : Int32).toInt = 1 := by decide
        have a2 : (1000 : Int32).toInt = 1000 := by decide
        rw [Int32.lt_iff_toInt_lt, a1] at v3
        rw [Int32.le_iff_toInt_le, a2] at v4
        omega
      have b3 : R3 p3 p3.toInt 1000 := ⟨rfl, by omega⟩
      have rx : R6 p1.toInt64 p1.toInt (2 ^ 40) := b1.i2l.weak (by decide)
      have ry : R6 p2.toInt64 p2.toInt (2 ^ 40) := b2.i2l.weak (by decide)
      have rd : R6 p3.toInt64 p3.toInt (2 ^ 34) := b3.i2l.weak (by decide)
      have w4 : ∀ oL Q, wp_X0_through p1.toInt64 p2.toInt64 p3.toInt64 fX fY lX lY (nI es.length) (fun r82 => (((r82 &&& oP n) = 0 → (wp_X0_above p1.toInt64 p2.toInt64 p3.toInt64 fX fY lX lY (nI es.length) (fun r104 => (wp_J6_bitCount_0f7a4 (r104 &&& oP n) (fun r110 => (vp_in (0 : Int32) 1 ∧ ∀ y13 : Nat → Int64, y13 = vp_updL oL (0 : Int32).toNatClampNeg ((r110 &&& 1).toInt64) → Q 0 y13)))))) ∧ (¬ ((r82 &&& oP n) = 0) → (vp_in (0 : Int32) 1 ∧ ∀ y13 : Nat → Int64, y13 = vp_updL oL (0 : Int32).toNatClampNeg ((2 : Int32).toInt64) → Q 0 y13)))) → wp_L_where p0 p1 p2 p3 1 fX fY lX lY oP (nI es.length) oL Q := by
        intro oL Q h
        refine ⟨fun _ => s_needP (fun _ => s_wtn (fun _ => ⟨fun z => absurd z z1, fun _ => s_wtn (fun _ => ⟨fun _ => ⟨fun z => absurd z v3, fun _ => ⟨fun _ => ?_, fun z => absurd v4 z⟩⟩, fun z => absurd z z1⟩) (fun z => absurd v2 z)⟩) (fun z => absurd v1 z)) (fun z => absurd v0 z), fun z => absurd z z1⟩
        subst e
        rw [en]
        refine ⟨vin hn2 (by decide), fun x69 e69 => ?_⟩
        subst e69
        exact h
      have w5 : ∀ rF Q, (∃ n89, wp_X5_where_L89 p0 p1 p2 p3 1 (nI es.length) rAx rAy rBx rBy rO Q n89 0 0) → wp_X5_where p0 p1 p2 p3 rF 1 (nI es.length) rAx rAy rBx rBy rO Q := by
        intro rF Q h
        refine s_isP (fun _ => ⟨fun z => absurd z z1, fun _ => ⟨fun z => absurd z v1.1, fun _ => ⟨fun z => absurd z v1.2, fun _ => ⟨fun z => absurd z v2.1, fun _ => ⟨fun z => absurd z v2.2, fun _ => ⟨fun z => absurd z v3, fun _ => ⟨fun z => absurd v4 (Int32.not_le.mpr z), fun _ => ?_⟩⟩⟩⟩⟩⟩⟩) (fun z => absurd v0 z)
        exact ⟨fun _ => ⟨fun _ => ⟨fun _ => h, fun z => absurd (by decide) z⟩, fun z => absurd z z1⟩, fun z => absurd z z1⟩
      by_cases hon : ∃ e, e < es.length ∧ (onB es p1.toInt p2.toInt p3.toInt e && ownB es n e) = true
      · refine ⟨0, 2, by decide, fun oL Q h => w4 oL Q (s_through hE rx ry rd hd3.1 _ ?_), fun rF Q h => w5 rF Q ?_⟩
        · rw [hO n hn2, nI_mand, mk_nz hn]
          refine ⟨fun z => ?_, fun _ => ans_0 rfl h⟩
          obtain ⟨e', h1, h2⟩ := hon
          rw [z e' h1] at h2; cases h2
        · subst e
          refine s_rwhere hR hW hn2 rx ry rd _ (fun _ => h) (fun z => ?_)
          obtain ⟨e', h1, h2⟩ := hon
          rw [z e' h1] at h2; cases h2
      · have hoff : ∀ e, e < es.length → (onB es p1.toInt p2.toInt p3.toInt e && ownB es n e) = false := fun e he => Bool.eq_false_iff.mpr (fun z => hon ⟨e, he, z⟩)
        refine ⟨0, nI (ct (fun e => abB es p1.toInt p2.toInt p3.toInt e && ownB es n e) es.length % 2), by decide, fun oL Q h => w4 oL Q (s_through hE rx ry rd hd3.1 _ ?_), fun rF Q h => w5 rF Q ?_⟩
        · rw [hO n hn2, nI_mand, mk_nz hn]
          refine ⟨fun _ => s_above hE rx ry rd _ ?_, fun z => absurd hoff z⟩
          rw [nI_mand]
          refine s_bcm hn _ ?_
          have hc := ct_le (fun e => abB es p1.toInt p2.toInt p3.toInt e && ownB es n e) es.length
          rw [par_nI _ (by omega)]
          exact ans_0 rfl h
        · subst e
          exact s_rwhere hR hW hn2 rx ry rd _ (fun z => absurd z hon) (fun _ => h)
    · refine ⟨2, 0, by decide, fun oL Q h => ?_, fun rF Q h => ?_⟩
      · have hX : (fun E9 => (E9 = xIS ∧ Q 1 oL) ∨ (E9 = xIA ∧ Q 2 oL)) xIA := Or.inr ⟨rfl, h oL (fun z => absurd z (by decide))⟩
        exact ⟨fun _ => s_needP (fun y0 => s_wtn (fun y1 => ⟨fun z => absurd z z1, fun _ => s_wtn (fun y2 => ⟨fun _ => ⟨fun _ => hX, fun y3 => ⟨fun y4 => absurd ⟨y0, y1, y2, y3, y4⟩ hv, fun _ => hX⟩⟩, fun z => absurd z z1⟩) (fun _ => ⟨fun z => absurd rfl z, fun _ => hX⟩)⟩) (fun _ => ⟨fun _ => hX, fun z => absurd rfl z⟩)) (fun _ => hX), fun z => absurd z z1⟩
      · have no : wp_X5_where_L49 p0 p1 p2 p3 1 (nI es.length) rAx rAy rBx rBy rO Q rF := ⟨fun _ => ⟨fun z => absurd rfl z, fun _ => ⟨fun z => absurd z (by decide), fun _ => h⟩⟩, fun z => absurd z z1⟩
        exact s_isP (fun y0 => ⟨fun z => absurd z z1, fun _ => ⟨fun _ => no, fun a1 => ⟨fun _ => no, fun a2 => ⟨fun _ => no, fun a3 => ⟨fun _ => no, fun a4 => ⟨fun _ => no, fun a5 => ⟨fun _ => no, fun a6 => absurd ⟨y0, ⟨a1, a2⟩, ⟨a3, a4⟩, a5, Int32.not_lt.mp a6⟩ hv⟩⟩⟩⟩⟩⟩⟩) (fun _ => ⟨fun _ => no, fun z => absurd rfl z⟩)
