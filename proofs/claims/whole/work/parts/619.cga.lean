/-! the class gathers its points -/
theorem insL_len {n : Pt} : ∀ {l : List Pt}, l.length ≤ (insL n l).length
  | [] => by simp [insL]
  | p :: t => by
    unfold insL
    have := insL_len (n := n) (l := t)
    split
    · simp only [List.length_cons]; omega
    · split <;> simp only [List.length_cons] <;> omega
def mtF (es : List Ed) (q : Ed) (l : List Pt) : Nat → List Pt
  | 0 => l
  | n + 1 => match es[n]? with
    | some r => mtL q r (mtF es q l n)
    | none => mtF es q l n
def gaF (es : List Ed) : Nat → List Pt
  | 0 => []
  | n + 1 => match es[n]? with
    | some q => mtF es q (insL (q.2.2.1, q.2.2.2.1, 1) (insL (q.1, q.2.1, 1) (gaF es n))) n
    | none => gaF es n
def gaL (es : List Ed) : List Pt := gaF es es.length
theorem mtL_len {q r : Ed} {l : List Pt} : l.length ≤ (mtL q r l).length := by
  unfold mtL; split
  · exact insL_len
  · exact Nat.le_refl _
theorem mtF_len1 {es : List Ed} {q : Ed} {l : List Pt} {n : Nat} : (mtF es q l n).length ≤ (mtF es q l (n + 1)).length := by
  rw [mtF]
  cases es[n]? with
  | none => exact Nat.le_refl _
  | some r => exact mtL_len
theorem mtF_len {es : List Ed} {q : Ed} {l : List Pt} {n : Nat} : ∀ {m : Nat}, (mtF es q l n).length ≤ (mtF es q l (n + m)).length
  | 0 => Nat.le_refl _
  | m + 1 => Nat.le_trans (mtF_len (m := m)) mtF_len1
theorem mtF_at {es : List Ed} {q r : Ed} {l : List Pt} {n : Nat} (h : es[n]? = some r) : mtF es q l (n + 1) = mtL q r (mtF es q l n) := by rw [mtF, h]
theorem gaF_at {es : List Ed} {q : Ed} {n : Nat} (h : es[n]? = some q) : gaF es (n + 1) = mtF es q (insL (q.2.2.1, q.2.2.2.1, 1) (insL (q.1, q.2.1, 1) (gaF es n))) n := by rw [gaF, h]
theorem gaF_len1 {es : List Ed} {n : Nat} : (gaF es n).length ≤ (gaF es (n + 1)).length := by
  cases h : es[n]? with
  | none => rw [gaF, h]; exact Nat.le_refl _
  | some q =>
    rw [gaF_at h]
    have h1 := mtF_len (es := es) (q := q) (l := insL (q.2.2.1, q.2.2.2.1, 1) (insL (q.1, q.2.1, 1) (gaF es n))) (n := 0) (m := n)
    rw [Nat.zero_add] at h1
    exact Nat.le_trans (Nat.le_trans insL_len insL_len) h1
theorem gaF_len {es : List Ed} {n : Nat} : ∀ {m : Nat}, (gaF es n).length ≤ (gaF es (n + m)).length
  | 0 => Nat.le_refl _
  | m + 1 => Nat.le_trans (gaF_len (m := m)) gaF_len1
theorem s_gather {fX fY lX lY : Nat → Int32} {es : List Ed} (hE : RE fX fY lX lY es) (h78 : (gaL es).length ≤ 78) {x y d o : Nat → Int32} {nP : Int32} (Q : (Nat → Int32) → (Nat → Int32) → (Nat → Int32) → (Nat → Int32) → Int32 → Prop)
    (h : ∀ x' y' d' o', RP x' y' d' (gaL es) → (∀ k p, (gaL es)[k]? = some p → o' k = nI (mk (onB es p.1 p.2.1 p.2.2) es.length)) → Q x' y' d' o' (nI (gaL es).length)) : wp_X3_gather x y d o nP fX fY lX lY (nI es.length) Q := by
  have hl := hE.1
  have tail : ∀ x' y' d' o', RP x' y' d' (gaL es) → wp_X3_gather_L75 fX fY lX lY (nI es.length) Q x' y' d' o' (nI (gaL es).length) := by
    intro x' y' d' o' hR
    have key : ∀ m k o', k + m = (gaL es).length → (∀ j p, j < k → (gaL es)[j]? = some p → o' j = nI (mk (onB es p.1 p.2.1 p.2.2) es.length)) → wp_X3_gather_L77 fX fY lX lY (nI es.length) Q (m + 1) (nI k) x' y' d' o' (nI (gaL es).length) := by
      intro m
      induction m with
      | zero =>
        intro k o' hk ho
        rw [wp_X3_gather_L77]
        refine ⟨fun _ => h _ _ _ _ hR (fun j p hj => ho j p (by have := lgl hj; omega) hj), fun z => absurd (nI_le (by omega) (by omega)) z⟩
      | succ m ih =>
        intro k o' hk ho
        obtain ⟨p, hp⟩ := lg (show k < (gaL es).length by omega)
        have hv := vin (hR.lt hp) (show 78 < 2 ^ 31 by decide)
        obtain ⟨p1, p2, p3⟩ := hR.r hp
        rw [wp_X3_gather_L77]
        refine ⟨fun z => absurd z (nI_ge (by omega) (by omega)), fun _ => ⟨hv, hv, hv, ?_⟩⟩
        rw [cl_nI (show k < 2 ^ 31 by omega)]
        refine s_through hE (p1.i2l.weak (by decide)) (p2.i2l.weak (by decide)) (p3.i2l.weak (by decide)) (hR.red hp).1 _ ⟨hv, fun y115 e115 => ?_⟩
        rw [nI_1]
        refine ih (k + 1) y115 (by omega) (fun j q hj hq => ?_)
        rw [e115]
        by_cases e : j = k
        · subst e; rw [pk_us]; rw [hp] at hq; injection hq with hq; rw [hq]
        · rw [pk_un e]; exact ho j q (by omega) hq
    exact ⟨(gaL es).length + 1, key _ 0 o' (by omega) (fun j p hj => absurd hj (by omega))⟩
  have key : ∀ m n x' y' d' o', n + m = es.length → RP x' y' d' (gaF es n) → wp_X3_gather_L7 fX fY lX lY (nI es.length) Q (fun pX pY pD pO nP => (wp_X3_gather_L75 fX fY lX lY (nI es.length) Q pX pY pD pO nP)) (m + 1) (nI n) x' y' d' o' (nI (gaF es n).length) := by
    intro m
    induction m with
    | zero =>
      intro n x' y' d' o' hn hR
      rw [wp_X3_gather_L7]
      refine ⟨fun _ => ?_, fun z => absurd (nI_le (by omega) (by omega)) z⟩
      have e : n = es.length := by omega
      subst e
      exact tail _ _ _ _ hR
    | succ m ih =>
      intro n x' y' d' o' hn hR
      obtain ⟨q, hq⟩ := lg (show n < es.length by omega)
      have hv := vin (hE.lt hq) (show 12 < 2 ^ 31 by decide)
      obtain ⟨a1, a2, a3, a4⟩ := hE.r hq
      have hlast : (gaF es (n + 1)).length ≤ 78 := by
        have := gaF_len (es := es) (n := n + 1) (m := m)
        rw [show n + 1 + m = es.length by omega] at this
        exact Nat.le_trans this h78
      have hfin := gaF_at hq
      rw [hfin] at hlast
      have hin : ∀ k, k ≤ n → (mtF es q (insL (q.2.2.1, q.2.2.2.1, 1) (insL (q.1, q.2.1, 1) (gaF es n))) k).length ≤ 78 := by
        intro k hk
        have := mtF_len (es := es) (q := q) (l := insL (q.2.2.1, q.2.2.2.1, 1) (insL (q.1, q.2.1, 1) (gaF es n))) (n := k) (m := n - k)
        rw [show k + (n - k) = n by omega] at this
        omega
      rw [wp_X3_gather_L7]
      refine ⟨fun z => absurd z (nI_ge (by omega) (by omega)), fun _ => ⟨hv, hv, ?_⟩⟩
      rw [cl_nI (show n < 2 ^ 31 by omega)]
      refine s_insert (n := (q.1, q.2.1, 1)) hR ⟨a1.weak (by decide), a2.weak (by decide), R3_1.weak (by decide)⟩ (red_one _ _) (Nat.le_trans insL_len (hin 0 (by omega))) _ (fun x1 y1 d1 hR1 => ⟨hv, hv, ?_⟩)
      refine s_insert (n := (q.2.2.1, q.2.2.2.1, 1)) hR1 ⟨a3.weak (by decide), a4.weak (by decide), R3_1.weak (by decide)⟩ (red_one _ _) (hin 0 (by omega)) _ (fun x2 y2 d2 hR2 => ?_)
      have inner : ∀ m2 k x' y' d', k + m2 = n → RP x' y' d' (mtF es q (insL (q.2.2.1, q.2.2.2.1, 1) (insL (q.1, q.2.1, 1) (gaF es n))) k) → wp_X3_gather_L51 fX fY lX lY (nI es.length) Q (fun v2 pX pY pD pO nP => (wp_X3_gather_L69 fX fY lX lY (nI es.length) Q (wp_X3_gather_L7 fX fY lX lY (nI es.length) Q (fun pX pY pD pO nP => (wp_X3_gather_L75 fX fY lX lY (nI es.length) Q pX pY pD pO nP)) (m + 1)) v2 pX pY pD pO nP)) (m2 + 1) (nI n) (nI k) x' y' d' o' (nI (mtF es q (insL (q.2.2.1, q.2.2.2.1, 1) (insL (q.1, q.2.1, 1) (gaF es n))) k).length) := by
        intro m2
        induction m2 with
        | zero =>
          intro k x' y' d' hk hR3
          rw [wp_X3_gather_L51]
          refine ⟨fun _ => ?_, fun z => absurd (nI_le (by omega) (by omega)) z⟩
          show wp_X3_gather_L7 _ _ _ _ _ _ _ _ (nI n + 1) _ _ _ _ _
          have e : k = n := by omega
          subst e
          rw [nI_1]
          rw [← hfin] at hR3 ⊢
          exact ih (k + 1) _ _ _ _ (by omega) hR3
        | succ m2 ih2 =>
          intro k x' y' d' hk hR3
          obtain ⟨r, hr⟩ := lg (show k < es.length by omega)
          rw [wp_X3_gather_L51]
          refine ⟨fun z => absurd z (nI_ge (by omega) (by omega)), fun _ => s_addMeeting hE hq hr hR3 (by rw [← mtF_at hr]; exact hin (k + 1) (by omega)) _ (fun x3 y3 d3 hR4 => ?_)⟩
          rw [nI_1]
          rw [← mtF_at hr] at hR4 ⊢
          exact ih2 (k + 1) _ _ _ (by omega) hR4
      exact ⟨n + 1, inner n 0 _ _ _ (by omega) hR2⟩
  exact ⟨es.length + 1, key es.length 0 _ _ _ _ (by omega) ⟨Nat.zero_le _, ⟨List.Pairwise.nil, fun p hp => absurd hp List.not_mem_nil⟩, fun p hp => absurd hp List.not_mem_nil, fun j p hj => by simp [gaF] at hj⟩⟩
