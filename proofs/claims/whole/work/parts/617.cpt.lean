/-! the class's row of points -/
def PtB (p : Pt) : Prop := p.1.natAbs ≤ 2 ^ 20 ∧ p.2.1.natAbs ≤ 2 ^ 20 ∧ p.2.2.natAbs ≤ 2 ^ 13
def RP (x y d : Nat → Int32) (l : List Pt) : Prop := l.length ≤ 78 ∧ srt l ∧ (∀ p ∈ l, PtB p) ∧ ∀ j p, l[j]? = some p → (x j).toInt = p.1 ∧ (y j).toInt = p.2.1 ∧ (d j).toInt = p.2.2
/-- a point given by three ints -/
def RN (a b c : Int32) (n : Pt) : Prop := R3 a n.1 (2 ^ 20) ∧ R3 b n.2.1 (2 ^ 20) ∧ R3 c n.2.2 (2 ^ 13)
theorem RN.B {a b c : Int32} {n : Pt} (h : RN a b c n) : PtB n := ⟨h.1.2, h.2.1.2, h.2.2.2⟩
theorem RP.lt {x y d : Nat → Int32} {l : List Pt} (h : RP x y d l) {j : Nat} {p : Pt} (hj : l[j]? = some p) : j < 78 := Nat.lt_of_lt_of_le (List.getElem?_eq_some_iff.mp hj).1 h.1
theorem RP.r {x y d : Nat → Int32} {l : List Pt} (h : RP x y d l) {j : Nat} {p : Pt} (hj : l[j]? = some p) : RN (x j) (y j) (d j) p := by
  obtain ⟨h1, h2, h3⟩ := h.2.2.2 j p hj
  obtain ⟨k1, k2, k3⟩ := h.2.2.1 p (List.mem_of_getElem? hj)
  exact ⟨⟨h1, k1⟩, ⟨h2, k2⟩, ⟨h3, k3⟩⟩
theorem RP.red {x y d : Nat → Int32} {l : List Pt} (h : RP x y d l) {j : Nat} {p : Pt} (hj : l[j]? = some p) : red p := h.2.1.2 p (List.mem_of_getElem? hj)
theorem lg {α : Type} {l : List α} {j : Nat} (h : j < l.length) : ∃ p, l[j]? = some p := ⟨_, List.getElem?_eq_getElem h⟩
theorem lgl {α : Type} {l : List α} {j : Nat} {p : α} (h : l[j]? = some p) : j < l.length := (List.getElem?_eq_some_iff.mp h).1
theorem s_isBefore {x y d : Nat → Int32} {l : List Pt} (hR : RP x y d l) {j : Nat} {p : Pt} (hj : l[j]? = some p) {a b c : Int32} {n : Pt} (hn : RN a b c n) (Q : Int32 → Prop) (h : Q (if plt p n then 1 else 0)) : wp_X3_isBefore (nI j) a b c x y d Q := by
  obtain ⟨h1, h2, h3⟩ := hR.r hj
  obtain ⟨ha, hb, hc⟩ := hn
  have hl := hR.lt hj
  have hv := vin hl (show 78 < 2 ^ 31 by decide)
  have m1 := h1.i2l.mul hc.i2l (by decide)
  have o1 := ha.i2l.mul h3.i2l (by decide)
  have m2 := h2.i2l.mul hc.i2l (by decide)
  have o2 := hb.i2l.mul h3.i2l (by decide)
  unfold wp_X3_isBefore
  rw [cl_nI (show j < 2 ^ 31 by omega)]
  refine ⟨hv, fun x11 e11 => ⟨hv, fun x23 e23 => ?_⟩⟩
  subst e11 e23
  have n0 : ¬ plt p n → Q 0 := fun z => by rw [if_neg z] at h; exact h
  have n1 : plt p n → Q 1 := fun z => by rw [if_pos z] at h; exact h
  refine ⟨fun c1 => ⟨hv, hv, fun c2 => ⟨nb0, n0 ?_⟩, fun c2 => ⟨nb1, n1 ?_⟩⟩, fun c1 => ⟨fun c2 => ⟨nb0, n0 ?_⟩, fun c2 => ⟨nb1, n1 ?_⟩⟩⟩
  all_goals rw [m1.eq o1] at c1
  · rw [o2.le m2] at c2; unfold plt lxlt; omega
  · rw [o2.le m2] at c2; unfold plt lxlt; omega
  · rw [o1.le m1] at c2; unfold plt lxlt; omega
  · rw [o1.le m1] at c2; unfold plt lxlt; omega
theorem s_isSame {x y d : Nat → Int32} {l : List Pt} (hR : RP x y d l) {j : Nat} {p : Pt} (hj : l[j]? = some p) {a b c : Int32} {n : Pt} (hn : RN a b c n) (Q : Int32 → Prop) (h : Q (if p = n then 1 else 0)) : wp_X3_isSame (nI j) a b c x y d Q := by
  obtain ⟨h1, h2, h3⟩ := hR.r hj
  obtain ⟨ha, hb, hc⟩ := hn
  have hl := hR.lt hj
  have hv := vin hl (show 78 < 2 ^ 31 by decide)
  unfold wp_X3_isSame
  rw [cl_nI (show j < 2 ^ 31 by omega), h1.eq ha, h2.eq hb, h3.eq hc]
  have n0 : ¬ p = n → Q 0 := fun z => by rw [if_neg z] at h; exact h
  have n1 : p = n → Q 1 := fun z => by rw [if_pos z] at h; exact h
  refine ⟨hv, fun c => ⟨nb0, n0 (fun z => c (by rw [z]))⟩, fun c1 => ⟨hv, fun c => ⟨nb0, n0 (fun z => c (by rw [z]))⟩, fun c2 => ⟨hv, fun c => ⟨nb0, n0 (fun z => c (by rw [z]))⟩, fun c3 => ⟨nb1, n1 ?_⟩⟩⟩⟩
  obtain ⟨p1, p2, p3⟩ := p
  obtain ⟨q1, q2, q3⟩ := n
  dsimp only at c1 c2 c3
  rw [c1, c2, c3]
/-! rows moved up by one -/
def shf (x0 x : Nat → Int32) (k len : Nat) : Prop := (∀ j, j < k → x j = x0 j) ∧ ∀ j, k < j → j ≤ len → x j = x0 (j - 1)
theorem shf0 {x : Nat → Int32} {len : Nat} : shf x x len len := ⟨fun _ _ => rfl, fun j h1 h2 => absurd h1 (by omega)⟩
theorem shf_step {x0 x : Nat → Int32} {k len : Nat} (h : shf x0 x (k + 1) len) : shf x0 (upd x (k + 1) (x k)) k len := by
  refine ⟨fun j hj => ?_, fun j h1 h2 => ?_⟩
  · rw [pk_un (by omega)]; exact h.1 j (by omega)
  · by_cases e : j = k + 1
    · subst e; rw [pk_us]; exact h.1 k (by omega)
    · rw [pk_un e]; exact h.2 j (by omega) h2
theorem shf_end {x0 x : Nat → Int32} {k len : Nat} {v : Int32} (h : shf x0 x k len) : (∀ j, j < k → upd x k v j = x0 j) ∧ upd x k v k = v ∧ ∀ j, k < j → j ≤ len → upd x k v j = x0 (j - 1) :=
  ⟨fun j hj => by rw [pk_un (by omega)]; exact h.1 j hj, pk_us, fun j h1 h2 => by rw [pk_un (by omega)]; exact h.2 j h1 h2⟩
/-- after the shift the rows hold the longer row -/
theorem RP_ins {x y d x' y' d' : Nat → Int32} {l : List Pt} {k : Nat} {n : Pt} {a b c : Int32} (hR : RP x y d l) (hn : RN a b c n) (hk : k ≤ l.length) (hs : srt (l.take k ++ n :: l.drop k)) (h78 : l.length + 1 ≤ 78) (hx : shf x x' k l.length) (hy : shf y y' k l.length) (hd : shf d d' k l.length) : RP (upd x' k a) (upd y' k b) (upd d' k c) (l.take k ++ n :: l.drop k) := by
  refine ⟨by rw [ins_len hk]; exact h78, hs, fun p hp => ?_, fun j p hj => ?_⟩
  · rw [List.mem_append, List.mem_cons] at hp
    rcases hp with hp | rfl | hp
    · exact hR.2.2.1 p (List.mem_of_mem_take hp)
    · exact hn.B
    · exact hR.2.2.1 p (List.mem_of_mem_drop hp)
  · obtain ⟨x1, x2, x3⟩ := shf_end (v := a) hx
    obtain ⟨y1, y2, y3⟩ := shf_end (v := b) hy
    obtain ⟨d1, d2, d3⟩ := shf_end (v := c) hd
    rw [ins_get hk] at hj
    by_cases c1 : j < k
    · rw [if_pos c1] at hj
      rw [x1 j c1, y1 j c1, d1 j c1]; exact hR.2.2.2 j p hj
    · rw [if_neg c1] at hj
      by_cases c2 : j = k
      · rw [if_pos c2] at hj
        injection hj with hj
        subst hj; subst c2
        rw [x2, y2, d2]
        exact ⟨hn.1.1, hn.2.1.1, hn.2.2.1⟩
      · rw [if_neg c2] at hj
        have := lgl hj
        rw [x3 j (by omega) (by omega), y3 j (by omega) (by omega), d3 j (by omega) (by omega)]
        exact hR.2.2.2 (j - 1) p hj
theorem s_insert {x y d : Nat → Int32} {l : List Pt} (hR : RP x y d l) {a b c : Int32} {n : Pt} (hn : RN a b c n) (hr : red n) (h78 : (insL n l).length ≤ 78) (Q : (Nat → Int32) → (Nat → Int32) → (Nat → Int32) → Int32 → Prop) (h : ∀ x' y' d', RP x' y' d' (insL n l) → Q x' y' d' (nI (insL n l).length)) : wp_X3_insert a b c x y d (nI l.length) Q := by
  have hl := hR.1
  have shift : ∀ k, k ≤ l.length → (insL n l = l.take k ++ n :: l.drop k) → wp_X3_insert_L61 a b c Q (nI k) x y d (nI l.length) := by
    intro k hk he
    have hs := insL_srt hr hR.2.1
    rw [he] at hs h h78
    rw [ins_len hk] at h h78
    have key : ∀ m x' y' d', k + m ≤ l.length → shf x x' (k + m) l.length → shf y y' (k + m) l.length → shf d d' (k + m) l.length → wp_X3_insert_L67 a b c Q (m + 1) (nI k) (nI (k + m)) x' y' d' (nI l.length) := by
      intro m
      induction m with
      | zero =>
        intro x' y' d' _ hx hy hd
        rw [wp_X3_insert_L67]
        refine ⟨fun _ => ?_, fun z => absurd (nI_le (Nat.le_refl _) (by omega)) z⟩
        have hv := vin (show k < 78 by omega) (show 78 < 2 ^ 31 by decide)
        rw [cl_nI (show k < 2 ^ 31 by omega)]
        refine ⟨hv, fun y1 e1 => ⟨hv, fun y2 e2 => ⟨hv, fun y3 e3 => fun x4 e4 => ?_⟩⟩⟩
        subst e1 e2 e3 e4
        rw [nI_1]
        exact h _ _ _ (RP_ins hR hn hk hs h78 hx hy hd)
      | succ m ih =>
        intro x' y' d' hm hx hy hd
        rw [wp_X3_insert_L67]
        refine ⟨fun z => absurd z (nI_ge (by omega) (by omega)), fun _ => ?_⟩
        rw [show k + (m + 1) = (k + m) + 1 by omega, nI_pred, pk_m1, cl_nI (show k + m + 1 < 2 ^ 31 by omega), cl_nI (show k + m < 2 ^ 31 by omega)]
        have hv := vin (show k + m + 1 < 78 by omega) (show 78 < 2 ^ 31 by decide)
        have hv' := vin (show k + m < 78 by omega) (show 78 < 2 ^ 31 by decide)
        refine ⟨hv', hv, fun y1 e1 => ⟨hv', hv, fun y2 e2 => ⟨hv', hv, fun y3 e3 => ?_⟩⟩⟩
        subst e1 e2 e3
        exact ih _ _ _ (by omega) (shf_step hx) (shf_step hy) (shf_step hd)
    obtain ⟨m, hm⟩ : ∃ m, l.length = k + m := ⟨l.length - k, by omega⟩
    refine ⟨m + 1, ?_⟩
    have := key m x y d (by omega) (hm ▸ shf0) (hm ▸ shf0) (hm ▸ shf0)
    rw [← hm] at this
    exact this
  have stop : ∀ k, k ≤ l.length → (∀ j p, j < k → l[j]? = some p → plt p n) → (∀ p, l[k]? = some p → ¬ plt p n) → wp_X3_insert_L30 a b c Q (nI k) x y d (nI l.length) := by
    intro k hk h1 h2
    have hi := insL_at hk h1 h2
    have same : insL n l = l → wp_X3_insert_L60 a b c Q x y d (nI l.length) := fun z => by
      rw [z] at h
      exact h x y d hR
    unfold wp_X3_insert_L30
    refine ⟨fun z => same ?_, fun z => ⟨fun z2 => shift k hk ?_, fun z2 => ?_⟩⟩
    · rw [show (78 : Int32) = nI 78 by decide, ble_nI (by decide) (by omega)] at z
      by_cases c1 : l[k]? = some n
      · rw [if_pos c1] at hi; exact hi
      · rw [if_neg c1] at hi; rw [hi, ins_len hk] at h78; omega
    · rw [ble_nI (by omega) (by omega)] at z2
      rw [hi, if_neg]
      rw [List.getElem?_eq_none (by omega)]; simp
    · rw [ble_nI (by omega) (by omega)] at z2
      obtain ⟨p, hp⟩ := lg (show k < l.length by omega)
      refine s_isSame hR hp hn _ ?_
      by_cases c1 : p = n
      · rw [if_pos c1]
        refine ⟨fun z => absurd z (by decide), fun _ => same ?_⟩
        rw [hi, if_pos (by rw [hp, c1])]
      · rw [if_neg c1]
        refine ⟨fun _ => shift k hk ?_, fun z => absurd rfl z⟩
        rw [hi, if_neg]
        rw [hp]; simpa using c1
  have key : ∀ m k, k + m = l.length → (∀ j p, j < k → l[j]? = some p → plt p n) → wp_X3_insert_L3 a b c Q (fun v4 pX pY pD nP => (wp_X3_insert_L30 a b c Q v4 pX pY pD nP)) (m + 1) (nI k) x y d (nI l.length) := by
    intro m
    induction m with
    | zero =>
      intro k hk h1
      rw [wp_X3_insert_L3]
      refine ⟨fun _ => stop k (by omega) h1 ?_, fun z => absurd (nI_le (by omega) (by omega)) z⟩
      intro p hp
      have := lgl hp
      omega
    | succ m ih =>
      intro k hk h1
      rw [wp_X3_insert_L3]
      refine ⟨fun z => absurd z (nI_ge (by omega) (by omega)), fun _ => ?_⟩
      obtain ⟨p, hp⟩ := lg (show k < l.length by omega)
      refine s_isBefore hR hp hn _ ?_
      by_cases c1 : plt p n
      · rw [if_pos c1]
        refine ⟨fun z => absurd z (by decide), fun _ => ?_⟩
        rw [nI_1]
        refine ih (k + 1) (by omega) (fun j q hj hq => ?_)
        by_cases e : j = k
        · subst e; rw [hp] at hq; injection hq with hq; exact hq ▸ c1
        · exact h1 j q (by omega) hq
      · rw [if_neg c1]
        refine ⟨fun _ => stop k (by omega) h1 (fun q hq => ?_), fun z => absurd rfl z⟩
        rw [hp] at hq; injection hq with hq; exact hq ▸ c1
  exact ⟨l.length + 1, by have := key l.length 0 (by omega) (fun j p hj => absurd hj (by omega)); exact this⟩
