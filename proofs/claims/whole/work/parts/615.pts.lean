/-! fractions, their order; points in lowest terms; sorted rows of points -/
theorem fr_le {x d y e z f : Int} (hd : 0 < d) (he : 0 < e) (hf : 0 < f) (h1 : x * e ≤ y * d) (h2 : y * f ≤ z * e) : x * f ≤ z * d := by
  have a := Int.mul_le_mul_of_nonneg_left h1 (Int.le_of_lt hf)
  have b := Int.mul_le_mul_of_nonneg_left h2 (Int.le_of_lt hd)
  rw [← pm_le he]
  have e1 : f * (x * e) = e * (x * f) := by grind
  have e2 : f * (y * d) = d * (y * f) := by grind
  have e3 : d * (z * e) = e * (z * d) := by grind
  omega
theorem fr_ltle {x d y e z f : Int} (hd : 0 < d) (he : 0 < e) (hf : 0 < f) (h1 : x * e < y * d) (h2 : y * f ≤ z * e) : x * f < z * d := by
  have a := Int.mul_lt_mul_of_pos_left h1 hf
  have b := Int.mul_le_mul_of_nonneg_left h2 (Int.le_of_lt hd)
  rw [← pm_lt he]
  have e1 : f * (x * e) = e * (x * f) := by grind
  have e2 : f * (y * d) = d * (y * f) := by grind
  have e3 : d * (z * e) = e * (z * d) := by grind
  omega
theorem fr_lelt {x d y e z f : Int} (hd : 0 < d) (he : 0 < e) (hf : 0 < f) (h1 : x * e ≤ y * d) (h2 : y * f < z * e) : x * f < z * d := by
  have a := Int.mul_le_mul_of_nonneg_left h1 (Int.le_of_lt hf)
  have b := Int.mul_lt_mul_of_pos_left h2 hd
  rw [← pm_lt he]
  have e1 : f * (x * e) = e * (x * f) := by grind
  have e2 : f * (y * d) = d * (y * f) := by grind
  have e3 : d * (z * e) = e * (z * d) := by grind
  omega
theorem fr_eq {x d y e z f : Int} (hd : 0 < d) (he : 0 < e) (hf : 0 < f) (h1 : x * e = y * d) (h2 : y * f = z * e) : x * f = z * d :=
  Int.le_antisymm (fr_le (y := y) hd he hf (by omega) (by omega)) (fr_le (y := y) hf he hd (by omega) (by omega))
abbrev Pt : Type := Int × Int × Int
abbrev plt (p q : Pt) : Prop := lxlt p.1 p.2.1 p.2.2 q.1 q.2.1 q.2.2
abbrev ple (p q : Pt) : Prop := lxle p.1 p.2.1 p.2.2 q.1 q.2.1 q.2.2
abbrev peq (p q : Pt) : Prop := eqv p.1 p.2.1 p.2.2 q.1 q.2.1 q.2.2
theorem plt_le {p q r : Pt} (hp : 0 < p.2.2) (hq : 0 < q.2.2) (hr : 0 < r.2.2) (h1 : plt p q) (h2 : ple q r) : plt p r := by
  rcases h1 with h1 | ⟨h1, h1'⟩ <;> rcases h2 with h2 | ⟨h2, h2'⟩
  · exact Or.inl (fr_ltle hp hq hr h1 (by omega))
  · exact Or.inl (fr_ltle hp hq hr h1 (by omega))
  · exact Or.inl (fr_lelt hp hq hr (by omega) h2)
  · exact Or.inr ⟨fr_eq hp hq hr h1 h2, fr_ltle hp hq hr h1' h2'⟩
theorem ple_lt {p q r : Pt} (hp : 0 < p.2.2) (hq : 0 < q.2.2) (hr : 0 < r.2.2) (h1 : ple p q) (h2 : plt q r) : plt p r := by
  rcases h1 with h1 | ⟨h1, h1'⟩ <;> rcases h2 with h2 | ⟨h2, h2'⟩
  · exact Or.inl (fr_ltle hp hq hr h1 (by omega))
  · exact Or.inl (fr_ltle hp hq hr h1 (by omega))
  · exact Or.inl (fr_lelt hp hq hr (by omega) h2)
  · exact Or.inr ⟨fr_eq hp hq hr h1 h2, fr_lelt hp hq hr h1' h2'⟩
theorem ple_tr {p q r : Pt} (hp : 0 < p.2.2) (hq : 0 < q.2.2) (hr : 0 < r.2.2) (h1 : ple p q) (h2 : ple q r) : ple p r := by
  rcases h1 with h1 | ⟨h1, h1'⟩ <;> rcases h2 with h2 | ⟨h2, h2'⟩
  · exact Or.inl (fr_ltle hp hq hr h1 (by omega))
  · exact Or.inl (fr_ltle hp hq hr h1 (by omega))
  · exact Or.inl (fr_lelt hp hq hr (by omega) h2)
  · exact Or.inr ⟨fr_eq hp hq hr h1 h2, fr_le hp hq hr h1' h2'⟩
theorem plt_ple {p q : Pt} (h : plt p q) : ple p q := by rcases h with h | ⟨h, h'⟩; exact Or.inl h; exact Or.inr ⟨h, Int.le_of_lt h'⟩
theorem plt_tr {p q r : Pt} (hp : 0 < p.2.2) (hq : 0 < q.2.2) (hr : 0 < r.2.2) (h1 : plt p q) (h2 : plt q r) : plt p r := plt_le hp hq hr h1 (plt_ple h2)
theorem peq_ple {p q : Pt} (h : peq p q) : ple p q := Or.inr ⟨h.1, by have := h.2; omega⟩
theorem peq_sym {p q : Pt} (h : peq p q) : peq q p := ⟨h.1.symm, h.2.symm⟩
theorem peq_tr {p q r : Pt} (hp : 0 < p.2.2) (hq : 0 < q.2.2) (hr : 0 < r.2.2) (h1 : peq p q) (h2 : peq q r) : peq p r := ⟨fr_eq hp hq hr h1.1 h2.1, fr_eq hp hq hr h1.2 h2.2⟩
theorem p_tri (p q : Pt) : plt p q ∨ peq p q ∨ plt q p := by
  unfold plt peq lxlt eqv
  omega
theorem plt_irr {p : Pt} : ¬ plt p p := by unfold plt lxlt; omega
theorem nplt {p q : Pt} : ¬ plt p q ↔ ple q p := by unfold plt ple lxlt lxle; omega
theorem nple {p q : Pt} : ¬ ple p q ↔ plt q p := by unfold plt ple lxlt lxle; omega
theorem ple_anti {p q : Pt} (h1 : ple p q) (h2 : ple q p) : peq p q := by unfold ple lxle at *; unfold peq eqv; omega
/-- in lowest terms -/
def red (p : Pt) : Prop := 0 < p.2.2 ∧ Int.gcd (Int.gcd p.1 p.2.1) p.2.2 = 1
theorem red_dv {p q : Pt} (hp : red p) (h : peq p q) : p.2.2 ∣ q.2.2 := by
  obtain ⟨x, y, d⟩ := p
  obtain ⟨z, w, e⟩ := q
  obtain ⟨hd, hg⟩ := hp
  obtain ⟨h1, h2⟩ := h
  dsimp only at *
  have k1 : d ∣ x * e := ⟨z, by rw [h1, Int.mul_comm]⟩
  have k2 : d ∣ y * e := ⟨w, by rw [h2, Int.mul_comm]⟩
  have k3 : d ∣ (Int.gcd (x * e) (y * e) : Int) := Int.dvd_coe_gcd k1 k2
  rw [Int.gcd_mul_right] at k3
  have k4 : d ∣ (Int.gcd x y : Int) * e := by
    rw [Int.natCast_mul] at k3
    rcases Int.natAbs_eq e with he | he
    · rw [← he] at k3; exact k3
    · have : (e.natAbs : Int) = -e := by omega
      rw [this, Int.mul_neg] at k3
      exact (Int.dvd_neg).mp k3
  have k5 : d ∣ (Int.gcd ((Int.gcd x y : Int) * e) (d * e) : Int) := Int.dvd_coe_gcd k4 ⟨e, rfl⟩
  rw [Int.gcd_mul_right, hg, Nat.one_mul] at k5
  exact Int.dvd_natAbs.mp k5
theorem red_eq {p q : Pt} (hp : red p) (hq : red q) (h : peq p q) : p = q := by
  have h1 := red_dv hp h
  have h2 := red_dv hq (peq_sym h)
  have hde : p.2.2 = q.2.2 := Int.le_antisymm (Int.le_of_dvd hq.1 h1) (Int.le_of_dvd hp.1 h2)
  obtain ⟨x, y, d⟩ := p
  obtain ⟨z, w, e⟩ := q
  obtain ⟨e1, e2⟩ := h
  dsimp only at *
  subst hde
  have hd : d ≠ 0 := by have := hp.1; dsimp only at this; omega
  rw [Int.mul_comm x, Int.mul_comm z] at e1
  rw [Int.mul_comm y, Int.mul_comm w] at e2
  rw [(pm_eq hd).mp e1, (pm_eq hd).mp e2]
/-- brought to lowest terms -/
def gof (X Y D : Int) : Nat := Int.gcd (Int.gcd X Y) D
def rdc (X Y D : Int) : Pt := (X.tdiv (gof X Y D), Y.tdiv (gof X Y D), D.tdiv (gof X Y D))
theorem gof_pos {X Y D : Int} (h : 0 < D) : 0 < gof X Y D := Int.gcd_pos_of_ne_zero_right _ (by omega)
theorem gof_dvd (X Y D : Int) : (gof X Y D : Int) ∣ X ∧ (gof X Y D : Int) ∣ Y ∧ (gof X Y D : Int) ∣ D := by
  have h1 : (gof X Y D : Int) ∣ (Int.gcd X Y : Int) := Int.gcd_dvd_left _ _
  exact ⟨Int.dvd_trans h1 (Int.gcd_dvd_left _ _), Int.dvd_trans h1 (Int.gcd_dvd_right _ _), Int.gcd_dvd_right _ _⟩
theorem rdc_mul {X Y D : Int} : (rdc X Y D).1 * gof X Y D = X ∧ (rdc X Y D).2.1 * gof X Y D = Y ∧ (rdc X Y D).2.2 * gof X Y D = D :=
  ⟨Int.tdiv_mul_cancel (gof_dvd X Y D).1, Int.tdiv_mul_cancel (gof_dvd X Y D).2.1, Int.tdiv_mul_cancel (gof_dvd X Y D).2.2⟩
theorem rdc_red {X Y D : Int} (h : 0 < D) : red (rdc X Y D) := by
  have hg := gof_pos (X := X) (Y := Y) h
  obtain ⟨m1, m2, m3⟩ := rdc_mul (X := X) (Y := Y) (D := D)
  have hg' : (0 : Int) < gof X Y D := by omega
  constructor
  · rw [← pm_po hg', Int.mul_comm, m3]; exact h
  · have e : gof X Y D = Int.gcd (Int.gcd (rdc X Y D).1 (rdc X Y D).2.1) (rdc X Y D).2.2 * gof X Y D := by
      have h1 : Int.gcd X Y = Int.gcd (rdc X Y D).1 (rdc X Y D).2.1 * gof X Y D := by
        have := Int.gcd_mul_right (rdc X Y D).1 (gof X Y D : Int) (rdc X Y D).2.1
        rw [m1, m2, Int.natAbs_natCast] at this
        exact this
      have h2 := Int.gcd_mul_right (Int.gcd (rdc X Y D).1 (rdc X Y D).2.1 : Int) (gof X Y D : Int) (rdc X Y D).2.2
      rw [m3, Int.natAbs_natCast] at h2
      rw [← h2]
      show Int.gcd (Int.gcd X Y) D = _
      rw [h1, Int.natCast_mul]
    have : Int.gcd (Int.gcd (rdc X Y D).1 (rdc X Y D).2.1) (rdc X Y D).2.2 * gof X Y D = 1 * gof X Y D := by omega
    exact Nat.eq_of_mul_eq_mul_right hg this
theorem rdc_peq {X Y D : Int} : peq (rdc X Y D) (X, Y, D) := by
  obtain ⟨m1, m2, m3⟩ := rdc_mul (X := X) (Y := Y) (D := D)
  generalize (rdc X Y D) = r at *
  obtain ⟨x, y, d⟩ := r
  dsimp only at *
  constructor
  · show x * D = X * d
    rw [← m3, ← m1]; grind
  · show y * D = Y * d
    rw [← m3, ← m2]; grind
theorem rdc_self {p : Pt} (h : red p) : rdc p.1 p.2.1 p.2.2 = p := red_eq (rdc_red h.1) h rdc_peq
theorem rdc_one (x y : Int) : rdc x y 1 = (x, y, 1) := rdc_self (p := (x, y, 1)) ⟨Int.one_pos, by simp⟩
theorem red_one (x y : Int) : red (x, y, 1) := ⟨Int.one_pos, by simp⟩
theorem rdc_le {X Y D : Int} : (rdc X Y D).1.natAbs ≤ X.natAbs ∧ (rdc X Y D).2.1.natAbs ≤ Y.natAbs ∧ (rdc X Y D).2.2.natAbs ≤ D.natAbs := ⟨tdiv_abs _ _, tdiv_abs _ _, tdiv_abs _ _⟩
/-! a row of points, sorted, each once -/
def insL (n : Pt) : List Pt → List Pt
  | [] => [n]
  | p :: t => if plt p n then p :: insL n t else if p = n then p :: t else n :: p :: t
def srt (l : List Pt) : Prop := l.Pairwise plt ∧ ∀ p ∈ l, red p
theorem insL_mem {n m : Pt} : ∀ {l : List Pt}, m ∈ insL n l ↔ m = n ∨ m ∈ l
  | [] => by simp [insL]
  | p :: t => by
    unfold insL
    by_cases h : plt p n
    · rw [if_pos h, List.mem_cons, insL_mem, List.mem_cons]
      constructor
      · rintro (h | h | h) <;> simp [h]
      · rintro (h | h | h) <;> simp [h]
    · rw [if_neg h]
      by_cases e : p = n
      · rw [if_pos e]; subst e; simp
      · rw [if_neg e]; simp
theorem insL_srt {n : Pt} (hn : red n) : ∀ {l : List Pt}, srt l → srt (insL n l)
  | [], _ => ⟨by simp [insL], by simp [insL]; exact hn⟩
  | p :: t, h => by
    refine ⟨?_, fun q hq => ?_⟩
    · have hp := List.pairwise_cons.mp h.1
      have ht : srt t := ⟨hp.2, fun q hq => h.2 q (List.mem_cons_of_mem _ hq)⟩
      unfold insL
      by_cases c : plt p n
      · rw [if_pos c]
        refine List.pairwise_cons.mpr ⟨fun q hq => ?_, (insL_srt hn ht).1⟩
        rcases insL_mem.mp hq with rfl | hq
        · exact c
        · exact hp.1 q hq
      · rw [if_neg c]
        by_cases e : p = n
        · rw [if_pos e]; exact h.1
        · rw [if_neg e]
          have hpr := h.2 p List.mem_cons_self
          have hlt : plt n p := by
            rcases p_tri p n with h1 | h1 | h1
            · exact absurd h1 c
            · exact absurd (red_eq hpr hn h1) e
            · exact h1
          refine List.pairwise_cons.mpr ⟨fun q hq => ?_, h.1⟩
          rcases List.mem_cons.mp hq with rfl | hq
          · exact hlt
          · exact plt_tr hn.1 hpr.1 (h.2 q (List.mem_cons_of_mem _ hq)).1 hlt (hp.1 q hq)
    · rcases insL_mem.mp hq with rfl | hq
      · exact hn
      · exact h.2 q hq
/-- by the place: those before come before -/
theorem insL_at {n : Pt} : ∀ {l : List Pt} {k : Nat}, k ≤ l.length → (∀ j p, j < k → l[j]? = some p → plt p n) → (∀ p, l[k]? = some p → ¬ plt p n) → insL n l = if l[k]? = some n then l else l.take k ++ n :: l.drop k
  | [], k, hk, _, _ => by
    have : k = 0 := by simpa using hk
    subst this
    simp [insL]
  | p :: t, 0, _, _, h2 => by
    have := h2 p rfl
    unfold insL
    rw [if_neg this]
    by_cases e : p = n
    · simp [e]
    · simp [e]
  | p :: t, k + 1, hk, h1, h2 => by
    have hp := h1 0 p (by omega) rfl
    have ih := insL_at (n := n) (l := t) (k := k) (by simpa using hk) (fun j q hj hq => h1 (j + 1) q (by omega) (by simpa using hq)) (fun q hq => h2 q (by simpa using hq))
    unfold insL
    rw [if_pos hp, ih]
    by_cases e : t[k]? = some n
    · simp [e]
    · simp [e]
theorem ins_get {n : Pt} {l : List Pt} {k : Nat} (hk : k ≤ l.length) (j : Nat) : (l.take k ++ n :: l.drop k)[j]? = if j < k then l[j]? else if j = k then some n else l[j - 1]? := by
  have hlen : (l.take k).length = k := by simp [hk]
  by_cases h : j < k
  · rw [if_pos h, List.getElem?_append_left (by omega), List.getElem?_take, if_pos h]
  · rw [if_neg h, List.getElem?_append_right (by omega), hlen]
    by_cases e : j = k
    · subst e; simp
    · rw [if_neg e, show j - k = (j - 1 - k) + 1 by omega, List.getElem?_cons_succ, List.getElem?_drop]
      congr 1; omega
theorem ins_len {n : Pt} {l : List Pt} {k : Nat} (hk : k ≤ l.length) : (l.take k ++ n :: l.drop k).length = l.length + 1 := by
  simp; omega
