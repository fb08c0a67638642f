/-! the reference's rows of pieces -/
def insP (x : Nat × Nat) : List (Nat × Nat) → List (Nat × Nat)
  | [] => [x]
  | y :: t => if plx y x then y :: insP x t else if y = x then y :: t else x :: y :: t
theorem insP_mem {n m : Nat × Nat} : ∀ {l : List (Nat × Nat)}, m ∈ insP n l ↔ m = n ∨ m ∈ l
  | [] => by simp [insP]
  | p :: t => by
    unfold insP
    by_cases h : plx p n
    · rw [if_pos h, List.mem_cons, insP_mem, List.mem_cons]
      constructor
      · rintro (h | h | h) <;> simp [h]
      · rintro (h | h | h) <;> simp [h]
    · rw [if_neg h]
      by_cases e : p = n
      · rw [if_pos e]; subst e; simp
      · rw [if_neg e]; simp
theorem plx_tri {a b : Nat × Nat} (h1 : ¬ plx a b) (h2 : ¬ a = b) : plx b a := by
  have : ¬ (a.1 = b.1 ∧ a.2 = b.2) := fun z => h2 (Prod.ext z.1 z.2)
  unfold plx at *; omega
theorem insP_srt {n : Nat × Nat} : ∀ {l : List (Nat × Nat)}, l.Pairwise plx → (insP n l).Pairwise plx
  | [], _ => by simp [insP]
  | p :: t, h => by
    have hp := List.pairwise_cons.mp h
    unfold insP
    by_cases c : plx p n
    · rw [if_pos c]
      refine List.pairwise_cons.mpr ⟨fun q hq => ?_, insP_srt hp.2⟩
      rcases insP_mem.mp hq with rfl | hq
      · exact c
      · exact hp.1 q hq
    · rw [if_neg c]
      by_cases e : p = n
      · rw [if_pos e]; exact h
      · rw [if_neg e]
        have hlt := plx_tri c e
        refine List.pairwise_cons.mpr ⟨fun q hq => ?_, h⟩
        rcases List.mem_cons.mp hq with rfl | hq
        · exact hlt
        · have := hp.1 q hq; unfold plx at *; omega
theorem insP_len {n : Nat × Nat} : ∀ {l : List (Nat × Nat)}, (insP n l).length ≤ l.length + 1
  | [] => by simp [insP]
  | p :: t => by
    unfold insP
    have := insP_len (n := n) (l := t)
    split
    · simp only [List.length_cons]; omega
    · split <;> simp only [List.length_cons] <;> omega
theorem insP_at {n : Nat × Nat} : ∀ {l : List (Nat × Nat)} {k : Nat}, k ≤ l.length → (∀ j p, j < k → l[j]? = some p → plx p n) → (∀ p, l[k]? = some p → ¬ plx p n) → insP n l = if l[k]? = some n then l else l.take k ++ n :: l.drop k
  | [], k, hk, _, _ => by
    have : k = 0 := by simpa using hk
    subst this
    simp [insP]
  | p :: t, 0, _, _, h2 => by
    have := h2 p rfl
    unfold insP
    rw [if_neg this]
    by_cases e : p = n
    · simp [e]
    · simp [e]
  | p :: t, k + 1, hk, h1, h2 => by
    have hp := h1 0 p (by omega) rfl
    have ih := insP_at (n := n) (l := t) (k := k) (by simpa using hk) (fun j q hj hq => h1 (j + 1) q (by omega) (by simpa using hq)) (fun q hq => h2 q (by simpa using hq))
    unfold insP
    rw [if_pos hp, ih]
    by_cases e : t[k]? = some n
    · simp [e]
    · simp [e]
theorem insg_get {α : Type} {n : α} {l : List α} {k : Nat} (hk : k ≤ l.length) (j : Nat) : (l.take k ++ n :: l.drop k)[j]? = if j < k then l[j]? else if j = k then some n else l[j - 1]? := by
  have hlen : (l.take k).length = k := by simp [hk]
  by_cases h : j < k
  · rw [if_pos h, List.getElem?_append_left (by omega), List.getElem?_take, if_pos h]
  · rw [if_neg h, List.getElem?_append_right (by omega), hlen]
    by_cases e : j = k
    · subst e; simp
    · rw [if_neg e, show j - k = (j - 1 - k) + 1 by omega, List.getElem?_cons_succ, List.getElem?_drop]
      congr 1; omega
theorem insg_len {α : Type} {n : α} {l : List α} {k : Nat} (hk : k ≤ l.length) : (l.take k ++ n :: l.drop k).length = l.length + 1 := by
  simp; omega
def RR (rFi rLa rOn : Nat → Int32) (l : List (Nat × Nat)) (c : Nat → Nat → Nat → Nat) : Prop := ∀ k ij, l[k]? = some ij → ij.1 < 78 ∧ ij.2 < 78 ∧ rFi k = nI ij.1 ∧ rLa k = nI ij.2 ∧ ∀ p, p < 2 → rOn (2 * k + p) = nI (c p ij.1 ij.2)
def cup (c : Nat → Nat → Nat → Nat) (p i j : Nat) : Nat → Nat → Nat → Nat := fun p' i' j' => if p' = p ∧ i' = i ∧ j' = j then c p i j + 1 else c p' i' j'
theorem nd_get {α : Type} {l : List α} (h : l.Nodup) {i j : Nat} {x : α} (hi : l[i]? = some x) (hj : l[j]? = some x) : i = j := by
  have li := lgl hi
  have lj := lgl hj
  rw [List.getElem?_eq_getElem li] at hi
  rw [List.getElem?_eq_getElem lj] at hj
  injection hi with hi
  injection hj with hj
  exact (List.getElem_inj h).mp (hi.trans hj.symm)
theorem RR_cup {rFi rLa rOn : Nat → Int32} {l : List (Nat × Nat)} {c : Nat → Nat → Nat → Nat} (h : RR rFi rLa rOn l c) (hs : l.Pairwise plx) {k i j p : Nat} (hp : p < 2) (hk : l[k]? = some (i, j)) : RR rFi rLa (upd rOn (2 * k + p) (rOn (2 * k + p) + 1)) l (cup c p i j) := by
  intro k' ij hk'
  obtain ⟨h1, h2, h3, h4, h5⟩ := h k' ij hk'
  refine ⟨h1, h2, h3, h4, fun p' hp' => ?_⟩
  unfold cup
  by_cases e : k' = k ∧ p' = p
  · obtain ⟨rfl, rfl⟩ := e
    rw [hk] at hk'; injection hk' with hk'
    subst hk'
    rw [pk_us, h5 p' hp', if_pos ⟨rfl, rfl, rfl⟩, nI_1]
  · rw [pk_un (by omega), h5 p' hp', if_neg]
    rintro ⟨e1, e2, e3⟩
    apply e
    refine ⟨?_, e1⟩
    have : ij = (i, j) := Prod.ext e2 e3
    rw [this] at hk'
    exact nd_get (plx_nd hs) hk' hk
def shf2 (x0 x : Nat → Int32) (k len : Nat) : Prop := (∀ j, j < 2 * k → x j = x0 j) ∧ ∀ j, 2 * k + 2 ≤ j → j < 2 * len + 2 → x j = x0 (j - 2)
theorem shf2_0 {x : Nat → Int32} {len : Nat} : shf2 x x len len := ⟨fun _ _ => rfl, fun j h1 h2 => absurd h1 (by omega)⟩
theorem shf2_step {x0 x : Nat → Int32} {k len : Nat} (h : shf2 x0 x (k + 1) len) : shf2 x0 (upd (upd x (2 * (k + 1)) (x (2 * k))) (2 * (k + 1) + 1) (upd x (2 * (k + 1)) (x (2 * k)) (2 * k + 1))) k len := by
  refine ⟨fun j hj => ?_, fun j h1 h2 => ?_⟩
  · rw [pk_un (by omega), pk_un (by omega)]; exact h.1 j (by omega)
  · by_cases e : j = 2 * (k + 1) + 1
    · subst e; rw [pk_us, pk_un (by omega)]; exact h.1 _ (by omega)
    · rw [pk_un e]
      by_cases e2 : j = 2 * (k + 1)
      · subst e2; rw [pk_us]; exact h.1 _ (by omega)
      · rw [pk_un e2]; exact h.2 j (by omega) h2
theorem t2 (k : Nat) : (2 : Int32) * nI k = nI (2 * k) := by rw [show (2 : Int32) = nI 2 by decide, pk_mul]
theorem s2 {k : Nat} (h : 2 ≤ k) : nI k - 2 = nI (k - 2) := by rw [show (2 : Int32) = nI 2 by decide, pk_sub h]
theorem s1 {k : Nat} (h : 1 ≤ k) : nI k - 1 = nI (k - 1) := by rw [show (1 : Int32) = nI 1 by decide, pk_sub h]
theorem s_addPiece {rFi rLa rOn : Nat → Int32} {l : List (Nat × Nat)} {c : Nat → Nat → Nat → Nat} (h : RR rFi rLa rOn l c) (hs : l.Pairwise plx) {i j p : Nat} (hi : i < 78) (hj : j < 78) (hp : p < 2) (hc : (i, j) ∉ l → c 0 i j = 0 ∧ c 1 i j = 0) (hl : (insP (i, j) l).length ≤ 300) (hl2 : l.length ≤ 300) (Q : Int32 → (Nat → Int32) → (Nat → Int32) → (Nat → Int32) → Prop)
    (hQ : ∀ rFi rLa rOn, RR rFi rLa rOn (insP (i, j) l) (cup c p i j) → Q (nI (insP (i, j) l).length) rFi rLa rOn) : wp_X5_addPiece (nI i) (nI j) (nI p) (nI l.length) rFi rLa rOn Q := by
  have hs' := insP_srt (n := (i, j)) hs
  have fin : ∀ k rFi rLa rOn, k < 300 → (insP (i, j) l)[k]? = some (i, j) → RR rFi rLa rOn (insP (i, j) l) c → wp_X5_addPiece_L223 (nI i) (nI j) (nI p) Q (nI k) (nI (insP (i, j) l).length) rFi rLa rOn := by
    intro k rFi rLa rOn hk hg hR
    unfold wp_X5_addPiece_L223
    rw [t2, nI_add, cl_nI (show 2 * k + p < 2 ^ 31 by omega)]
    refine ⟨vin (by omega) (by decide), vin (by omega) (by decide), fun y237 e237 => ?_⟩
    subst e237
    exact hQ _ _ _ (RR_cup hR hs' hp hg)
  have shift : ∀ k, k ≤ l.length → (i, j) ∉ l → insP (i, j) l = l.take k ++ (i, j) :: l.drop k → wp_X5_addPiece_L82 (nI i) (nI j) (nI p) Q (nI k) (nI l.length) rFi rLa rOn := by
    intro k hk hm he
    obtain ⟨c0, c1⟩ := hc hm
    have hlen : (insP (i, j) l).length = l.length + 1 := by rw [he, insg_len hk]
    have key : ∀ m x y z, k + m ≤ l.length → shf rFi x (k + m) l.length → shf rLa y (k + m) l.length → shf2 rOn z (k + m) l.length → wp_X5_addPiece_L88 (nI i) (nI j) (nI p) Q (fun v4 rQ rFi rLa rOn => (wp_X5_addPiece_L175 (nI i) (nI j) (nI p) Q v4 rQ rFi rLa rOn)) (m + 1) (nI k) (nI (k + m)) (nI l.length) x y z := by
      intro m
      induction m with
      | zero =>
        intro x y z _ hx hy hz
        rw [Nat.add_zero] at hx hy hz
        rw [wp_X5_addPiece_L88]
        refine ⟨fun _ => ?_, fun z => absurd (nI_le (Nat.le_refl _) (by omega)) z⟩
        have hv := vin (show k < 300 by omega) (show 300 < 2 ^ 31 by decide)
        unfold wp_X5_addPiece_L175
        rw [t2, nI_1, cl_nI (show k < 2 ^ 31 by omega), cl_nI (show 2 * k < 2 ^ 31 by omega), cl_nI (show 2 * k + 1 < 2 ^ 31 by omega)]
        refine ⟨hv, fun y1 e1 => ⟨hv, fun y2 e2 => ⟨vin (by omega) (by decide), fun y3 e3 => ⟨vin (by omega) (by decide), fun y4 e4 => fun x5 e5 => ?_⟩⟩⟩⟩
        rw [e5, nI_1, ← hlen]
        refine fin k y1 y2 y4 (by omega) (by rw [he, insg_get hk]; simp) (fun k' ij hk' => ?_)
        obtain ⟨x1, x2, x3⟩ := shf_end (v := nI i) hx
        obtain ⟨w1, w2, w3⟩ := shf_end (v := nI j) hy
        rw [he, insg_get hk] at hk'
        by_cases d1 : k' < k
        · rw [if_pos d1] at hk'
          obtain ⟨g1, g2, g3, g4, g5⟩ := h k' ij hk'
          refine ⟨g1, g2, by rw [e1, x1 k' d1, g3], by rw [e2, w1 k' d1, g4], fun p' hp' => ?_⟩
          rw [e4, e3, pk_un (by omega), pk_un (by omega), hz.1 _ (by omega), g5 p' hp']
        · rw [if_neg d1] at hk'
          by_cases d2 : k' = k
          · rw [if_pos d2] at hk'
            injection hk' with hk'
            subst hk'; subst d2
            refine ⟨hi, hj, by rw [e1, x2], by rw [e2, w2], fun p' hp' => ?_⟩
            rcases (show p' = 0 ∨ p' = 1 by omega) with rfl | rfl
            · rw [e4, e3, pk_un (by omega), Nat.add_zero, pk_us, c0]; rfl
            · rw [e4, e3, pk_us, c1]; rfl
          · rw [if_neg d2] at hk'
            have := lgl hk'
            obtain ⟨g1, g2, g3, g4, g5⟩ := h (k' - 1) ij hk'
            refine ⟨g1, g2, by rw [e1, x3 k' (by omega) (by omega), g3], by rw [e2, w3 k' (by omega) (by omega), g4], fun p' hp' => ?_⟩
            rw [e4, e3, pk_un (by omega), pk_un (by omega), hz.2 _ (by omega) (by omega), show 2 * k' + p' - 2 = 2 * (k' - 1) + p' by omega, g5 p' hp']
      | succ m ih =>
        intro x y z hm hx hy hz
        rw [wp_X5_addPiece_L88]
        refine ⟨fun z => absurd z (nI_ge (by omega) (by omega)), fun _ => ?_⟩
        rw [show k + (m + 1) = (k + m) + 1 by omega, nI_pred, pk_m1, t2, s2 (by omega), s1 (by omega), nI_1, cl_nI (show k + m + 1 < 2 ^ 31 by omega), cl_nI (show k + m < 2 ^ 31 by omega), cl_nI (show 2 * (k + m + 1) < 2 ^ 31 by omega), cl_nI (show 2 * (k + m + 1) - 2 < 2 ^ 31 by omega), cl_nI (show 2 * (k + m + 1) - 1 < 2 ^ 31 by omega), cl_nI (show 2 * (k + m + 1) + 1 < 2 ^ 31 by omega), show 2 * (k + m + 1) - 2 = 2 * (k + m) by omega, show 2 * (k + m + 1) - 1 = 2 * (k + m) + 1 by omega]
        have hv := vin (show k + m + 1 < 300 by omega) (show 300 < 2 ^ 31 by decide)
        have hv' := vin (show k + m < 300 by omega) (show 300 < 2 ^ 31 by decide)
        refine ⟨hv', hv, fun y1 e1 => ⟨hv', hv, fun y2 e2 => ⟨vin (by omega) (by decide), vin (by omega) (by decide), fun y3 e3 => ⟨vin (by omega) (by decide), vin (by omega) (by decide), fun y4 e4 => ?_⟩⟩⟩⟩
        subst e1 e2 e3 e4
        exact ih _ _ _ (by omega) (shf_step hx) (shf_step hy) (shf2_step hz)
    obtain ⟨m, hm⟩ : ∃ m, l.length = k + m := ⟨l.length - k, by omega⟩
    refine ⟨m + 1, ?_⟩
    have := key m rFi rLa rOn (by omega) (hm ▸ shf0) (hm ▸ shf0) (hm ▸ shf2_0)
    rw [← hm] at this
    exact this
  have stop : ∀ k, k ≤ l.length → (∀ j' q, j' < k → l[j']? = some q → plx q (i, j)) → (∀ q, l[k]? = some q → ¬ plx q (i, j)) → wp_X5_addPiece_L51 (nI i) (nI j) (nI p) Q (nI k) (nI l.length) rFi rLa rOn := by
    intro k hk h1 h2
    have hat := insP_at hk h1 h2
    have notin : l[k]? ≠ some (i, j) → (i, j) ∉ l := by
      intro hne hm
      obtain ⟨k', hk'⟩ := List.mem_iff_getElem?.mp hm
      rcases (show k' < k ∨ k' = k ∨ k < k' by omega) with d | d | d
      · have := h1 k' _ d hk'; unfold plx at this; omega
      · subst d; exact hne hk'
      · have hk2 : k < l.length := by have := lgl hk'; omega
        obtain ⟨q, hq⟩ := lg hk2
        have hqn := h2 q hq
        have hlt : plx q (i, j) := by
          have a1 := List.pairwise_iff_getElem.mp hs k k' hk2 (lgl hk') d
          rw [List.getElem?_eq_getElem hk2] at hq
          rw [List.getElem?_eq_getElem (lgl hk')] at hk'
          injection hq with hq
          injection hk' with hk'
          rw [hq, hk'] at a1
          exact a1
        exact hqn hlt
    have no : l[k]? ≠ some (i, j) → wp_X5_addPiece_L82 (nI i) (nI j) (nI p) Q (nI k) (nI l.length) rFi rLa rOn := fun hne => shift k hk (notin hne) (by rw [hat, if_neg hne])
    unfold wp_X5_addPiece_L51
    rw [cl_nI (show k < 2 ^ 31 by omega)]
    refine ⟨fun z => no ?_, fun z => ?_⟩
    · rw [nI_eq (by omega) (by omega)] at z
      rw [List.getElem?_eq_none (by omega)]; simp
    · rw [nI_eq (by omega) (by omega)] at z
      obtain ⟨q, hq⟩ := lg (show k < l.length by omega)
      obtain ⟨g1, g2, g3, g4, g5⟩ := h k q hq
      have hv := vin (show k < 300 by omega) (show 300 < 2 ^ 31 by decide)
      rw [g3, g4, nI_eq (by omega) (by omega), nI_eq (by omega) (by omega)]
      refine ⟨hv, fun z1 => no (by rw [hq]; intro z2; injection z2 with z2; rw [z2] at z1; exact z1 rfl), fun z1 => ⟨hv, fun z2 => ?_, fun z2 => no (by rw [hq]; intro z3; injection z3 with z3; rw [z3] at z2; exact z2 rfl)⟩⟩
      have hqe : q = (i, j) := Prod.ext z1 z2
      rw [hqe] at hq
      have hsame : insP (i, j) l = l := by rw [hat, if_pos hq]
      have := fin k rFi rLa rOn (by omega) (by rw [hsame]; exact hq) (by rw [hsame]; exact h)
      rw [hsame] at this
      exact this
  have key : ∀ m k, k + m = l.length → (∀ j' q, j' < k → l[j']? = some q → plx q (i, j)) → wp_X5_addPiece_L3 (nI i) (nI j) (nI p) Q (fun v4 rQ rFi rLa rOn => (wp_X5_addPiece_L51 (nI i) (nI j) (nI p) Q v4 rQ rFi rLa rOn)) (m + 1) (nI k) (nI l.length) rFi rLa rOn := by
    intro m
    induction m with
    | zero =>
      intro k hk h1
      rw [wp_X5_addPiece_L3]
      refine ⟨fun _ => stop k (by omega) h1 ?_, fun z => absurd (nI_le (by omega) (by omega)) z⟩
      intro q hq
      have := lgl hq
      omega
    | succ m ih =>
      intro k hk h1
      obtain ⟨q, hq⟩ := lg (show k < l.length by omega)
      obtain ⟨g1, g2, g3, g4, g5⟩ := h k q hq
      have hv := vin (show k < 300 by omega) (show 300 < 2 ^ 31 by decide)
      have go : plx q (i, j) → wp_X5_addPiece_L45 (nI i) (nI j) (nI p) Q (wp_X5_addPiece_L3 (nI i) (nI j) (nI p) Q (fun v4 rQ rFi rLa rOn => (wp_X5_addPiece_L51 (nI i) (nI j) (nI p) Q v4 rQ rFi rLa rOn)) (m + 1)) (nI k) (nI l.length) rFi rLa rOn := by
        intro hlt
        show wp_X5_addPiece_L3 _ _ _ _ _ _ (nI k + 1) _ _ _ _
        rw [nI_1]
        refine ih (k + 1) (by omega) (fun j' q' hj' hq' => ?_)
        by_cases e : j' = k
        · subst e; rw [hq] at hq'; injection hq' with hq'; exact hq' ▸ hlt
        · exact h1 j' q' (by omega) hq'
      have halt : ¬ plx q (i, j) → wp_X5_addPiece_L51 (nI i) (nI j) (nI p) Q (nI k) (nI l.length) rFi rLa rOn := fun hn => stop k (by omega) h1 (fun q' hq' => by rw [hq] at hq'; injection hq' with hq'; exact hq' ▸ hn)
      rw [wp_X5_addPiece_L3, cl_nI (show k < 2 ^ 31 by omega), g3, g4, nI_ltI (by omega) (by omega), nI_eq (by omega) (by omega), nI_leI (a := j) (b := q.2) (by omega) (by omega)]
      exact ⟨fun z => absurd z (nI_ge (by omega) (by omega)), fun _ => ⟨hv, fun z => go (by unfold plx; dsimp only; omega), fun z1 => ⟨hv, fun z2 => halt (by unfold plx; dsimp only; omega), fun z2 => ⟨hv, fun z3 => halt (by unfold plx; dsimp only; omega), fun z3 => go (by unfold plx; dsimp only; omega)⟩⟩⟩⟩
  exact ⟨l.length + 1, key l.length 0 (by omega) (fun j' q hj' => absurd hj' (by omega))⟩
