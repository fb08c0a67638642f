/-! what two edges have in common, by the row of points -/
theorem com_in {es : List Ed} {a b : Nat} {q r : Ed} (ha : es[a]? = some q) (hb : es[b]? = some r) (hq : EdOK q) (hr : EdOK r) {H K : Pt} (h : Com q r H K) : (∃ (k : Nat) (m : Pt), (gaL es)[k]? = some m ∧ peq m H) ∧ (∃ (k : Nat) (m : Pt), (gaL es)[k]? = some m ∧ peq m K) := by
  obtain ⟨hH, hK, h1, h2, h3, h4, h5⟩ := h
  by_cases hd : dtE q r = 0
  · have hs := apart hr hd hH h1.1 h2.1
    have hs2 : sdE q r.2.2.1 r.2.2.2.1 1 = 0 := (same_line hq hr hd hs _ _ _).mpr (sd_l r)
    have hle : ple (laF q r) (soL q r) := by
      apply Decidable.byContradiction
      intro hn
      exact noc_L hq hr hd hs hn H hH ⟨h1, h2⟩
    obtain ⟨c1, c2, c3, c4, c5, c6, c7⟩ := com_L hq hr hd hs hle
    have eH : peq (laF q r) H := ple_anti (c7 H hH h1 h2).1 (h5 _ c1 c3 c4).1
    have eK : peq (soL q r) K := ple_anti (h5 _ c2 c5 c6).2 (c7 K hK h3 h4).2
    have mH : laF q r ∈ gaL es := by
      rw [gaL_mem]
      unfold laF; split
      · exact ⟨b, r, hb, Or.inl rfl⟩
      · exact ⟨a, q, ha, Or.inl rfl⟩
    have mK : soL q r ∈ gaL es := by
      rw [gaL_mem]
      unfold soL; split
      · exact ⟨a, q, ha, Or.inr (Or.inl rfl)⟩
      · exact ⟨b, r, hb, Or.inr (Or.inl rfl)⟩
    obtain ⟨k, hk⟩ := List.mem_iff_getElem?.mp mH
    obtain ⟨k', hk'⟩ := List.mem_iff_getElem?.mp mK
    exact ⟨⟨k, _, hk, eH⟩, ⟨k', _, hk', eK⟩⟩
  · exact ⟨meet_in ha hb hd hH h1 h2, meet_in ha hb hd hK h3 h4⟩
/-- the places of the first and of the last common point -/
theorem com_at {es : List Ed} {a b : Nat} {q r : Ed} (ha : es[a]? = some q) (hb : es[b]? = some r) (hq : EdOK q) (hr : EdOK r) {H K : Pt} (h : Com q r H K) : ∃ (i j : Nat) (m n : Pt), (gaL es)[i]? = some m ∧ (gaL es)[j]? = some n ∧ peq m H ∧ peq n K ∧ onK es (gaL es) a i = true ∧ onK es (gaL es) b i = true ∧ onK es (gaL es) a j = true ∧ onK es (gaL es) b j = true ∧ ∀ k, onK es (gaL es) a k = true → onK es (gaL es) b k = true → i ≤ k ∧ k ≤ j := by
  have hS : srt (gaL es) := gaF_srt
  obtain ⟨⟨i, m, hi, em⟩, ⟨j, n, hj, en⟩⟩ := com_in ha hb hq hr h
  obtain ⟨hH, hK, h1, h2, h3, h4, h5⟩ := h
  have rm := (hS.2 m (List.mem_of_getElem? hi)).1
  have rn := (hS.2 n (List.mem_of_getElem? hj)).1
  refine ⟨i, j, m, n, hi, hj, em, en, ?_, ?_, ?_, ?_, fun k k1 k2 => ?_⟩
  · rw [onK_at ha hi]; exact decide_eq_true (onP_peq hH rm (peq_sym em) h1)
  · rw [onK_at hb hi]; exact decide_eq_true (onP_peq hH rm (peq_sym em) h2)
  · rw [onK_at ha hj]; exact decide_eq_true (onP_peq hK rn (peq_sym en) h3)
  · rw [onK_at hb hj]; exact decide_eq_true (onP_peq hK rn (peq_sym en) h4)
  · obtain ⟨p, hp⟩ := lg (onK_lt k1).1
    rw [onK_at ha hp] at k1
    rw [onK_at hb hp] at k2
    have rp := (hS.2 p (List.mem_of_getElem? hp)).1
    obtain ⟨l1, l2⟩ := h5 p rp (of_decide_eq_true k1) (of_decide_eq_true k2)
    constructor
    · apply Nat.le_of_not_lt
      intro c
      have := srt_at hS hp hi c
      have := plt_le rp rm hH this (peq_ple em)
      exact nplt.mpr l1 this
    · apply Nat.le_of_not_lt
      intro c
      have := srt_at hS hj hp c
      have := ple_lt hK rn rp (peq_ple (peq_sym en)) this
      exact nplt.mpr l2 this
theorem noc_at {es : List Ed} {a b : Nat} {q r : Ed} (ha : es[a]? = some q) (hb : es[b]? = some r) (h : NoC q r) (k : Nat) : ¬ (onK es (gaL es) a k = true ∧ onK es (gaL es) b k = true) := by
  rintro ⟨k1, k2⟩
  obtain ⟨p, hp⟩ := lg (onK_lt k1).1
  rw [onK_at ha hp] at k1
  rw [onK_at hb hp] at k2
  exact h p ((gaF_srt (es := es) (n := es.length)).2 p (List.mem_of_getElem? hp)).1 ⟨of_decide_eq_true k1, of_decide_eq_true k2⟩
/-! the class: first and last on both -/
theorem both_bit {A : Nat → Bool} {n a b : Nat} (hn : n ≤ 12) (ha : a < n) (hb : b < n) : (nI (mk A n) &&& ((1 : Int32) <<< (nI a &&& 31) ||| (1 : Int32) <<< (nI b &&& 31))) = ((1 : Int32) <<< (nI a &&& 31) ||| (1 : Int32) <<< (nI b &&& 31)) ↔ (A a = true ∧ A b = true) := by
  have h4 := mk_4096 (P := A) hn
  have h2 : (2 ^ a ||| 2 ^ b) < 2 ^ 12 := Nat.or_lt_two_pow (Nat.pow_lt_pow_right (by decide) (by omega)) (Nat.pow_lt_pow_right (by decide) (by omega))
  rw [nI_shl a (by omega), nI_shl b (by omega), nI_or, nI_and, nI_eq (Nat.lt_of_le_of_lt Nat.and_le_left (by omega)) (by omega)]
  constructor
  · intro h
    have t1 := congrArg (fun x => Nat.testBit x a) h
    have t2 := congrArg (fun x => Nat.testBit x b) h
    simp only [Nat.testBit_and, Nat.testBit_or, Nat.testBit_two_pow_self, mk_bit, Bool.true_or, Bool.or_true, Bool.and_true, ha, hb, decide_true, Bool.true_and] at t1 t2
    exact ⟨t1, t2⟩
  · rintro ⟨h1, h2⟩
    apply Nat.eq_of_testBit_eq
    intro i
    rw [Nat.testBit_and, Nat.testBit_or, Nat.testBit_two_pow, Nat.testBit_two_pow, mk_bit]
    by_cases c1 : a = i
    · subst c1; simp [ha, h1]
    · by_cases c2 : b = i
      · subst c2; simp [hb, h2]
      · simp [c1, c2]
theorem s_fob {es : List Ed} {P : List Pt} (hn : es.length ≤ 12) (hp : P.length ≤ 78) {pO : Nat → Int32} (hM : ∀ k, k < P.length → pO k = nI (mk (fun e => onK es P e k) es.length)) {a b : Nat} (ha : a < es.length) (hb : b < es.length) (Q : Int32 → Prop)
    (h0 : (∀ k, ¬ (onK es P a k = true ∧ onK es P b k = true)) → Q (-1)) (h1 : ∀ k, k < 78 → onK es P a k = true → onK es P b k = true → (∀ j, j < k → ¬ (onK es P a j = true ∧ onK es P b j = true)) → Q (nI k)) : wp_X3_firstOnBoth (nI a) (nI b) pO (nI P.length) Q := by
  intro x7 e7
  subst e7
  have key : ∀ m k, k + m = P.length → (∀ j, j < k → ¬ (onK es P a j = true ∧ onK es P b j = true)) → wp_X3_firstOnBoth_L11 (nI a) (nI b) pO (nI P.length) Q (m + 1) ((1 : Int32) <<< (nI a &&& 31) ||| (1 : Int32) <<< (nI b &&& 31)) (nI k) := by
    intro m
    induction m with
    | zero =>
      intro k hk hj
      rw [wp_X3_firstOnBoth_L11]
      refine ⟨fun _ => h0 (fun j hj2 => ?_), fun z => absurd (nI_le (by omega) (by omega)) z⟩
      exact hj j (by have := (onK_lt hj2.1).1; omega) hj2
    | succ m ih =>
      intro k hk hj
      rw [wp_X3_firstOnBoth_L11, cl_nI (show k < 2 ^ 31 by omega), hM k (by omega), both_bit hn ha hb]
      refine ⟨fun z => absurd z (nI_ge (by omega) (by omega)), fun _ => ⟨vin (show k < 78 by omega) (by decide), fun z => ?_, fun z => h1 k (by omega) z.1 z.2 hj⟩⟩
      rw [nI_1]
      refine ih (k + 1) (by omega) (fun j hj2 => ?_)
      by_cases c : j = k
      · subst c; exact z
      · exact hj j (by omega)
  exact ⟨P.length + 1, key P.length 0 (by omega) (fun j hj => absurd hj (by omega))⟩
theorem m1_eq (a : Int32) : a + (-1) = a - 1 := by grind
theorem s_lob {es : List Ed} {P : List Pt} (hn : es.length ≤ 12) (hp : P.length ≤ 78) {pO : Nat → Int32} (hM : ∀ k, k < P.length → pO k = nI (mk (fun e => onK es P e k) es.length)) {a b : Nat} (ha : a < es.length) (hb : b < es.length) (Q : Int32 → Prop)
    (h0 : (∀ k, ¬ (onK es P a k = true ∧ onK es P b k = true)) → Q (-1)) (h1 : ∀ k, k < 78 → onK es P a k = true → onK es P b k = true → (∀ j, k < j → ¬ (onK es P a j = true ∧ onK es P b j = true)) → Q (nI k)) : wp_X3_lastOnBoth (nI a) (nI b) pO (nI P.length) Q := by
  intro x7 e7 x14 e14
  subst e7 e14
  have key : ∀ k, k ≤ P.length → (∀ j, k ≤ j → ¬ (onK es P a j = true ∧ onK es P b j = true)) → wp_X3_lastOnBoth_L16 (nI a) (nI b) pO (nI P.length) Q (k + 1) ((1 : Int32) <<< (nI a &&& 31) ||| (1 : Int32) <<< (nI b &&& 31)) (nI k - 1) := by
    intro k
    induction k with
    | zero =>
      intro hk hj
      rw [wp_X3_lastOnBoth_L16]
      exact ⟨fun _ => h0 (fun j => hj j (by omega)), fun z => absurd (by decide) z⟩
    | succ k ih =>
      intro hk hj
      rw [nI_pred, wp_X3_lastOnBoth_L16, cl_nI (show k < 2 ^ 31 by omega), hM k (by omega), both_bit hn ha hb]
      refine ⟨fun z => absurd z (nI_pos (by omega)), fun _ => ⟨vin (show k < 78 by omega) (by decide), fun z => ?_, fun z => h1 k (by omega) z.1 z.2 (fun j hj2 => hj j (by omega))⟩⟩
      rw [m1_eq]
      refine ih (by omega) (fun j hj2 => ?_)
      by_cases c : j = k
      · subst c; exact z
      · exact hj j (by omega)
  exact ⟨P.length + 1, key P.length (Nat.le_refl _) (fun j hj z => by have := (onK_lt z.1).1; omega)⟩
/-! the answers: a code and a value; both sides give the same -/
def ans (k : Nat) (v : Int32) (Q : Int32 → (Nat → Int64) → Prop) : Prop := ∀ oL : Nat → Int64, (k = 0 → oL 0 = v.toInt64) → Q (nI k) oL
theorem ans_0 {k : Nat} {v : Int32} {Q : Int32 → (Nat → Int64) → Prop} {oL : Nat → Int64} (hk : k = 0) (h : ans k v Q) : vp_in (0 : Int32) 1 ∧ ∀ y : Nat → Int64, y = vp_updL oL (0 : Int32).toNatClampNeg v.toInt64 → Q 0 y := by
  subst hk
  refine ⟨vin (e := 0) (by decide) (by decide), fun y e => h y (fun _ => ?_)⟩
  rw [e]; rfl
/-- an index that fits, as a natural number -/
theorem idx {a : Int32} {n : Nat} (hn : n < 2 ^ 31) (h0 : ¬ a < 0) (h1 : a < nI n) : ∃ k, k < n ∧ a = nI k := by
  have z0 : (0 : Int32).toInt = 0 := by decide
  rw [Int32.lt_iff_toInt_lt, z0] at h0
  rw [Int32.lt_iff_toInt_lt, nI_toInt hn] at h1
  refine ⟨a.toInt.toNat, by omega, ?_⟩
  apply Int32.toInt_inj.mp
  rw [nI_toInt (by omega)]; omega
/-- what `common` answers -/
def cmN (es : List Ed) (P : List Pt) (a b : Nat) (c : Nat) : Prop := (c = 0 ∧ (a = b ∨ ∀ k, ¬ (onK es P a k = true ∧ onK es P b k = true))) ∨ (a ≠ b ∧ ∃ i j, i < 78 ∧ j < 78 ∧ onK es P a i = true ∧ onK es P b i = true ∧ onK es P a j = true ∧ onK es P b j = true ∧ (∀ k, onK es P a k = true → onK es P b k = true → i ≤ k ∧ k ≤ j) ∧ ((c = 1 ∧ i = j) ∨ (c = 2 ∧ i ≠ j)))
theorem cmN_uni {es : List Ed} {P : List Pt} {a b c d : Nat} (h1 : cmN es P a b c) (h2 : cmN es P a b d) : c = d := by
  rcases h1 with ⟨e1, h1⟩ | ⟨n1, i, j, -, -, i1, i2, i3, i4, i5, i6⟩ <;> rcases h2 with ⟨e2, h2⟩ | ⟨n2, k, l, -, -, k1, k2, k3, k4, k5, k6⟩
  · omega
  · rcases h1 with h1 | h1
    · exact absurd h1 n2
    · exact absurd ⟨k1, k2⟩ (h1 k)
  · rcases h2 with h2 | h2
    · exact absurd h2 n1
    · exact absurd ⟨i1, i2⟩ (h2 i)
  · have := i5 k k1 k2
    have := i5 l k3 k4
    have := k5 i i1 i2
    have := k5 j i3 i4
    omega
theorem s_ccommon {es : List Ed} {P : List Pt} (hn : es.length ≤ 12) (hp : P.length ≤ 78) {pO : Nat → Int32} (hM : ∀ k, k < P.length → pO k = nI (mk (fun e => onK es P e k) es.length)) {a b : Nat} (ha : a < es.length) (hb : b < es.length) {cM : Int32} (hc : ¬ cM = 0) (Q : Int32 → Prop) (X : String → Prop) (h : ∀ c, c ≤ 2 → cmN es P a b c → Q (nI c)) : wp_X4_common (nI a) (nI b) cM (nI es.length) pO (nI P.length) Q X := by
  refine ⟨fun _ => ⟨fun z => absurd z (nI_pos (by omega)), fun _ => ⟨fun z => absurd z (nI_ge (by omega) (by omega)), fun _ => ⟨fun z => absurd z (nI_pos (by omega)), fun _ => ⟨fun _ => ?_, fun z => absurd ((nI_ltI (by omega) (by omega)).mpr hb) z⟩⟩⟩⟩, fun z => absurd z hc⟩
  rw [nI_eq (by omega) (by omega)]
  refine ⟨fun hne => ?_, fun he => ⟨fun z => absurd rfl z, fun _ => h 0 (by decide) (Or.inl ⟨rfl, Or.inl he⟩)⟩⟩
  refine s_fob hn hp hM ha hb _ (fun hno => ⟨fun z => absurd rfl z, fun _ => h 0 (by decide) (Or.inl ⟨rfl, Or.inr hno⟩)⟩) (fun i hi i1 i2 i3 => ?_)
  have hne1 : ¬ nI i = -1 := fun z => by
    have h1 := (R3_nI (n := i) (by omega)).eq R3_m1
    have := h1.mp z
    omega
  refine ⟨fun _ => ?_, fun z => absurd z hne1⟩
  refine s_lob hn hp hM ha hb _ (fun hno => absurd ⟨i1, i2⟩ (hno i)) (fun j hj j1 j2 j3 => ?_)
  have hij : ∀ k, onK es P a k = true → onK es P b k = true → i ≤ k ∧ k ≤ j := fun k k1 k2 => ⟨Nat.le_of_not_lt (fun z => i3 k z ⟨k1, k2⟩), Nat.le_of_not_lt (fun z => j3 k z ⟨k1, k2⟩)⟩
  rw [nI_eq (by omega) (by omega)]
  exact ⟨fun z => h 2 (by decide) (Or.inr ⟨hne, i, j, hi, hj, i1, i2, j1, j2, hij, Or.inr ⟨rfl, z⟩⟩), fun z => h 1 (by decide) (Or.inr ⟨hne, i, j, hi, hj, i1, i2, j1, j2, hij, Or.inl ⟨rfl, z⟩⟩)⟩
/-- the reference's meet, by the row -/
theorem s_rmeet {es : List Ed} {rAx rAy rBx rBy : Nat → Int32} (hE : RE rAx rAy rBx rBy es) (hP : (gaL es).length ≤ 78) {a b : Nat} (ha : a < es.length) (hb : b < es.length) (hne : a ≠ b) {o1 o2 o3 o4 o5 o6 : Int64} (Q : Int32 → Int64 → Int64 → Int64 → Int64 → Int64 → Int64 → Prop)
    (h0 : cmN es (gaL es) a b 0 → ∀ o1 o2 o3 o4 o5 o6, Q 0 o1 o2 o3 o4 o5 o6)
    (h1 : ∀ (c : Nat) (H K : Pt) (i j : Nat) (m n : Pt) o1 o2 o3 o4 o5 o6, 0 < c → c ≤ 2 → cmN es (gaL es) a b c → RLg o1 o2 o3 H → RLg o4 o5 o6 K → (gaL es)[i]? = some m → (gaL es)[j]? = some n → peq m H → peq n K → onK es (gaL es) a i = true → onK es (gaL es) b i = true → onK es (gaL es) a j = true → onK es (gaL es) b j = true → (∀ k, onK es (gaL es) a k = true → onK es (gaL es) b k = true → i ≤ k ∧ k ≤ j) → Q (nI c) o1 o2 o3 o4 o5 o6) : wp_X5_meet (nI a) (nI b) rAx rAy rBx rBy o1 o2 o3 o4 o5 o6 Q := by
  have hS : srt (gaL es) := gaF_srt
  obtain ⟨q, hq⟩ := lg ha
  obtain ⟨r, hr⟩ := lg hb
  refine s_meet hE hq hr _ (fun hno => h0 (Or.inl ⟨rfl, Or.inr (noc_at hq hr hno)⟩)) (fun c H K o1 o2 o3 o4 o5 o6 hc hcom _ rH rK => ?_)
  obtain ⟨i, j, m, n, hi, hj, em, en, i1, i2, j1, j2, hij⟩ := com_at hq hr (hE.ok hq) (hE.ok hr) hcom
  have li := lgl hi
  have lj := lgl hj
  have rm := (hS.2 m (List.mem_of_getElem? hi)).1
  have rn := (hS.2 n (List.mem_of_getElem? hj)).1
  have hH := rH.2.2.2
  have hK := rK.2.2.2
  refine h1 c H K i j m n _ _ _ _ _ _ (by omega) (by omega) (Or.inr ⟨hne, i, j, by omega, by omega, i1, i2, j1, j2, hij, ?_⟩) rH rK hi hj em en i1 i2 j1 j2 hij
  rcases hc with ⟨rfl, hpe⟩ | ⟨rfl, hlt⟩
  · left
    refine ⟨rfl, ?_⟩
    have hmn : peq m n := peq_tr rm hH rn em (peq_tr hH hK rn hpe (peq_sym en))
    have : m = n := red_eq (hS.2 m (List.mem_of_getElem? hi)) (hS.2 n (List.mem_of_getElem? hj)) hmn
    subst this
    exact nd_get (srt_nd hS) hi hj
  · right
    refine ⟨rfl, fun e => ?_⟩
    subst e
    rw [hi] at hj; injection hj with hj; subst hj
    have : peq H K := peq_tr hH rm hK (peq_sym em) en
    unfold peq eqv at this; unfold plt lxlt at hlt; omega
theorem s_rcommon {es : List Ed} {rAx rAy rBx rBy : Nat → Int32} (hE : RE rAx rAy rBx rBy es) (hP : (gaL es).length ≤ 78) {a b : Nat} (ha : a < es.length) (hb : b < es.length) {rF rMd : Int32} (hc : ¬ rMd = 0) {o1 o2 o3 o4 o5 o6 : Int64} (Q : Int32 → Int32 → Int64 → Int64 → Int64 → Int64 → Int64 → Int64 → Prop)
    (h : ∀ c, c ≤ 2 → cmN es (gaL es) a b c → ∀ o1 o2 o3 o4 o5 o6, Q (nI c) 0 o1 o2 o3 o4 o5 o6) : wp_X5_common (nI a) (nI b) rF rMd (nI es.length) rAx rAy rBx rBy o1 o2 o3 o4 o5 o6 Q := by
  have hn := hE.1
  refine ⟨fun _ => ⟨fun z => absurd z (nI_pos (by omega)), fun _ => ⟨fun z => absurd z (nI_ge (by omega) (by omega)), fun _ => ⟨fun z => absurd z (nI_pos (by omega)), fun _ => ⟨fun _ => ⟨nb0, fun _ => ?_, fun z => absurd rfl z⟩, fun z => absurd ((nI_ltI (by omega) (by omega)).mpr hb) z⟩⟩⟩⟩, fun z => absurd z hc⟩
  refine ⟨fun z => absurd z (by decide), fun _ => ?_⟩
  rw [nI_eq (by omega) (by omega)]
  refine ⟨fun hne => ?_, fun he => h 0 (by decide) (Or.inl ⟨rfl, Or.inl he⟩) _ _ _ _ _ _⟩
  exact s_rmeet hE hP ha hb hne _ (fun h0 => h 0 (by decide) h0) (fun c H K i j m n o1 o2 o3 o4 o5 o6 hc0 hc hcm _ _ _ _ _ _ _ _ _ _ _ => h c hc hcm _ _ _ _ _ _)
