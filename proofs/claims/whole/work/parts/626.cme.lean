/-! the class's meetings -/
def shN (es : List Ed) (P : List Pt) (e f : Nat) : Nat → Bool
  | 0 => false
  | m + 1 => shN es P e f m || (onK es P e m && onK es P f m)
theorem shN_iff {es : List Ed} {P : List Pt} {e f : Nat} : ∀ {m : Nat}, shN es P e f m = true ↔ ∃ k, k < m ∧ onK es P e k = true ∧ onK es P f k = true
  | 0 => by simp [shN]
  | m + 1 => by
    rw [shN, Bool.or_eq_true, Bool.and_eq_true, shN_iff]
    constructor
    · rintro (⟨k, h1, h2⟩ | h)
      · exact ⟨k, by omega, h2⟩
      · exact ⟨m, by omega, h⟩
    · rintro ⟨k, h1, h2⟩
      by_cases c : k = m
      · subst c; exact Or.inr h2
      · exact Or.inl ⟨k, by omega, h2⟩
def shB (es : List Ed) (P : List Pt) (e f : Nat) : Bool := shN es P e f P.length
theorem btr {b : Bool} (z : ¬ b = false) : b = true := by cases b <;> simp_all
theorem and_2 {m e : Nat} : m &&& 2 ^ e = 0 ↔ m.testBit e = false := by
  constructor
  · intro h
    have := congrArg (fun x => Nat.testBit x e) h
    simpa [Nat.testBit_and, Nat.testBit_two_pow] using this
  · intro h
    apply Nat.eq_of_testBit_eq
    intro i
    rw [Nat.testBit_and, Nat.testBit_two_pow, Nat.zero_testBit]
    by_cases c : e = i
    · subst c; simp [h]
    · simp [c]
theorem bit_and {A : Nat → Bool} {n e : Nat} (hn : n ≤ 12) (he : e < n) : nI (mk A n) &&& ((1 : Int32) <<< (nI e &&& 31)) = 0 ↔ A e = false := by
  have h4 := mk_4096 (P := A) hn
  rw [nI_shl e (by omega), nI_and, ← nI_0, nI_eq (Nat.lt_of_le_of_lt Nat.and_le_left (by omega)) (by decide), and_2, mk_bit]
  simp only [he, decide_true, Bool.true_and]
theorem low_mask {A : Nat → Bool} {n e : Nat} (hn : n ≤ 12) (he : e < n) : nI (mk A n) &&& ((1 : Int32) <<< (nI e &&& 31) - 1) = nI (mk (fun f => decide (f < e) && A f) n) := by
  have h1 : (1 : Int32) <<< (nI e &&& 31) - 1 = nI (2 ^ e - 1) := by
    rw [nI_shl e (by omega)]
    have hp : 0 < 2 ^ e := Nat.pow_pos (by decide)
    rw [← nI_pred (2 ^ e - 1), show 2 ^ e - 1 + 1 = 2 ^ e by omega]
  have h2 : 2 ^ e - 1 = mk (fun f => decide (f < e)) n := by
    refine mk_eq ?_ (fun i hi => ?_)
    · have h3 : 2 ^ e < 2 ^ n := Nat.pow_lt_pow_right (by decide) he
      have h4 : 0 < 2 ^ e := Nat.pow_pos (by decide)
      omega
    · rw [Nat.testBit_two_pow_sub_one]
  rw [h1, h2, nI_mand, mk_congr]
  intro i _
  exact Bool.and_comm _ _
theorem s_met {es : List Ed} {P : List Pt} (hn : es.length ≤ 12) (hp : P.length ≤ 78) {pO : Nat → Int32} (hM : ∀ k, k < P.length → pO k = nI (mk (fun e => onK es P e k) es.length)) {e : Nat} (he : e < es.length) (Q : Int32 → Prop) (h : Q (nI (mk (shB es P e) es.length))) : wp_X1_edgesMet (nI e) pO (nI P.length) Q := by
  have key : ∀ m k, k + m = P.length → wp_X1_edgesMet_L4 (nI e) pO (nI P.length) Q (m + 1) (nI (mk (fun f => shN es P e f k) es.length)) (nI k) := by
    intro m
    induction m with
    | zero =>
      intro k hk
      rw [wp_X1_edgesMet_L4]
      refine ⟨fun _ => ?_, fun z => absurd (nI_le (by omega) (by omega)) z⟩
      have e : k = P.length := by omega
      subst e
      exact h
    | succ m ih =>
      intro k hk
      have hkl : k < P.length := by omega
      have hv := vin (show k < 78 by omega) (show 78 < 2 ^ 31 by decide)
      have ih2 := ih (k + 1) (by omega)
      rw [wp_X1_edgesMet_L4, cl_nI (show k < 2 ^ 31 by omega), hM k hkl, bit_and hn he]
      refine ⟨fun z => absurd z (nI_ge (by omega) (by omega)), fun _ => ⟨hv, fun z => ?_, fun z => ⟨hv, fun x33 e33 => ?_⟩⟩⟩
      · show wp_X1_edgesMet_L4 _ _ _ _ _ _ (nI k + 1)
        rw [nI_1]
        rw [mk_congr (Q := fun f => shN es P e f k) (fun f _ => by rw [shN, z]; simp)] at ih2
        exact ih2
      · show wp_X1_edgesMet_L4 _ _ _ _ _ _ (nI k + 1)
        rw [nI_1, e33, nI_mor]
        rw [mk_congr (Q := fun f => shN es P e f k || onK es P f k) (fun f _ => by rw [shN, btr z]; simp)] at ih2
        exact ih2
  refine ⟨P.length + 1, ?_⟩
  have := key P.length 0 (by omega)
  rw [show mk (fun f => shN es P e f 0) es.length = 0 from mk_zero.mpr (fun i _ => rfl)] at this
  exact this
def prs (B : Nat → Nat → Bool) : Nat → Nat
  | 0 => 0
  | e + 1 => prs B e + ct (B e) e
theorem prs_le {B : Nat → Nat → Bool} : ∀ {n : Nat}, prs B n ≤ n * n
  | 0 => Nat.le_refl _
  | n + 1 => by
    have h1 := prs_le (B := B) (n := n)
    have h2 := ct_le (B n) n
    rw [prs, Nat.succ_mul, Nat.mul_succ]; omega
theorem s_cpairs {B : Nat → Nat → Bool} {n : Nat} (hn : n ≤ 12) {mR : Nat → Int32} (hM : ∀ e, e < n → mR e = nI (mk (B e) n)) (Q : Int32 → Prop) (h : Q (nI (prs B n))) : wp_X1_countPairs (nI n) mR Q := by
  have key : ∀ m e, e + m = n → wp_X1_countPairs_L4 (nI n) mR Q (m + 1) (nI (prs B e)) (nI e) := by
    intro m
    induction m with
    | zero =>
      intro e he
      rw [wp_X1_countPairs_L4]
      refine ⟨fun _ => ?_, fun z => absurd (nI_le (by omega) (by omega)) z⟩
      have e' : e = n := by omega
      subst e'
      exact h
    | succ m ih =>
      intro e he
      rw [wp_X1_countPairs_L4]
      refine ⟨fun z => absurd z (nI_ge (by omega) (by omega)), fun _ => fun x14 e14 => ⟨vin (show e < 12 by omega) (by decide), ?_⟩⟩
      rw [cl_nI (show e < 2 ^ 31 by omega), hM e (by omega), e14, low_mask hn (by omega)]
      refine s_bcm hn _ (fun x30 e30 => ?_)
      rw [ct_cut (by omega), nI_add] at e30
      rw [e30, nI_1]
      exact ih (e + 1) (by omega)
  exact ⟨n + 1, key n 0 (by omega)⟩
def wst (B : Nat → Nat → Bool) (o e f : Nat) : Bool := B e f || (B e o && B o f)
def WB (B : Nat → Nat → Bool) : Nat → Nat → Nat → Bool
  | 0 => B
  | o + 1 => wst (WB B o) o
theorem s_spread {B : Nat → Nat → Bool} {n : Nat} (hn : n ≤ 12) {mR : Nat → Int32} (hM : ∀ e, e < n → mR e = nI (mk (B e) n)) (Q : (Nat → Int32) → Prop) (h : ∀ mR', (∀ e, e < n → mR' e = nI (mk (WB B n e) n)) → Q mR') : wp_X1_spread (nI n) mR Q := by
  have outer : ∀ m o mR, o + m = n → (∀ e, e < n → mR e = nI (mk (WB B o e) n)) → wp_X1_spread_L2 (nI n) Q (m + 1) (nI o) mR := by
    intro m
    induction m with
    | zero =>
      intro o mR ho hM
      rw [wp_X1_spread_L2]
      refine ⟨fun _ => ?_, fun z => absurd (nI_le (by omega) (by omega)) z⟩
      have e' : o = n := by omega
      subst e'
      exact h _ hM
    | succ m ih =>
      intro o mR ho hM
      have hon : o < n := by omega
      have self : ∀ f, wst (WB B o) o o f = WB B o o f := fun f => by unfold wst; cases WB B o o f <;> simp
      have inner : ∀ m2 e mR, e + m2 = n → (∀ g, g < n → mR g = nI (mk (if g < e then WB B (o + 1) g else WB B o g) n)) → wp_X1_spread_L9 (nI n) Q (fun v2 mR => (wp_X1_spread_L52 (nI n) Q (wp_X1_spread_L2 (nI n) Q (m + 1)) v2 mR)) (m2 + 1) (nI o) (nI e) mR := by
        intro m2
        induction m2 with
        | zero =>
          intro e mR he hM
          rw [wp_X1_spread_L9]
          refine ⟨fun _ => ?_, fun z => absurd (nI_le (by omega) (by omega)) z⟩
          show wp_X1_spread_L2 _ _ _ (nI o + 1) _
          rw [nI_1]
          exact ih (o + 1) mR (by omega) (fun g hg => by rw [hM g hg, if_pos (by omega)])
        | succ m2 ih2 =>
          intro e mR he hM
          have hen : e < n := by omega
          have hv := vin (show e < 12 by omega) (show 12 < 2 ^ 31 by decide)
          have hov := vin (show o < 12 by omega) (show 12 < 2 ^ 31 by decide)
          have he1 : mR e = nI (mk (WB B o e) n) := by rw [hM e hen, if_neg (by omega)]
          have ho1 : mR o = nI (mk (WB B o o) n) := by
            rw [hM o hon]
            by_cases c : o < e
            · rw [if_pos c]; congr 1; exact mk_congr (fun f _ => self f)
            · rw [if_neg c]
          have nxt : ∀ mR', (∀ g, g < n → mR' g = nI (mk (if g < e + 1 then WB B (o + 1) g else WB B o g) n)) → wp_X1_spread_L46 (nI n) Q (wp_X1_spread_L9 (nI n) Q (fun v2 mR => (wp_X1_spread_L52 (nI n) Q (wp_X1_spread_L2 (nI n) Q (m + 1)) v2 mR)) (m2 + 1)) (nI o) (nI e) mR' := by
            intro mR' hM'
            show wp_X1_spread_L9 _ _ _ _ _ (nI e + 1) _
            rw [nI_1]
            exact ih2 (e + 1) mR' (by omega) hM'
          rw [wp_X1_spread_L9, cl_nI (show e < 2 ^ 31 by omega), cl_nI (show o < 2 ^ 31 by omega), he1, ho1, bit_and hn hon]
          refine ⟨fun z => absurd z (nI_ge (by omega) (by omega)), fun _ => ⟨hv, fun z => nxt mR (fun g hg => ?_), fun z => ⟨hv, hov, hv, fun y45 e45 => nxt y45 (fun g hg => ?_)⟩⟩⟩
          · by_cases c : g = e
            · subst c
              rw [he1, if_pos (by omega)]; congr 1
              exact mk_congr (fun f _ => by show _ = wst (WB B o) o g f; unfold wst; rw [z]; simp)
            · rw [hM g hg]
              by_cases c2 : g < e
              · rw [if_pos c2, if_pos (by omega)]
              · rw [if_neg c2, if_neg (by omega)]
          · by_cases c : g = e
            · subst c
              rw [e45, pk_us, nI_mor, if_pos (by omega)]; congr 1
              exact mk_congr (fun f _ => by show _ = wst (WB B o) o g f; unfold wst; rw [btr z]; simp)
            · rw [e45, pk_un c, hM g hg]
              by_cases c2 : g < e
              · rw [if_pos c2, if_pos (by omega)]
              · rw [if_neg c2, if_neg (by omega)]
      rw [wp_X1_spread_L2]
      refine ⟨fun z => absurd z (nI_ge (by omega) (by omega)), fun _ => ⟨n + 1, inner n 0 mR (by omega) (fun g hg => by rw [hM g hg, if_neg (by omega)])⟩⟩
  exact ⟨n + 1, outer n 0 mR (by omega) hM⟩
def lowE (B : Nat → Nat → Bool) (e : Nat) : Bool := decide (∀ f, f < e → B e f = false)
theorem s_cparts {B : Nat → Nat → Bool} {n : Nat} (hn : n ≤ 12) {mR : Nat → Int32} (hM : ∀ e, e < n → mR e = nI (mk (B e) n)) (Q : Int32 → Prop) (h : Q (nI (ct (lowE B) n))) : wp_X1_countParts (nI n) mR Q := by
  have key : ∀ m e, e + m = n → wp_X1_countParts_L4 (nI n) mR Q (m + 1) (nI (ct (lowE B) e)) (nI e) := by
    intro m
    induction m with
    | zero =>
      intro e he
      rw [wp_X1_countParts_L4]
      refine ⟨fun _ => ?_, fun z => absurd (nI_le (by omega) (by omega)) z⟩
      have e' : e = n := by omega
      subst e'
      exact h
    | succ m ih =>
      intro e he
      have ih2 := ih (e + 1) (by omega)
      have hlow : nI (mk (fun f => decide (f < e) && B e f) n) = 0 ↔ lowE B e = true := by
        rw [mk_nz hn]
        unfold lowE
        rw [decide_eq_true_eq]
        constructor
        · intro h f hf
          have := h f (by omega)
          simpa [hf] using this
        · intro h f _
          by_cases c : f < e
          · simp [c, h f c]
          · simp [c]
      rw [wp_X1_countParts_L4]
      refine ⟨fun z => absurd z (nI_ge (by omega) (by omega)), fun _ => fun x14 e14 => ⟨vin (show e < 12 by omega) (by decide), ?_⟩⟩
      rw [cl_nI (show e < 2 ^ 31 by omega), hM e (by omega), e14, low_mask hn (by omega), hlow]
      refine ⟨fun z => ?_, fun z => ?_⟩
      · show wp_X1_countParts_L4 _ _ _ _ _ (nI e + 1)
        rw [nI_1]
        rw [ct, if_neg z] at ih2
        exact ih2
      · show wp_X1_countParts_L4 _ _ _ _ (_ + 1) (nI e + 1)
        rw [nI_1, nI_1]
        rw [ct, if_pos z] at ih2
        exact ih2
  exact ⟨n + 1, key n 0 (by omega)⟩
def pairsN (es : List Ed) (P : List Pt) : Nat := prs (shB es P) es.length
def partsN (es : List Ed) (P : List Pt) : Nat := ct (lowE (WB (shB es P) es.length)) es.length
theorem s_cfind {es : List Ed} {P : List Pt} (hn : es.length ≤ 12) (hp : P.length ≤ 78) {pO : Nat → Int32} (hM : ∀ k, k < P.length → pO k = nI (mk (fun e => onK es P e k) es.length)) {mR : Nat → Int32} {mQ mN : Int32} (Q : (Nat → Int32) → Int32 → Int32 → Prop) (h : ∀ mR', Q mR' (nI (pairsN es P)) (nI (partsN es P))) : wp_X1_find (nI es.length) mR mQ mN pO (nI P.length) Q := by
  have key : ∀ m e mR, e + m = es.length → (∀ g, g < e → mR g = nI (mk (shB es P g) es.length)) → wp_X1_find_L2 (nI es.length) pO (nI P.length) Q (m + 1) (nI e) mR mQ mN := by
    intro m
    induction m with
    | zero =>
      intro e mR he hR
      rw [wp_X1_find_L2]
      refine ⟨fun _ => ?_, fun z => absurd (nI_le (by omega) (by omega)) z⟩
      have e' : e = es.length := by omega
      subst e'
      exact s_cpairs hn hR _ (s_spread hn hR _ (fun mR' hR' => s_cparts hn hR' _ (h mR')))
    | succ m ih =>
      intro e mR he hR
      rw [wp_X1_find_L2]
      refine ⟨fun z => absurd z (nI_ge (by omega) (by omega)), fun _ => s_met hn hp hM (by omega) _ ⟨vin (show e < 12 by omega) (by decide), fun y17 e17 => ?_⟩⟩
      rw [cl_nI (show e < 2 ^ 31 by omega)] at e17
      rw [nI_1]
      refine ih (e + 1) y17 (by omega) (fun g hg => ?_)
      rw [e17]
      by_cases c : g = e
      · subst c; rw [pk_us]
      · rw [pk_un c]; exact hR g (by omega)
  exact ⟨es.length + 1, key es.length 0 mR (by omega) (fun g hg => absurd hg (by omega))⟩
