/-! connected parts: of the edges, and of the points -/
def con (B : Nat → Nat → Prop) (e f : Nat) : Prop := ∀ S : Nat → Prop, S e → (∀ a b, S a → B a b → S b) → S f
theorem con_refl {B : Nat → Nat → Prop} (e : Nat) : con B e e := fun _ h _ => h
theorem con_step {B : Nat → Nat → Prop} {e f : Nat} (h : B e f) : con B e f := fun _ h1 h2 => h2 e f h1 h
theorem con_tr {B : Nat → Nat → Prop} {e f g : Nat} (h1 : con B e f) (h2 : con B f g) : con B e g := fun S h hs => h2 S (h1 S h hs) hs
theorem con_sym {B : Nat → Nat → Prop} (hB : ∀ a b, B a b → B b a) {e f : Nat} (h : con B e f) : con B f e := h (fun x => con B x e) (con_refl e) (fun a b ha hab => con_tr (con_step (hB a b hab)) ha)
theorem WB_mono {B : Nat → Nat → Bool} {e f : Nat} (h : B e f = true) : ∀ {o : Nat}, WB B o e f = true
  | 0 => h
  | o + 1 => by
    show wst (WB B o) o e f = true
    unfold wst
    rw [WB_mono h, Bool.true_or]
theorem wst_iff {B : Nat → Nat → Bool} {o e f : Nat} : wst B o e f = true ↔ B e f = true ∨ (B e o = true ∧ B o f = true) := by
  unfold wst
  rw [Bool.or_eq_true, Bool.and_eq_true]
theorem WB_tr {B : Nat → Nat → Bool} : ∀ {o m e f : Nat}, m < o → WB B o e m = true → WB B o m f = true → WB B o e f = true
  | 0, m, e, f, h, _, _ => absurd h (by omega)
  | o + 1, m, e, f, h, h1, h2 => by
    have T := @WB_tr B o
    have h1' : wst (WB B o) o e m = true := h1
    have h2' : wst (WB B o) o m f = true := h2
    show wst (WB B o) o e f = true
    rw [wst_iff] at h1' h2' ⊢
    by_cases c : m = o
    · subst c
      have a1 : WB B m e m = true := by rcases h1' with a | a; exact a; exact a.1
      have a2 : WB B m m f = true := by rcases h2' with a | a; exact a; exact a.2
      exact Or.inr ⟨a1, a2⟩
    · have hm : m < o := by omega
      rcases h1' with a | a <;> rcases h2' with b | b
      · exact Or.inl (T hm a b)
      · exact Or.inr ⟨T hm a b.1, b.2⟩
      · exact Or.inr ⟨a.1, T hm a.2 b⟩
      · exact Or.inr ⟨a.1, b.2⟩
theorem WB_con {B : Nat → Nat → Bool} : ∀ {o e f : Nat}, WB B o e f = true → con (fun a b => B a b = true) e f
  | 0, e, f, h => con_step h
  | o + 1, e, f, h => by
    have h' : wst (WB B o) o e f = true := h
    rw [wst_iff] at h'
    rcases h' with a | a
    · exact WB_con a
    · exact con_tr (WB_con a.1) (WB_con a.2)
theorem WB_iff {B : Nat → Nat → Bool} {n : Nat} (hB : ∀ a b, B a b = true → a < n) (hr : ∀ a, a < n → B a a = true) {e f : Nat} (he : e < n) : WB B n e f = true ↔ con (fun a b => B a b = true) e f :=
  ⟨WB_con, fun h => h (fun x => WB B n e x = true) (WB_mono (hr e he)) (fun a b ha hab => WB_tr (hB a b hab) ha (WB_mono hab))⟩
/-! edges and points -/
def shR (es : List Ed) (P : List Pt) (a b : Nat) : Prop := shB es P a b = true
def pcR (es : List Ed) (P : List Pt) (i j : Nat) : Prop := Fpc es P i j ∨ Fpc es P j i
theorem pcR_sym {es : List Ed} {P : List Pt} (i j : Nat) (h : pcR es P i j) : pcR es P j i := Or.symm h
theorem shR_iff {es : List Ed} {P : List Pt} {a b : Nat} : shR es P a b ↔ ∃ k, onK es P a k = true ∧ onK es P b k = true := by
  unfold shR shB
  rw [shN_iff]
  constructor
  · rintro ⟨k, -, h⟩; exact ⟨k, h⟩
  · rintro ⟨k, h⟩; exact ⟨k, (onK_lt h.1).1, h⟩
theorem shR_sym {es : List Ed} {P : List Pt} (a b : Nat) (h : shR es P a b) : shR es P b a := by
  rw [shR_iff] at h ⊢
  obtain ⟨k, h1, h2⟩ := h
  exact ⟨k, h2, h1⟩
theorem prd_ge {es : List Ed} {P : List Pt} {e i : Nat} (hi : onK es P e i = true) : ∀ {j : Nat}, i < j → ∃ k, prd es P e j = some k ∧ i ≤ k ∧ k < j ∧ onK es P e k = true ∧ ∀ l, l < j → k < l → onK es P e l = false
  | 0, h => absurd h (by omega)
  | j + 1, h => by
    rw [prd]
    by_cases c : onK es P e j = true
    · rw [if_pos c]; exact ⟨j, rfl, by omega, by omega, c, fun l h1 h2 => by omega⟩
    · rw [if_neg c]
      have hij : i ≠ j := fun z => by subst z; exact c hi
      obtain ⟨k, k1, k2, k3, k4, k5⟩ := prd_ge hi (j := j) (by omega)
      refine ⟨k, k1, k2, by omega, k4, fun l h1 h2 => ?_⟩
      by_cases d : l = j
      · subst d; exact Bool.eq_false_iff.mpr c
      · exact k5 l (by omega) h2
theorem on_con1 {es : List Ed} {P : List Pt} {e i : Nat} (hi : onK es P e i = true) (j : Nat) (hij : i ≤ j) (hj : onK es P e j = true) : con (pcR es P) i j := by
  induction j using Nat.strongRecOn with
  | ind j ih =>
    by_cases c : i = j
    · subst c; exact con_refl i
    · obtain ⟨k, -, k2, k3, k4, k5⟩ := prd_ge hi (j := j) (by omega)
      have hx : nx es P k j e = true := nx_iff.mpr ⟨k3, k4, hj, k5⟩
      exact con_tr (ih k k3 k2 k4) (con_step (Or.inl ⟨e, (onK_lt k4).2, hx⟩))
theorem on_con {es : List Ed} {P : List Pt} {e i j : Nat} (hi : onK es P e i = true) (hj : onK es P e j = true) : con (pcR es P) i j := by
  rcases Nat.le_total i j with c | c
  · exact on_con1 hi j c hj
  · exact con_sym pcR_sym (on_con1 hj i c hi)
theorem pc_on {es : List Ed} {P : List Pt} {i j : Nat} (h : pcR es P i j) : ∃ e, onK es P e i = true ∧ onK es P e j = true := by
  rcases h with ⟨e, -, h⟩ | ⟨e, -, h⟩
  · exact ⟨e, (nx_iff.mp h).2.1, (nx_iff.mp h).2.2.1⟩
  · exact ⟨e, (nx_iff.mp h).2.2.1, (nx_iff.mp h).2.1⟩
theorem con_ep {es : List Ed} {P : List Pt} {e f i j : Nat} (hi : onK es P e i = true) (hj : onK es P f j = true) : con (shR es P) e f ↔ con (pcR es P) i j := by
  constructor
  · intro h
    refine h (fun g => ∀ x, onK es P g x = true → con (pcR es P) i x) (fun x hx => on_con hi hx) (fun a b ha hab x hx => ?_) j hj
    obtain ⟨k, k1, k2⟩ := shR_iff.mp hab
    exact con_tr (ha k k1) (on_con k2 hx)
  · intro h
    refine h (fun x => ∀ g, onK es P g x = true → con (shR es P) e g) (fun g hg => con_step (shR_iff.mpr ⟨i, hi, hg⟩)) (fun x y hx hxy g hg => ?_) f hj
    obtain ⟨g0, g1, g2⟩ := pc_on hxy
    exact con_tr (hx g0 g1) (con_step (shR_iff.mpr ⟨y, g2, hg⟩))
/-! counting -/
theorem ct_flt {P : Nat → Bool} : ∀ {n : Nat}, ct P n = ((List.range n).filter P).length
  | 0 => rfl
  | n + 1 => by
    rw [ct, ct_flt, List.range_succ, List.filter_append, List.length_append]
    congr 1
    by_cases h : P n = true
    · simp [h]
    · simp [h]
theorem ct_inj {A B : Nat → Bool} {n m : Nat} (r : Nat → Nat → Prop) (hex : ∀ e, e < n → A e = true → ∃ k, k < m ∧ B k = true ∧ r e k) (hinj : ∀ e f k, e < n → f < n → A e = true → A f = true → r e k → r f k → e = f) : ct A n ≤ ct B m := by
  have hc : ∃ φ : Nat → Nat, ∀ e, e < n → A e = true → φ e < m ∧ B (φ e) = true ∧ r e (φ e) := by
    refine ⟨fun e => Classical.epsilon (fun k => k < m ∧ B k = true ∧ r e k), fun e he ha => ?_⟩
    exact Classical.epsilon_spec (hex e he ha)
  obtain ⟨φ, hφ⟩ := hc
  rw [ct_flt, ct_flt, ← List.length_map φ]
  have hm : ∀ e, e ∈ (List.range n).filter A → e < n ∧ A e = true := fun e he => by
    obtain ⟨h1, h2⟩ := List.mem_filter.mp he
    exact ⟨List.mem_range.mp h1, h2⟩
  refine sub_len ?_ (fun x hx => ?_)
  · have hp : ((List.range n).filter A).Pairwise (· < ·) := List.pairwise_lt_range.filter A
    unfold List.Nodup
    rw [List.pairwise_map]
    refine hp.imp_of_mem (fun {a b} ha hb hab => ?_)
    intro heq
    obtain ⟨a1, a2⟩ := hm a ha
    obtain ⟨b1, b2⟩ := hm b hb
    have h1 := (hφ a a1 a2).2.2
    have h2 := (hφ b b1 b2).2.2
    rw [heq] at h1
    have := hinj a b _ a1 b1 a2 b2 h1 h2
    omega
  · obtain ⟨e, he, rfl⟩ := List.mem_map.mp hx
    obtain ⟨e1, e2⟩ := hm e he
    obtain ⟨h1, h2, -⟩ := hφ e e1 e2
    exact List.mem_filter.mpr ⟨List.mem_range.mpr h1, h2⟩
theorem least {S : Nat → Prop} : ∀ (k : Nat), S k → ∃ j, S j ∧ j ≤ k ∧ ∀ i, i < j → ¬ S i := by
  intro k
  induction k using Nat.strongRecOn with
  | ind k ih =>
    intro hk
    by_cases c : ∃ i, i < k ∧ S i
    · obtain ⟨i, h1, h2⟩ := c
      obtain ⟨j, j1, j2, j3⟩ := ih i h1 h2
      exact ⟨j, j1, by omega, j3⟩
    · exact ⟨k, hk, Nat.le_refl _, fun i hi hs => c ⟨i, hi, hs⟩⟩
noncomputable def lowC (B : Nat → Nat → Prop) (k : Nat) : Bool := @decide (∀ j, j < k → ¬ con B k j) (Classical.propDecidable _)
theorem lowC_iff {B : Nat → Nat → Prop} {k : Nat} : lowC B k = true ↔ ∀ j, j < k → ¬ con B k j := by unfold lowC; exact @decide_eq_true_iff _ (Classical.propDecidable _)
/-- as many parts of edges as of points -/
theorem ct_con {E Q : Nat → Nat → Prop} {n m : Nat} (hE : ∀ a b, E a b → E b a) (hQ : ∀ a b, Q a b → Q b a) (on : Nat → Nat → Prop) (hon : ∀ e k, on e k → e < n ∧ k < m) (h1 : ∀ e, e < n → ∃ k, on e k) (h2 : ∀ k, k < m → ∃ e, on e k) (hc : ∀ e f i j, on e i → on f j → (con E e f ↔ con Q i j)) : ct (lowC E) n ≤ ct (lowC Q) m := by
  refine ct_inj (fun e k => ∃ x, on e x ∧ con Q x k) (fun e he _ => ?_) (fun e f k he hf ae af hr1 hr2 => ?_)
  · obtain ⟨x, hx⟩ := h1 e he
    obtain ⟨j, j1, j2, j3⟩ := least (S := fun k => con Q x k) x (con_refl x)
    refine ⟨j, by have := (hon e x hx).2; omega, lowC_iff.mpr (fun i hi hcon => j3 i hi (con_tr j1 hcon)), x, hx, j1⟩
  · obtain ⟨x, x1, x2⟩ := hr1
    obtain ⟨y, y1, y2⟩ := hr2
    have hxy : con Q x y := con_tr x2 (con_sym hQ y2)
    have hef := (hc e f x y x1 y1).mpr hxy
    rw [lowC_iff] at ae af
    rcases Nat.lt_trichotomy e f with c | c | c
    · exact absurd (con_sym hE hef) (af e c)
    · exact c
    · exact absurd hef (ae f c)
theorem parts_eq {es : List Ed} (hok : ∀ q ∈ es, EdOK q) : partsN es (gaL es) = ct (lowC (pcR es (gaL es))) (gaL es).length := by
  have hpt : ∀ k, k < (gaL es).length → ∃ e, onK es (gaL es) e k = true := by
    intro k hk
    obtain ⟨p, hp⟩ := lg hk
    obtain ⟨a, q, ha, h⟩ := gaL_mem.mp (List.mem_of_getElem? hp)
    have hq := hok q (List.mem_of_getElem? ha)
    refine ⟨a, ?_⟩
    rw [onK_at ha hp]
    apply decide_eq_true
    rcases h with h | h | ⟨b, r, -, -, hO, h⟩
    · rw [h]; exact onP_fi hq
    · rw [h]; exact onP_la hq
    · rw [h]; exact (onP_mR hO).1
  have hed : ∀ e, e < es.length → ∃ k, onK es (gaL es) e k = true := by
    intro e he
    obtain ⟨q, hq⟩ := lg he
    have hm : fi q ∈ gaL es := gaL_mem.mpr ⟨e, q, hq, Or.inl rfl⟩
    obtain ⟨k, hk⟩ := List.mem_iff_getElem?.mp hm
    refine ⟨k, ?_⟩
    rw [onK_at hq hk]
    exact decide_eq_true (onP_fi (hok q (List.mem_of_getElem? hq)))
  have e1 : partsN es (gaL es) = ct (lowC (shR es (gaL es))) es.length := by
    unfold partsN
    refine ct_congr (fun e he => beq_iff' ?_)
    rw [lowC_iff]
    unfold lowE
    rw [decide_eq_true_eq]
    have hW : ∀ f, WB (shB es (gaL es)) es.length e f = true ↔ con (shR es (gaL es)) e f := fun f => WB_iff (B := shB es (gaL es)) (fun a b hab => by
      obtain ⟨k, k1, -⟩ := shR_iff.mp hab
      exact (onK_lt k1).2) (fun a ha => by
      obtain ⟨k, hk⟩ := hed a ha
      exact shR_iff.mpr ⟨k, hk, hk⟩) he
    constructor
    · intro h f hf hc
      have := h f hf
      rw [(hW f).mpr hc] at this; cases this
    · intro h f hf
      exact Bool.eq_false_iff.mpr (fun z => h f hf ((hW f).mp z))
  rw [e1]
  apply Nat.le_antisymm
  · exact ct_con shR_sym pcR_sym (fun e k => onK es (gaL es) e k = true) (fun e k h => ⟨(onK_lt h).2, (onK_lt h).1⟩) hed hpt (fun e f i j hi hj => con_ep hi hj)
  · exact ct_con pcR_sym shR_sym (fun k e => onK es (gaL es) e k = true) (fun e k h => ⟨(onK_lt h).1, (onK_lt h).2⟩) hpt hed (fun i j e f hi hj => (con_ep hi hj).symm)
