/-! the class's overlay -/
def prd (es : List Ed) (P : List Pt) (e : Nat) : Nat → Option Nat
  | 0 => none
  | k + 1 => if onK es P e k then some k else prd es P e k
def pcE (es : List Ed) (P : List Pt) (e : Nat) : Nat → List (Nat × Nat)
  | 0 => []
  | k + 1 => if onK es P e k then (match prd es P e k with
    | some i => (i, k) :: pcE es P e k
    | none => pcE es P e k) else pcE es P e k
theorem prd_none {es : List Ed} {P : List Pt} {e : Nat} : ∀ {k : Nat}, prd es P e k = none → ct (fun k => onK es P e k) k = 0 ∧ pcE es P e k = []
  | 0, _ => ⟨rfl, rfl⟩
  | k + 1, h => by
    rw [prd] at h
    by_cases c : onK es P e k = true
    · rw [if_pos c] at h; cases h
    · rw [if_neg c] at h
      obtain ⟨h1, h2⟩ := prd_none h
      rw [ct, pcE, if_neg c, if_neg c, h1, h2]
      exact ⟨rfl, rfl⟩
theorem prd_some {es : List Ed} {P : List Pt} {e : Nat} : ∀ {k i : Nat}, prd es P e k = some i → 1 ≤ ct (fun k => onK es P e k) k
  | 0, _, h => by cases h
  | k + 1, i, h => by
    rw [prd] at h
    rw [ct]
    by_cases c : onK es P e k = true
    · rw [if_pos c]; omega
    · rw [if_neg c] at h
      have := prd_some h
      omega
theorem pcE_len {es : List Ed} {P : List Pt} {e : Nat} : ∀ {k : Nat}, (pcE es P e k).length ≤ ct (fun k => onK es P e k) k - 1
  | 0 => Nat.zero_le _
  | k + 1 => by
    have ih := pcE_len (es := es) (P := P) (e := e) (k := k)
    rw [pcE, ct]
    by_cases c : onK es P e k = true
    · rw [if_pos c, if_pos c]
      cases hp : prd es P e k with
      | none =>
        have := (prd_none hp).2
        rw [this]; exact Nat.zero_le _
      | some i =>
        have := prd_some hp
        rw [List.length_cons]; omega
    · rw [if_neg c, if_neg c]; omega
theorem prd_nx {es : List Ed} {P : List Pt} {e i : Nat} : ∀ {k : Nat}, i < k → onK es P e i = true → (∀ j, j < k → i < j → onK es P e j = false) → prd es P e k = some i
  | 0, h, _, _ => absurd h (by omega)
  | k + 1, h, h1, h2 => by
    rw [prd]
    by_cases c : i = k
    · subst c; rw [if_pos h1]
    · rw [if_neg (by rw [h2 k (by omega) (by omega)]; decide)]
      exact prd_nx (by omega) h1 (fun j hj hi => h2 j (by omega) hi)
theorem pcE_mem {es : List Ed} {P : List Pt} {e a b : Nat} (h : nx es P a b e = true) : ∀ {k : Nat}, b < k → (a, b) ∈ pcE es P e k
  | 0, hk => absurd hk (by omega)
  | k + 1, hk => by
    rw [pcE]
    obtain ⟨h1, h2, h3, h4⟩ := nx_iff.mp h
    by_cases c : b = k
    · subst c
      rw [if_pos h3, prd_nx h1 h2 h4]
      exact List.mem_cons_self
    · have ih := pcE_mem h (k := k) (by omega)
      split
      · split
        · exact List.mem_cons_of_mem _ ih
        · exact ih
      · exact ih
def pcA (es : List Ed) (P : List Pt) : Nat → List (Nat × Nat)
  | 0 => []
  | e + 1 => pcE es P e P.length ++ pcA es P e
theorem pcA_len {es : List Ed} {P : List Pt} (h24 : ∀ e, ct (fun k => onK es P e k) P.length ≤ 24) : ∀ {n : Nat}, (pcA es P n).length ≤ 23 * n
  | 0 => Nat.le_refl _
  | n + 1 => by
    have ih := pcA_len h24 (n := n)
    have h1 := pcE_len (es := es) (P := P) (e := n) (k := P.length)
    have h2 := h24 n
    rw [pcA, List.length_append]; omega
theorem pcA_mem {es : List Ed} {P : List Pt} {e a b : Nat} (h : nx es P a b e = true) : ∀ {n : Nat}, e < n → (a, b) ∈ pcA es P n
  | 0, hn => absurd hn (by omega)
  | n + 1, hn => by
    rw [pcA, List.mem_append]
    by_cases c : e = n
    · subst c; left; exact pcE_mem h (onK_lt (nx_iff.mp h).2.2.1).1
    · right; exact pcA_mem h (by omega)
/-- what the class holds of an overlay -/
def ClsO (es : List Ed) (P : List Pt) (pcs : List (Nat × Nat)) (fX fY lX lY oP pX pY pD pO : Nat → Int32) (qF : Nat → Nat → Int32) (mQ mN : Int32) : Prop := RE fX fY lX lY es ∧ RO oP es ∧ RP pX pY pD P ∧ (∀ k, k < P.length → pO k = nI (mk (fun e => onK es P e k) es.length)) ∧ RQ qF es P pcs ∧ mQ = nI (pairsN es P) ∧ mN = nI (partsN es P)
theorem s_cover {cX cY : Nat → Nat → Int32} {cN : Nat → Int32} {V : Nat → List Vt} (hV : RVc cX cY cN V) (hK : VOK V) {Q cM fX fY lX lY oP nE pX pY pD pO nP qF nQ mR mQ mN}
    (h : ∀ fX fY lX lY oP pX pY pD pO qF mR mQ mN l, SP l (Fpc (esOf V) (gaL (esOf V))) → l.length ≤ 276 → ClsO (esOf V) (gaL (esOf V)) l fX fY lX lY oP pX pY pD pO qF mQ mN → Q (nI l.length) 1 fX fY lX lY oP (nI (esOf V).length) pX pY pD pO (nI (gaL (esOf V)).length) qF (nI l.length) mR mQ mN) :
    wp_X4_overlay cX cY cN cM fX fY lX lY oP nE pX pY pD pO nP qF nQ mR mQ mN Q := by
  have h0 : (tkE (V 0) 0 []).length ≤ 6 := by
    have := tkF_len (vs := V 0) (p := 0) (es := []) (n := (V 0).length)
    have h2 := (hK 0 (by decide)).1
    rw [List.length_nil] at this
    unfold tkE; omega
  refine s_empty _ (fun oP0 hO0 => ⟨3, ?_⟩)
  rw [wp_X4_overlay_L9]
  refine ⟨fun z => absurd z (by decide), fun _ => s_take hV hK (p := 0) (by decide) (es := []) ⟨Nat.zero_le _, fun q hq => absurd hq List.not_mem_nil, fun e q he => by simp at he⟩ hO0 (Nat.zero_le _) _ (fun x1 x2 x3 x4 x5 hR1 hO1 => ?_)⟩
  show wp_X4_overlay_L9 _ _ _ _ _ (nI 0 + 1) _ _ _ _ _ _ _ _ _ _ _ _ _ _ _ _ _
  rw [nI_1, wp_X4_overlay_L9]
  refine ⟨fun z => absurd z (by decide), fun _ => s_take hV hK (p := 1) (by decide) hR1 hO1 h0 _ (fun y1 y2 y3 y4 y5 hR2 hO2 => ?_)⟩
  rw [nI_1, wp_X4_overlay_L9]
  refine ⟨fun _ => ?_, fun z => absurd (by decide) z⟩
  have hE : RE y1 y2 y3 y4 (esOf V) := hR2
  have hO : RO y5 (esOf V) := hO2
  have h24 := fun e => on_24 hE.2.1 hE.1 e
  show wp_X3_gather _ _ _ _ _ _ _ _ _ (nI (esOf V).length) _
  refine s_gather hE (ga_78 hK hE.1) _ (fun z1 z2 z3 z4 hP hM => ?_)
  have hM' : ∀ k, k < (gaL (esOf V)).length → z4 k = nI (mk (fun e => onK (esOf V) (gaL (esOf V)) e k) (esOf V).length) := by
    intro k hk
    obtain ⟨p, hp⟩ := lg hk
    rw [hM k p hp]
    congr 1
    exact mk_congr (fun e _ => by unfold onK; rw [hp]; rfl)
  refine s_ccut hE hO hP hM' (L := pcA (esOf V) (gaL (esOf V)) (esOf V).length) (fun a b hF => ?_) ?_ _ (fun q1 l hS hQ hl => ?_)
  · obtain ⟨e, he, hx⟩ := hF
    exact pcA_mem hx he
  · have := pcA_len h24 (n := (esOf V).length)
    have := hE.1
    omega
  · exact s_cfind hE.1 hP.1 hM' _ (fun mR' => h _ _ _ _ _ _ _ _ _ _ _ _ _ l hS hl ⟨hE, hO, hP, hM', hQ, rfl, rfl⟩)
