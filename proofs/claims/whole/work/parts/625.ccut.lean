/-! the class cuts -/
theorem sub_len {α : Type} [DecidableEq α] : ∀ {l L : List α}, l.Nodup → (∀ x, x ∈ l → x ∈ L) → l.length ≤ L.length
  | [], _, _, _ => Nat.zero_le _
  | x :: t, L, hn, hs => by
    have h1 := List.nodup_cons.mp hn
    have hx : x ∈ L := hs x List.mem_cons_self
    have ih := sub_len (l := t) (L := L.erase x) h1.2 (fun y hy => (List.mem_erase_of_ne (fun e => h1.1 (by rw [← e]; exact hy))).mpr (hs y (List.mem_cons_of_mem _ hy)))
    rw [List.length_erase_of_mem hx] at ih
    have := List.length_pos_of_mem hx
    rw [List.length_cons]; omega
abbrev plx (a b : Nat × Nat) : Prop := a.1 < b.1 ∨ (a.1 = b.1 ∧ a.2 < b.2)
def SP (l : List (Nat × Nat)) (F : Nat → Nat → Prop) : Prop := l.Pairwise plx ∧ ∀ a b, (a, b) ∈ l ↔ F a b
def Fpc (es : List Ed) (P : List Pt) (a b : Nat) : Prop := ∃ e, e < es.length ∧ nx es P a b e = true
theorem plx_nd {l : List (Nat × Nat)} (h : l.Pairwise plx) : l.Nodup := h.imp (fun {a b} h e => by subst e; unfold plx at h; omega)
theorem SP.congr {l : List (Nat × Nat)} {F G : Nat → Nat → Prop} (h : SP l F) (e : ∀ a b, F a b ↔ G a b) : SP l G := ⟨h.1, fun a b => (h.2 a b).trans (e a b)⟩
theorem SP_uni : ∀ {l l' : List (Nat × Nat)}, l.Pairwise plx → l'.Pairwise plx → (∀ x, x ∈ l ↔ x ∈ l') → l = l'
  | [], [], _, _, _ => rfl
  | [], y :: t', _, _, h => absurd ((h y).mpr List.mem_cons_self) List.not_mem_nil
  | x :: t, [], _, _, h => absurd ((h x).mp List.mem_cons_self) List.not_mem_nil
  | x :: t, y :: t', h1, h2, h => by
    have p1 := List.pairwise_cons.mp h1
    have p2 := List.pairwise_cons.mp h2
    have e : x = y := by
      have hx := (h x).mp List.mem_cons_self
      have hy := (h y).mpr List.mem_cons_self
      rcases List.mem_cons.mp hx with e | hx
      · exact e
      · rcases List.mem_cons.mp hy with e | hy
        · exact e.symm
        · have a1 := p1.1 y hy
          have a2 := p2.1 x hx
          unfold plx at a1 a2; omega
    subst e
    rw [SP_uni p1.2 p2.2 (fun z => ?_)]
    constructor
    · intro hz
      rcases List.mem_cons.mp ((h z).mp (List.mem_cons_of_mem _ hz)) with e | hz'
      · have := p1.1 z hz; rw [e] at this; unfold plx at this; omega
      · exact hz'
    · intro hz
      rcases List.mem_cons.mp ((h z).mpr (List.mem_cons_of_mem _ hz)) with e | hz'
      · have := p2.1 z hz; rw [e] at this; unfold plx at this; omega
      · exact hz'
theorem onK_lt {es : List Ed} {P : List Pt} {e k : Nat} (h : onK es P e k = true) : k < P.length ∧ e < es.length := by
  unfold onK at h
  cases hp : P[k]? with
  | none => rw [hp] at h; cases h
  | some p =>
    refine ⟨lgl hp, ?_⟩
    rw [hp] at h
    have h' : onB es p.1 p.2.1 p.2.2 e = true := h
    unfold onB at h'
    cases hq : es[e]? with
    | none => rw [hq] at h'; cases h'
    | some q => exact lgl hq
theorem nx_iff {es : List Ed} {P : List Pt} {i j e : Nat} : nx es P i j e = true ↔ i < j ∧ onK es P e i = true ∧ onK es P e j = true ∧ ∀ k, k < j → i < k → onK es P e k = false := by
  unfold nx
  simp only [Bool.and_eq_true, decide_eq_true_eq, and_assoc]
theorem opn_iff {es : List Ed} {P : List Pt} {i j e : Nat} : opn es P i j e = true ↔ onK es P e i = true ∧ ∀ k, k < j → i < k → onK es P e k = false := by
  unfold opn
  simp only [Bool.and_eq_true, decide_eq_true_eq]
theorem beq_iff' {a b : Bool} (h : a = true ↔ b = true) : a = b := by cases a <;> cases b <;> simp_all
theorem nx_opn {es : List Ed} {P : List Pt} {i j e : Nat} (h : i < j) : (opn es P i j e && onK es P e j) = nx es P i j e := by
  apply beq_iff'
  rw [Bool.and_eq_true, nx_iff, opn_iff]
  constructor
  · rintro ⟨⟨a, b⟩, c⟩; exact ⟨h, a, c, b⟩
  · rintro ⟨-, a, c, b⟩; exact ⟨⟨a, b⟩, c⟩
theorem opn_s {es : List Ed} {P : List Pt} {i j e : Nat} (h : i < j) : (opn es P i j e && !(nx es P i j e)) = opn es P i (j + 1) e := by
  apply beq_iff'
  rw [Bool.and_eq_true, Bool.not_eq_true', opn_iff, opn_iff, ← nx_opn h, Bool.and_eq_false_iff]
  constructor
  · rintro ⟨⟨a, b⟩, c⟩
    refine ⟨a, fun k hk hi => ?_⟩
    by_cases e : k = j
    · subst e
      rcases c with c | c
      · exact absurd (opn_iff.mpr ⟨a, b⟩) (by rw [c]; decide)
      · exact c
    · exact b k (by omega) hi
  · rintro ⟨a, b⟩
    exact ⟨⟨a, fun k hk hi => b k (by omega) hi⟩, Or.inr (b j (by omega) h)⟩
theorem opn_0 {es : List Ed} {P : List Pt} {i e : Nat} : onK es P e i = opn es P i (i + 1) e := by
  apply beq_iff'
  rw [opn_iff]
  exact ⟨fun h => ⟨h, fun k h1 h2 => by omega⟩, fun h => h.1⟩
theorem s_ccut {fX fY lX lY oP : Nat → Int32} {es : List Ed} (hE : RE fX fY lX lY es) (hO : RO oP es) {pX pY pD pO : Nat → Int32} {P : List Pt} (hP : RP pX pY pD P) (hM : ∀ k, k < P.length → pO k = nI (mk (fun e => onK es P e k) es.length)) {L : List (Nat × Nat)} (hL : ∀ a b, Fpc es P a b → (a, b) ∈ L) (hL2 : L.length ≤ 276) {qF : Nat → Nat → Int32} {nQ : Int32} (Q : (Nat → Nat → Int32) → Int32 → Prop)
    (h : ∀ qF' pcs, SP pcs (Fpc es P) → RQ qF' es P pcs → pcs.length ≤ 276 → Q qF' (nI pcs.length)) : wp_X2_cut qF nQ fX fY lX lY oP (nI es.length) pX pY pD pO (nI P.length) Q := by
  have hn := hE.1
  have hp := hP.1
  have outer : ∀ m i qF pcs, i + m = P.length → SP pcs (fun a b => Fpc es P a b ∧ a < i) → RQ qF es P pcs → wp_X2_cut_L7 fX fY lX lY oP (nI es.length) pX pY pD pO (nI P.length) Q (m + 1) (nI i) qF (nI pcs.length) := by
    intro m
    induction m with
    | zero =>
      intro i qF pcs hi hS hQ
      rw [wp_X2_cut_L7]
      refine ⟨fun _ => ?_, fun z => absurd (nI_le (by omega) (by omega)) z⟩
      have hS' : SP pcs (Fpc es P) := hS.congr (fun a b => ⟨fun z => z.1, fun z => ⟨z, by
        obtain ⟨e, -, he⟩ := z
        have := (onK_lt (nx_iff.mp he).2.1).1
        omega⟩⟩)
      exact h qF pcs hS' hQ (Nat.le_trans (sub_len (plx_nd hS.1) (fun x hx => hL x.1 x.2 ((hS'.2 x.1 x.2).mp hx))) hL2)
    | succ m ih =>
      intro i qF pcs hi hS hQ
      have hil : i < P.length := by omega
      obtain ⟨a, ha⟩ := lg hil
      have inner : ∀ m2 j qF pcs, i < j → j + m2 = P.length → SP pcs (fun a b => Fpc es P a b ∧ (a < i ∨ a = i ∧ b < j)) → RQ qF es P pcs → wp_X2_cut_L28 fX fY lX lY oP (nI es.length) pX pY pD pO (nI P.length) Q (fun v3 qF nQ => (wp_X2_cut_L95 fX fY lX lY oP (nI es.length) pX pY pD pO (nI P.length) Q (wp_X2_cut_L7 fX fY lX lY oP (nI es.length) pX pY pD pO (nI P.length) Q (m + 1)) v3 qF nQ)) (m2 + 1) (nI i) (nI (mk (opn es P i j) es.length)) (nI j) qF (nI pcs.length) := by
        intro m2
        induction m2 with
        | zero =>
          intro j qF pcs hij hj hS hQ
          rw [wp_X2_cut_L28]
          refine ⟨fun _ => ?_, fun z => absurd (nI_le (by omega) (by omega)) z⟩
          show wp_X2_cut_L7 _ _ _ _ _ _ _ _ _ _ _ _ _ (nI i + 1) _ _
          rw [nI_1]
          refine ih (i + 1) qF pcs (by omega) (hS.congr (fun a b => ⟨fun z => ⟨z.1, by omega⟩, fun z => ⟨z.1, ?_⟩⟩)) hQ
          obtain ⟨e, -, he⟩ := z.1
          have := (onK_lt (nx_iff.mp he).2.2.1).1
          have := z.2
          omega
        | succ m2 ih2 =>
          intro j qF pcs hij hj hS hQ
          have hjl : j < P.length := by omega
          obtain ⟨b, hb⟩ := lg hjl
          rw [wp_X2_cut_L28]
          refine ⟨fun z => absurd z (nI_ge (by omega) (by omega)), fun _ => ⟨fun z => ?_, fun z => ⟨vin (show j < 78 by omega) (by decide), fun x52 e52 => ?_⟩⟩⟩
          · show wp_X2_cut_L7 _ _ _ _ _ _ _ _ _ _ _ _ _ (nI i + 1) _ _
            rw [mk_nz hn] at z
            rw [nI_1]
            refine ih (i + 1) qF pcs (by omega) (hS.congr (fun a b => ⟨fun z => ⟨z.1, by omega⟩, fun z2 => ⟨z2.1, ?_⟩⟩)) hQ
            obtain ⟨e, hel, he⟩ := z2.1
            have h2 := z2.2
            by_cases c : a = i
            · right; refine ⟨c, ?_⟩
              apply Nat.lt_of_not_le
              intro hjb
              have hz := z e hel
              subst c
              have he' := nx_iff.mp he
              have : opn es P a j e = true := opn_iff.mpr ⟨he'.2.1, fun k hk hi => he'.2.2.2 k (by omega) hi⟩
              rw [hz] at this; cases this
            · left; omega
          · rw [cl_nI (show j < 2 ^ 31 by omega), hM j hjl, nI_mand, mk_congr (Q := nx es P i j) (fun e _ => nx_opn hij)] at e52
            have nxt : ∀ qF pcs, SP pcs (fun a b => Fpc es P a b ∧ (a < i ∨ a = i ∧ b < j + 1)) → RQ qF es P pcs → wp_X2_cut_L80 fX fY lX lY oP (nI es.length) pX pY pD pO (nI P.length) Q (wp_X2_cut_L28 fX fY lX lY oP (nI es.length) pX pY pD pO (nI P.length) Q (fun v3 qF nQ => (wp_X2_cut_L95 fX fY lX lY oP (nI es.length) pX pY pD pO (nI P.length) Q (wp_X2_cut_L7 fX fY lX lY oP (nI es.length) pX pY pD pO (nI P.length) Q (m + 1)) v3 qF nQ)) (m2 + 1)) (nI i) (nI (mk (opn es P i j) es.length)) (nI j) x52 qF (nI pcs.length) := by
              intro qF pcs hS hQ x87 e87
              rw [e52, nI_andn, mk_congr (Q := opn es P i (j + 1)) (fun e _ => opn_s hij)] at e87
              rw [e87, nI_1]
              exact ih2 (j + 1) qF pcs (by omega) (by omega) hS hQ
            refine ⟨fun z0 => nxt qF pcs (hS.congr (fun a b => ⟨fun z => ⟨z.1, by omega⟩, fun z2 => ⟨z2.1, ?_⟩⟩)) hQ, fun z0 => ?_⟩
            · rw [e52, mk_nz hn] at z0
              have h2 := z2.2
              by_cases c : a = i ∧ b = j
              · obtain ⟨e, hel, he⟩ := z2.1
                rw [c.1, c.2, z0 e hel] at he; cases he
              · omega
            · have hF : Fpc es P i j := by
                rw [e52, mk_nz hn] at z0
                apply Classical.byContradiction
                intro hc
                apply z0
                intro e he
                apply Bool.eq_false_iff.mpr
                intro h2
                exact hc ⟨e, he, h2⟩
              have hS2 : SP (pcs ++ [(i, j)]) (fun a b => Fpc es P a b ∧ (a < i ∨ a = i ∧ b < j + 1)) := by
                refine ⟨List.pairwise_append.mpr ⟨hS.1, List.pairwise_singleton _ _, fun x hx y hy => ?_⟩, fun a b => ?_⟩
                · rw [List.mem_singleton.mp hy]
                  have := ((hS.2 x.1 x.2).mp hx).2
                  unfold plx; dsimp only; omega
                · rw [List.mem_append, List.mem_singleton, hS.2]
                  constructor
                  · rintro (z | z)
                    · exact ⟨z.1, by omega⟩
                    · injection z with z1 z2; subst z1; subst z2; exact ⟨hF, by omega⟩
                  · rintro ⟨z1, z2⟩
                    by_cases c : a = i ∧ b = j
                    · right; rw [c.1, c.2]
                    · left; exact ⟨z1, by omega⟩
              have hlen : (pcs ++ [(i, j)]).length ≤ 276 := Nat.le_trans (sub_len (plx_nd hS2.1) (fun x hx => hL x.1 x.2 ((hS2.2 x.1 x.2).mp hx).1)) hL2
              rw [List.length_append, List.length_singleton] at hlen
              refine ⟨fun z => absurd z (by rw [show (276 : Int32) = nI 276 by decide]; exact nI_ge (by omega) (by decide)), fun _ => ?_⟩
              rw [e52]
              refine s_qadd hE hO hP hQ (by omega) ha hb _ (fun qF' hQ' => ?_)
              rw [← e52]
              have := nxt qF' (pcs ++ [(i, j)]) hS2 hQ'
              rw [List.length_append, List.length_singleton] at this
              exact this
      rw [wp_X2_cut_L7]
      refine ⟨fun z => absurd z (nI_ge (by omega) (by omega)), fun _ => ⟨vin (show i < 78 by omega) (by decide), fun x21 e21 => fun x26 e26 => ?_⟩⟩
      rw [cl_nI (show i < 2 ^ 31 by omega), hM i hil, mk_congr (Q := opn es P i (i + 1)) (fun e _ => opn_0)] at e21
      rw [nI_1] at e26
      subst e21 e26
      exact ⟨m + 1, inner m (i + 1) qF pcs (by omega) (by omega) (hS.congr (fun a b => ⟨fun z => ⟨z.1, by omega⟩, fun z => ⟨z.1, by
        obtain ⟨e, -, he⟩ := z.1
        have := (nx_iff.mp he).1
        have := z.2
        omega⟩⟩)) hQ⟩
  exact ⟨P.length + 1, outer P.length 0 qF [] (by omega) ⟨List.Pairwise.nil, fun a b => ⟨fun z => absurd z List.not_mem_nil, fun z => absurd z.2 (by omega)⟩⟩ (fun k ij hk => by simp at hk)⟩
