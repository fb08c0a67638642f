/-! the reference cuts an edge -/
theorem onK_at {es : List Ed} {P : List Pt} {e k : Nat} {q : Ed} {p : Pt} (he : es[e]? = some q) (hk : P[k]? = some p) : onK es P e k = decide (onP q p) := by
  unfold onK onB; rw [hk]; simp only [Option.any_some]; rw [he]; rfl
theorem ct_zero {P : Nat → Bool} : ∀ {n : Nat}, (∀ i, i < n → P i = false) → ct P n = 0
  | 0, _ => rfl
  | n + 1, h => by rw [ct, ct_zero (fun i hi => h i (by omega)), h n (by omega)]; rfl
def cF (es : List Ed) (P : List Pt) (e k : Nat) (p i j : Nat) : Nat := ct (fun e' => nx es P i j e' && ownB es p e') e + (if ownB es p e && nx es P i j e && decide (j < k) then 1 else 0)
def FC (es : List Ed) (P : List Pt) (e k : Nat) (a b : Nat) : Prop := (∃ e', e' < e ∧ nx es P a b e' = true) ∨ (nx es P a b e = true ∧ b < k)
def beR (es : List Ed) (P : List Pt) (e k : Nat) (v : Int32) : Prop := (v = -1 ∧ ∀ k', k' < k → onK es P e k' = false) ∨ ∃ i, v = nI i ∧ i < k ∧ onK es P e i = true ∧ ∀ k', k' < k → i < k' → onK es P e k' = false
theorem RR_congr {rFi rLa rOn : Nat → Int32} {l : List (Nat × Nat)} {c c' : Nat → Nat → Nat → Nat} (h : RR rFi rLa rOn l c) (e : ∀ p i j, c p i j = c' p i j) : RR rFi rLa rOn l c' := by
  intro k ij hk
  obtain ⟨h1, h2, h3, h4, h5⟩ := h k ij hk
  exact ⟨h1, h2, h3, h4, fun p hp => by rw [h5 p hp, e]⟩
theorem s_rcut {fX fY lX lY rO : Nat → Int32} {es : List Ed} (hE : RE fX fY lX lY es) (hW : RW rO es) {pX pY pD : Nat → Int32} {P : List Pt} (hP : RP pX pY pD P) {e : Nat} (he : e < es.length) (h24 : ct (fun k => onK es P e k) P.length ≤ 24) {rFi rLa rOn : Nat → Int32} {l : List (Nat × Nat)} (hS : SP l (FC es P e 0)) (hR : RR rFi rLa rOn l (cF es P e 0)) (hl : l.length ≤ 23 * e) (Q : Int32 → (Nat → Int32) → (Nat → Int32) → (Nat → Int32) → Prop)
    (h : ∀ rFi rLa rOn l, SP l (FC es P (e + 1) 0) → RR rFi rLa rOn l (cF es P (e + 1) 0) → l.length ≤ 23 * (e + 1) → Q (nI l.length) rFi rLa rOn) : wp_X5_cut (nI e) fX fY lX lY rO (nI P.length) pX pY pD (nI l.length) rFi rLa rOn Q := by
  have hn := hE.1
  have hp := hP.1
  obtain ⟨q, hq⟩ := lg he
  have hown : q.2.2.2.2 < 2 := (hE.ok hq).2.2.2.2.2
  have key : ∀ m k v rFi rLa rOn l, k + m = P.length → beR es P e k v → SP l (FC es P e k) → RR rFi rLa rOn l (cF es P e k) → l.length ≤ 23 * e + (ct (fun k => onK es P e k) k - 1) → ct (fun k => onK es P e k) k ≤ 24 →
      wp_X5_cut_L4 (nI e) fX fY lX lY rO (nI P.length) pX pY pD Q (m + 1) v (nI k) (nI l.length) rFi rLa rOn := by
    intro m
    induction m with
    | zero =>
      intro k v rFi rLa rOn l hk hb hS hR hl hc
      rw [wp_X5_cut_L4]
      refine ⟨fun _ => ?_, fun z => absurd (nI_le (by omega) (by omega)) z⟩
      have ek : k = P.length := by omega
      subst ek
      refine h rFi rLa rOn l (hS.congr (fun a b => ?_)) (RR_congr hR (fun p i j => ?_)) (by omega)
      · unfold FC
        constructor
        · rintro (⟨e', h1, h2⟩ | ⟨h1, h2⟩)
          · exact Or.inl ⟨e', by omega, h2⟩
          · exact Or.inl ⟨e, by omega, h1⟩
        · rintro (⟨e', h1, h2⟩ | ⟨h1, h2⟩)
          · by_cases c : e' = e
            · subst c; exact Or.inr ⟨h2, (onK_lt (nx_iff.mp h2).2.2.1).1⟩
            · exact Or.inl ⟨e', by omega, h2⟩
          · omega
      · unfold cF
        rw [ct]
        have hz : (if (ownB es p (e + 1) && nx es P i j (e + 1) && decide (j < 0)) = true then 1 else 0) = 0 := by simp
        rw [hz, Nat.add_zero]
        congr 1
        cases hx : nx es P i j e with
        | false => simp
        | true =>
          have := (onK_lt (nx_iff.mp hx).2.2.1).1
          simp [this]
    | succ m ih =>
      intro k v rFi rLa rOn l hk hb hS hR hl hc
      have hkl : k < P.length := by omega
      obtain ⟨p, hp'⟩ := lg hkl
      have hv80 := vin (show k < 80 by omega) (show 80 < 2 ^ 31 by decide)
      obtain ⟨r1, r2, r3⟩ := hP.r hp'
      have hon := onK_at hq hp'
      have hct : ct (fun k => onK es P e k) (k + 1) = ct (fun k => onK es P e k) k + (if onK es P e k then 1 else 0) := rfl
      have hmono : ct (fun k => onK es P e k) (k + 1) ≤ 24 := by
        refine Nat.le_trans ?_ h24
        have : ∀ a b, ct (fun k => onK es P e k) a ≤ ct (fun k => onK es P e k) (a + b) := by
          intro a b
          induction b with
          | zero => exact Nat.le_refl _
          | succ b ihb => exact Nat.le_trans ihb (Nat.le_add_right _ _)
        have := this (k + 1) m
        rw [show k + 1 + m = P.length by omega] at this
        exact this
      rw [wp_X5_cut_L4]
      refine ⟨fun z => absurd z (nI_ge (by omega) (by omega)), fun _ => ⟨hv80, hv80, hv80, ?_⟩⟩
      rw [cl_nI (show k < 2 ^ 31 by omega)]
      refine s_onEdge hE hq (r1.i2l.weak (by decide)) (r2.i2l.weak (by decide)) (r3.i2l.weak (by decide)) _ ?_
      by_cases c : onE q p.1 p.2.1 p.2.2
      · rw [if_pos c]
        have honT : onK es P e k = true := by rw [hon]; exact decide_eq_true c
        have hbe : beR es P e (k + 1) (nI k) := Or.inr ⟨k, rfl, by omega, honT, fun k' h1 h2 => by omega⟩
        refine ⟨fun z => absurd z (by decide), fun _ => ⟨fun z => ?_, fun z => ⟨vin (show e < 12 by omega) (by decide), ?_⟩⟩⟩
        · rcases hb with ⟨-, hb⟩ | ⟨i, hi, hi2, -⟩
          · show wp_X5_cut_L4 _ _ _ _ _ _ _ _ _ _ _ _ _ (nI k + 1) _ _ _ _
            rw [nI_1]
            have no : ∀ a, nx es P a k e = true → False := fun a ha => by
              have ha' := nx_iff.mp ha
              have := hb a ha'.1
              rw [ha'.2.1] at this; cases this
            refine ih (k + 1) (nI k) rFi rLa rOn l (by omega) hbe (hS.congr (fun a b => ?_)) (RR_congr hR (fun p i j => ?_)) (by rw [hct]; omega) hmono
            · unfold FC
              constructor
              · rintro (h1 | h1)
                · exact Or.inl h1
                · exact Or.inr ⟨h1.1, by omega⟩
              · rintro (h1 | h1)
                · exact Or.inl h1
                · refine Or.inr ⟨h1.1, ?_⟩
                  have h2 := h1.2
                  by_cases cb : b = k
                  · subst cb; exact (no a h1.1).elim
                  · omega
            · unfold cF
              congr 1
              by_cases cj : j = k
              · subst cj
                cases hx : nx es P i j e with
                | false => simp
                | true => exact (no i hx).elim
              · rw [show decide (j < k) = decide (j < k + 1) from decide_eq_decide.mpr (by omega)]
          · rw [hi] at z; exact absurd z (nI_pos (by omega))
        · rcases hb with ⟨hb, -⟩ | ⟨i, hi, hi2, hi3, hi4⟩
          · rw [hb] at z; exact absurd (by decide) z
          · have hnx : ∀ a, nx es P a k e = true ↔ a = i := by
              intro a
              rw [nx_iff]
              constructor
              · rintro ⟨h1, h2, h3, h4⟩
                rcases (show a < i ∨ a = i ∨ i < a by omega) with d | d | d
                · have := h4 i hi2 d; rw [hi3] at this; cases this
                · exact d
                · have := hi4 a h1 d; rw [h2] at this; cases this
              · rintro rfl
                exact ⟨hi2, hi3, honT, hi4⟩
            have hik := (hnx i).mpr rfl
            have hlen := insP_len (n := (i, k)) (l := l)
            have hpos : 1 ≤ ct (fun k => onK es P e k) k := by
              have hz : ∀ n, i < n → 1 ≤ ct (fun k => onK es P e k) n := by
                intro n
                induction n with
                | zero => intro h; omega
                | succ n ihn =>
                  intro h
                  rw [ct]
                  by_cases ci : i = n
                  · subst ci; rw [if_pos hi3]; omega
                  · have := ihn (by omega); omega
              exact hz k hi2
            have hcup : ∀ p' i' j', cup (cF es P e k) q.2.2.2.2 i k p' i' j' = cF es P e (k + 1) p' i' j' := by
              intro p' i' j'
              unfold cup
              by_cases cc : p' = q.2.2.2.2 ∧ i' = i ∧ j' = k
              · obtain ⟨rfl, rfl, rfl⟩ := cc
                rw [if_pos ⟨rfl, rfl, rfl⟩]
                unfold cF
                rw [hik, ownB_at hq]; simp
              · rw [if_neg cc]
                unfold cF
                congr 1
                by_cases cj : j' = k
                · subst cj
                  cases hx : nx es P i' j' e with
                  | false => simp
                  | true =>
                    have hii := (hnx i').mp hx
                    subst hii
                    have : ownB es p' e = false := by
                      rw [ownB_at hq]
                      apply Bool.eq_false_iff.mpr
                      intro hcc
                      exact cc ⟨(beq_iff_eq.mp hcc).symm, rfl, rfl⟩
                    simp [this]
                · rw [show decide (j' < k) = decide (j' < k + 1) from decide_eq_decide.mpr (by omega)]
            rw [cl_nI (show e < 2 ^ 31 by omega), hW e q hq, hi]
            refine s_addPiece hR hS.1 (by omega) (by omega) hown ?_ (by omega) (by omega) _ (fun rFi rLa rOn hR' => ?_)
            · intro hni
              have hnot : ∀ e', e' < e → nx es P i k e' = false := fun e' h1 => by
                apply Bool.eq_false_iff.mpr
                intro h2
                exact hni ((hS.2 i k).mpr (Or.inl ⟨e', h1, h2⟩))
              unfold cF
              constructor
              · rw [ct_zero (fun e' h1 => by rw [hnot e' h1]; rfl)]; simp
              · rw [ct_zero (fun e' h1 => by rw [hnot e' h1]; rfl)]; simp
            · show wp_X5_cut_L4 _ _ _ _ _ _ _ _ _ _ _ _ _ (nI k + 1) _ _ _ _
              rw [nI_1]
              refine ih (k + 1) (nI k) rFi rLa rOn (insP (i, k) l) (by omega) hbe ⟨insP_srt hS.1, fun a b => ?_⟩ (RR_congr hR' hcup) (by rw [hct, honT, if_pos rfl]; omega) hmono
              rw [insP_mem, hS.2]
              unfold FC
              constructor
              · rintro (h1 | h1 | h1)
                · injection h1 with h1 h2; subst h1; subst h2; exact Or.inr ⟨hik, by omega⟩
                · exact Or.inl h1
                · exact Or.inr ⟨h1.1, by omega⟩
              · rintro (h1 | h1)
                · exact Or.inr (Or.inl h1)
                · by_cases cb : b = k
                  · subst cb
                    left; rw [(hnx a).mp h1.1]
                  · exact Or.inr (Or.inr ⟨h1.1, by have := h1.2; omega⟩)
      · rw [if_neg c]
        have honF : onK es P e k = false := by rw [hon]; exact decide_eq_false c
        refine ⟨fun _ => ?_, fun z => absurd rfl z⟩
        show wp_X5_cut_L4 _ _ _ _ _ _ _ _ _ _ _ _ _ (nI k + 1) _ _ _ _
        rw [nI_1]
        have no : ∀ a, nx es P a k e = true → False := fun a ha => by
          have ha' := nx_iff.mp ha
          rw [ha'.2.2.1] at honF; cases honF
        refine ih (k + 1) v rFi rLa rOn l (by omega) ?_ (hS.congr (fun a b => ?_)) (RR_congr hR (fun p i j => ?_)) (by rw [hct]; omega) hmono
        · rcases hb with ⟨h1, h2⟩ | ⟨i, h1, h2, h3, h4⟩
          · refine Or.inl ⟨h1, fun k' hk' => ?_⟩
            by_cases ck : k' = k
            · subst ck; exact honF
            · exact h2 k' (by omega)
          · refine Or.inr ⟨i, h1, by omega, h3, fun k' hk' hik' => ?_⟩
            by_cases ck : k' = k
            · subst ck; exact honF
            · exact h4 k' (by omega) hik'
        · unfold FC
          constructor
          · rintro (h1 | h1)
            · exact Or.inl h1
            · exact Or.inr ⟨h1.1, by omega⟩
          · rintro (h1 | h1)
            · exact Or.inl h1
            · refine Or.inr ⟨h1.1, ?_⟩
              have h2 := h1.2
              by_cases cb : b = k
              · subst cb; exact (no a h1.1).elim
              · omega
        · unfold cF
          congr 1
          by_cases cj : j = k
          · subst cj
            cases hx : nx es P i j e with
            | false => simp
            | true => exact (no i hx).elim
          · rw [show decide (j < k) = decide (j < k + 1) from decide_eq_decide.mpr (by omega)]
  exact ⟨P.length + 1, key P.length 0 (-1) rFi rLa rOn l (by omega) (Or.inl ⟨rfl, fun k' hk' => by omega⟩) hS hR (by omega) (by show ct _ 0 ≤ 24; exact Nat.zero_le _)⟩
