/-! common and shared: class and reference answer alike -/
abbrev vE (p0 p1 nE : Int32) : Prop := ¬ p0 < 0 ∧ ¬ nE ≤ p0 ∧ ¬ p1 < 0 ∧ p1 < nE
theorem s_needE {p0 p1 nE : Int32} {Q : Prop} {X : String → Prop} (h : vE p0 p1 nE → Q) (h' : ¬ vE p0 p1 nE → X xIO) : wp_X4_needEdges p0 p1 nE Q X :=
  ⟨fun z => h' (fun y => y.1 z), fun z1 => ⟨fun z => h' (fun y => y.2.1 z), fun z2 => ⟨fun z => h' (fun y => y.2.2.1 z), fun z3 => ⟨fun z4 => h ⟨z1, z2, z3, z4⟩, fun z => h' (fun y => z y.2.2.2)⟩⟩⟩⟩
theorem s_noE {p0 p1 rE : Int32} {Q : Int32 → Prop} (h : vE p0 p1 rE → Q 0) (h' : ¬ vE p0 p1 rE → Q 1) : wp_X5_noEdges p0 p1 rE Q :=
  ⟨fun z => ⟨nb1, h' (fun y => y.1 z)⟩, fun z1 => ⟨fun z => ⟨nb1, h' (fun y => y.2.1 z)⟩, fun z2 => ⟨fun z => ⟨nb1, h' (fun y => y.2.2.1 z)⟩, fun z3 => ⟨fun z4 => ⟨nb0, h ⟨z1, z2, z3, z4⟩⟩, fun z => ⟨nb1, h' (fun y => z y.2.2.2)⟩⟩⟩⟩⟩
theorem vE_idx {p0 p1 : Int32} {n : Nat} (hn : n < 2 ^ 31) (h : vE p0 p1 (nI n)) : ∃ a b, a < n ∧ b < n ∧ p0 = nI a ∧ p1 = nI b := by
  obtain ⟨a, ha, ea⟩ := idx hn h.1 (Int32.not_le.mp h.2.1)
  obtain ⟨b, hb, eb⟩ := idx hn h.2.2.1 h.2.2.2
  exact ⟨a, b, ha, hb, ea, eb⟩
theorem com_or {q r : Ed} (hq : EdOK q) (hr : EdOK r) : NoC q r ∨ ∃ H K, Com q r H K := by
  by_cases hd : dtE q r = 0
  · by_cases hs : sdE q r.1 r.2.1 1 = 0
    · by_cases hl : ple (laF q r) (soL q r)
      · exact Or.inr ⟨_, _, com_L hq hr hd hs hl⟩
      · exact Or.inl (noc_L hq hr hd hs hl)
    · exact Or.inl (fun p hp h => hs (apart hr hd hp h.1.1 h.2.1))
  · by_cases hO : mO q r
    · exact Or.inr ⟨_, _, com_X hO⟩
    · exact Or.inl (noc_X hd hO)
def fstl (es : List Ed) (P : List Pt) (a b i j : Nat) : Prop := i < 78 ∧ j < 78 ∧ onK es P a i = true ∧ onK es P b i = true ∧ onK es P a j = true ∧ onK es P b j = true ∧ ∀ k, onK es P a k = true → onK es P b k = true → i ≤ k ∧ k ≤ j
theorem fl_or {es : List Ed} (hok : ∀ q ∈ es, EdOK q) (h78 : (gaL es).length ≤ 78) {a b : Nat} (ha : a < es.length) (hb : b < es.length) : (∀ k, ¬ (onK es (gaL es) a k = true ∧ onK es (gaL es) b k = true)) ∨ ∃ i j, fstl es (gaL es) a b i j := by
  obtain ⟨q, hq⟩ := lg ha
  obtain ⟨r, hr⟩ := lg hb
  rcases com_or (hok q (List.mem_of_getElem? hq)) (hok r (List.mem_of_getElem? hr)) with h | ⟨H, K, h⟩
  · exact Or.inl (noc_at hq hr h)
  · obtain ⟨i, j, m, n, hi, hj, em, en, i1, i2, j1, j2, hij⟩ := com_at hq hr (hok q (List.mem_of_getElem? hq)) (hok r (List.mem_of_getElem? hr)) h
    have := lgl hi
    have := lgl hj
    exact Or.inr ⟨i, j, by omega, by omega, i1, i2, j1, j2, hij⟩
theorem fl_uni {es : List Ed} {P : List Pt} {a b i j k l : Nat} (h1 : fstl es P a b i j) (h2 : fstl es P a b k l) : i = k ∧ j = l := by
  obtain ⟨-, -, i1, i2, i3, i4, i5⟩ := h1
  obtain ⟨-, -, k1, k2, k3, k4, k5⟩ := h2
  have := i5 k k1 k2
  have := i5 l k3 k4
  have := k5 i i1 i2
  have := k5 j i3 i4
  omega
theorem cmN_ex {es : List Ed} (hok : ∀ q ∈ es, EdOK q) (h78 : (gaL es).length ≤ 78) {a b : Nat} (ha : a < es.length) (hb : b < es.length) : ∃ c, c ≤ 2 ∧ cmN es (gaL es) a b c := by
  by_cases he : a = b
  · exact ⟨0, by decide, Or.inl ⟨rfl, Or.inl he⟩⟩
  · rcases fl_or hok h78 ha hb with h | ⟨i, j, h1, h2, h3, h4, h5, h6, h7⟩
    · exact ⟨0, by decide, Or.inl ⟨rfl, Or.inr h⟩⟩
    · by_cases c : i = j
      · exact ⟨1, by decide, Or.inr ⟨he, i, j, h1, h2, h3, h4, h5, h6, h7, Or.inl ⟨rfl, c⟩⟩⟩
      · exact ⟨2, by decide, Or.inr ⟨he, i, j, h1, h2, h3, h4, h5, h6, h7, Or.inr ⟨rfl, c⟩⟩⟩
def mdE (es : List Ed) (cM nE nP rMd rE : Int32) (pO rAx rAy rBx rBy : Nat → Int32) : Prop := cM = 1 ∧ rMd = 1 ∧ nE = nI es.length ∧ rE = nI es.length ∧ nP = nI (gaL es).length ∧ (gaL es).length ≤ 78 ∧ (∀ k, k < (gaL es).length → pO k = nI (mk (fun e => onK es (gaL es) e k) es.length)) ∧ RE rAx rAy rBx rBy es
theorem j_common {es : List Ed} {cM nE nP rMd rE : Int32} {pO rAx rAy rBx rBy : Nat → Int32} (hst : (cM = 0 ∧ rMd = 0) ∨ mdE es cM nE nP rMd rE pO rAx rAy rBx rBy) (p0 p1 : Int32) : ∃ k v, k < 4 ∧ (∀ oL Q, ans k v Q → wp_L_common p0 p1 cM nE pO nP oL Q) ∧ ∀ rF o1 o2 o3 o4 o5 o6 Q, (∀ o1 o2 o3 o4 o5 o6, Q v (nI k) o1 o2 o3 o4 o5 o6) → wp_X5_common p0 p1 rF rMd rE rAx rAy rBx rBy o1 o2 o3 o4 o5 o6 Q := by
  rcases hst with ⟨rfl, rfl⟩ | ⟨rfl, rfl, rfl, rfl, rfl, h78, hM, hE⟩
  · exact ⟨1, 0, by decide, fun oL Q h => ⟨fun z => absurd rfl z, fun _ => Or.inl ⟨rfl, h oL (fun z => absurd z (by decide))⟩⟩, fun rF o1 o2 o3 o4 o5 o6 Q h => ⟨fun z => absurd rfl z, fun _ => ⟨fun _ => h _ _ _ _ _ _, fun z => absurd (by decide) z⟩⟩⟩
  · have hn := hE.1
    have c1 : ¬ (1 : Int32) = 0 := by decide
    by_cases hv : vE p0 p1 (nI es.length)
    · obtain ⟨a, b, ha, hb, rfl, rfl⟩ := vE_idx (by omega) hv
      obtain ⟨c, hc, hcm⟩ := cmN_ex hE.2.1 h78 ha hb
      refine ⟨0, nI c, by decide, fun oL Q h => ?_, fun rF o1 o2 o3 o4 o5 o6 Q h => ?_⟩
      · refine s_ccommon hn h78 hM ha hb c1 _ _ (fun d hd hdm => ?_)
        rw [cmN_uni hdm hcm]
        exact ans_0 rfl h
      · refine s_rcommon hE h78 ha hb c1 _ (fun d hd hdm o1 o2 o3 o4 o5 o6 => ?_)
        rw [cmN_uni hdm hcm]
        exact h _ _ _ _ _ _
    · refine ⟨2, 0, by decide, fun oL Q h => ⟨fun _ => s_needE (fun z => absurd z hv) (fun _ => Or.inr ⟨rfl, h oL (fun z => absurd z (by decide))⟩), fun z => absurd z c1⟩, fun rF o1 o2 o3 o4 o5 o6 Q h => ⟨fun _ => s_noE (fun z => absurd z hv) (fun _ => ⟨fun z => absurd z c1, fun _ => ⟨fun _ => h _ _ _ _ _ _, fun z => absurd (by decide) z⟩⟩), fun z => absurd z c1⟩⟩
/-- the reference finds a point of the row -/
theorem s_findi {x y d : Nat → Int32} {l : List Pt} (hR : RP x y d l) {a b c : Int64} {H : Pt} (hH : RLg a b c H) {i : Nat} {m : Pt} (hi : l[i]? = some m) (em : peq m H) (Q : Int32 → Prop) (h : Q (nI i)) : wp_X5_find (nI l.length) x y d a b c Q := by
  have hS := hR.2.1
  have rm := hR.red hi
  have hp := hH.2.2.2
  refine s_find hR hH _ (fun k p hk hpe _ => ?_) (fun k hk h1 h2 => ?_)
  · have : p = m := red_eq (hR.red hk) rm (peq_tr (hR.red hk).1 hp rm.1 hpe (peq_sym em))
    subst this
    rw [nd_get (srt_nd hS) hk hi]; exact h
  · exfalso
    rcases Nat.lt_trichotomy i k with c | c | c
    · have := h1 i m c hi
      unfold peq eqv at em; unfold plt lxlt at this; omega
    · subst c
      have := h2 m hi
      unfold peq eqv at em; unfold plt lxlt at this; omega
    · have hkl : k < l.length := by have := lgl hi; omega
      obtain ⟨p, hkp⟩ := lg hkl
      have k1 := h2 p hkp
      have k2 := srt_at hS hkp hi c
      have := plt_tr hp (hR.red hkp).1 rm.1 k1 k2
      unfold peq eqv at em; unfold plt lxlt at this; omega
theorem j_shared {es : List Ed} {cM nE nP rMd rE rP : Int32} {pO rAx rAy rBx rBy rPx rPy rPd : Nat → Int32} (hst : (cM = 0 ∧ rMd = 0) ∨ (mdE es cM nE nP rMd rE pO rAx rAy rBx rBy ∧ rP = nI (gaL es).length ∧ RP rPx rPy rPd (gaL es))) (p0 p1 p2 : Int32) : ∃ k v, k < 4 ∧ (∀ oL Q, ans k v Q → wp_L_shared p0 p1 p2 cM nE pO nP oL Q) ∧ ∀ rF o1 o2 o3 o4 o5 o6 Q, (∀ o1 o2 o3 o4 o5 o6, Q v (nI k) o1 o2 o3 o4 o5 o6) → wp_X5_shared p0 p1 p2 rF rMd rE rAx rAy rBx rBy rP rPx rPy rPd o1 o2 o3 o4 o5 o6 Q := by
  rcases hst with ⟨rfl, rfl⟩ | ⟨⟨rfl, rfl, rfl, rfl, rfl, h78, hM, hE⟩, rfl, hP⟩
  · exact ⟨1, 0, by decide, fun oL Q h => ⟨fun z => absurd rfl z, fun _ => Or.inl ⟨rfl, h oL (fun z => absurd z (by decide))⟩⟩, fun rF o1 o2 o3 o4 o5 o6 Q h => ⟨fun z => absurd rfl z, fun _ => ⟨fun z => absurd z (by decide), fun _ => h _ _ _ _ _ _⟩⟩⟩
  · have hn := hE.1
    have c1 : ¬ (1 : Int32) = 0 := by decide
    by_cases hv : vE p0 p1 (nI es.length)
    · obtain ⟨a, b, ha, hb, rfl, rfl⟩ := vE_idx (by omega) hv
      have hab : nI a = nI b ↔ a = b := nI_eq (by omega) (by omega)
      by_cases hno : a = b ∨ ∀ k, ¬ (onK es (gaL es) a k = true ∧ onK es (gaL es) b k = true)
      · refine ⟨3, 0, by decide, fun oL Q h => ⟨fun _ => s_needE (fun _ => ?_) (fun z => absurd hv z), fun z => absurd z c1⟩, fun rF o1 o2 o3 o4 o5 o6 Q h => ⟨fun _ => s_noE (fun _ => ⟨fun _ => ⟨fun _ => ?_, fun z => absurd (by decide) z⟩, fun z => absurd rfl z⟩) (fun z => absurd hv z), fun z => absurd z c1⟩⟩
        · have hx : (fun E9 => (E9 = xIS ∧ Q 1 oL) ∨ (E9 = xIO ∧ Q 2 oL) ∨ (E9 = xNS ∧ Q 3 oL)) xNS := Or.inr (Or.inr ⟨rfl, h oL (fun z => absurd z (by decide))⟩)
          refine ⟨fun hne => ?_, fun _ => hx⟩
          have hno' : ∀ k, ¬ (onK es (gaL es) a k = true ∧ onK es (gaL es) b k = true) := by
            rcases hno with e | e
            · exact absurd (hab.mpr e) hne
            · exact e
          refine ⟨fun _ => s_fob hn h78 hM ha hb _ (fun _ => ⟨fun z => absurd rfl z, fun _ => hx⟩) (fun k hk k1 k2 _ => absurd ⟨k1, k2⟩ (hno' k)), fun _ => s_lob hn h78 hM ha hb _ (fun _ => ⟨fun z => absurd rfl z, fun _ => hx⟩) (fun k hk k1 k2 _ => absurd ⟨k1, k2⟩ (hno' k))⟩
        · rw [hab]
          refine ⟨fun hne => ?_, fun _ => ⟨fun z => absurd rfl z, fun _ => h _ _ _ _ _ _⟩⟩
          refine s_rmeet hE h78 ha hb hne _ (fun _ o1 o2 o3 o4 o5 o6 => ⟨fun z => absurd rfl z, fun _ => h _ _ _ _ _ _⟩) (fun c H K i j m n o1 o2 o3 o4 o5 o6 hc0 hc hcm _ _ _ _ _ _ i1 i2 _ _ _ => ?_)
          rcases hno with e | e
          · exact absurd e hne
          · exact absurd ⟨i1, i2⟩ (e i)
      · have hne : a ≠ b := fun e => hno (Or.inl e)
        obtain ⟨i, j, hfl⟩ : ∃ i j, fstl es (gaL es) a b i j := by
          rcases fl_or hE.2.1 h78 ha hb with e | e
          · exact absurd (Or.inr e) hno
          · exact e
        have nm1 : ∀ k, k < 78 → ¬ nI k = -1 := fun k hk z => by
          have h1 := (R3_nI (n := k) (by omega)).eq R3_m1
          have := h1.mp z
          omega
        refine ⟨0, if p2 = 0 then nI i else nI j, by decide, fun oL Q h => ⟨fun _ => s_needE (fun _ => ?_) (fun z => absurd hv z), fun z => absurd z c1⟩, fun rF o1 o2 o3 o4 o5 o6 Q h => ⟨fun _ => s_noE (fun _ => ⟨fun _ => ⟨fun _ => ?_, fun z => absurd (by decide) z⟩, fun z => absurd rfl z⟩) (fun z => absurd hv z), fun z => absurd z c1⟩⟩
        · obtain ⟨hi, hj, i1, i2, j1, j2, hij⟩ := hfl
          refine ⟨fun _ => ⟨fun hp => ?_, fun hp => ?_⟩, fun z => absurd (hab.mp z) hne⟩
          · rw [if_pos hp] at h
            refine s_fob hn h78 hM ha hb _ (fun z => absurd ⟨i1, i2⟩ (z i)) (fun k hk k1 k2 k3 => ?_)
            have e : k = i := by
              have := (hij k k1 k2).1
              apply Nat.le_antisymm _ this
              apply Nat.le_of_not_lt
              intro z
              exact k3 i z ⟨i1, i2⟩
            subst e
            exact ⟨fun _ => ans_0 rfl h, fun z => absurd z (nm1 k hk)⟩
          · rw [if_neg hp] at h
            refine s_lob hn h78 hM ha hb _ (fun z => absurd ⟨i1, i2⟩ (z i)) (fun k hk k1 k2 k3 => ?_)
            have e : k = j := by
              have := (hij k k1 k2).2
              apply Nat.le_antisymm this
              apply Nat.le_of_not_lt
              intro z
              exact k3 j z ⟨j1, j2⟩
            subst e
            exact ⟨fun _ => ans_0 rfl h, fun z => absurd z (nm1 k hk)⟩
        · rw [hab]
          refine ⟨fun _ => ?_, fun z => absurd z hne⟩
          refine s_rmeet hE h78 ha hb hne _ (fun hc => ?_) (fun c H K i' j' m n o1 o2 o3 o4 o5 o6 hc0 hc hcm rH rK hi hj em en i1 i2 j1 j2 hij => ?_)
          · rcases hc with ⟨-, e⟩ | ⟨-, k, l, -, -, -, -, -, -, -, e⟩
            · exact absurd e hno
            · omega
          · have li := lgl hi
            have lj := lgl hj
            obtain ⟨e1, e2⟩ := fl_uni hfl ⟨by omega, by omega, i1, i2, j1, j2, hij⟩
            subst e1 e2
            have hc' : ¬ nI c = 0 := nI_ne0 hc0 (by omega)
            refine ⟨fun _ => ⟨fun hp => ⟨fun _ => ⟨fun _ => s_findi hP rH hi em _ ?_, fun z => absurd hp z⟩, fun z => absurd hp z⟩, fun hp => ⟨fun z => absurd z hp, fun _ => ⟨fun z => absurd z hp, fun _ => s_findi hP rK hj en _ ?_⟩⟩⟩, fun z => absurd z hc'⟩
            · rw [if_pos hp] at h; exact h _ _ _ _ _ _
            · rw [if_neg hp] at h; exact h _ _ _ _ _ _
    · refine ⟨2, 0, by decide, fun oL Q h => ⟨fun _ => s_needE (fun z => absurd z hv) (fun _ => Or.inr (Or.inl ⟨rfl, h oL (fun z => absurd z (by decide))⟩)), fun z => absurd z c1⟩, fun rF o1 o2 o3 o4 o5 o6 Q h => ⟨fun _ => s_noE (fun z => absurd z hv) (fun _ => ⟨fun z => absurd z c1, fun _ => ⟨fun z => absurd z (by decide), fun _ => h _ _ _ _ _ _⟩⟩), fun z => absurd z c1⟩⟩
