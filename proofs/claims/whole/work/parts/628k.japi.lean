/-! size, point, piece -/
theorem rngI {a : Int32} {n : Nat} {m : Int32} (hm : m = nI n) (hn : n < 2 ^ 31) : (¬ a < 0 ∧ a ≤ m) ↔ ∃ k, k ≤ n ∧ a = nI k := by
  subst hm
  constructor
  · rintro ⟨h0, h1⟩
    have z0 : (0 : Int32).toInt = 0 := by decide
    rw [Int32.lt_iff_toInt_lt, z0] at h0
    rw [Int32.le_iff_toInt_le, nI_toInt hn] at h1
    refine ⟨a.toInt.toNat, by omega, ?_⟩
    apply Int32.toInt_inj.mp
    rw [nI_toInt (by omega)]; omega
  · rintro ⟨k, hk, rfl⟩
    exact ⟨nI_pos (by omega), nI_le hk hn⟩
theorem sz_eq (a b c : Int32) : ((1 + a) + b) - c = ((b - c) + 1) + a := by grind
theorem j_size {V : Nat → List Vt} {pcs : List (Nat × Nat)} {cM nE nP nQ mQ mN rMd rE rP rQ : Int32} {rAx rAy rBx rBy rFi rLa rOn : Nat → Int32} (hst : (cM = 0 ∧ rMd = 0) ∨ (cM = 1 ∧ rMd = 1 ∧ nE = nI (esOf V).length ∧ rE = nI (esOf V).length ∧ nP = nI (gaL (esOf V)).length ∧ rP = nI (gaL (esOf V)).length ∧ nQ = nI pcs.length ∧ rQ = nI pcs.length ∧ pcs.length ≤ 276 ∧ (gaL (esOf V)).length ≤ 78 ∧ SP pcs (Fpc (esOf V) (gaL (esOf V))) ∧ RE rAx rAy rBx rBy (esOf V) ∧ RR rFi rLa rOn pcs (lay (esOf V) (gaL (esOf V))) ∧ mQ = nI (pairsN (esOf V) (gaL (esOf V))) ∧ mN = nI (partsN (esOf V) (gaL (esOf V))))) (p0 : Int32) : ∃ k v, k < 4 ∧ (∀ oL Q, ans k v Q → wp_L_size p0 cM nE nP nQ mQ mN oL Q) ∧ ∀ rF o1 o2 o3 o4 o5 o6 Q, (∀ o1 o2 o3 o4 o5 o6, Q v (nI k) o1 o2 o3 o4 o5 o6) → wp_X5_size p0 rF rMd rE rAx rAy rBx rBy rP rQ rFi rLa o1 o2 o3 o4 o5 o6 Q := by
  rcases hst with ⟨rfl, rfl⟩ | ⟨rfl, rfl, rfl, rfl, rfl, rfl, rfl, rfl, hl, h78, hS, hE, hR, rfl, rfl⟩
  · exact ⟨1, 0, by decide, fun oL Q h => ⟨fun z => absurd rfl z, fun _ => Or.inl ⟨rfl, h oL (fun z => absurd z (by decide))⟩⟩, fun rF o1 o2 o3 o4 o5 o6 Q h => ⟨fun z => absurd rfl z, fun _ => ⟨fun z => absurd z (by decide), fun _ => h _ _ _ _ _ _⟩⟩⟩
  · have c1 : ¬ (1 : Int32) = 0 := by decide
    by_cases hv : ¬ p0 < 0 ∧ p0 ≤ 4
    · obtain ⟨k, hk, rfl⟩ := (rngI (n := 4) (by decide) (by decide)).mp hv
      have w5 : ∀ rF o1 o2 o3 o4 o5 o6 Q, wp_X5_size_L26 (nI k) 1 (nI (esOf V).length) rAx rAy rBx rBy (nI (gaL (esOf V)).length) (nI pcs.length) rFi rLa Q 0 rF o1 o2 o3 o4 o5 o6 → wp_X5_size (nI k) rF 1 (nI (esOf V).length) rAx rAy rBx rBy (nI (gaL (esOf V)).length) (nI pcs.length) rFi rLa o1 o2 o3 o4 o5 o6 Q := fun rF o1 o2 o3 o4 o5 o6 Q h => ⟨fun _ => ⟨fun z => absurd z hv.1, fun _ => ⟨fun _ => h, fun z => absurd hv.2 z⟩⟩, fun z => absurd z c1⟩
      rcases (show k = 0 ∨ k = 1 ∨ k = 2 ∨ k = 3 ∨ k = 4 by omega) with rfl | rfl | rfl | rfl | rfl
      · refine ⟨0, nI (esOf V).length, by decide, fun oL Q h => ⟨fun _ => ⟨fun _ => ans_0 rfl h, fun z => absurd z (by decide), fun z => absurd z (by decide), fun z => absurd z (by decide), fun z => absurd z (by decide), fun z => absurd rfl z⟩, fun z => absurd z c1⟩, fun rF o1 o2 o3 o4 o5 o6 Q h => w5 _ _ _ _ _ _ _ _ ⟨fun _ => ⟨fun z => absurd rfl z, fun _ => h _ _ _ _ _ _⟩, fun z => absurd (by decide) z⟩⟩
      · refine ⟨0, nI (gaL (esOf V)).length, by decide, fun oL Q h => ⟨fun _ => ⟨fun z => absurd z (by decide), fun _ => ans_0 rfl h, fun z => absurd z (by decide), fun z => absurd z (by decide), fun z => absurd z (by decide), fun _ z => absurd rfl z⟩, fun z => absurd z c1⟩, fun rF o1 o2 o3 o4 o5 o6 Q h => w5 _ _ _ _ _ _ _ _ ⟨fun _ => ⟨fun _ => ⟨fun z => absurd rfl z, fun _ => h _ _ _ _ _ _⟩, fun z => absurd z (by decide)⟩, fun z => absurd (by decide) z⟩⟩
      · refine ⟨0, nI pcs.length, by decide, fun oL Q h => ⟨fun _ => ⟨fun z => absurd z (by decide), fun z => absurd z (by decide), fun _ => ans_0 rfl h, fun z => absurd z (by decide), fun z => absurd z (by decide), fun _ _ z => absurd rfl z⟩, fun z => absurd z c1⟩, fun rF o1 o2 o3 o4 o5 o6 Q h => w5 _ _ _ _ _ _ _ _ ⟨fun _ => ⟨fun _ => ⟨fun _ => ⟨fun z => absurd rfl z, fun _ => h _ _ _ _ _ _⟩, fun z => absurd z (by decide)⟩, fun z => absurd z (by decide)⟩, fun z => absurd (by decide) z⟩⟩
      · refine ⟨0, ((1 + nI (partsN (esOf V) (gaL (esOf V)))) + nI pcs.length) - nI (gaL (esOf V)).length, by decide, fun oL Q h => ⟨fun _ => ⟨fun z => absurd z (by decide), fun z => absurd z (by decide), fun z => absurd z (by decide), fun _ => ans_0 rfl h, fun z => absurd z (by decide), fun _ _ _ z => absurd rfl z⟩, fun z => absurd z c1⟩, fun rF o1 o2 o3 o4 o5 o6 Q h => w5 _ _ _ _ _ _ _ _ ⟨fun _ => ⟨fun _ => ⟨fun _ => ⟨fun _ => ⟨fun z => absurd rfl z, fun _ => ?_⟩, fun z => absurd z (by decide)⟩, fun z => absurd z (by decide)⟩, fun z => absurd z (by decide)⟩, fun z => absurd (by decide) z⟩⟩
        refine s_rparts h78 hl (C := pcR (esOf V) (gaL (esOf V))) (fun k ij hk => ?_) (fun i j hij => Or.inl ((hS.2 i j).mp hij)) pcR_sym (fun i j hij => ?_) _ ?_
        · obtain ⟨g1, g2, g3, g4, -⟩ := hR k ij hk
          obtain ⟨e, -, hx⟩ := (hS.2 ij.1 ij.2).mp (List.mem_of_getElem? hk)
          obtain ⟨-, n1, n2, -⟩ := nx_iff.mp hx
          exact ⟨g3, g4, (onK_lt n1).1, (onK_lt n2).1⟩
        · rcases hij with z | z
          · exact Or.inl ((hS.2 i j).mpr z)
          · exact Or.inr ((hS.2 j i).mpr z)
        · rw [← parts_eq hE.2.1]
          show Q ((nI pcs.length - nI (gaL (esOf V)).length + 1) + nI (partsN (esOf V) (gaL (esOf V)))) 0 o1 o2 o3 o4 o5 o6
          rw [← sz_eq]
          exact h _ _ _ _ _ _
      · refine ⟨0, nI (pairsN (esOf V) (gaL (esOf V))), by decide, fun oL Q h => ⟨fun _ => ⟨fun z => absurd z (by decide), fun z => absurd z (by decide), fun z => absurd z (by decide), fun z => absurd z (by decide), fun _ => ans_0 rfl h, fun _ _ _ _ z => absurd rfl z⟩, fun z => absurd z c1⟩, fun rF o1 o2 o3 o4 o5 o6 Q h => w5 _ _ _ _ _ _ _ _ ⟨fun _ => ⟨fun _ => ⟨fun _ => ⟨fun _ => ⟨fun _ => s_rpairs hE h78 _ (fun o1 o2 o3 o4 o5 o6 => h _ _ _ _ _ _), fun z => absurd z (by decide)⟩, fun z => absurd z (by decide)⟩, fun z => absurd z (by decide)⟩, fun z => absurd z (by decide)⟩, fun z => absurd (by decide) z⟩⟩
    · have hx : ∀ k, k ≤ 4 → ¬ p0 = nI k := fun k hk e => hv ((rngI (n := 4) (by decide) (by decide)).mpr ⟨k, hk, e⟩)
      refine ⟨2, 0, by decide, fun oL Q h => ⟨fun _ => ⟨fun z => absurd z (hx 0 (by decide)), fun z => absurd z (hx 1 (by decide)), fun z => absurd z (hx 2 (by decide)), fun z => absurd z (hx 3 (by decide)), fun z => absurd z (hx 4 (by decide)), fun _ _ _ _ _ => Or.inr ⟨rfl, h oL (fun z => absurd z (by decide))⟩⟩, fun z => absurd z c1⟩, fun rF o1 o2 o3 o4 o5 o6 Q h => ⟨fun _ => ⟨fun _ => ⟨fun z => absurd z (by decide), fun _ => h _ _ _ _ _ _⟩, fun z1 => ⟨fun z2 => absurd ⟨z1, z2⟩ hv, fun _ => ⟨fun z => absurd z (by decide), fun _ => h _ _ _ _ _ _⟩⟩⟩, fun z => absurd z c1⟩⟩
theorem RP_same {x y d x' y' d' : Nat → Int32} {l : List Pt} (h : RP x y d l) (h' : RP x' y' d' l) {k : Nat} (hk : k < l.length) : x' k = x k ∧ y' k = y k ∧ d' k = d k := by
  obtain ⟨p, hp⟩ := lg hk
  obtain ⟨a1, a2, a3⟩ := h.2.2.2 k p hp
  obtain ⟨b1, b2, b3⟩ := h'.2.2.2 k p hp
  exact ⟨Int32.toInt_inj.mp (b1.trans a1.symm), Int32.toInt_inj.mp (b2.trans a2.symm), Int32.toInt_inj.mp (b3.trans a3.symm)⟩
theorem j_point {l : List Pt} {cM nP rMd rP : Int32} {pX pY pD rPx rPy rPd : Nat → Int32} (hst : (cM = 0 ∧ rMd = 0) ∨ (cM = 1 ∧ rMd = 1 ∧ nP = nI l.length ∧ rP = nI l.length ∧ RP pX pY pD l ∧ RP rPx rPy rPd l)) (p0 p1 : Int32) : ∃ k v, k < 4 ∧ (∀ oL Q, ans k v Q → wp_L_point p0 p1 cM pX pY pD nP oL Q) ∧ ∀ rF Q, Q v (nI k) → wp_X5_point p0 p1 rF rMd rP rPx rPy rPd Q := by
  rcases hst with ⟨rfl, rfl⟩ | ⟨rfl, rfl, rfl, rfl, hP, hR⟩
  · exact ⟨1, 0, by decide, fun oL Q h => ⟨fun z => absurd rfl z, fun _ => Or.inl ⟨rfl, h oL (fun z => absurd z (by decide))⟩⟩, fun rF Q h => ⟨fun z => absurd rfl z, fun _ => ⟨fun z => absurd z (by decide), fun _ => h⟩⟩⟩
  · have c1 : ¬ (1 : Int32) = 0 := by decide
    have hl := hP.1
    by_cases hi : ¬ p0 < 0 ∧ p0 < nI l.length
    · obtain ⟨i, hil, rfl⟩ := idx (by omega) hi.1 hi.2
      obtain ⟨e1, e2, e3⟩ := RP_same hP hR hil
      have v78 := vin (show i < 78 by omega) (show 78 < 2 ^ 31 by decide)
      have v80 := vin (show i < 80 by omega) (show 80 < 2 ^ 31 by decide)
      have ei := cl_nI (show i < 2 ^ 31 by omega)
      by_cases hv : ¬ p1 < 0 ∧ p1 ≤ 2
      · obtain ⟨k, hk, rfl⟩ := (rngI (n := 2) (by decide) (by decide)).mp hv
        have w5 : ∀ rF Q, wp_X5_point_L42 (nI i) (nI k) 1 (nI l.length) rPx rPy rPd Q 0 rF → wp_X5_point (nI i) (nI k) rF 1 (nI l.length) rPx rPy rPd Q := fun rF Q h => ⟨fun _ => ⟨fun z => absurd z hi.1, fun _ => ⟨fun _ => ⟨fun z => absurd z hv.1, fun _ => ⟨fun _ => h, fun z => absurd hv.2 z⟩⟩, fun z => absurd hi.2 z⟩⟩, fun z => absurd z c1⟩
        rcases (show k = 0 ∨ k = 1 ∨ k = 2 by omega) with rfl | rfl | rfl
        · refine ⟨0, pX i, by decide, fun oL Q h => ⟨fun _ => ⟨fun z => absurd z hi.1, fun _ => ⟨fun _ => ⟨fun _ => ⟨v78, by rw [ei]; exact ans_0 rfl h⟩, fun z => absurd z (by decide), fun z => absurd z (by decide), fun z => absurd rfl z⟩, fun z => absurd hi.2 z⟩⟩, fun z => absurd z c1⟩, fun rF Q h => w5 _ _ ⟨fun _ => ⟨fun z => absurd rfl z, fun _ => ⟨v80, by rw [ei, e1]; exact h⟩⟩, fun z => absurd (by decide) z⟩⟩
        · refine ⟨0, pY i, by decide, fun oL Q h => ⟨fun _ => ⟨fun z => absurd z hi.1, fun _ => ⟨fun _ => ⟨fun z => absurd z (by decide), fun _ => ⟨v78, by rw [ei]; exact ans_0 rfl h⟩, fun z => absurd z (by decide), fun _ z => absurd rfl z⟩, fun z => absurd hi.2 z⟩⟩, fun z => absurd z c1⟩, fun rF Q h => w5 _ _ ⟨fun _ => ⟨fun _ => ⟨fun z => absurd rfl z, fun _ => ⟨v80, by rw [ei, e2]; exact h⟩⟩, fun z => absurd z (by decide)⟩, fun z => absurd (by decide) z⟩⟩
        · refine ⟨0, pD i, by decide, fun oL Q h => ⟨fun _ => ⟨fun z => absurd z hi.1, fun _ => ⟨fun _ => ⟨fun z => absurd z (by decide), fun z => absurd z (by decide), fun _ => ⟨v78, by rw [ei]; exact ans_0 rfl h⟩, fun _ _ z => absurd rfl z⟩, fun z => absurd hi.2 z⟩⟩, fun z => absurd z c1⟩, fun rF Q h => w5 _ _ ⟨fun _ => ⟨fun _ => ⟨fun _ => ⟨v80, by rw [ei, e3]; exact h⟩, fun z => absurd z (by decide)⟩, fun z => absurd z (by decide)⟩, fun z => absurd (by decide) z⟩⟩
      · have hx : ∀ k, k ≤ 2 → ¬ p1 = nI k := fun k hk e => hv ((rngI (n := 2) (by decide) (by decide)).mpr ⟨k, hk, e⟩)
        refine ⟨3, 0, by decide, fun oL Q h => ⟨fun _ => ⟨fun z => absurd z hi.1, fun _ => ⟨fun _ => ⟨fun z => absurd z (hx 0 (by decide)), fun z => absurd z (hx 1 (by decide)), fun z => absurd z (hx 2 (by decide)), fun _ _ _ => Or.inr (Or.inr ⟨rfl, h oL (fun z => absurd z (by decide))⟩)⟩, fun z => absurd hi.2 z⟩⟩, fun z => absurd z c1⟩, fun rF Q h => ⟨fun _ => ⟨fun z => absurd z hi.1, fun _ => ⟨fun _ => ⟨fun _ => ⟨fun z => absurd z (by decide), fun _ => h⟩, fun z1 => ⟨fun z2 => absurd ⟨z1, z2⟩ hv, fun _ => ⟨fun z => absurd z (by decide), fun _ => h⟩⟩⟩, fun z => absurd hi.2 z⟩⟩, fun z => absurd z c1⟩⟩
    · refine ⟨2, 0, by decide, fun oL Q h => ⟨fun _ => ⟨fun _ => Or.inr (Or.inl ⟨rfl, h oL (fun z => absurd z (by decide))⟩), fun z1 => ⟨fun z2 => absurd ⟨z1, z2⟩ hi, fun _ => Or.inr (Or.inl ⟨rfl, h oL (fun z => absurd z (by decide))⟩)⟩⟩, fun z => absurd z c1⟩, fun rF Q h => ⟨fun _ => ⟨fun _ => ⟨fun z => absurd z (by decide), fun _ => h⟩, fun z1 => ⟨fun z2 => absurd ⟨z1, z2⟩ hi, fun _ => ⟨fun z => absurd z (by decide), fun _ => h⟩⟩⟩, fun z => absurd z c1⟩⟩
theorem lef_lt {es : List Ed} {P : List Pt} {p i j : Nat} : lef es P p i j < 2 := by
  unfold lef; split
  · exact Nat.mod_lt _ (by decide)
  · exact nea_lt
theorem rig_lt {es : List Ed} {P : List Pt} {p i j : Nat} : rig es P p i j < 2 := by
  unfold rig; split
  · exact nea_lt
  · exact Nat.mod_lt _ (by decide)
theorem j_piece {es : List Ed} {P : List Pt} {pcs : List (Nat × Nat)} {cM nQ rMd rQ : Int32} {qF : Nat → Nat → Int32} {rFi rLa rOn rLe rRi : Nat → Int32} (hst : (cM = 0 ∧ rMd = 0) ∨ (cM = 1 ∧ rMd = 1 ∧ nQ = nI pcs.length ∧ rQ = nI pcs.length ∧ pcs.length ≤ 276 ∧ RQ qF es P pcs ∧ RR rFi rLa rOn pcs (lay es P) ∧ RT rLe rRi es P pcs pcs.length)) (p0 p1 : Int32) : ∃ k v, k < 4 ∧ (∀ oL Q, ans k v Q → wp_L_piece p0 p1 cM qF nQ oL Q) ∧ ∀ rF Q, Q v (nI k) → wp_X5_piece p0 p1 rF rMd rQ rFi rLa rOn rLe rRi Q := by
  rcases hst with ⟨rfl, rfl⟩ | ⟨rfl, rfl, rfl, rfl, hl, hQ, hR, hT⟩
  · exact ⟨1, 0, by decide, fun oL Q h => ⟨fun z => absurd rfl z, fun _ => Or.inl ⟨rfl, h oL (fun z => absurd z (by decide))⟩⟩, fun rF Q h => ⟨fun z => absurd rfl z, fun _ => ⟨fun z => absurd z (by decide), fun _ => h⟩⟩⟩
  · have c1 : ¬ (1 : Int32) = 0 := by decide
    by_cases hi : ¬ p0 < 0 ∧ p0 < nI pcs.length
    · obtain ⟨k, hkl, rfl⟩ := idx (by omega) hi.1 hi.2
      obtain ⟨⟨i, j⟩, hij⟩ := lg hkl
      obtain ⟨q1, q2, q3⟩ := hQ k (i, j) hij
      obtain ⟨-, -, g3, g4, g5⟩ := hR k (i, j) hij
      have g6 := hT k (i, j) hkl hij
      dsimp only at q1 q2 q3 g3 g4 g5 g6
      have v276 := vin (show k < 276 by omega) (show 276 < 2 ^ 31 by decide)
      have v300 := vin (show k < 300 by omega) (show 300 < 2 ^ 31 by decide)
      have ek := cl_nI (show k < 2 ^ 31 by omega)
      by_cases hv : ¬ p1 < 0 ∧ p1 ≤ 7
      · obtain ⟨w, hw, rfl⟩ := (rngI (n := 7) (by decide) (by decide)).mp hv
        have w8 : nI w < 8 := by rw [show (8 : Int32) = nI 8 by decide, nI_ltI (by omega) (by decide)]; omega
        have w5 : ∀ rF Q, wp_X5_piece_L43 (nI k) (nI w) 1 (nI pcs.length) rFi rLa rOn rLe rRi Q 0 rF → wp_X5_piece (nI k) (nI w) rF 1 (nI pcs.length) rFi rLa rOn rLe rRi Q := fun rF Q h => ⟨fun _ => ⟨fun z => absurd z hi.1, fun _ => ⟨fun _ => ⟨fun z => absurd z hv.1, fun _ => ⟨fun _ => h, fun z => absurd hv.2 z⟩⟩, fun z => absurd hi.2 z⟩⟩, fun z => absurd z c1⟩
        refine ⟨0, qF w k, by decide, fun oL Q h => ⟨fun _ => ⟨fun z => absurd z hi.1, fun _ => ⟨fun _ => ⟨fun z => absurd z hv.1, fun _ => ⟨fun _ => ⟨vin (show w < 8 by omega) (by decide), v276, by rw [ek, cl_nI (show w < 2 ^ 31 by omega)]; exact ans_0 rfl h⟩, fun z => absurd w8 z⟩⟩, fun z => absurd hi.2 z⟩⟩, fun z => absurd z c1⟩, fun rF Q h => w5 _ _ ⟨fun _ => ?_, fun z => absurd (by decide) z⟩⟩
        have bl : ∀ b, b < 2 → Q (nI b) 0 → wp_X5_piece_L134 (nI k) (nI w) 1 (nI pcs.length) rFi rLa rOn rLe rRi Q (nI b) 0 := by
          intro b hb hQb
          rcases (show b = 0 ∨ b = 1 by omega) with rfl | rfl
          · exact ⟨fun _ => hQb, fun z => absurd rfl z⟩
          · exact ⟨fun z => absurd z (by decide), fun _ => hQb⟩
        rw [show (4 : Int32) = nI 4 by decide, show (6 : Int32) = nI 6 by decide, ble_nI (by decide) (by omega), ble_nI (by decide) (by omega), t2, nI_add]
        refine ⟨fun z4 => ⟨fun z6 => ?_, fun z6 => ?_⟩, fun z4 => ?_⟩
        · rw [pk_sub (by omega), show 2 * k + w - 6 = 2 * k + (w - 6) by omega, cl_nI (by omega), (g6 (w - 6) (by omega)).2]
          refine ⟨vin (by omega) (by decide), bl _ rig_lt ?_⟩
          have := (q3 (w - 6) (by omega)).2.2
          rw [show 6 + (w - 6) = w by omega] at this
          rw [this] at h; exact h
        · rw [pk_sub (by omega), show 2 * k + w - 4 = 2 * k + (w - 4) by omega, cl_nI (by omega), (g6 (w - 4) (by omega)).1]
          refine ⟨vin (by omega) (by decide), bl _ lef_lt ?_⟩
          have := (q3 (w - 4) (by omega)).2.1
          rw [show 4 + (w - 4) = w by omega] at this
          rw [this] at h; exact h
        · rw [← nI_0, show (1 : Int32) = nI 1 by decide, nI_eq (by omega) (by decide), nI_eq (by omega) (by decide)]
          refine ⟨fun n0 => ⟨fun n1 => ?_, fun e => ?_⟩, fun e => ?_⟩
          · rw [show (2 : Int32) = nI 2 by decide, pk_sub (by omega), show 2 * k + w - 2 = 2 * k + (w - 2) by omega, cl_nI (by omega), g5 (w - 2) (by omega)]
            refine ⟨vin (by omega) (by decide), ?_⟩
            have := (q3 (w - 2) (by omega)).1
            rw [show 2 + (w - 2) = w by omega] at this
            rw [this] at h; exact h
          · subst e
            rw [ek, g4]
            rw [q2] at h
            exact ⟨v300, h⟩
          · subst e
            rw [ek, g3]
            rw [q1] at h
            exact ⟨v300, h⟩
      · have nv : p1 < 0 ∨ (¬ p1 < 0 ∧ ¬ p1 ≤ 7) := by
          by_cases z : p1 < 0
          · exact Or.inl z
          · exact Or.inr ⟨z, fun y => hv ⟨z, y⟩⟩
        have n8 : ¬ p1 < 0 → ¬ p1 < 8 := fun z y => hv ⟨z, by
          obtain ⟨w, hw, e⟩ := idx (n := 8) (by decide) z (by rw [show nI 8 = (8 : Int32) by decide]; exact y)
          rw [e, show (7 : Int32) = nI 7 by decide]
          exact nI_le (by omega) (by decide)⟩
        refine ⟨3, 0, by decide, fun oL Q h => ⟨fun _ => ⟨fun z => absurd z hi.1, fun _ => ⟨fun _ => ⟨fun _ => Or.inr (Or.inr ⟨rfl, h oL (fun z => absurd z (by decide))⟩), fun z1 => ⟨fun z2 => absurd z2 (n8 z1), fun _ => Or.inr (Or.inr ⟨rfl, h oL (fun z => absurd z (by decide))⟩)⟩⟩, fun z => absurd hi.2 z⟩⟩, fun z => absurd z c1⟩, fun rF Q h => ⟨fun _ => ⟨fun z => absurd z hi.1, fun _ => ⟨fun _ => ⟨fun _ => ⟨fun z => absurd z (by decide), fun _ => h⟩, fun z1 => ⟨fun z2 => absurd ⟨z1, z2⟩ hv, fun _ => ⟨fun z => absurd z (by decide), fun _ => h⟩⟩⟩, fun z => absurd hi.2 z⟩⟩, fun z => absurd z c1⟩⟩
    · refine ⟨2, 0, by decide, fun oL Q h => ⟨fun _ => ⟨fun _ => Or.inr (Or.inl ⟨rfl, h oL (fun z => absurd z (by decide))⟩), fun z1 => ⟨fun z2 => absurd ⟨z1, z2⟩ hi, fun _ => Or.inr (Or.inl ⟨rfl, h oL (fun z => absurd z (by decide))⟩)⟩⟩, fun z => absurd z c1⟩, fun rF Q h => ⟨fun _ => ⟨fun _ => ⟨fun z => absurd z (by decide), fun _ => h⟩, fun z1 => ⟨fun z2 => absurd ⟨z1, z2⟩ hi, fun _ => ⟨fun z => absurd z (by decide), fun _ => h⟩⟩⟩, fun z => absurd z c1⟩⟩
