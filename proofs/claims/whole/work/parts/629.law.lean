/-! the law's loop -/
def MADE (cM : Int32) (fX : Nat → Int32) (fY : Nat → Int32) (lX : Nat → Int32) (lY : Nat → Int32) (oP : Nat → Int32) (nE : Int32) (pX : Nat → Int32) (pY : Nat → Int32) (pD : Nat → Int32) (pO : Nat → Int32) (nP : Int32) (qF : Nat → Nat → Int32) (nQ : Int32) (mQ : Int32) (mN : Int32) (rMd : Int32) (rE : Int32) (rAx : Nat → Int32) (rAy : Nat → Int32) (rBx : Nat → Int32) (rBy : Nat → Int32) (rO : Nat → Int32) (rP : Int32) (rPx : Nat → Int32) (rPy : Nat → Int32) (rPd : Nat → Int32) (rQ : Int32) (rFi : Nat → Int32) (rLa : Nat → Int32) (rOn : Nat → Int32) (rLe : Nat → Int32) (rRi : Nat → Int32) : Prop := (cM = 0 ∧ rMd = 0) ∨ ∃ W pcs, VOK W ∧ cM = 1 ∧ rMd = 1 ∧ nE = nI (esOf W).length ∧ rE = nI (esOf W).length ∧ nP = nI (gaL (esOf W)).length ∧ rP = nI (gaL (esOf W)).length ∧ nQ = nI pcs.length ∧ rQ = nI pcs.length ∧ SP pcs (Fpc (esOf W) (gaL (esOf W))) ∧ pcs.length ≤ 276 ∧ ClsO (esOf W) (gaL (esOf W)) pcs fX fY lX lY oP pX pY pD pO qF mQ mN ∧ RefO (esOf W) (gaL (esOf W)) pcs rAx rAy rBx rBy rO rPx rPy rPd rFi rLa rOn rLe rRi
def VERT (cX cY : Nat → Nat → Int32) (cN rS rVx rVy : Nat → Int32) : Prop := ∃ V, VOK V ∧ RVc cX cY cN V ∧ RVr rS rVx rVy V
theorem chk {k : Nat} {v : Int32} {oL : Nat → Int64} {K : Prop} (hk : k < 4) (ho : k = 0 → oL 0 = v.toInt64) (hK : K) : (nI k = nI k → ((¬ (nI k = 0) → K) ∧ (nI k = 0 → (vp_in (0 : Int32) 1 ∧ ((oL (0 : Int32).toNatClampNeg = v.toInt64 → K) ∧ (¬ (oL (0 : Int32).toNatClampNeg = v.toInt64) → (0 : Int32) = 1)))))) ∧ (¬ (nI k = nI k) → (0 : Int32) = 1) := by
  refine ⟨fun _ => ⟨fun _ => hK, fun z => ⟨vin (e := 0) (by decide) (by decide), fun _ => hK, fun y => absurd ?_ y⟩⟩, fun z => absurd rfl z⟩
  rw [← nI_0, nI_eq (by omega) (by decide)] at z
  exact ho z
theorem chkD {k : Nat} {v : UInt64} {oD : Nat → UInt64} {K K' : Prop} (hk : k < 4) (ho : k = 0 → oD 0 = v) (hK : K) : (nI k = nI k → ((¬ (nI k = 0) → K) ∧ (nI k = 0 → (vp_in (0 : Int32) 1 ∧ (((Op.cmpValue (FP.dcmp (oD (0 : Int32).toNatClampNeg) v) .l) = 0 → K) ∧ (¬ ((Op.cmpValue (FP.dcmp (oD (0 : Int32).toNatClampNeg) v) .l) = 0) → (vp_in (0 : Int32) 1 ∧ (vp_in (0 : Int32) 1 ∧ (((Op.cmpValue (FP.dcmp (oD (0 : Int32).toNatClampNeg) (oD (0 : Int32).toNatClampNeg)) .l) = 0 → K') ∧ (¬ ((Op.cmpValue (FP.dcmp (oD (0 : Int32).toNatClampNeg) (oD (0 : Int32).toNatClampNeg)) .l) = 0) → ((¬ ((Op.cmpValue (FP.dcmp v v) .l) = 0) → K) ∧ ((Op.cmpValue (FP.dcmp v v) .l) = 0 → K')))))))))))) ∧ (¬ (nI k = nI k) → (0 : Int32) = 1) := by
  have v0 : vp_in (0 : Int32) 1 := vin (e := 0) (by decide) (by decide)
  refine ⟨fun _ => ⟨fun _ => hK, fun z => ?_⟩, fun z => absurd rfl z⟩
  rw [← nI_0, nI_eq (by omega) (by decide)] at z
  have e : oD (0 : Int32).toNatClampNeg = v := ho z
  rw [e]
  exact ⟨v0, fun _ => hK, fun y => ⟨v0, v0, fun y2 => absurd y2 y, fun _ => ⟨fun _ => hK, fun y2 => absurd y2 y⟩⟩⟩
theorem md_E {cM : Int32} {fX : Nat → Int32} {fY : Nat → Int32} {lX : Nat → Int32} {lY : Nat → Int32} {oP : Nat → Int32} {nE : Int32} {pX : Nat → Int32} {pY : Nat → Int32} {pD : Nat → Int32} {pO : Nat → Int32} {nP : Int32} {qF : Nat → Nat → Int32} {nQ : Int32} {mQ : Int32} {mN : Int32} {rMd : Int32} {rE : Int32} {rAx : Nat → Int32} {rAy : Nat → Int32} {rBx : Nat → Int32} {rBy : Nat → Int32} {rO : Nat → Int32} {rP : Int32} {rPx : Nat → Int32} {rPy : Nat → Int32} {rPd : Nat → Int32} {rQ : Int32} {rFi : Nat → Int32} {rLa : Nat → Int32} {rOn : Nat → Int32} {rLe : Nat → Int32} {rRi : Nat → Int32} (h : MADE cM fX fY lX lY oP nE pX pY pD pO nP qF nQ mQ mN rMd rE rAx rAy rBx rBy rO rP rPx rPy rPd rQ rFi rLa rOn rLe rRi) : ∃ es : List Ed, (cM = 0 ∧ rMd = 0) ∨ (mdE es cM nE nP rMd rE pO rAx rAy rBx rBy ∧ rP = nI (gaL es).length ∧ RP rPx rPy rPd (gaL es)) := by
  rcases h with h | ⟨W, pcs, hW, a1, a2, a3, a4, a5, a6, a7, a8, hS, hl, ⟨c1, c2, c3, c4, c5, c6, c7⟩, r1, r2, r3, r4, r5⟩
  · exact ⟨[], Or.inl h⟩
  · exact ⟨esOf W, Or.inr ⟨⟨a1, a2, a3, a4, a5, c3.1, c4, r1⟩, a6, r3⟩⟩
theorem md_Q {cM : Int32} {fX : Nat → Int32} {fY : Nat → Int32} {lX : Nat → Int32} {lY : Nat → Int32} {oP : Nat → Int32} {nE : Int32} {pX : Nat → Int32} {pY : Nat → Int32} {pD : Nat → Int32} {pO : Nat → Int32} {nP : Int32} {qF : Nat → Nat → Int32} {nQ : Int32} {mQ : Int32} {mN : Int32} {rMd : Int32} {rE : Int32} {rAx : Nat → Int32} {rAy : Nat → Int32} {rBx : Nat → Int32} {rBy : Nat → Int32} {rO : Nat → Int32} {rP : Int32} {rPx : Nat → Int32} {rPy : Nat → Int32} {rPd : Nat → Int32} {rQ : Int32} {rFi : Nat → Int32} {rLa : Nat → Int32} {rOn : Nat → Int32} {rLe : Nat → Int32} {rRi : Nat → Int32} (h : MADE cM fX fY lX lY oP nE pX pY pD pO nP qF nQ mQ mN rMd rE rAx rAy rBx rBy rO rP rPx rPy rPd rQ rFi rLa rOn rLe rRi) : ∃ (es : List Ed) (P : List Pt) (pcs : List (Nat × Nat)), (cM = 0 ∧ rMd = 0) ∨ (mdQ es P pcs cM nQ rMd rQ qF rLe rRi ∧ RP pX pY pD P ∧ RP rPx rPy rPd P ∧ RR rFi rLa rOn pcs (lay es P) ∧ (∀ ij ∈ pcs, ij.1 < P.length ∧ ij.2 < P.length) ∧ nP = nI P.length ∧ rP = nI P.length) := by
  rcases h with h | ⟨W, pcs, hW, a1, a2, a3, a4, a5, a6, a7, a8, hS, hl, ⟨c1, c2, c3, c4, c5, c6, c7⟩, r1, r2, r3, r4, r5⟩
  · exact ⟨[], [], [], Or.inl h⟩
  · refine ⟨esOf W, gaL (esOf W), pcs, Or.inr ⟨⟨a1, a2, a7, a8, hl, c5, r5⟩, c3, r3, r4, fun ij hij => ?_, a5, a6⟩⟩
    obtain ⟨e, -, hx⟩ := (hS.2 ij.1 ij.2).mp hij
    obtain ⟨-, n1, n2, -⟩ := nx_iff.mp hx
    exact ⟨(onK_lt n1).1, (onK_lt n2).1⟩
theorem md_W {cM : Int32} {fX : Nat → Int32} {fY : Nat → Int32} {lX : Nat → Int32} {lY : Nat → Int32} {oP : Nat → Int32} {nE : Int32} {pX : Nat → Int32} {pY : Nat → Int32} {pD : Nat → Int32} {pO : Nat → Int32} {nP : Int32} {qF : Nat → Nat → Int32} {nQ : Int32} {mQ : Int32} {mN : Int32} {rMd : Int32} {rE : Int32} {rAx : Nat → Int32} {rAy : Nat → Int32} {rBx : Nat → Int32} {rBy : Nat → Int32} {rO : Nat → Int32} {rP : Int32} {rPx : Nat → Int32} {rPy : Nat → Int32} {rPd : Nat → Int32} {rQ : Int32} {rFi : Nat → Int32} {rLa : Nat → Int32} {rOn : Nat → Int32} {rLe : Nat → Int32} {rRi : Nat → Int32} (h : MADE cM fX fY lX lY oP nE pX pY pD pO nP qF nQ mQ mN rMd rE rAx rAy rBx rBy rO rP rPx rPy rPd rQ rFi rLa rOn rLe rRi) : ∃ es : List Ed, (cM = 0 ∧ rMd = 0) ∨ (cM = 1 ∧ rMd = 1 ∧ nE = nI es.length ∧ rE = nI es.length ∧ RE fX fY lX lY es ∧ RO oP es ∧ RE rAx rAy rBx rBy es ∧ RW rO es) := by
  rcases h with h | ⟨W, pcs, hW, a1, a2, a3, a4, a5, a6, a7, a8, hS, hl, ⟨c1, c2, c3, c4, c5, c6, c7⟩, r1, r2, r3, r4, r5⟩
  · exact ⟨[], Or.inl h⟩
  · exact ⟨esOf W, Or.inr ⟨a1, a2, a3, a4, c1, c2, r1, r2⟩⟩
theorem md_S {cM : Int32} {fX : Nat → Int32} {fY : Nat → Int32} {lX : Nat → Int32} {lY : Nat → Int32} {oP : Nat → Int32} {nE : Int32} {pX : Nat → Int32} {pY : Nat → Int32} {pD : Nat → Int32} {pO : Nat → Int32} {nP : Int32} {qF : Nat → Nat → Int32} {nQ : Int32} {mQ : Int32} {mN : Int32} {rMd : Int32} {rE : Int32} {rAx : Nat → Int32} {rAy : Nat → Int32} {rBx : Nat → Int32} {rBy : Nat → Int32} {rO : Nat → Int32} {rP : Int32} {rPx : Nat → Int32} {rPy : Nat → Int32} {rPd : Nat → Int32} {rQ : Int32} {rFi : Nat → Int32} {rLa : Nat → Int32} {rOn : Nat → Int32} {rLe : Nat → Int32} {rRi : Nat → Int32} (h : MADE cM fX fY lX lY oP nE pX pY pD pO nP qF nQ mQ mN rMd rE rAx rAy rBx rBy rO rP rPx rPy rPd rQ rFi rLa rOn rLe rRi) : ∃ (V : Nat → List Vt) (pcs : List (Nat × Nat)), (cM = 0 ∧ rMd = 0) ∨ (cM = 1 ∧ rMd = 1 ∧ nE = nI (esOf V).length ∧ rE = nI (esOf V).length ∧ nP = nI (gaL (esOf V)).length ∧ rP = nI (gaL (esOf V)).length ∧ nQ = nI pcs.length ∧ rQ = nI pcs.length ∧ pcs.length ≤ 276 ∧ (gaL (esOf V)).length ≤ 78 ∧ SP pcs (Fpc (esOf V) (gaL (esOf V))) ∧ RE rAx rAy rBx rBy (esOf V) ∧ RR rFi rLa rOn pcs (lay (esOf V) (gaL (esOf V))) ∧ mQ = nI (pairsN (esOf V) (gaL (esOf V))) ∧ mN = nI (partsN (esOf V) (gaL (esOf V)))) := by
  rcases h with h | ⟨W, pcs, hW, a1, a2, a3, a4, a5, a6, a7, a8, hS, hl, ⟨c1, c2, c3, c4, c5, c6, c7⟩, r1, r2, r3, r4, r5⟩
  · exact ⟨fun _ => [], [], Or.inl h⟩
  · exact ⟨W, pcs, Or.inr ⟨a1, a2, a3, a4, a5, a6, a7, a8, hl, c3.1, hS, r1, r4, c6, c7⟩⟩
set_option maxHeartbeats 4000000 in
theorem law_all (L : Nat) (xs : Nat → Int32) (hL : L ≤ 2560) : ∀ m t, t + m = 512 → ∀ cX cY cN cM fX fY lX lY oP nE pX pY pD pO nP qF nQ mR mQ mN rF rS rVx rVy rMd rE rAx rAy rBx rBy rO rP rPx rPy rPd rQ rFi rLa rOn rLe rRi rHx rHy rHd rKx rKy rKd oL oD, VERT cX cY cN rS rVx rVy → MADE cM fX fY lX lY oP nE pX pY pD pO nP qF nQ mQ mN rMd rE rAx rAy rBx rBy rO rP rPx rPy rPd rQ rFi rLa rOn rLe rRi → wp_L_law_L28 L xs (fun cX cY cN cM fX fY lX lY oP nE pX pY pD pO nP qF nQ mR mQ mN rF rS rVx rVy rMd rE rAx rAy rBx rBy rO rP rPx rPy rPd rQ rFi rLa rOn rLe rRi rHx rHy rHd rKx rKy rKd oL oD => (wp_L_law_L901 L xs cX cY cN cM fX fY lX lY oP nE pX pY pD pO nP qF nQ mR mQ mN rF rS rVx rVy rMd rE rAx rAy rBx rBy rO rP rPx rPy rPd rQ rFi rLa rOn rLe rRi rHx rHy rHd rKx rKy rKd oL oD)) (m + 1) (nI (5 * t)) cX cY cN cM fX fY lX lY oP nE pX pY pD pO nP qF nQ mR mQ mN rF rS rVx rVy rMd rE rAx rAy rBx rBy rO rP rPx rPy rPd rQ rFi rLa rOn rLe rRi rHx rHy rHd rKx rKy rKd oL oD := by
  have hR5 : R3 (5 : Int32) 5 5 := ⟨by decide, by decide⟩
  intro m
  induction m with
  | zero =>
    intro t ht cX cY cN cM fX fY lX lY oP nE pX pY pD pO nP qF nQ mR mQ mN rF rS rVx rVy rMd rE rAx rAy rBx rBy rO rP rPx rPy rPd rQ rFi rLa rOn rLe rRi rHx rHy rHd rKx rKy rKd oL oD hV hM
    rw [wp_L_law_L28]
    refine ⟨fun _ => rfl, fun z => absurd ?_ z⟩
    show nI L - 5 < nI (5 * t)
    rw [((R3_nI (n := L) (by omega)).sub hR5 (by omega)).lt (R3_nI (n := 5 * t) (by omega))]
    omega
  | succ m ih =>
    intro t ht cX cY cN cM fX fY lX lY oP nE pX pY pD pO nP qF nQ mR mQ mN rF rS rVx rVy rMd rE rAx rAy rBx rBy rO rP rPx rPy rPd rQ rFi rLa rOn rLe rRi rHx rHy rHd rKx rKy rKd oL oD hV hM
    rw [wp_L_law_L28]
    refine ⟨fun _ => rfl, fun z => ?_⟩
    have hlt : 5 * t + 5 ≤ L := by
      have z' : ¬ (nI L - 5 < nI (5 * t)) := z
      rw [((R3_nI (n := L) (by omega)).sub hR5 (by omega)).lt (R3_nI (n := 5 * t) (by omega))] at z'
      omega
    have i0 : vp_in (nI (5 * t)) L := vin (by omega) (by omega)
    have i1 : vp_in (nI (5 * t) + 1) L := by rw [nI_1]; exact vin (by omega) (by omega)
    have i2 : vp_in (nI (5 * t) + 2) L := by rw [show (2 : Int32) = nI 2 by decide, nI_add]; exact vin (by omega) (by omega)
    have i3 : vp_in (nI (5 * t) + 3) L := by rw [show (3 : Int32) = nI 3 by decide, nI_add]; exact vin (by omega) (by omega)
    have i4 : vp_in (nI (5 * t) + 4) L := by rw [show (4 : Int32) = nI 4 by decide, nI_add]; exact vin (by omega) (by omega)
    have nxt : ∀ cX cY cN cM fX fY lX lY oP nE pX pY pD pO nP qF nQ mR mQ mN rF rS rVx rVy rMd rE rAx rAy rBx rBy rO rP rPx rPy rPd rQ rFi rLa rOn rLe rRi rHx rHy rHd rKx rKy rKd oL oD, VERT cX cY cN rS rVx rVy → MADE cM fX fY lX lY oP nE pX pY pD pO nP qF nQ mQ mN rMd rE rAx rAy rBx rBy rO rP rPx rPy rPd rQ rFi rLa rOn rLe rRi → wp_L_law_L906 L xs (wp_L_law_L28 L xs (fun cX cY cN cM fX fY lX lY oP nE pX pY pD pO nP qF nQ mR mQ mN rF rS rVx rVy rMd rE rAx rAy rBx rBy rO rP rPx rPy rPd rQ rFi rLa rOn rLe rRi rHx rHy rHd rKx rKy rKd oL oD => (wp_L_law_L901 L xs cX cY cN cM fX fY lX lY oP nE pX pY pD pO nP qF nQ mR mQ mN rF rS rVx rVy rMd rE rAx rAy rBx rBy rO rP rPx rPy rPd rQ rFi rLa rOn rLe rRi rHx rHy rHd rKx rKy rKd oL oD)) (m + 1)) (nI (5 * t)) cX cY cN cM fX fY lX lY oP nE pX pY pD pO nP qF nQ mR mQ mN rF rS rVx rVy rMd rE rAx rAy rBx rBy rO rP rPx rPy rPd rQ rFi rLa rOn rLe rRi rHx rHy rHd rKx rKy rKd oL oD := by
      intro cX cY cN cM fX fY lX lY oP nE pX pY pD pO nP qF nQ mR mQ mN rF rS rVx rVy rMd rE rAx rAy rBx rBy rO rP rPx rPy rPd rQ rFi rLa rOn rLe rRi rHx rHy rHd rKx rKy rKd oL oD hV hM
      show wp_L_law_L28 L xs (fun cX cY cN cM fX fY lX lY oP nE pX pY pD pO nP qF nQ mR mQ mN rF rS rVx rVy rMd rE rAx rAy rBx rBy rO rP rPx rPy rPd rQ rFi rLa rOn rLe rRi rHx rHy rHd rKx rKy rKd oL oD => (wp_L_law_L901 L xs cX cY cN cM fX fY lX lY oP nE pX pY pD pO nP qF nQ mR mQ mN rF rS rVx rVy rMd rE rAx rAy rBx rBy rO rP rPx rPy rPd rQ rFi rLa rOn rLe rRi rHx rHy rHd rKx rKy rKd oL oD)) (m + 1) (nI (5 * t) + 5) cX cY cN cM fX fY lX lY oP nE pX pY pD pO nP qF nQ mR mQ mN rF rS rVx rVy rMd rE rAx rAy rBx rBy rO rP rPx rPy rPd rQ rFi rLa rOn rLe rRi rHx rHy rHd rKx rKy rKd oL oD
      rw [show (5 : Int32) = nI 5 by decide, nI_add, show 5 * t + 5 = 5 * (t + 1) by omega]
      exact ih (t + 1) (by omega) _ _ _ _ _ _ _ _ _ _ _ _ _ _ _ _ _ _ _ _ _ _ _ _ _ _ _ _ _ _ _ _ _ _ _ _ _ _ _ _ _ _ _ _ _ _ _ _ _ hV hM
    clear ih
    refine ⟨i0, fun x44 e44 => ⟨fun _ => ⟨i1, i2, i3, ?_⟩, fun _ => ⟨i1, ?_⟩, fun _ => ?_, fun _ => ⟨i1, ?_⟩, fun _ => ⟨i1, i2, ?_⟩, fun _ => ⟨i1, i2, ?_⟩, fun _ => ⟨i1, i2, ?_⟩, fun _ => ⟨i1, i2, i3, ?_⟩, fun _ => ⟨i1, ?_⟩, fun _ => ⟨i1, i2, ?_⟩, fun _ => ⟨i1, i2, i3, i4, ?_⟩, fun _ => ⟨i1, ?_⟩, fun _ _ _ _ _ _ _ _ _ _ _ _ => nxt _ _ _ _ _ _ _ _ _ _ _ _ _ _ _ _ _ _ _ _ _ _ _ _ _ _ _ _ _ _ _ _ _ _ _ _ _ _ _ _ _ _ _ _ _ _ _ _ _ hV hM⟩⟩
    · obtain ⟨V, v1, v2, v3⟩ := hV
      obtain ⟨k, v, V', hk, v1', hC, hR⟩ := j_vertex v1 v2 v3 (xs (nI (5 * t) + 1).toNatClampNeg) (xs (nI (5 * t) + 2).toNatClampNeg) (xs (nI (5 * t) + 3).toNatClampNeg)
      exact hC _ _ (fun a1 a2 a3 oL' b1 ho => ⟨i1, i2, i3, hR _ _ (fun c1 c2 c3 b2 => chk hk ho (nxt _ _ _ _ _ _ _ _ _ _ _ _ _ _ _ _ _ _ _ _ _ _ _ _ _ _ _ _ _ _ _ _ _ _ _ _ _ _ _ _ _ _ _ _ _ _ _ _ _ ⟨V', v1', b1, b2⟩ hM))⟩)
    · obtain ⟨V, v1, v2, v3⟩ := hV
      obtain ⟨k, v, V', hk, v1', hC, hR⟩ := j_clear v1 v2 v3 (xs (nI (5 * t) + 1).toNatClampNeg)
      exact hC _ _ (fun a3 oL' b1 ho => ⟨i1, hR _ _ (fun c1 b2 => chk hk ho (nxt _ _ _ _ _ _ _ _ _ _ _ _ _ _ _ _ _ _ _ _ _ _ _ _ _ _ _ _ _ _ _ _ _ _ _ _ _ _ _ _ _ _ _ _ _ _ _ _ _ ⟨V', v1', b1, b2⟩ hM))⟩)
    · obtain ⟨V, v1, v2, v3⟩ := hV
      refine s_cover v2 v1 (fun y1 y2 y3 y4 y5 y6 y7 y8 y9 y10 y11 y12 y13 l hS hl hO => ?_)
      refine s_rover v3 v1 (fun z1 z2 z3 z4 z5 z6 z7 z8 z9 z10 z11 z12 z13 z14 z15 z16 z17 z18 z19 l' hS' hl' hO' => ?_)
      have el : l = l' := SP_uni hS.1 hS'.1 (fun x => (hS.2 x.1 x.2).trans (hS'.2 x.1 x.2).symm)
      subst el
      exact ⟨fun _ => nxt _ _ _ _ _ _ _ _ _ _ _ _ _ _ _ _ _ _ _ _ _ _ _ _ _ _ _ _ _ _ _ _ _ _ _ _ _ _ _ _ _ _ _ _ _ _ _ _ _ ⟨V, v1, v2, v3⟩ (Or.inr ⟨V, l, v1, rfl, rfl, rfl, rfl, rfl, rfl, rfl, rfl, hS, hl, hO, hO'⟩), fun z => absurd rfl z⟩
    · obtain ⟨W, pcs, hst⟩ := md_S hM
      obtain ⟨k, v, hk, hC, hR⟩ := j_size hst (xs (nI (5 * t) + 1).toNatClampNeg)
      exact hC _ _ (fun oL' ho => ⟨i1, hR _ _ _ _ _ _ _ _ (fun o1 o2 o3 o4 o5 o6 => chk hk ho (nxt _ _ _ _ _ _ _ _ _ _ _ _ _ _ _ _ _ _ _ _ _ _ _ _ _ _ _ _ _ _ _ _ _ _ _ _ _ _ _ _ _ _ _ _ _ _ _ _ _ hV hM))⟩)
    · obtain ⟨es, P, pcs, hst⟩ := md_Q hM
      obtain ⟨k, v, hk, hC, hR⟩ := j_point (l := P) (hst.imp id (fun z => ⟨z.1.1, z.1.2.1, z.2.2.2.2.2.1, z.2.2.2.2.2.2, z.2.1, z.2.2.1⟩)) (xs (nI (5 * t) + 1).toNatClampNeg) (xs (nI (5 * t) + 2).toNatClampNeg)
      exact hC _ _ (fun oL' ho => ⟨i1, i2, hR _ _ (chk hk ho (nxt _ _ _ _ _ _ _ _ _ _ _ _ _ _ _ _ _ _ _ _ _ _ _ _ _ _ _ _ _ _ _ _ _ _ _ _ _ _ _ _ _ _ _ _ _ _ _ _ _ hV hM))⟩)
    · obtain ⟨es, P, pcs, hst⟩ := md_Q hM
      obtain ⟨k, v, hk, hC, hR⟩ := j_piece (es := es) (P := P) (pcs := pcs) (hst.imp id (fun z => ⟨z.1.1, z.1.2.1, z.1.2.2.1, z.1.2.2.2.1, z.1.2.2.2.2.1, z.1.2.2.2.2.2.1, z.2.2.2.1, z.1.2.2.2.2.2.2⟩)) (xs (nI (5 * t) + 1).toNatClampNeg) (xs (nI (5 * t) + 2).toNatClampNeg)
      exact hC _ _ (fun oL' ho => ⟨i1, i2, hR _ _ (chk hk ho (nxt _ _ _ _ _ _ _ _ _ _ _ _ _ _ _ _ _ _ _ _ _ _ _ _ _ _ _ _ _ _ _ _ _ _ _ _ _ _ _ _ _ _ _ _ _ _ _ _ _ hV hM))⟩)
    · obtain ⟨es, hst⟩ := md_E hM
      obtain ⟨k, v, hk, hC, hR⟩ := j_common (hst.imp id (fun z => z.1)) (xs (nI (5 * t) + 1).toNatClampNeg) (xs (nI (5 * t) + 2).toNatClampNeg)
      exact hC _ _ (fun oL' ho => ⟨i1, i2, hR _ _ _ _ _ _ _ _ (fun o1 o2 o3 o4 o5 o6 => chk hk ho (nxt _ _ _ _ _ _ _ _ _ _ _ _ _ _ _ _ _ _ _ _ _ _ _ _ _ _ _ _ _ _ _ _ _ _ _ _ _ _ _ _ _ _ _ _ _ _ _ _ _ hV hM))⟩)
    · obtain ⟨es, hst⟩ := md_E hM
      refine ⟨fun w => ?_, fun w => ?_⟩
      · obtain ⟨k, v, hk, hC, hR⟩ := j_shared hst (xs (nI (5 * t) + 1).toNatClampNeg) (xs (nI (5 * t) + 2).toNatClampNeg) 0
        exact hC _ _ (fun oL' ho => ⟨i1, i2, i3, fun _ => hR _ _ _ _ _ _ _ _ (fun o1 o2 o3 o4 o5 o6 => chk hk ho (nxt _ _ _ _ _ _ _ _ _ _ _ _ _ _ _ _ _ _ _ _ _ _ _ _ _ _ _ _ _ _ _ _ _ _ _ _ _ _ _ _ _ _ _ _ _ _ _ _ _ hV hM)), fun w2 => absurd w w2⟩)
      · obtain ⟨k, v, hk, hC, hR⟩ := j_shared hst (xs (nI (5 * t) + 1).toNatClampNeg) (xs (nI (5 * t) + 2).toNatClampNeg) 1
        exact hC _ _ (fun oL' ho => ⟨i1, i2, i3, fun w2 => absurd w2 w, fun _ => hR _ _ _ _ _ _ _ _ (fun o1 o2 o3 o4 o5 o6 => chk hk ho (nxt _ _ _ _ _ _ _ _ _ _ _ _ _ _ _ _ _ _ _ _ _ _ _ _ _ _ _ _ _ _ _ _ _ _ _ _ _ _ _ _ _ _ _ _ _ _ _ _ _ hV hM))⟩)
    · obtain ⟨es, P, pcs, hst⟩ := md_Q hM
      obtain ⟨k, v, hk, hC, hR⟩ := j_bounds (es := es) (P := P) (pcs := pcs) (hst.imp id (fun z => z.1)) (xs (nI (5 * t) + 1).toNatClampNeg)
      exact hC _ _ (fun oL' ho => ⟨i1, hR _ _ (chk hk ho (nxt _ _ _ _ _ _ _ _ _ _ _ _ _ _ _ _ _ _ _ _ _ _ _ _ _ _ _ _ _ _ _ _ _ _ _ _ _ _ _ _ _ _ _ _ _ _ _ _ _ hV hM))⟩)
    · obtain ⟨es, P, pcs, hst⟩ := md_Q hM
      obtain ⟨k, v, hk, hC, hR⟩ := j_bound (es := es) (P := P) (pcs := pcs) (hst.imp id (fun z => z.1)) (xs (nI (5 * t) + 1).toNatClampNeg) (xs (nI (5 * t) + 2).toNatClampNeg)
      exact hC _ _ (fun oL' ho => ⟨i1, i2, hR _ _ (chk hk ho (nxt _ _ _ _ _ _ _ _ _ _ _ _ _ _ _ _ _ _ _ _ _ _ _ _ _ _ _ _ _ _ _ _ _ _ _ _ _ _ _ _ _ _ _ _ _ _ _ _ _ hV hM))⟩)
    · obtain ⟨es, hst⟩ := md_W hM
      obtain ⟨k, v, hk, hC, hR⟩ := j_where hst (xs (nI (5 * t) + 1).toNatClampNeg) (xs (nI (5 * t) + 2).toNatClampNeg) (xs (nI (5 * t) + 3).toNatClampNeg) (xs (nI (5 * t) + 4).toNatClampNeg)
      exact hC _ _ (fun oL' ho => ⟨i1, i2, i3, i4, hR _ _ (chk hk ho (nxt _ _ _ _ _ _ _ _ _ _ _ _ _ _ _ _ _ _ _ _ _ _ _ _ _ _ _ _ _ _ _ _ _ _ _ _ _ _ _ _ _ _ _ _ _ _ _ _ _ hV hM))⟩)
    · obtain ⟨es, P, pcs, hst⟩ := md_Q hM
      obtain ⟨k, v, hk, hC, hR⟩ := j_area (es := es) (P := P) (pcs := pcs) (hst.imp id (fun z => ⟨z.1, z.2.1, z.2.2.1, z.2.2.2.1, z.2.2.2.2.1⟩)) (xs (nI (5 * t) + 1).toNatClampNeg)
      exact hC _ _ (fun oD' ho => ⟨i1, hR _ _ (chkD hk ho (nxt _ _ _ _ _ _ _ _ _ _ _ _ _ _ _ _ _ _ _ _ _ _ _ _ _ _ _ _ _ _ _ _ _ _ _ _ _ _ _ _ _ _ _ _ _ _ _ _ _ hV hM))⟩)
theorem law_pure (L : Nat) (xs : Nat → Int32) (hL : L ≤ 2560) : wp_L_law_L28 L xs  (fun cX cY cN cM fX fY lX lY oP nE pX pY pD pO nP qF nQ mR mQ mN rF rS rVx rVy rMd rE rAx rAy rBx rBy rO rP rPx rPy rPd rQ rFi rLa rOn rLe rRi rHx rHy rHd rKx rKy rKd oL oD => (wp_L_law_L901 L xs   cX cY cN cM fX fY lX lY oP nE pX pY pD pO nP qF nQ mR mQ mN rF rS rVx rVy rMd rE rAx rAy rBx rBy rO rP rPx rPy rPd rQ rFi rLa rOn rLe rRi rHx rHy rHd rKx rKy rKd oL oD)) 513 0 (fun _ _ => 0) (fun _ _ => 0) (fun _ => 0) 0 (fun _ => 0) (fun _ => 0) (fun _ => 0) (fun _ => 0) (fun _ => 0) 0 (fun _ => 0) (fun _ => 0) (fun _ => 0) (fun _ => 0) 0 (fun _ _ => 0) 0 (fun _ => 0) 0 0 0 (fun _ => 0) (fun _ => 0) (fun _ => 0) 0 0 (fun _ => 0) (fun _ => 0) (fun _ => 0) (fun _ => 0) (fun _ => 0) 0 (fun _ => 0) (fun _ => 0) (fun _ => 0) 0 (fun _ => 0) (fun _ => 0) (fun _ => 0) (fun _ => 0) (fun _ => 0) 0 0 0 0 0 0 (fun _ => 0) (fun _ => 0) := by
  have h0 : nI (5 * 0) = 0 := by decide
  have := law_all L xs hL 512 0 (by omega) (fun _ _ => 0) (fun _ _ => 0) (fun _ => 0) 0 (fun _ => 0) (fun _ => 0) (fun _ => 0) (fun _ => 0) (fun _ => 0) 0 (fun _ => 0) (fun _ => 0) (fun _ => 0) (fun _ => 0) 0 (fun _ _ => 0) 0 (fun _ => 0) 0 0 0 (fun _ => 0) (fun _ => 0) (fun _ => 0) 0 0 (fun _ => 0) (fun _ => 0) (fun _ => 0) (fun _ => 0) (fun _ => 0) 0 (fun _ => 0) (fun _ => 0) (fun _ => 0) 0 (fun _ => 0) (fun _ => 0) (fun _ => 0) (fun _ => 0) (fun _ => 0) 0 0 0 0 0 0 (fun _ => 0) (fun _ => 0) ⟨fun _ => [], fun p hp => ⟨Nat.zero_le _, fun v hv => absurd hv List.not_mem_nil⟩, fun p hp => ⟨nI_0.symm, fun k v hk => by simp at hk⟩, fun p hp => ⟨nI_0.symm, fun k v hk => by simp at hk⟩⟩ (Or.inl ⟨rfl, rfl⟩)
  rw [h0] at this
  exact this
