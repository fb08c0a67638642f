set_option maxHeartbeats 40000000 in
set_option maxRecDepth 100000 in
theorem law_loop {p : Program} {e : Env} {s : State} {m : MethodId} {below : List Frame} {meth : Method} {c : Code} (l : Launch) (hlt : l.stackTraces = false) {b L : Nat} {xs : Nat → Int32} (C0 : lw_At p s m meth c b L xs) (D : va_G) (k : Nat → ClassId) (hE : En D k s) (hT : Tx (fun q : Nat => s.heap.size ≤ q) s) (aC : Nat → Nat) (aE : Nat → Nat) (aP : Nat → Nat) (aQ : Nat → Nat) (aM : Nat → Nat) (aR : Nat → Nat) (aO : Nat → Nat) : ∀ (n28 : Nat) (v5 : Int32) (cX : Nat → Nat → Int32) (cY : Nat → Nat → Int32) (cN : Nat → Int32) (cM : Int32) (fX : Nat → Int32) (fY : Nat → Int32) (lX : Nat → Int32) (lY : Nat → Int32) (oP : Nat → Int32) (nE : Int32) (pX : Nat → Int32) (pY : Nat → Int32) (pD : Nat → Int32) (pO : Nat → Int32) (nP : Int32) (qF : Nat → Nat → Int32) (nQ : Int32) (mR : Nat → Int32) (mQ : Int32) (mN : Int32) (rF : Int32) (rS : Nat → Int32) (rVx : Nat → Int32) (rVy : Nat → Int32) (rMd : Int32) (rE : Int32) (rAx : Nat → Int32) (rAy : Nat → Int32) (rBx : Nat → Int32) (rBy : Nat → Int32) (rO : Nat → Int32) (rP : Int32) (rPx : Nat → Int32) (rPy : Nat → Int32) (rPd : Nat → Int32) (rQ : Int32) (rFi : Nat → Int32) (rLa : Nat → Int32) (rOn : Nat → Int32) (rLe : Nat → Int32) (rRi : Nat → Int32) (rHx : Int64) (rHy : Int64) (rHd : Int64) (rKx : Int64) (rKy : Int64) (rKd : Int64) (oL : Nat → Int64) (oD : Nat → UInt64) (cl sl : Nat) (H : Heap) (locs : List Loc) (ls : Array Slot), cl + 4 * n28 ≤ 601024 → sl + 24 * n28 ≤ 7293034 → wp_L_law_L28 L xs  (fun cX cY cN cM fX fY lX lY oP nE pX pY pD pO nP qF nQ mR mQ mN rF rS rVx rVy rMd rE rAx rAy rBx rBy rO rP rPx rPy rPd rQ rFi rLa rOn rLe rRi rHx rHy rHd rKx rKy rKd oL oD => (wp_L_law_L901 L xs   cX cY cN cM fX fY lX lY oP nE pX pY pD pO nP qF nQ mR mQ mN rF rS rVx rVy rMd rE rAx rAy rBx rBy rO rP rPx rPy rPd rQ rFi rLa rOn rLe rRi rHx rHy rHd rKx rKy rKd oL oD)) n28 v5 cX cY cN cM fX fY lX lY oP nE pX pY pD pO nP qF nQ mR mQ mN rF rS rVx rVy rMd rE rAx rAy rBx rBy rO rP rPx rPy rPd rQ rFi rLa rOn rLe rRi rHx rHy rHd rKx rKy rKd oL oD → va_P D vwCl (wC k aC aE aP aQ aM cX cY cN cM ++ wE k aE fX fY lX lY oP nE ++ wP k aP pX pY pD pO nP ++ wQ k aQ qF nQ ++ wM k aM mR mQ mN ++ wR k aR rF rS rVx rVy rMd rE rAx rAy rBx rBy rO rP rPx rPy rPd rQ rFi rLa rOn rLe rRi rHx rHy rHd rKx rKy rKd ++ wO k aO oL oD) H → va_D (fun q : Nat => s.heap.size ≤ q) (wC k aC aE aP aQ aM cX cY cN cM ++ wE k aE fX fY lX lY oP nE ++ wP k aP pX pY pD pO nP ++ wQ k aQ qF nQ ++ wM k aM mR mQ mN ++ wR k aR rF rS rVx rVy rMd rE rAx rAy rBx rBy rO rP rPx rPy rPd rQ rFi rLa rOn rLe rRi rHx rHy rHd rKx rKy rKd ++ wO k aO oL oD) → va_S (fun q : Nat => s.heap.size ≤ q) s.heap H locs → lv_has ls 9 [(0, .ref b), (1, .ref (aC 0)), (2, .ref (aR 0)), (3, .ref (aO 0)), (4, .ref (aO 1)), (5, .int v5)] → W p l e room_1 s m #[Value.ref b] below meth c H locs cl sl (lw_Z below #[Value.ref b] s) (F0 m 28 ls []) := by
  obtain ⟨hx, hb, hr, hml, hown, hts0, hX, hbl, hlocks, hgv⟩ := id C0
  have hA : ∀ q : Nat, s.heap.size ≤ q → (fun q : Nat => s.heap.size ≤ q) q := fun _ h => h
  have hbA : ¬ (fun q : Nat => s.heap.size ≤ q) b := Nat.not_le.mpr hbl
  have hts : ∀ w ∈ wsL_law, w.before #[Value.ref b] s = true := fun w h => hts0 w (wsL_law_in w h)
  have hK := hE.1
  have hb : c.code = cL_law := hb
  have hown : s.vm.findClass RL = some m.cls := hown
  revert hT hA hbA
  generalize hAe : (fun q : Nat => s.heap.size ≤ q) = A
  intro hT hA hbA
  have hf9 : ∀ q, A q → s.heap.size ≤ q := fun q h => by rw [← hAe] at h; exact h
  have L901 : ∀ (cX : Nat → Nat → Int32) (cY : Nat → Nat → Int32) (cN : Nat → Int32) (cM : Int32) (fX : Nat → Int32) (fY : Nat → Int32) (lX : Nat → Int32) (lY : Nat → Int32) (oP : Nat → Int32) (nE : Int32) (pX : Nat → Int32) (pY : Nat → Int32) (pD : Nat → Int32) (pO : Nat → Int32) (nP : Int32) (qF : Nat → Nat → Int32) (nQ : Int32) (mR : Nat → Int32) (mQ : Int32) (mN : Int32) (rF : Int32) (rS : Nat → Int32) (rVx : Nat → Int32) (rVy : Nat → Int32) (rMd : Int32) (rE : Int32) (rAx : Nat → Int32) (rAy : Nat → Int32) (rBx : Nat → Int32) (rBy : Nat → Int32) (rO : Nat → Int32) (rP : Int32) (rPx : Nat → Int32) (rPy : Nat → Int32) (rPd : Nat → Int32) (rQ : Int32) (rFi : Nat → Int32) (rLa : Nat → Int32) (rOn : Nat → Int32) (rLe : Nat → Int32) (rRi : Nat → Int32) (rHx : Int64) (rHy : Int64) (rHd : Int64) (rKx : Int64) (rKy : Int64) (rKd : Int64) (oL : Nat → Int64) (oD : Nat → UInt64) (cl sl : Nat) (H : Heap) (locs : List Loc) (ls : Array Slot), cl ≤ 601024 → sl ≤ 7293034 → wp_L_law_L901 L xs   cX cY cN cM fX fY lX lY oP nE pX pY pD pO nP qF nQ mR mQ mN rF rS rVx rVy rMd rE rAx rAy rBx rBy rO rP rPx rPy rPd rQ rFi rLa rOn rLe rRi rHx rHy rHd rKx rKy rKd oL oD → va_P D vwCl (wC k aC aE aP aQ aM cX cY cN cM ++ wE k aE fX fY lX lY oP nE ++ wP k aP pX pY pD pO nP ++ wQ k aQ qF nQ ++ wM k aM mR mQ mN ++ wR k aR rF rS rVx rVy rMd rE rAx rAy rBx rBy rO rP rPx rPy rPd rQ rFi rLa rOn rLe rRi rHx rHy rHd rKx rKy rKd ++ wO k aO oL oD) H → va_D A (wC k aC aE aP aQ aM cX cY cN cM ++ wE k aE fX fY lX lY oP nE ++ wP k aP pX pY pD pO nP ++ wQ k aQ qF nQ ++ wM k aM mR mQ mN ++ wR k aR rF rS rVx rVy rMd rE rAx rAy rBx rBy rO rP rPx rPy rPd rQ rFi rLa rOn rLe rRi rHx rHy rHd rKx rKy rKd ++ wO k aO oL oD) → va_S A s.heap H locs → lv_has ls 9 [] → W p l e room_1 s m #[Value.ref b] below meth c H locs cl sl (lw_Z below #[Value.ref b] s) (F0 m 901 ls []) := by
    intro cX cY cN cM fX fY lX lY oP nE pX pY pD pO nP qF nQ mR mQ mN rF rS rVx rVy rMd rE rAx rAy rBx rBy rO rP rPx rPy rPd rQ rFi rLa rOn rLe rRi rHx rHy rHd rKx rKy rKd oL oD cl sl H locs ls hcl hsl h hP hD hS hl
    unfold wp_L_law_L901 at h
    refine lv_iconst (v := (0 : Int32)) hx hb dL_law_901 (by decide) ?_
    rw [h]
    refine va_forget (fun q hq => hf9 _ (hS.2.2 q hq)) ?_
    refine W.widen (k := 601024) (n := 7293034) (by omega) (by omega) ?_
    exact lw_ret hx hb hr hlocks dL_law_902
  intro n28
  induction n28 with
  | zero => intro v5 cX cY cN cM fX fY lX lY oP nE pX pY pD pO nP qF nQ mR mQ mN rF rS rVx rVy rMd rE rAx rAy rBx rBy rO rP rPx rPy rPd rQ rFi rLa rOn rLe rRi rHx rHy rHd rKx rKy rKd oL oD cl sl H locs ls hcl hsl h hP hD hS hl; exact False.elim h
  | succ n28 ih28 =>
    have L906 : ∀ (v5 : Int32) (cX : Nat → Nat → Int32) (cY : Nat → Nat → Int32) (cN : Nat → Int32) (cM : Int32) (fX : Nat → Int32) (fY : Nat → Int32) (lX : Nat → Int32) (lY : Nat → Int32) (oP : Nat → Int32) (nE : Int32) (pX : Nat → Int32) (pY : Nat → Int32) (pD : Nat → Int32) (pO : Nat → Int32) (nP : Int32) (qF : Nat → Nat → Int32) (nQ : Int32) (mR : Nat → Int32) (mQ : Int32) (mN : Int32) (rF : Int32) (rS : Nat → Int32) (rVx : Nat → Int32) (rVy : Nat → Int32) (rMd : Int32) (rE : Int32) (rAx : Nat → Int32) (rAy : Nat → Int32) (rBx : Nat → Int32) (rBy : Nat → Int32) (rO : Nat → Int32) (rP : Int32) (rPx : Nat → Int32) (rPy : Nat → Int32) (rPd : Nat → Int32) (rQ : Int32) (rFi : Nat → Int32) (rLa : Nat → Int32) (rOn : Nat → Int32) (rLe : Nat → Int32) (rRi : Nat → Int32) (rHx : Int64) (rHy : Int64) (rHd : Int64) (rKx : Int64) (rKy : Int64) (rKd : Int64) (oL : Nat → Int64) (oD : Nat → UInt64) (cl sl : Nat) (H : Heap) (locs : List Loc) (ls : Array Slot), cl + 4 * n28 ≤ 601024 → sl + 24 * n28 ≤ 7293034 → wp_L_law_L906 L xs  (wp_L_law_L28 L xs  (fun cX cY cN cM fX fY lX lY oP nE pX pY pD pO nP qF nQ mR mQ mN rF rS rVx rVy rMd rE rAx rAy rBx rBy rO rP rPx rPy rPd rQ rFi rLa rOn rLe rRi rHx rHy rHd rKx rKy rKd oL oD => (wp_L_law_L901 L xs   cX cY cN cM fX fY lX lY oP nE pX pY pD pO nP qF nQ mR mQ mN rF rS rVx rVy rMd rE rAx rAy rBx rBy rO rP rPx rPy rPd rQ rFi rLa rOn rLe rRi rHx rHy rHd rKx rKy rKd oL oD)) n28) v5 cX cY cN cM fX fY lX lY oP nE pX pY pD pO nP qF nQ mR mQ mN rF rS rVx rVy rMd rE rAx rAy rBx rBy rO rP rPx rPy rPd rQ rFi rLa rOn rLe rRi rHx rHy rHd rKx rKy rKd oL oD → va_P D vwCl (wC k aC aE aP aQ aM cX cY cN cM ++ wE k aE fX fY lX lY oP nE ++ wP k aP pX pY pD pO nP ++ wQ k aQ qF nQ ++ wM k aM mR mQ mN ++ wR k aR rF rS rVx rVy rMd rE rAx rAy rBx rBy rO rP rPx rPy rPd rQ rFi rLa rOn rLe rRi rHx rHy rHd rKx rKy rKd ++ wO k aO oL oD) H → va_D A (wC k aC aE aP aQ aM cX cY cN cM ++ wE k aE fX fY lX lY oP nE ++ wP k aP pX pY pD pO nP ++ wQ k aQ qF nQ ++ wM k aM mR mQ mN ++ wR k aR rF rS rVx rVy rMd rE rAx rAy rBx rBy rO rP rPx rPy rPd rQ rFi rLa rOn rLe rRi rHx rHy rHd rKx rKy rKd ++ wO k aO oL oD) → va_S A s.heap H locs → lv_has ls 9 [(0, .ref b), (1, .ref (aC 0)), (2, .ref (aR 0)), (3, .ref (aO 0)), (4, .ref (aO 1)), (5, .int v5)] → W p l e room_1 s m #[Value.ref b] below meth c H locs cl sl (lw_Z below #[Value.ref b] s) (F0 m 906 ls []) := by
      intro v5 cX cY cN cM fX fY lX lY oP nE pX pY pD pO nP qF nQ mR mQ mN rF rS rVx rVy rMd rE rAx rAy rBx rBy rO rP rPx rPy rPd rQ rFi rLa rOn rLe rRi rHx rHy rHd rKx rKy rKd oL oD cl sl H locs ls hcl hsl h hP hD hS hl
      unfold wp_L_law_L906 at h
      refine lv_iinc (v := (v5 + 5)) (lv' := [(5, .int (v5 + 5)), (0, .ref b), (1, .ref (aC 0)), (2, .ref (aR 0)), (3, .ref (aO 0)), (4, .ref (aO 1))]) hx hb dL_law_906 hl (k := 5) rfl rfl (by decide) rfl (fun ls hl => ?_)
      refine lv_goto (tgt := 28) hx hb dL_law_909 (by decide) ?_
      exact ih28 (v5 + 5) cX cY cN cM fX fY lX lY oP nE pX pY pD pO nP qF nQ mR mQ mN rF rS rVx rVy rMd rE rAx rAy rBx rBy rO rP rPx rPy rPd rQ rFi rLa rOn rLe rRi rHx rHy rHd rKx rKy rKd oL oD _ _ _ _ _ (by omega) (by omega) h hP hD hS (lv_sub hl [1, 2, 3, 4, 5, 0] rfl)
    have L185 : ∀ (v5 : Int32) (cX : Nat → Nat → Int32) (cY : Nat → Nat → Int32) (cN : Nat → Int32) (cM : Int32) (fX : Nat → Int32) (fY : Nat → Int32) (lX : Nat → Int32) (lY : Nat → Int32) (oP : Nat → Int32) (nE : Int32) (pX : Nat → Int32) (pY : Nat → Int32) (pD : Nat → Int32) (pO : Nat → Int32) (nP : Int32) (qF : Nat → Nat → Int32) (nQ : Int32) (mR : Nat → Int32) (mQ : Int32) (mN : Int32) (rF : Int32) (rS : Nat → Int32) (rVx : Nat → Int32) (rVy : Nat → Int32) (rMd : Int32) (rE : Int32) (rAx : Nat → Int32) (rAy : Nat → Int32) (rBx : Nat → Int32) (rBy : Nat → Int32) (rO : Nat → Int32) (rP : Int32) (rPx : Nat → Int32) (rPy : Nat → Int32) (rPd : Nat → Int32) (rQ : Int32) (rFi : Nat → Int32) (rLa : Nat → Int32) (rOn : Nat → Int32) (rLe : Nat → Int32) (rRi : Nat → Int32) (rHx : Int64) (rHy : Int64) (rHd : Int64) (rKx : Int64) (rKy : Int64) (rKd : Int64) (oL : Nat → Int64) (oD : Nat → UInt64) (cl sl : Nat) (H : Heap) (locs : List Loc) (ls : Array Slot), cl + 4 * n28 ≤ 601024 → sl + 24 * n28 ≤ 7293034 → wp_L_law_L185 L xs  (wp_L_law_L28 L xs  (fun cX cY cN cM fX fY lX lY oP nE pX pY pD pO nP qF nQ mR mQ mN rF rS rVx rVy rMd rE rAx rAy rBx rBy rO rP rPx rPy rPd rQ rFi rLa rOn rLe rRi rHx rHy rHd rKx rKy rKd oL oD => (wp_L_law_L901 L xs   cX cY cN cM fX fY lX lY oP nE pX pY pD pO nP qF nQ mR mQ mN rF rS rVx rVy rMd rE rAx rAy rBx rBy rO rP rPx rPy rPd rQ rFi rLa rOn rLe rRi rHx rHy rHd rKx rKy rKd oL oD)) n28) v5 cX cY cN cM fX fY lX lY oP nE pX pY pD pO nP qF nQ mR mQ mN rF rS rVx rVy rMd rE rAx rAy rBx rBy rO rP rPx rPy rPd rQ rFi rLa rOn rLe rRi rHx rHy rHd rKx rKy rKd oL oD → va_P D vwCl (wC k aC aE aP aQ aM cX cY cN cM ++ wE k aE fX fY lX lY oP nE ++ wP k aP pX pY pD pO nP ++ wQ k aQ qF nQ ++ wM k aM mR mQ mN ++ wR k aR rF rS rVx rVy rMd rE rAx rAy rBx rBy rO rP rPx rPy rPd rQ rFi rLa rOn rLe rRi rHx rHy rHd rKx rKy rKd ++ wO k aO oL oD) H → va_D A (wC k aC aE aP aQ aM cX cY cN cM ++ wE k aE fX fY lX lY oP nE ++ wP k aP pX pY pD pO nP ++ wQ k aQ qF nQ ++ wM k aM mR mQ mN ++ wR k aR rF rS rVx rVy rMd rE rAx rAy rBx rBy rO rP rPx rPy rPd rQ rFi rLa rOn rLe rRi rHx rHy rHd rKx rKy rKd ++ wO k aO oL oD) → va_S A s.heap H locs → lv_has ls 9 [(0, .ref b), (1, .ref (aC 0)), (2, .ref (aR 0)), (3, .ref (aO 0)), (4, .ref (aO 1)), (5, .int v5)] → W p l e room_1 s m #[Value.ref b] below meth c H locs cl sl (lw_Z below #[Value.ref b] s) (F0 m 185 ls []) := by
      intro v5 cX cY cN cM fX fY lX lY oP nE pX pY pD pO nP qF nQ mR mQ mN rF rS rVx rVy rMd rE rAx rAy rBx rBy rO rP rPx rPy rPd rQ rFi rLa rOn rLe rRi rHx rHy rHd rKx rKy rKd oL oD cl sl H locs ls hcl hsl h hP hD hS hl
      unfold wp_L_law_L185 at h
      refine lv_goto (tgt := 906) hx hb dL_law_185 (by decide) ?_
      exact L906 v5 cX cY cN cM fX fY lX lY oP nE pX pY pD pO nP qF nQ mR mQ mN rF rS rVx rVy rMd rE rAx rAy rBx rBy rO rP rPx rPy rPd rQ rFi rLa rOn rLe rRi rHx rHy rHd rKx rKy rKd oL oD _ _ _ _ _ (by omega) (by omega) h hP hD hS (lv_sub hl [0, 1, 2, 3, 4, 5] rfl)
    have L241 : ∀ (v5 : Int32) (cX : Nat → Nat → Int32) (cY : Nat → Nat → Int32) (cN : Nat → Int32) (cM : Int32) (fX : Nat → Int32) (fY : Nat → Int32) (lX : Nat → Int32) (lY : Nat → Int32) (oP : Nat → Int32) (nE : Int32) (pX : Nat → Int32) (pY : Nat → Int32) (pD : Nat → Int32) (pO : Nat → Int32) (nP : Int32) (qF : Nat → Nat → Int32) (nQ : Int32) (mR : Nat → Int32) (mQ : Int32) (mN : Int32) (rF : Int32) (rS : Nat → Int32) (rVx : Nat → Int32) (rVy : Nat → Int32) (rMd : Int32) (rE : Int32) (rAx : Nat → Int32) (rAy : Nat → Int32) (rBx : Nat → Int32) (rBy : Nat → Int32) (rO : Nat → Int32) (rP : Int32) (rPx : Nat → Int32) (rPy : Nat → Int32) (rPd : Nat → Int32) (rQ : Int32) (rFi : Nat → Int32) (rLa : Nat → Int32) (rOn : Nat → Int32) (rLe : Nat → Int32) (rRi : Nat → Int32) (rHx : Int64) (rHy : Int64) (rHd : Int64) (rKx : Int64) (rKy : Int64) (rKd : Int64) (oL : Nat → Int64) (oD : Nat → UInt64) (cl sl : Nat) (H : Heap) (locs : List Loc) (ls : Array Slot), cl + 4 * n28 ≤ 601024 → sl + 24 * n28 ≤ 7293034 → wp_L_law_L241 L xs  (wp_L_law_L28 L xs  (fun cX cY cN cM fX fY lX lY oP nE pX pY pD pO nP qF nQ mR mQ mN rF rS rVx rVy rMd rE rAx rAy rBx rBy rO rP rPx rPy rPd rQ rFi rLa rOn rLe rRi rHx rHy rHd rKx rKy rKd oL oD => (wp_L_law_L901 L xs   cX cY cN cM fX fY lX lY oP nE pX pY pD pO nP qF nQ mR mQ mN rF rS rVx rVy rMd rE rAx rAy rBx rBy rO rP rPx rPy rPd rQ rFi rLa rOn rLe rRi rHx rHy rHd rKx rKy rKd oL oD)) n28) v5 cX cY cN cM fX fY lX lY oP nE pX pY pD pO nP qF nQ mR mQ mN rF rS rVx rVy rMd rE rAx rAy rBx rBy rO rP rPx rPy rPd rQ rFi rLa rOn rLe rRi rHx rHy rHd rKx rKy rKd oL oD → va_P D vwCl (wC k aC aE aP aQ aM cX cY cN cM ++ wE k aE fX fY lX lY oP nE ++ wP k aP pX pY pD pO nP ++ wQ k aQ qF nQ ++ wM k aM mR mQ mN ++ wR k aR rF rS rVx rVy rMd rE rAx rAy rBx rBy rO rP rPx rPy rPd rQ rFi rLa rOn rLe rRi rHx rHy rHd rKx rKy rKd ++ wO k aO oL oD) H → va_D A (wC k aC aE aP aQ aM cX cY cN cM ++ wE k aE fX fY lX lY oP nE ++ wP k aP pX pY pD pO nP ++ wQ k aQ qF nQ ++ wM k aM mR mQ mN ++ wR k aR rF rS rVx rVy rMd rE rAx rAy rBx rBy rO rP rPx rPy rPd rQ rFi rLa rOn rLe rRi rHx rHy rHd rKx rKy rKd ++ wO k aO oL oD) → va_S A s.heap H locs → lv_has ls 9 [(0, .ref b), (1, .ref (aC 0)), (2, .ref (aR 0)), (3, .ref (aO 0)), (4, .ref (aO 1)), (5, .int v5)] → W p l e room_1 s m #[Value.ref b] below meth c H locs cl sl (lw_Z below #[Value.ref b] s) (F0 m 241 ls []) := by
      intro v5 cX cY cN cM fX fY lX lY oP nE pX pY pD pO nP qF nQ mR mQ mN rF rS rVx rVy rMd rE rAx rAy rBx rBy rO rP rPx rPy rPd rQ rFi rLa rOn rLe rRi rHx rHy rHd rKx rKy rKd oL oD cl sl H locs ls hcl hsl h hP hD hS hl
      unfold wp_L_law_L241 at h
      refine lv_goto (tgt := 906) hx hb dL_law_241 (by decide) ?_
      exact L906 v5 cX cY cN cM fX fY lX lY oP nE pX pY pD pO nP qF nQ mR mQ mN rF rS rVx rVy rMd rE rAx rAy rBx rBy rO rP rPx rPy rPd rQ rFi rLa rOn rLe rRi rHx rHy rHd rKx rKy rKd oL oD _ _ _ _ _ (by omega) (by omega) h hP hD hS (lv_sub hl [0, 1, 2, 3, 4, 5] rfl)
    have L310 : ∀ (v5 : Int32) (cX : Nat → Nat → Int32) (cY : Nat → Nat → Int32) (cN : Nat → Int32) (cM : Int32) (fX : Nat → Int32) (fY : Nat → Int32) (lX : Nat → Int32) (lY : Nat → Int32) (oP : Nat → Int32) (nE : Int32) (pX : Nat → Int32) (pY : Nat → Int32) (pD : Nat → Int32) (pO : Nat → Int32) (nP : Int32) (qF : Nat → Nat → Int32) (nQ : Int32) (mR : Nat → Int32) (mQ : Int32) (mN : Int32) (rF : Int32) (rS : Nat → Int32) (rVx : Nat → Int32) (rVy : Nat → Int32) (rMd : Int32) (rE : Int32) (rAx : Nat → Int32) (rAy : Nat → Int32) (rBx : Nat → Int32) (rBy : Nat → Int32) (rO : Nat → Int32) (rP : Int32) (rPx : Nat → Int32) (rPy : Nat → Int32) (rPd : Nat → Int32) (rQ : Int32) (rFi : Nat → Int32) (rLa : Nat → Int32) (rOn : Nat → Int32) (rLe : Nat → Int32) (rRi : Nat → Int32) (rHx : Int64) (rHy : Int64) (rHd : Int64) (rKx : Int64) (rKy : Int64) (rKd : Int64) (oL : Nat → Int64) (oD : Nat → UInt64) (cl sl : Nat) (H : Heap) (locs : List Loc) (ls : Array Slot), cl + 4 * n28 ≤ 601024 → sl + 24 * n28 ≤ 7293034 → wp_L_law_L310 L xs  (wp_L_law_L28 L xs  (fun cX cY cN cM fX fY lX lY oP nE pX pY pD pO nP qF nQ mR mQ mN rF rS rVx rVy rMd rE rAx rAy rBx rBy rO rP rPx rPy rPd rQ rFi rLa rOn rLe rRi rHx rHy rHd rKx rKy rKd oL oD => (wp_L_law_L901 L xs   cX cY cN cM fX fY lX lY oP nE pX pY pD pO nP qF nQ mR mQ mN rF rS rVx rVy rMd rE rAx rAy rBx rBy rO rP rPx rPy rPd rQ rFi rLa rOn rLe rRi rHx rHy rHd rKx rKy rKd oL oD)) n28) v5 cX cY cN cM fX fY lX lY oP nE pX pY pD pO nP qF nQ mR mQ mN rF rS rVx rVy rMd rE rAx rAy rBx rBy rO rP rPx rPy rPd rQ rFi rLa rOn rLe rRi rHx rHy rHd rKx rKy rKd oL oD → va_P D vwCl (wC k aC aE aP aQ aM cX cY cN cM ++ wE k aE fX fY lX lY oP nE ++ wP k aP pX pY pD pO nP ++ wQ k aQ qF nQ ++ wM k aM mR mQ mN ++ wR k aR rF rS rVx rVy rMd rE rAx rAy rBx rBy rO rP rPx rPy rPd rQ rFi rLa rOn rLe rRi rHx rHy rHd rKx rKy rKd ++ wO k aO oL oD) H → va_D A (wC k aC aE aP aQ aM cX cY cN cM ++ wE k aE fX fY lX lY oP nE ++ wP k aP pX pY pD pO nP ++ wQ k aQ qF nQ ++ wM k aM mR mQ mN ++ wR k aR rF rS rVx rVy rMd rE rAx rAy rBx rBy rO rP rPx rPy rPd rQ rFi rLa rOn rLe rRi rHx rHy rHd rKx rKy rKd ++ wO k aO oL oD) → va_S A s.heap H locs → lv_has ls 9 [(0, .ref b), (1, .ref (aC 0)), (2, .ref (aR 0)), (3, .ref (aO 0)), (4, .ref (aO 1)), (5, .int v5)] → W p l e room_1 s m #[Value.ref b] below meth c H locs cl sl (lw_Z below #[Value.ref b] s) (F0 m 310 ls []) := by
      intro v5 cX cY cN cM fX fY lX lY oP nE pX pY pD pO nP qF nQ mR mQ mN rF rS rVx rVy rMd rE rAx rAy rBx rBy rO rP rPx rPy rPd rQ rFi rLa rOn rLe rRi rHx rHy rHd rKx rKy rKd oL oD cl sl H locs ls hcl hsl h hP hD hS hl
      unfold wp_L_law_L310 at h
      refine lv_goto (tgt := 906) hx hb dL_law_310 (by decide) ?_
      exact L906 v5 cX cY cN cM fX fY lX lY oP nE pX pY pD pO nP qF nQ mR mQ mN rF rS rVx rVy rMd rE rAx rAy rBx rBy rO rP rPx rPy rPd rQ rFi rLa rOn rLe rRi rHx rHy rHd rKx rKy rKd oL oD _ _ _ _ _ (by omega) (by omega) h hP hD hS (lv_sub hl [0, 1, 2, 3, 4, 5] rfl)
    have L378 : ∀ (v5 : Int32) (cX : Nat → Nat → Int32) (cY : Nat → Nat → Int32) (cN : Nat → Int32) (cM : Int32) (fX : Nat → Int32) (fY : Nat → Int32) (lX : Nat → Int32) (lY : Nat → Int32) (oP : Nat → Int32) (nE : Int32) (pX : Nat → Int32) (pY : Nat → Int32) (pD : Nat → Int32) (pO : Nat → Int32) (nP : Int32) (qF : Nat → Nat → Int32) (nQ : Int32) (mR : Nat → Int32) (mQ : Int32) (mN : Int32) (rF : Int32) (rS : Nat → Int32) (rVx : Nat → Int32) (rVy : Nat → Int32) (rMd : Int32) (rE : Int32) (rAx : Nat → Int32) (rAy : Nat → Int32) (rBx : Nat → Int32) (rBy : Nat → Int32) (rO : Nat → Int32) (rP : Int32) (rPx : Nat → Int32) (rPy : Nat → Int32) (rPd : Nat → Int32) (rQ : Int32) (rFi : Nat → Int32) (rLa : Nat → Int32) (rOn : Nat → Int32) (rLe : Nat → Int32) (rRi : Nat → Int32) (rHx : Int64) (rHy : Int64) (rHd : Int64) (rKx : Int64) (rKy : Int64) (rKd : Int64) (oL : Nat → Int64) (oD : Nat → UInt64) (cl sl : Nat) (H : Heap) (locs : List Loc) (ls : Array Slot), cl + 4 * n28 ≤ 601024 → sl + 24 * n28 ≤ 7293034 → wp_L_law_L378 L xs  (wp_L_law_L28 L xs  (fun cX cY cN cM fX fY lX lY oP nE pX pY pD pO nP qF nQ mR mQ mN rF rS rVx rVy rMd rE rAx rAy rBx rBy rO rP rPx rPy rPd rQ rFi rLa rOn rLe rRi rHx rHy rHd rKx rKy rKd oL oD => (wp_L_law_L901 L xs   cX cY cN cM fX fY lX lY oP nE pX pY pD pO nP qF nQ mR mQ mN rF rS rVx rVy rMd rE rAx rAy rBx rBy rO rP rPx rPy rPd rQ rFi rLa rOn rLe rRi rHx rHy rHd rKx rKy rKd oL oD)) n28) v5 cX cY cN cM fX fY lX lY oP nE pX pY pD pO nP qF nQ mR mQ mN rF rS rVx rVy rMd rE rAx rAy rBx rBy rO rP rPx rPy rPd rQ rFi rLa rOn rLe rRi rHx rHy rHd rKx rKy rKd oL oD → va_P D vwCl (wC k aC aE aP aQ aM cX cY cN cM ++ wE k aE fX fY lX lY oP nE ++ wP k aP pX pY pD pO nP ++ wQ k aQ qF nQ ++ wM k aM mR mQ mN ++ wR k aR rF rS rVx rVy rMd rE rAx rAy rBx rBy rO rP rPx rPy rPd rQ rFi rLa rOn rLe rRi rHx rHy rHd rKx rKy rKd ++ wO k aO oL oD) H → va_D A (wC k aC aE aP aQ aM cX cY cN cM ++ wE k aE fX fY lX lY oP nE ++ wP k aP pX pY pD pO nP ++ wQ k aQ qF nQ ++ wM k aM mR mQ mN ++ wR k aR rF rS rVx rVy rMd rE rAx rAy rBx rBy rO rP rPx rPy rPd rQ rFi rLa rOn rLe rRi rHx rHy rHd rKx rKy rKd ++ wO k aO oL oD) → va_S A s.heap H locs → lv_has ls 9 [(0, .ref b), (1, .ref (aC 0)), (2, .ref (aR 0)), (3, .ref (aO 0)), (4, .ref (aO 1)), (5, .int v5)] → W p l e room_1 s m #[Value.ref b] below meth c H locs cl sl (lw_Z below #[Value.ref b] s) (F0 m 378 ls []) := by
      intro v5 cX cY cN cM fX fY lX lY oP nE pX pY pD pO nP qF nQ mR mQ mN rF rS rVx rVy rMd rE rAx rAy rBx rBy rO rP rPx rPy rPd rQ rFi rLa rOn rLe rRi rHx rHy rHd rKx rKy rKd oL oD cl sl H locs ls hcl hsl h hP hD hS hl
      unfold wp_L_law_L378 at h
      refine lv_goto (tgt := 906) hx hb dL_law_378 (by decide) ?_
      exact L906 v5 cX cY cN cM fX fY lX lY oP nE pX pY pD pO nP qF nQ mR mQ mN rF rS rVx rVy rMd rE rAx rAy rBx rBy rO rP rPx rPy rPd rQ rFi rLa rOn rLe rRi rHx rHy rHd rKx rKy rKd oL oD _ _ _ _ _ (by omega) (by omega) h hP hD hS (lv_sub hl [0, 1, 2, 3, 4, 5] rfl)
    have L446 : ∀ (v5 : Int32) (cX : Nat → Nat → Int32) (cY : Nat → Nat → Int32) (cN : Nat → Int32) (cM : Int32) (fX : Nat → Int32) (fY : Nat → Int32) (lX : Nat → Int32) (lY : Nat → Int32) (oP : Nat → Int32) (nE : Int32) (pX : Nat → Int32) (pY : Nat → Int32) (pD : Nat → Int32) (pO : Nat → Int32) (nP : Int32) (qF : Nat → Nat → Int32) (nQ : Int32) (mR : Nat → Int32) (mQ : Int32) (mN : Int32) (rF : Int32) (rS : Nat → Int32) (rVx : Nat → Int32) (rVy : Nat → Int32) (rMd : Int32) (rE : Int32) (rAx : Nat → Int32) (rAy : Nat → Int32) (rBx : Nat → Int32) (rBy : Nat → Int32) (rO : Nat → Int32) (rP : Int32) (rPx : Nat → Int32) (rPy : Nat → Int32) (rPd : Nat → Int32) (rQ : Int32) (rFi : Nat → Int32) (rLa : Nat → Int32) (rOn : Nat → Int32) (rLe : Nat → Int32) (rRi : Nat → Int32) (rHx : Int64) (rHy : Int64) (rHd : Int64) (rKx : Int64) (rKy : Int64) (rKd : Int64) (oL : Nat → Int64) (oD : Nat → UInt64) (cl sl : Nat) (H : Heap) (locs : List Loc) (ls : Array Slot), cl + 4 * n28 ≤ 601024 → sl + 24 * n28 ≤ 7293034 → wp_L_law_L446 L xs  (wp_L_law_L28 L xs  (fun cX cY cN cM fX fY lX lY oP nE pX pY pD pO nP qF nQ mR mQ mN rF rS rVx rVy rMd rE rAx rAy rBx rBy rO rP rPx rPy rPd rQ rFi rLa rOn rLe rRi rHx rHy rHd rKx rKy rKd oL oD => (wp_L_law_L901 L xs   cX cY cN cM fX fY lX lY oP nE pX pY pD pO nP qF nQ mR mQ mN rF rS rVx rVy rMd rE rAx rAy rBx rBy rO rP rPx rPy rPd rQ rFi rLa rOn rLe rRi rHx rHy rHd rKx rKy rKd oL oD)) n28) v5 cX cY cN cM fX fY lX lY oP nE pX pY pD pO nP qF nQ mR mQ mN rF rS rVx rVy rMd rE rAx rAy rBx rBy rO rP rPx rPy rPd rQ rFi rLa rOn rLe rRi rHx rHy rHd rKx rKy rKd oL oD → va_P D vwCl (wC k aC aE aP aQ aM cX cY cN cM ++ wE k aE fX fY lX lY oP nE ++ wP k aP pX pY pD pO nP ++ wQ k aQ qF nQ ++ wM k aM mR mQ mN ++ wR k aR rF rS rVx rVy rMd rE rAx rAy rBx rBy rO rP rPx rPy rPd rQ rFi rLa rOn rLe rRi rHx rHy rHd rKx rKy rKd ++ wO k aO oL oD) H → va_D A (wC k aC aE aP aQ aM cX cY cN cM ++ wE k aE fX fY lX lY oP nE ++ wP k aP pX pY pD pO nP ++ wQ k aQ qF nQ ++ wM k aM mR mQ mN ++ wR k aR rF rS rVx rVy rMd rE rAx rAy rBx rBy rO rP rPx rPy rPd rQ rFi rLa rOn rLe rRi rHx rHy rHd rKx rKy rKd ++ wO k aO oL oD) → va_S A s.heap H locs → lv_has ls 9 [(0, .ref b), (1, .ref (aC 0)), (2, .ref (aR 0)), (3, .ref (aO 0)), (4, .ref (aO 1)), (5, .int v5)] → W p l e room_1 s m #[Value.ref b] below meth c H locs cl sl (lw_Z below #[Value.ref b] s) (F0 m 446 ls []) := by
      intro v5 cX cY cN cM fX fY lX lY oP nE pX pY pD pO nP qF nQ mR mQ mN rF rS rVx rVy rMd rE rAx rAy rBx rBy rO rP rPx rPy rPd rQ rFi rLa rOn rLe rRi rHx rHy rHd rKx rKy rKd oL oD cl sl H locs ls hcl hsl h hP hD hS hl
      unfold wp_L_law_L446 at h
      refine lv_goto (tgt := 906) hx hb dL_law_446 (by decide) ?_
      exact L906 v5 cX cY cN cM fX fY lX lY oP nE pX pY pD pO nP qF nQ mR mQ mN rF rS rVx rVy rMd rE rAx rAy rBx rBy rO rP rPx rPy rPd rQ rFi rLa rOn rLe rRi rHx rHy rHd rKx rKy rKd oL oD _ _ _ _ _ (by omega) (by omega) h hP hD hS (lv_sub hl [0, 1, 2, 3, 4, 5] rfl)
    have L514 : ∀ (v5 : Int32) (cX : Nat → Nat → Int32) (cY : Nat → Nat → Int32) (cN : Nat → Int32) (cM : Int32) (fX : Nat → Int32) (fY : Nat → Int32) (lX : Nat → Int32) (lY : Nat → Int32) (oP : Nat → Int32) (nE : Int32) (pX : Nat → Int32) (pY : Nat → Int32) (pD : Nat → Int32) (pO : Nat → Int32) (nP : Int32) (qF : Nat → Nat → Int32) (nQ : Int32) (mR : Nat → Int32) (mQ : Int32) (mN : Int32) (rF : Int32) (rS : Nat → Int32) (rVx : Nat → Int32) (rVy : Nat → Int32) (rMd : Int32) (rE : Int32) (rAx : Nat → Int32) (rAy : Nat → Int32) (rBx : Nat → Int32) (rBy : Nat → Int32) (rO : Nat → Int32) (rP : Int32) (rPx : Nat → Int32) (rPy : Nat → Int32) (rPd : Nat → Int32) (rQ : Int32) (rFi : Nat → Int32) (rLa : Nat → Int32) (rOn : Nat → Int32) (rLe : Nat → Int32) (rRi : Nat → Int32) (rHx : Int64) (rHy : Int64) (rHd : Int64) (rKx : Int64) (rKy : Int64) (rKd : Int64) (oL : Nat → Int64) (oD : Nat → UInt64) (cl sl : Nat) (H : Heap) (locs : List Loc) (ls : Array Slot), cl + 4 * n28 ≤ 601024 → sl + 24 * n28 ≤ 7293034 → wp_L_law_L514 L xs  (wp_L_law_L28 L xs  (fun cX cY cN cM fX fY lX lY oP nE pX pY pD pO nP qF nQ mR mQ mN rF rS rVx rVy rMd rE rAx rAy rBx rBy rO rP rPx rPy rPd rQ rFi rLa rOn rLe rRi rHx rHy rHd rKx rKy rKd oL oD => (wp_L_law_L901 L xs   cX cY cN cM fX fY lX lY oP nE pX pY pD pO nP qF nQ mR mQ mN rF rS rVx rVy rMd rE rAx rAy rBx rBy rO rP rPx rPy rPd rQ rFi rLa rOn rLe rRi rHx rHy rHd rKx rKy rKd oL oD)) n28) v5 cX cY cN cM fX fY lX lY oP nE pX pY pD pO nP qF nQ mR mQ mN rF rS rVx rVy rMd rE rAx rAy rBx rBy rO rP rPx rPy rPd rQ rFi rLa rOn rLe rRi rHx rHy rHd rKx rKy rKd oL oD → va_P D vwCl (wC k aC aE aP aQ aM cX cY cN cM ++ wE k aE fX fY lX lY oP nE ++ wP k aP pX pY pD pO nP ++ wQ k aQ qF nQ ++ wM k aM mR mQ mN ++ wR k aR rF rS rVx rVy rMd rE rAx rAy rBx rBy rO rP rPx rPy rPd rQ rFi rLa rOn rLe rRi rHx rHy rHd rKx rKy rKd ++ wO k aO oL oD) H → va_D A (wC k aC aE aP aQ aM cX cY cN cM ++ wE k aE fX fY lX lY oP nE ++ wP k aP pX pY pD pO nP ++ wQ k aQ qF nQ ++ wM k aM mR mQ mN ++ wR k aR rF rS rVx rVy rMd rE rAx rAy rBx rBy rO rP rPx rPy rPd rQ rFi rLa rOn rLe rRi rHx rHy rHd rKx rKy rKd ++ wO k aO oL oD) → va_S A s.heap H locs → lv_has ls 9 [(0, .ref b), (1, .ref (aC 0)), (2, .ref (aR 0)), (3, .ref (aO 0)), (4, .ref (aO 1)), (5, .int v5)] → W p l e room_1 s m #[Value.ref b] below meth c H locs cl sl (lw_Z below #[Value.ref b] s) (F0 m 514 ls []) := by
      intro v5 cX cY cN cM fX fY lX lY oP nE pX pY pD pO nP qF nQ mR mQ mN rF rS rVx rVy rMd rE rAx rAy rBx rBy rO rP rPx rPy rPd rQ rFi rLa rOn rLe rRi rHx rHy rHd rKx rKy rKd oL oD cl sl H locs ls hcl hsl h hP hD hS hl
      unfold wp_L_law_L514 at h
      refine lv_goto (tgt := 906) hx hb dL_law_514 (by decide) ?_
      exact L906 v5 cX cY cN cM fX fY lX lY oP nE pX pY pD pO nP qF nQ mR mQ mN rF rS rVx rVy rMd rE rAx rAy rBx rBy rO rP rPx rPy rPd rQ rFi rLa rOn rLe rRi rHx rHy rHd rKx rKy rKd oL oD _ _ _ _ _ (by omega) (by omega) h hP hD hS (lv_sub hl [0, 1, 2, 3, 4, 5] rfl)
    have L610 : ∀ (v5 : Int32) (cX : Nat → Nat → Int32) (cY : Nat → Nat → Int32) (cN : Nat → Int32) (cM : Int32) (fX : Nat → Int32) (fY : Nat → Int32) (lX : Nat → Int32) (lY : Nat → Int32) (oP : Nat → Int32) (nE : Int32) (pX : Nat → Int32) (pY : Nat → Int32) (pD : Nat → Int32) (pO : Nat → Int32) (nP : Int32) (qF : Nat → Nat → Int32) (nQ : Int32) (mR : Nat → Int32) (mQ : Int32) (mN : Int32) (rF : Int32) (rS : Nat → Int32) (rVx : Nat → Int32) (rVy : Nat → Int32) (rMd : Int32) (rE : Int32) (rAx : Nat → Int32) (rAy : Nat → Int32) (rBx : Nat → Int32) (rBy : Nat → Int32) (rO : Nat → Int32) (rP : Int32) (rPx : Nat → Int32) (rPy : Nat → Int32) (rPd : Nat → Int32) (rQ : Int32) (rFi : Nat → Int32) (rLa : Nat → Int32) (rOn : Nat → Int32) (rLe : Nat → Int32) (rRi : Nat → Int32) (rHx : Int64) (rHy : Int64) (rHd : Int64) (rKx : Int64) (rKy : Int64) (rKd : Int64) (oL : Nat → Int64) (oD : Nat → UInt64) (cl sl : Nat) (H : Heap) (locs : List Loc) (ls : Array Slot), cl + 4 * n28 ≤ 601024 → sl + 24 * n28 ≤ 7293034 → wp_L_law_L610 L xs  (wp_L_law_L28 L xs  (fun cX cY cN cM fX fY lX lY oP nE pX pY pD pO nP qF nQ mR mQ mN rF rS rVx rVy rMd rE rAx rAy rBx rBy rO rP rPx rPy rPd rQ rFi rLa rOn rLe rRi rHx rHy rHd rKx rKy rKd oL oD => (wp_L_law_L901 L xs   cX cY cN cM fX fY lX lY oP nE pX pY pD pO nP qF nQ mR mQ mN rF rS rVx rVy rMd rE rAx rAy rBx rBy rO rP rPx rPy rPd rQ rFi rLa rOn rLe rRi rHx rHy rHd rKx rKy rKd oL oD)) n28) v5 cX cY cN cM fX fY lX lY oP nE pX pY pD pO nP qF nQ mR mQ mN rF rS rVx rVy rMd rE rAx rAy rBx rBy rO rP rPx rPy rPd rQ rFi rLa rOn rLe rRi rHx rHy rHd rKx rKy rKd oL oD → va_P D vwCl (wC k aC aE aP aQ aM cX cY cN cM ++ wE k aE fX fY lX lY oP nE ++ wP k aP pX pY pD pO nP ++ wQ k aQ qF nQ ++ wM k aM mR mQ mN ++ wR k aR rF rS rVx rVy rMd rE rAx rAy rBx rBy rO rP rPx rPy rPd rQ rFi rLa rOn rLe rRi rHx rHy rHd rKx rKy rKd ++ wO k aO oL oD) H → va_D A (wC k aC aE aP aQ aM cX cY cN cM ++ wE k aE fX fY lX lY oP nE ++ wP k aP pX pY pD pO nP ++ wQ k aQ qF nQ ++ wM k aM mR mQ mN ++ wR k aR rF rS rVx rVy rMd rE rAx rAy rBx rBy rO rP rPx rPy rPd rQ rFi rLa rOn rLe rRi rHx rHy rHd rKx rKy rKd ++ wO k aO oL oD) → va_S A s.heap H locs → lv_has ls 9 [(0, .ref b), (1, .ref (aC 0)), (2, .ref (aR 0)), (3, .ref (aO 0)), (4, .ref (aO 1)), (5, .int v5)] → W p l e room_1 s m #[Value.ref b] below meth c H locs cl sl (lw_Z below #[Value.ref b] s) (F0 m 610 ls []) := by
      intro v5 cX cY cN cM fX fY lX lY oP nE pX pY pD pO nP qF nQ mR mQ mN rF rS rVx rVy rMd rE rAx rAy rBx rBy rO rP rPx rPy rPd rQ rFi rLa rOn rLe rRi rHx rHy rHd rKx rKy rKd oL oD cl sl H locs ls hcl hsl h hP hD hS hl
      unfold wp_L_law_L610 at h
      refine lv_goto (tgt := 906) hx hb dL_law_610 (by decide) ?_
      exact L906 v5 cX cY cN cM fX fY lX lY oP nE pX pY pD pO nP qF nQ mR mQ mN rF rS rVx rVy rMd rE rAx rAy rBx rBy rO rP rPx rPy rPd rQ rFi rLa rOn rLe rRi rHx rHy rHd rKx rKy rKd oL oD _ _ _ _ _ (by omega) (by omega) h hP hD hS (lv_sub hl [0, 1, 2, 3, 4, 5] rfl)
    have L577 : ∀ (v5 : Int32) (v6 : Int32) (z0 : Int32) (z1 : Int32) (z2 : Int32) (cX : Nat → Nat → Int32) (cY : Nat → Nat → Int32) (cN : Nat → Int32) (cM : Int32) (fX : Nat → Int32) (fY : Nat → Int32) (lX : Nat → Int32) (lY : Nat → Int32) (oP : Nat → Int32) (nE : Int32) (pX : Nat → Int32) (pY : Nat → Int32) (pD : Nat → Int32) (pO : Nat → Int32) (nP : Int32) (qF : Nat → Nat → Int32) (nQ : Int32) (mR : Nat → Int32) (mQ : Int32) (mN : Int32) (rF : Int32) (rS : Nat → Int32) (rVx : Nat → Int32) (rVy : Nat → Int32) (rMd : Int32) (rE : Int32) (rAx : Nat → Int32) (rAy : Nat → Int32) (rBx : Nat → Int32) (rBy : Nat → Int32) (rO : Nat → Int32) (rP : Int32) (rPx : Nat → Int32) (rPy : Nat → Int32) (rPd : Nat → Int32) (rQ : Int32) (rFi : Nat → Int32) (rLa : Nat → Int32) (rOn : Nat → Int32) (rLe : Nat → Int32) (rRi : Nat → Int32) (rHx : Int64) (rHy : Int64) (rHd : Int64) (rKx : Int64) (rKy : Int64) (rKd : Int64) (oL : Nat → Int64) (oD : Nat → UInt64) (cl sl : Nat) (H : Heap) (locs : List Loc) (ls : Array Slot), cl + 4 * n28 ≤ 601024 → sl + 24 * n28 ≤ 7293034 → wp_L_law_L577 L xs  (wp_L_law_L28 L xs  (fun cX cY cN cM fX fY lX lY oP nE pX pY pD pO nP qF nQ mR mQ mN rF rS rVx rVy rMd rE rAx rAy rBx rBy rO rP rPx rPy rPd rQ rFi rLa rOn rLe rRi rHx rHy rHd rKx rKy rKd oL oD => (wp_L_law_L901 L xs   cX cY cN cM fX fY lX lY oP nE pX pY pD pO nP qF nQ mR mQ mN rF rS rVx rVy rMd rE rAx rAy rBx rBy rO rP rPx rPy rPd rQ rFi rLa rOn rLe rRi rHx rHy rHd rKx rKy rKd oL oD)) n28) v5 v6 z0 z1 z2 cX cY cN cM fX fY lX lY oP nE pX pY pD pO nP qF nQ mR mQ mN rF rS rVx rVy rMd rE rAx rAy rBx rBy rO rP rPx rPy rPd rQ rFi rLa rOn rLe rRi rHx rHy rHd rKx rKy rKd oL oD → va_P D vwCl (wC k aC aE aP aQ aM cX cY cN cM ++ wE k aE fX fY lX lY oP nE ++ wP k aP pX pY pD pO nP ++ wQ k aQ qF nQ ++ wM k aM mR mQ mN ++ wR k aR rF rS rVx rVy rMd rE rAx rAy rBx rBy rO rP rPx rPy rPd rQ rFi rLa rOn rLe rRi rHx rHy rHd rKx rKy rKd ++ wO k aO oL oD) H → va_D A (wC k aC aE aP aQ aM cX cY cN cM ++ wE k aE fX fY lX lY oP nE ++ wP k aP pX pY pD pO nP ++ wQ k aQ qF nQ ++ wM k aM mR mQ mN ++ wR k aR rF rS rVx rVy rMd rE rAx rAy rBx rBy rO rP rPx rPy rPd rQ rFi rLa rOn rLe rRi rHx rHy rHd rKx rKy rKd ++ wO k aO oL oD) → va_S A s.heap H locs → lv_has ls 9 [(0, .ref b), (1, .ref (aC 0)), (2, .ref (aR 0)), (3, .ref (aO 0)), (4, .ref (aO 1)), (5, .int v5), (6, .int v6)] → W p l e room_1 s m #[Value.ref b] below meth c H locs cl sl (lw_Z below #[Value.ref b] s) (F0 m 577 ls [.int z0, .int z1, .int z2, .ref (aR 0)]) := by
      intro v5 v6 z0 z1 z2 cX cY cN cM fX fY lX lY oP nE pX pY pD pO nP qF nQ mR mQ mN rF rS rVx rVy rMd rE rAx rAy rBx rBy rO rP rPx rPy rPd rQ rFi rLa rOn rLe rRi rHx rHy rHd rKx rKy rKd oL oD cl sl H locs ls hcl hsl h hP hD hS hl
      unfold wp_L_law_L577 at h
      have hPc := hP.sub (ws' := wR k aR rF rS rVx rVy rMd rE rAx rAy rBx rBy rO rP rPx rPy rPd rQ rFi rLa rOn rLe rRi rHx rHy rHd rKx rKy rKd) [31, 32, 33, 34, 35, 36, 37, 38, 39, 40, 41, 42, 43, 44, 45, 46, 47] rfl
      have hDc := hD.sub (ws' := wR k aR rF rS rVx rVy rMd rE rAx rAy rBx rBy rO rP rPx rPy rPd rQ rFi rLa rOn rLe rRi rHx rHy rHd rKx rKy rKd) [31, 32, 33, 34, 35, 36, 37, 38, 39, 40, 41, 42, 43, 44, 45, 46, 47] (by decide) rfl
      have hFc := va_free (wc := wR k aR rF rS rVx rVy rMd rE rAx rAy rBx rBy rO rP rPx rPy rPd rQ rFi rLa rOn rLe rRi rHx rHy rHd rKx rKy rKd) hD hS hA [31, 32, 33, 34, 35, 36, 37, 38, 39, 40, 41, 42, 43, 44, 45, 46, 47] rfl
      refine va_calli (va_runV (C := RX5) (b := (aR 0)) (As := [.int z2, .int z1, .int z0]) (rest := []) ⟨hx, hb, hml, hown, hts⟩ (m_X5_shared l D k aR rF rS rVx rVy rMd rE rAx rAy rBx rBy rO rP rPx rPy rPd rQ rFi rLa rOn rLe rRi rHx rHy rHd rKx rKy rKd z2 z1 z0 _ _ h) (cwV 3 hts gL_law_X5_shared rfl rfl rfl (by decide +kernel) ⟨Nat.le_of_ble_eq_true rfl, Nat.le_of_ble_eq_true rfl⟩) (preV_rw (ci := 5) (q0 := 0) (C := RX5) (T := TX5) (N := 27) hE hPc hDc rfl rfl) rfl rfl hl.1 rfl (lv_room (Nat.le_of_ble_eq_true rfl)) dL_law_577 ⟨by change _ ≤ 601024; omega, by change _ ≤ 7293034; omega⟩) hS (fun q _ h => hFc q h) hFc (fun r577 u t H1 locs ht hvm h hB hz1 hk1 hS => ?_)
      obtain ⟨rF_577, rHx_577, rHy_577, rHd_577, rKx_577, rKy_577, rKd_577⟩ := u
      obtain ⟨hP1, hD1⟩ := hB
      rw [ht] at hP1
      obtain ⟨hP, hD⟩ := va_join (wr := wC k aC aE aP aQ aM cX cY cN cM ++ wE k aE fX fY lX lY oP nE ++ wP k aP pX pY pD pO nP ++ wQ k aQ qF nQ ++ wM k aM mR mQ mN ++ wO k aO oL oD) (w1 := wR k aR rF_577 rS rVx rVy rMd rE rAx rAy rBx rBy rO rP rPx rPy rPd rQ rFi rLa rOn rLe rRi rHx_577 rHy_577 rHd_577 rKx_577 rKy_577 rKd_577) hP hD [31, 32, 33, 34, 35, 36, 37, 38, 39, 40, 41, 42, 43, 44, 45, 46, 47] [0, 1, 2, 3, 4, 5, 6, 7, 8, 9, 10, 11, 12, 13, 14, 15, 16, 17, 18, 19, 20, 21, 22, 23, 24, 25, 26, 27, 28, 29, 30, 48, 49] rfl rfl (by decide) (by decide) hk1 hFc hP1 hD1
      generalize H1 = H at hP hS ⊢
      have hP : va_P D vwCl (wC k aC aE aP aQ aM cX cY cN cM ++ wE k aE fX fY lX lY oP nE ++ wP k aP pX pY pD pO nP ++ wQ k aQ qF nQ ++ wM k aM mR mQ mN ++ wR k aR rF_577 rS rVx rVy rMd rE rAx rAy rBx rBy rO rP rPx rPy rPd rQ rFi rLa rOn rLe rRi rHx_577 rHy_577 rHd_577 rKx_577 rKy_577 rKd_577 ++ wO k aO oL oD) H := hP.sub [0, 1, 2, 3, 4, 5, 6, 7, 8, 9, 10, 11, 12, 13, 14, 15, 16, 17, 18, 19, 20, 21, 22, 23, 24, 25, 26, 27, 28, 29, 30, 33, 34, 35, 36, 37, 38, 39, 40, 41, 42, 43, 44, 45, 46, 47, 48, 49, 31, 32] rfl
      have hD : va_D A (wC k aC aE aP aQ aM cX cY cN cM ++ wE k aE fX fY lX lY oP nE ++ wP k aP pX pY pD pO nP ++ wQ k aQ qF nQ ++ wM k aM mR mQ mN ++ wR k aR rF_577 rS rVx rVy rMd rE rAx rAy rBx rBy rO rP rPx rPy rPd rQ rFi rLa rOn rLe rRi rHx_577 rHy_577 rHd_577 rKx_577 rKy_577 rKd_577 ++ wO k aO oL oD) := hD.sub [0, 1, 2, 3, 4, 5, 6, 7, 8, 9, 10, 11, 12, 13, 14, 15, 16, 17, 18, 19, 20, 21, 22, 23, 24, 25, 26, 27, 28, 29, 30, 33, 34, 35, 36, 37, 38, 39, 40, 41, 42, 43, 44, 45, 46, 47, 48, 49, 31, 32] (by decide) rfl
      refine lv_istore (lv' := [(7, .int r577), (0, .ref b), (1, .ref (aC 0)), (2, .ref (aR 0)), (3, .ref (aO 0)), (4, .ref (aO 1)), (5, .int v5), (6, .int v6)]) hx hb dL_law_580 hl (by decide) rfl (fun ls hl => ?_)
      refine lv_aload_n hx hb dL_law_582 rfl (lv_at hl 3 rfl) ?_
      have hPc := hP.sub (ws' := wR k aR rF_577 rS rVx rVy rMd rE rAx rAy rBx rBy rO rP rPx rPy rPd rQ rFi rLa rOn rLe rRi rHx_577 rHy_577 rHd_577 rKx_577 rKy_577 rKd_577) [31, 32, 33, 34, 35, 36, 37, 38, 39, 40, 41, 42, 43, 44, 45, 46, 47] rfl
      refine vp_callSi (W.runV (C := RX5) (b := (aR 0)) (As := []) (rest := []) ⟨hx, hb, hml, hown, hts⟩ (m_X5_thrown l D k aR rF_577 rS rVx rVy rMd rE rAx rAy rBx rBy rO rP rPx rPy rPd rQ rFi rLa rOn rLe rRi rHx_577 rHy_577 rHd_577 rKx_577 rKy_577 rKd_577  _ h) (cwV 0 hts gL_law_X5_thrown rfl rfl rfl (by decide +kernel) ⟨Nat.le_of_ble_eq_true rfl, Nat.le_of_ble_eq_true rfl⟩) (preV_ro (ci := 5) (q0 := 0) (C := RX5) (T := TX5) (N := 27) hE hPc rfl rfl) rfl rfl hl.1 rfl (lv_room (Nat.le_of_ble_eq_true rfl)) dL_law_583 ⟨by change _ ≤ 601024; omega, by change _ ≤ 7293034; omega⟩) (fun r583 h => ?_)
      refine lv_iload hx hb dL_law_586 (lv_at hl 7 rfl) ?_
      refine lv_icmp_eq (tgt := 593) hx hb dL_law_588 (by decide) (fun cq => ?_) (fun cq => ?_)
      · have h := h.1 cq
        refine lv_iload hx hb dL_law_593 (lv_at hl 7 rfl) ?_
        refine lv_if_ne (tgt := 610) hx hb dL_law_595 (by decide) (fun cq => ?_) (fun cq => ?_)
        · have h := h.1 cq
          exact L610 v5 cX cY cN cM fX fY lX lY oP nE pX pY pD pO nP qF nQ mR mQ mN rF_577 rS rVx rVy rMd rE rAx rAy rBx rBy rO rP rPx rPy rPd rQ rFi rLa rOn rLe rRi rHx_577 rHy_577 rHd_577 rKx_577 rKy_577 rKd_577 oL oD _ _ _ _ _ (by omega) (by omega) h hP hD hS (lv_sub hl [1, 2, 3, 4, 5, 6] rfl)
        · have h := h.2 cq
          refine lv_aload_n hx hb dL_law_598 rfl (lv_at hl 4 rfl) ?_
          refine lv_iconst (v := (0 : Int32)) hx hb dL_law_599 (by decide) ?_
          obtain ⟨hin, h⟩ := h
          refine va_lald hx hb hK hP 48 2 rfl rfl hin dL_law_600 ?_
          refine lv_iload hx hb dL_law_601 (lv_at hl 0 rfl) ?_
          refine lv_i2l hx hb dL_law_603 rfl ?_
          refine W.lcmp hx hb dL_law_604 ?_
          refine lv_if_eq (tgt := 610) hx hb dL_law_605 (by decide) (fun cq => ?_) (fun cq => ?_)
          · have h := h.1 ((lg_cmp_eq _ _).mp cq)
            exact L610 v5 cX cY cN cM fX fY lX lY oP nE pX pY pD pO nP qF nQ mR mQ mN rF_577 rS rVx rVy rMd rE rAx rAy rBx rBy rO rP rPx rPy rPd rQ rFi rLa rOn rLe rRi rHx_577 rHy_577 rHd_577 rKx_577 rKy_577 rKd_577 oL oD _ _ _ _ _ (by omega) (by omega) h hP hD hS (lv_sub hl [1, 2, 3, 4, 5, 6] rfl)
          · have h := h.2 (fun q => cq ((lg_cmp_eq _ _).mpr q))
            refine lv_iconst (v := (0 : Int32)) hx hb dL_law_608 (by decide) ?_
            rw [h]
            refine va_forget (fun q hq => hf9 _ (hS.2.2 q hq)) ?_
            refine W.widen (k := 601024) (n := 7293034) (by omega) (by omega) ?_
            exact lw_ret hx hb hr hlocks dL_law_609
      · have h := h.2 cq
        refine lv_iconst (v := (0 : Int32)) hx hb dL_law_591 (by decide) ?_
        rw [h]
        refine va_forget (fun q hq => hf9 _ (hS.2.2 q hq)) ?_
        refine W.widen (k := 601024) (n := 7293034) (by omega) (by omega) ?_
        exact lw_ret hx hb hr hlocks dL_law_592
    have L544 : ∀ (v5 : Int32) (z0 : Int32) (z1 : Int32) (z2 : Int32) (cX : Nat → Nat → Int32) (cY : Nat → Nat → Int32) (cN : Nat → Int32) (cM : Int32) (fX : Nat → Int32) (fY : Nat → Int32) (lX : Nat → Int32) (lY : Nat → Int32) (oP : Nat → Int32) (nE : Int32) (pX : Nat → Int32) (pY : Nat → Int32) (pD : Nat → Int32) (pO : Nat → Int32) (nP : Int32) (qF : Nat → Nat → Int32) (nQ : Int32) (mR : Nat → Int32) (mQ : Int32) (mN : Int32) (rF : Int32) (rS : Nat → Int32) (rVx : Nat → Int32) (rVy : Nat → Int32) (rMd : Int32) (rE : Int32) (rAx : Nat → Int32) (rAy : Nat → Int32) (rBx : Nat → Int32) (rBy : Nat → Int32) (rO : Nat → Int32) (rP : Int32) (rPx : Nat → Int32) (rPy : Nat → Int32) (rPd : Nat → Int32) (rQ : Int32) (rFi : Nat → Int32) (rLa : Nat → Int32) (rOn : Nat → Int32) (rLe : Nat → Int32) (rRi : Nat → Int32) (rHx : Int64) (rHy : Int64) (rHd : Int64) (rKx : Int64) (rKy : Int64) (rKd : Int64) (oL : Nat → Int64) (oD : Nat → UInt64) (cl sl : Nat) (H : Heap) (locs : List Loc) (ls : Array Slot), cl + 4 * n28 + 4 ≤ 601024 → sl + 24 * n28 + 24 ≤ 7293034 → wp_L_law_L544 L xs  (wp_L_law_L28 L xs  (fun cX cY cN cM fX fY lX lY oP nE pX pY pD pO nP qF nQ mR mQ mN rF rS rVx rVy rMd rE rAx rAy rBx rBy rO rP rPx rPy rPd rQ rFi rLa rOn rLe rRi rHx rHy rHd rKx rKy rKd oL oD => (wp_L_law_L901 L xs   cX cY cN cM fX fY lX lY oP nE pX pY pD pO nP qF nQ mR mQ mN rF rS rVx rVy rMd rE rAx rAy rBx rBy rO rP rPx rPy rPd rQ rFi rLa rOn rLe rRi rHx rHy rHd rKx rKy rKd oL oD)) n28) v5 z0 z1 z2 cX cY cN cM fX fY lX lY oP nE pX pY pD pO nP qF nQ mR mQ mN rF rS rVx rVy rMd rE rAx rAy rBx rBy rO rP rPx rPy rPd rQ rFi rLa rOn rLe rRi rHx rHy rHd rKx rKy rKd oL oD → va_P D vwCl (wC k aC aE aP aQ aM cX cY cN cM ++ wE k aE fX fY lX lY oP nE ++ wP k aP pX pY pD pO nP ++ wQ k aQ qF nQ ++ wM k aM mR mQ mN ++ wR k aR rF rS rVx rVy rMd rE rAx rAy rBx rBy rO rP rPx rPy rPd rQ rFi rLa rOn rLe rRi rHx rHy rHd rKx rKy rKd ++ wO k aO oL oD) H → va_D A (wC k aC aE aP aQ aM cX cY cN cM ++ wE k aE fX fY lX lY oP nE ++ wP k aP pX pY pD pO nP ++ wQ k aQ qF nQ ++ wM k aM mR mQ mN ++ wR k aR rF rS rVx rVy rMd rE rAx rAy rBx rBy rO rP rPx rPy rPd rQ rFi rLa rOn rLe rRi rHx rHy rHd rKx rKy rKd ++ wO k aO oL oD) → va_S A s.heap H locs → lv_has ls 9 [(0, .ref b), (1, .ref (aC 0)), (2, .ref (aR 0)), (3, .ref (aO 0)), (4, .ref (aO 1)), (5, .int v5)] → W p l e room_1 s m #[Value.ref b] below meth c H locs cl sl (lw_Z below #[Value.ref b] s) (F0 m 544 ls [.int z0, .int z1, .int z2, .ref (aC 0)]) := by
      intro v5 z0 z1 z2 cX cY cN cM fX fY lX lY oP nE pX pY pD pO nP qF nQ mR mQ mN rF rS rVx rVy rMd rE rAx rAy rBx rBy rO rP rPx rPy rPd rQ rFi rLa rOn rLe rRi rHx rHy rHd rKx rKy rKd oL oD cl sl H locs ls hcl hsl h hP hD hS hl
      unfold wp_L_law_L544 at h
      refine lv_aload_n hx hb dL_law_544 rfl (lv_at hl 3 rfl) ?_
      have hPc := hP.sub (ws' := wC k aC aE aP aQ aM cX cY cN cM ++ wE k aE fX fY lX lY oP nE ++ wP k aP pX pY pD pO nP ++ wQ k aQ qF nQ ++ wM k aM mR mQ mN ++ wO k aO oL oD) [0, 1, 2, 3, 4, 5, 6, 7, 8, 9, 10, 11, 12, 13, 14, 15, 16, 17, 18, 19, 20, 21, 22, 23, 24, 25, 26, 27, 28, 29, 30, 48, 49] rfl
      have hDc := hD.sub (ws' := wC k aC aE aP aQ aM cX cY cN cM ++ wE k aE fX fY lX lY oP nE ++ wP k aP pX pY pD pO nP ++ wQ k aQ qF nQ ++ wM k aM mR mQ mN ++ wO k aO oL oD) [0, 1, 2, 3, 4, 5, 6, 7, 8, 9, 10, 11, 12, 13, 14, 15, 16, 17, 18, 19, 20, 21, 22, 23, 24, 25, 26, 27, 28, 29, 30, 48, 49] (by decide) rfl
      have hFc := va_free (wc := wC k aC aE aP aQ aM cX cY cN cM ++ wE k aE fX fY lX lY oP nE ++ wP k aP pX pY pD pO nP ++ wQ k aQ qF nQ ++ wM k aM mR mQ mN ++ wO k aO oL oD) hD hS hA [0, 1, 2, 3, 4, 5, 6, 7, 8, 9, 10, 11, 12, 13, 14, 15, 16, 17, 18, 19, 20, 21, 22, 23, 24, 25, 26, 27, 28, 29, 30, 48, 49] rfl
      refine va_calli (vx_runSW (As := [.ref (aC 0), .int z2, .int z1, .int z0, .ref (aO 0)]) (rest := []) ⟨hx, hb, hml, hown, hts⟩ (m_L_shared l D k aC aE aP aQ aM aO cX cY cN cM fX fY lX lY oP nE pX pY pD pO nP qF nQ mR mQ mN oL oD z2 z1 z0 _ _ hlt h) (vx_cwSW 5 hts gL_law_L_shared rfl rfl rfl (by decide +kernel) ⟨Nat.le_of_ble_eq_true rfl, Nat.le_of_ble_eq_true rfl⟩) (preS_th hE hT hS hFc hPc hDc) rfl rfl hl.1 rfl (lv_room (Nat.le_of_ble_eq_true rfl)) dL_law_545 ⟨by change _ ≤ 601024; omega, by change _ ≤ 7293034; omega⟩) hS (fun q _ h => hFc q h) hFc (fun r545 oL_545 t H1 locs ht hvm h hB hz1 hk1 hS => ?_)
      obtain ⟨hP1, hD1⟩ := hB
      rw [ht] at hP1
      obtain ⟨hP, hD⟩ := va_join (wr := wR k aR rF rS rVx rVy rMd rE rAx rAy rBx rBy rO rP rPx rPy rPd rQ rFi rLa rOn rLe rRi rHx rHy rHd rKx rKy rKd) (w1 := wC k aC aE aP aQ aM cX cY cN cM ++ wE k aE fX fY lX lY oP nE ++ wP k aP pX pY pD pO nP ++ wQ k aQ qF nQ ++ wM k aM mR mQ mN ++ wO k aO oL_545 oD) hP hD [0, 1, 2, 3, 4, 5, 6, 7, 8, 9, 10, 11, 12, 13, 14, 15, 16, 17, 18, 19, 20, 21, 22, 23, 24, 25, 26, 27, 28, 29, 30, 48, 49] [31, 32, 33, 34, 35, 36, 37, 38, 39, 40, 41, 42, 43, 44, 45, 46, 47] rfl rfl (by decide) (by decide) hk1 hFc hP1 hD1
      generalize H1 = H at hP hS ⊢
      have hP : va_P D vwCl (wC k aC aE aP aQ aM cX cY cN cM ++ wE k aE fX fY lX lY oP nE ++ wP k aP pX pY pD pO nP ++ wQ k aQ qF nQ ++ wM k aM mR mQ mN ++ wR k aR rF rS rVx rVy rMd rE rAx rAy rBx rBy rO rP rPx rPy rPd rQ rFi rLa rOn rLe rRi rHx rHy rHd rKx rKy rKd ++ wO k aO oL_545 oD) H := hP.sub [17, 18, 19, 20, 21, 22, 23, 24, 25, 26, 27, 28, 29, 30, 31, 32, 33, 34, 35, 36, 37, 38, 39, 40, 41, 42, 43, 44, 45, 46, 47, 0, 1, 2, 3, 4, 5, 6, 7, 8, 9, 10, 11, 12, 13, 14, 15, 16, 48, 49] rfl
      have hD : va_D A (wC k aC aE aP aQ aM cX cY cN cM ++ wE k aE fX fY lX lY oP nE ++ wP k aP pX pY pD pO nP ++ wQ k aQ qF nQ ++ wM k aM mR mQ mN ++ wR k aR rF rS rVx rVy rMd rE rAx rAy rBx rBy rO rP rPx rPy rPd rQ rFi rLa rOn rLe rRi rHx rHy rHd rKx rKy rKd ++ wO k aO oL_545 oD) := hD.sub [17, 18, 19, 20, 21, 22, 23, 24, 25, 26, 27, 28, 29, 30, 31, 32, 33, 34, 35, 36, 37, 38, 39, 40, 41, 42, 43, 44, 45, 46, 47, 0, 1, 2, 3, 4, 5, 6, 7, 8, 9, 10, 11, 12, 13, 14, 15, 16, 48, 49] (by decide) rfl
      refine lv_istore (lv' := [(6, .int r545), (0, .ref b), (1, .ref (aC 0)), (2, .ref (aR 0)), (3, .ref (aO 0)), (4, .ref (aO 1)), (5, .int v5)]) hx hb dL_law_548 hl (by decide) rfl (fun ls hl => ?_)
      refine lv_aload_n hx hb dL_law_550 rfl (lv_at hl 3 rfl) ?_
      refine lv_aload_n hx hb dL_law_551 rfl (lv_at hl 1 rfl) ?_
      refine lv_iload hx hb dL_law_552 (lv_at hl 6 rfl) ?_
      refine lv_iconst (v := (1 : Int32)) hx hb dL_law_554 (by decide) ?_
      refine lv_iadd hx hb dL_law_555 ?_
      obtain ⟨hin, h⟩ := h
      refine va_sld hx hb hX hbl hbA hS hin dL_law_556 ?_
      refine lv_aload_n hx hb dL_law_557 rfl (lv_at hl 1 rfl) ?_
      refine lv_iload hx hb dL_law_558 (lv_at hl 6 rfl) ?_
      refine lv_iconst (v := (2 : Int32)) hx hb dL_law_560 (by decide) ?_
      refine lv_iadd hx hb dL_law_561 ?_
      obtain ⟨hin, h⟩ := h
      refine va_sld hx hb hX hbl hbA hS hin dL_law_562 ?_
      refine lv_aload_n hx hb dL_law_563 rfl (lv_at hl 1 rfl) ?_
      refine lv_iload hx hb dL_law_564 (lv_at hl 6 rfl) ?_
      refine lv_iconst (v := (3 : Int32)) hx hb dL_law_566 (by decide) ?_
      refine lv_iadd hx hb dL_law_567 ?_
      obtain ⟨hin, h⟩ := h
      refine va_sld hx hb hX hbl hbA hS hin dL_law_568 ?_
      refine lv_if_eq (tgt := 576) hx hb dL_law_569 (by decide) (fun cq => ?_) (fun cq => ?_)
      · have h := h.1 cq
        refine lv_iconst (v := (0 : Int32)) hx hb dL_law_576 (by decide) ?_
        exact L577 v5 r545 (0 : Int32) (xs (v5 + (2 : Int32)).toNatClampNeg) (xs (v5 + (1 : Int32)).toNatClampNeg) cX cY cN cM fX fY lX lY oP nE pX pY pD pO nP qF nQ mR mQ mN rF rS rVx rVy rMd rE rAx rAy rBx rBy rO rP rPx rPy rPd rQ rFi rLa rOn rLe rRi rHx rHy rHd rKx rKy rKd oL_545 oD _ _ _ _ _ (by omega) (by omega) h hP hD hS (lv_sub hl [1, 2, 3, 4, 5, 6, 0] rfl)
      · have h := h.2 cq
        refine lv_iconst (v := (1 : Int32)) hx hb dL_law_572 (by decide) ?_
        refine lv_goto (tgt := 577) hx hb dL_law_573 (by decide) ?_
        exact L577 v5 r545 (1 : Int32) (xs (v5 + (2 : Int32)).toNatClampNeg) (xs (v5 + (1 : Int32)).toNatClampNeg) cX cY cN cM fX fY lX lY oP nE pX pY pD pO nP qF nQ mR mQ mN rF rS rVx rVy rMd rE rAx rAy rBx rBy rO rP rPx rPy rPd rQ rFi rLa rOn rLe rRi rHx rHy rHd rKx rKy rKd oL_545 oD _ _ _ _ _ (by omega) (by omega) h hP hD hS (lv_sub hl [1, 2, 3, 4, 5, 6, 0] rfl)
    have L666 : ∀ (v5 : Int32) (cX : Nat → Nat → Int32) (cY : Nat → Nat → Int32) (cN : Nat → Int32) (cM : Int32) (fX : Nat → Int32) (fY : Nat → Int32) (lX : Nat → Int32) (lY : Nat → Int32) (oP : Nat → Int32) (nE : Int32) (pX : Nat → Int32) (pY : Nat → Int32) (pD : Nat → Int32) (pO : Nat → Int32) (nP : Int32) (qF : Nat → Nat → Int32) (nQ : Int32) (mR : Nat → Int32) (mQ : Int32) (mN : Int32) (rF : Int32) (rS : Nat → Int32) (rVx : Nat → Int32) (rVy : Nat → Int32) (rMd : Int32) (rE : Int32) (rAx : Nat → Int32) (rAy : Nat → Int32) (rBx : Nat → Int32) (rBy : Nat → Int32) (rO : Nat → Int32) (rP : Int32) (rPx : Nat → Int32) (rPy : Nat → Int32) (rPd : Nat → Int32) (rQ : Int32) (rFi : Nat → Int32) (rLa : Nat → Int32) (rOn : Nat → Int32) (rLe : Nat → Int32) (rRi : Nat → Int32) (rHx : Int64) (rHy : Int64) (rHd : Int64) (rKx : Int64) (rKy : Int64) (rKd : Int64) (oL : Nat → Int64) (oD : Nat → UInt64) (cl sl : Nat) (H : Heap) (locs : List Loc) (ls : Array Slot), cl + 4 * n28 ≤ 601024 → sl + 24 * n28 ≤ 7293034 → wp_L_law_L666 L xs  (wp_L_law_L28 L xs  (fun cX cY cN cM fX fY lX lY oP nE pX pY pD pO nP qF nQ mR mQ mN rF rS rVx rVy rMd rE rAx rAy rBx rBy rO rP rPx rPy rPd rQ rFi rLa rOn rLe rRi rHx rHy rHd rKx rKy rKd oL oD => (wp_L_law_L901 L xs   cX cY cN cM fX fY lX lY oP nE pX pY pD pO nP qF nQ mR mQ mN rF rS rVx rVy rMd rE rAx rAy rBx rBy rO rP rPx rPy rPd rQ rFi rLa rOn rLe rRi rHx rHy rHd rKx rKy rKd oL oD)) n28) v5 cX cY cN cM fX fY lX lY oP nE pX pY pD pO nP qF nQ mR mQ mN rF rS rVx rVy rMd rE rAx rAy rBx rBy rO rP rPx rPy rPd rQ rFi rLa rOn rLe rRi rHx rHy rHd rKx rKy rKd oL oD → va_P D vwCl (wC k aC aE aP aQ aM cX cY cN cM ++ wE k aE fX fY lX lY oP nE ++ wP k aP pX pY pD pO nP ++ wQ k aQ qF nQ ++ wM k aM mR mQ mN ++ wR k aR rF rS rVx rVy rMd rE rAx rAy rBx rBy rO rP rPx rPy rPd rQ rFi rLa rOn rLe rRi rHx rHy rHd rKx rKy rKd ++ wO k aO oL oD) H → va_D A (wC k aC aE aP aQ aM cX cY cN cM ++ wE k aE fX fY lX lY oP nE ++ wP k aP pX pY pD pO nP ++ wQ k aQ qF nQ ++ wM k aM mR mQ mN ++ wR k aR rF rS rVx rVy rMd rE rAx rAy rBx rBy rO rP rPx rPy rPd rQ rFi rLa rOn rLe rRi rHx rHy rHd rKx rKy rKd ++ wO k aO oL oD) → va_S A s.heap H locs → lv_has ls 9 [(0, .ref b), (1, .ref (aC 0)), (2, .ref (aR 0)), (3, .ref (aO 0)), (4, .ref (aO 1)), (5, .int v5)] → W p l e room_1 s m #[Value.ref b] below meth c H locs cl sl (lw_Z below #[Value.ref b] s) (F0 m 666 ls []) := by
      intro v5 cX cY cN cM fX fY lX lY oP nE pX pY pD pO nP qF nQ mR mQ mN rF rS rVx rVy rMd rE rAx rAy rBx rBy rO rP rPx rPy rPd rQ rFi rLa rOn rLe rRi rHx rHy rHd rKx rKy rKd oL oD cl sl H locs ls hcl hsl h hP hD hS hl
      unfold wp_L_law_L666 at h
      refine lv_goto (tgt := 906) hx hb dL_law_666 (by decide) ?_
      exact L906 v5 cX cY cN cM fX fY lX lY oP nE pX pY pD pO nP qF nQ mR mQ mN rF rS rVx rVy rMd rE rAx rAy rBx rBy rO rP rPx rPy rPd rQ rFi rLa rOn rLe rRi rHx rHy rHd rKx rKy rKd oL oD _ _ _ _ _ (by omega) (by omega) h hP hD hS (lv_sub hl [0, 1, 2, 3, 4, 5] rfl)
    have L734 : ∀ (v5 : Int32) (cX : Nat → Nat → Int32) (cY : Nat → Nat → Int32) (cN : Nat → Int32) (cM : Int32) (fX : Nat → Int32) (fY : Nat → Int32) (lX : Nat → Int32) (lY : Nat → Int32) (oP : Nat → Int32) (nE : Int32) (pX : Nat → Int32) (pY : Nat → Int32) (pD : Nat → Int32) (pO : Nat → Int32) (nP : Int32) (qF : Nat → Nat → Int32) (nQ : Int32) (mR : Nat → Int32) (mQ : Int32) (mN : Int32) (rF : Int32) (rS : Nat → Int32) (rVx : Nat → Int32) (rVy : Nat → Int32) (rMd : Int32) (rE : Int32) (rAx : Nat → Int32) (rAy : Nat → Int32) (rBx : Nat → Int32) (rBy : Nat → Int32) (rO : Nat → Int32) (rP : Int32) (rPx : Nat → Int32) (rPy : Nat → Int32) (rPd : Nat → Int32) (rQ : Int32) (rFi : Nat → Int32) (rLa : Nat → Int32) (rOn : Nat → Int32) (rLe : Nat → Int32) (rRi : Nat → Int32) (rHx : Int64) (rHy : Int64) (rHd : Int64) (rKx : Int64) (rKy : Int64) (rKd : Int64) (oL : Nat → Int64) (oD : Nat → UInt64) (cl sl : Nat) (H : Heap) (locs : List Loc) (ls : Array Slot), cl + 4 * n28 ≤ 601024 → sl + 24 * n28 ≤ 7293034 → wp_L_law_L734 L xs  (wp_L_law_L28 L xs  (fun cX cY cN cM fX fY lX lY oP nE pX pY pD pO nP qF nQ mR mQ mN rF rS rVx rVy rMd rE rAx rAy rBx rBy rO rP rPx rPy rPd rQ rFi rLa rOn rLe rRi rHx rHy rHd rKx rKy rKd oL oD => (wp_L_law_L901 L xs   cX cY cN cM fX fY lX lY oP nE pX pY pD pO nP qF nQ mR mQ mN rF rS rVx rVy rMd rE rAx rAy rBx rBy rO rP rPx rPy rPd rQ rFi rLa rOn rLe rRi rHx rHy rHd rKx rKy rKd oL oD)) n28) v5 cX cY cN cM fX fY lX lY oP nE pX pY pD pO nP qF nQ mR mQ mN rF rS rVx rVy rMd rE rAx rAy rBx rBy rO rP rPx rPy rPd rQ rFi rLa rOn rLe rRi rHx rHy rHd rKx rKy rKd oL oD → va_P D vwCl (wC k aC aE aP aQ aM cX cY cN cM ++ wE k aE fX fY lX lY oP nE ++ wP k aP pX pY pD pO nP ++ wQ k aQ qF nQ ++ wM k aM mR mQ mN ++ wR k aR rF rS rVx rVy rMd rE rAx rAy rBx rBy rO rP rPx rPy rPd rQ rFi rLa rOn rLe rRi rHx rHy rHd rKx rKy rKd ++ wO k aO oL oD) H → va_D A (wC k aC aE aP aQ aM cX cY cN cM ++ wE k aE fX fY lX lY oP nE ++ wP k aP pX pY pD pO nP ++ wQ k aQ qF nQ ++ wM k aM mR mQ mN ++ wR k aR rF rS rVx rVy rMd rE rAx rAy rBx rBy rO rP rPx rPy rPd rQ rFi rLa rOn rLe rRi rHx rHy rHd rKx rKy rKd ++ wO k aO oL oD) → va_S A s.heap H locs → lv_has ls 9 [(0, .ref b), (1, .ref (aC 0)), (2, .ref (aR 0)), (3, .ref (aO 0)), (4, .ref (aO 1)), (5, .int v5)] → W p l e room_1 s m #[Value.ref b] below meth c H locs cl sl (lw_Z below #[Value.ref b] s) (F0 m 734 ls []) := by
      intro v5 cX cY cN cM fX fY lX lY oP nE pX pY pD pO nP qF nQ mR mQ mN rF rS rVx rVy rMd rE rAx rAy rBx rBy rO rP rPx rPy rPd rQ rFi rLa rOn rLe rRi rHx rHy rHd rKx rKy rKd oL oD cl sl H locs ls hcl hsl h hP hD hS hl
      unfold wp_L_law_L734 at h
      refine lv_goto (tgt := 906) hx hb dL_law_734 (by decide) ?_
      exact L906 v5 cX cY cN cM fX fY lX lY oP nE pX pY pD pO nP qF nQ mR mQ mN rF rS rVx rVy rMd rE rAx rAy rBx rBy rO rP rPx rPy rPd rQ rFi rLa rOn rLe rRi rHx rHy rHd rKx rKy rKd oL oD _ _ _ _ _ (by omega) (by omega) h hP hD hS (lv_sub hl [0, 1, 2, 3, 4, 5] rfl)
    have L826 : ∀ (v5 : Int32) (cX : Nat → Nat → Int32) (cY : Nat → Nat → Int32) (cN : Nat → Int32) (cM : Int32) (fX : Nat → Int32) (fY : Nat → Int32) (lX : Nat → Int32) (lY : Nat → Int32) (oP : Nat → Int32) (nE : Int32) (pX : Nat → Int32) (pY : Nat → Int32) (pD : Nat → Int32) (pO : Nat → Int32) (nP : Int32) (qF : Nat → Nat → Int32) (nQ : Int32) (mR : Nat → Int32) (mQ : Int32) (mN : Int32) (rF : Int32) (rS : Nat → Int32) (rVx : Nat → Int32) (rVy : Nat → Int32) (rMd : Int32) (rE : Int32) (rAx : Nat → Int32) (rAy : Nat → Int32) (rBx : Nat → Int32) (rBy : Nat → Int32) (rO : Nat → Int32) (rP : Int32) (rPx : Nat → Int32) (rPy : Nat → Int32) (rPd : Nat → Int32) (rQ : Int32) (rFi : Nat → Int32) (rLa : Nat → Int32) (rOn : Nat → Int32) (rLe : Nat → Int32) (rRi : Nat → Int32) (rHx : Int64) (rHy : Int64) (rHd : Int64) (rKx : Int64) (rKy : Int64) (rKd : Int64) (oL : Nat → Int64) (oD : Nat → UInt64) (cl sl : Nat) (H : Heap) (locs : List Loc) (ls : Array Slot), cl + 4 * n28 ≤ 601024 → sl + 24 * n28 ≤ 7293034 → wp_L_law_L826 L xs  (wp_L_law_L28 L xs  (fun cX cY cN cM fX fY lX lY oP nE pX pY pD pO nP qF nQ mR mQ mN rF rS rVx rVy rMd rE rAx rAy rBx rBy rO rP rPx rPy rPd rQ rFi rLa rOn rLe rRi rHx rHy rHd rKx rKy rKd oL oD => (wp_L_law_L901 L xs   cX cY cN cM fX fY lX lY oP nE pX pY pD pO nP qF nQ mR mQ mN rF rS rVx rVy rMd rE rAx rAy rBx rBy rO rP rPx rPy rPd rQ rFi rLa rOn rLe rRi rHx rHy rHd rKx rKy rKd oL oD)) n28) v5 cX cY cN cM fX fY lX lY oP nE pX pY pD pO nP qF nQ mR mQ mN rF rS rVx rVy rMd rE rAx rAy rBx rBy rO rP rPx rPy rPd rQ rFi rLa rOn rLe rRi rHx rHy rHd rKx rKy rKd oL oD → va_P D vwCl (wC k aC aE aP aQ aM cX cY cN cM ++ wE k aE fX fY lX lY oP nE ++ wP k aP pX pY pD pO nP ++ wQ k aQ qF nQ ++ wM k aM mR mQ mN ++ wR k aR rF rS rVx rVy rMd rE rAx rAy rBx rBy rO rP rPx rPy rPd rQ rFi rLa rOn rLe rRi rHx rHy rHd rKx rKy rKd ++ wO k aO oL oD) H → va_D A (wC k aC aE aP aQ aM cX cY cN cM ++ wE k aE fX fY lX lY oP nE ++ wP k aP pX pY pD pO nP ++ wQ k aQ qF nQ ++ wM k aM mR mQ mN ++ wR k aR rF rS rVx rVy rMd rE rAx rAy rBx rBy rO rP rPx rPy rPd rQ rFi rLa rOn rLe rRi rHx rHy rHd rKx rKy rKd ++ wO k aO oL oD) → va_S A s.heap H locs → lv_has ls 9 [(0, .ref b), (1, .ref (aC 0)), (2, .ref (aR 0)), (3, .ref (aO 0)), (4, .ref (aO 1)), (5, .int v5)] → W p l e room_1 s m #[Value.ref b] below meth c H locs cl sl (lw_Z below #[Value.ref b] s) (F0 m 826 ls []) := by
      intro v5 cX cY cN cM fX fY lX lY oP nE pX pY pD pO nP qF nQ mR mQ mN rF rS rVx rVy rMd rE rAx rAy rBx rBy rO rP rPx rPy rPd rQ rFi rLa rOn rLe rRi rHx rHy rHd rKx rKy rKd oL oD cl sl H locs ls hcl hsl h hP hD hS hl
      unfold wp_L_law_L826 at h
      refine lv_goto (tgt := 906) hx hb dL_law_826 (by decide) ?_
      exact L906 v5 cX cY cN cM fX fY lX lY oP nE pX pY pD pO nP qF nQ mR mQ mN rF rS rVx rVy rMd rE rAx rAy rBx rBy rO rP rPx rPy rPd rQ rFi rLa rOn rLe rRi rHx rHy rHd rKx rKy rKd oL oD _ _ _ _ _ (by omega) (by omega) h hP hD hS (lv_sub hl [0, 1, 2, 3, 4, 5] rfl)
    have L903 : ∀ (v5 : Int32) (cX : Nat → Nat → Int32) (cY : Nat → Nat → Int32) (cN : Nat → Int32) (cM : Int32) (fX : Nat → Int32) (fY : Nat → Int32) (lX : Nat → Int32) (lY : Nat → Int32) (oP : Nat → Int32) (nE : Int32) (pX : Nat → Int32) (pY : Nat → Int32) (pD : Nat → Int32) (pO : Nat → Int32) (nP : Int32) (qF : Nat → Nat → Int32) (nQ : Int32) (mR : Nat → Int32) (mQ : Int32) (mN : Int32) (rF : Int32) (rS : Nat → Int32) (rVx : Nat → Int32) (rVy : Nat → Int32) (rMd : Int32) (rE : Int32) (rAx : Nat → Int32) (rAy : Nat → Int32) (rBx : Nat → Int32) (rBy : Nat → Int32) (rO : Nat → Int32) (rP : Int32) (rPx : Nat → Int32) (rPy : Nat → Int32) (rPd : Nat → Int32) (rQ : Int32) (rFi : Nat → Int32) (rLa : Nat → Int32) (rOn : Nat → Int32) (rLe : Nat → Int32) (rRi : Nat → Int32) (rHx : Int64) (rHy : Int64) (rHd : Int64) (rKx : Int64) (rKy : Int64) (rKd : Int64) (oL : Nat → Int64) (oD : Nat → UInt64) (cl sl : Nat) (H : Heap) (locs : List Loc) (ls : Array Slot), cl + 4 * n28 ≤ 601024 → sl + 24 * n28 ≤ 7293034 → wp_L_law_L903 L xs  (wp_L_law_L28 L xs  (fun cX cY cN cM fX fY lX lY oP nE pX pY pD pO nP qF nQ mR mQ mN rF rS rVx rVy rMd rE rAx rAy rBx rBy rO rP rPx rPy rPd rQ rFi rLa rOn rLe rRi rHx rHy rHd rKx rKy rKd oL oD => (wp_L_law_L901 L xs   cX cY cN cM fX fY lX lY oP nE pX pY pD pO nP qF nQ mR mQ mN rF rS rVx rVy rMd rE rAx rAy rBx rBy rO rP rPx rPy rPd rQ rFi rLa rOn rLe rRi rHx rHy rHd rKx rKy rKd oL oD)) n28) v5 cX cY cN cM fX fY lX lY oP nE pX pY pD pO nP qF nQ mR mQ mN rF rS rVx rVy rMd rE rAx rAy rBx rBy rO rP rPx rPy rPd rQ rFi rLa rOn rLe rRi rHx rHy rHd rKx rKy rKd oL oD → va_P D vwCl (wC k aC aE aP aQ aM cX cY cN cM ++ wE k aE fX fY lX lY oP nE ++ wP k aP pX pY pD pO nP ++ wQ k aQ qF nQ ++ wM k aM mR mQ mN ++ wR k aR rF rS rVx rVy rMd rE rAx rAy rBx rBy rO rP rPx rPy rPd rQ rFi rLa rOn rLe rRi rHx rHy rHd rKx rKy rKd ++ wO k aO oL oD) H → va_D A (wC k aC aE aP aQ aM cX cY cN cM ++ wE k aE fX fY lX lY oP nE ++ wP k aP pX pY pD pO nP ++ wQ k aQ qF nQ ++ wM k aM mR mQ mN ++ wR k aR rF rS rVx rVy rMd rE rAx rAy rBx rBy rO rP rPx rPy rPd rQ rFi rLa rOn rLe rRi rHx rHy rHd rKx rKy rKd ++ wO k aO oL oD) → va_S A s.heap H locs → lv_has ls 9 [(0, .ref b), (1, .ref (aC 0)), (2, .ref (aR 0)), (3, .ref (aO 0)), (4, .ref (aO 1)), (5, .int v5)] → W p l e room_1 s m #[Value.ref b] below meth c H locs cl sl (lw_Z below #[Value.ref b] s) (F0 m 903 ls []) := by
      intro v5 cX cY cN cM fX fY lX lY oP nE pX pY pD pO nP qF nQ mR mQ mN rF rS rVx rVy rMd rE rAx rAy rBx rBy rO rP rPx rPy rPd rQ rFi rLa rOn rLe rRi rHx rHy rHd rKx rKy rKd oL oD cl sl H locs ls hcl hsl h hP hD hS hl
      unfold wp_L_law_L903 at h
      refine lv_goto (tgt := 906) hx hb dL_law_903 (by decide) ?_
      exact L906 v5 cX cY cN cM fX fY lX lY oP nE pX pY pD pO nP qF nQ mR mQ mN rF rS rVx rVy rMd rE rAx rAy rBx rBy rO rP rPx rPy rPd rQ rFi rLa rOn rLe rRi rHx rHy rHd rKx rKy rKd oL oD _ _ _ _ _ (by omega) (by omega) h hP hD hS (lv_sub hl [0, 1, 2, 3, 4, 5] rfl)
    intro v5 cX cY cN cM fX fY lX lY oP nE pX pY pD pO nP qF nQ mR mQ mN rF rS rVx rVy rMd rE rAx rAy rBx rBy rO rP rPx rPy rPd rQ rFi rLa rOn rLe rRi rHx rHy rHd rKx rKy rKd oL oD cl sl H locs ls hcl hsl h hP hD hS hl
    rw [wp_L_law_L28] at h
    refine lv_iload hx hb dL_law_28 (lv_at hl 5 rfl) ?_
    refine lv_aload_n hx hb dL_law_30 rfl (lv_at hl 0 rfl) ?_
    refine va_slen hx hb hX hbl hbA hS dL_law_31 ?_
    refine lv_iconst (v := (5 : Int32)) hx hb dL_law_32 (by decide) ?_
    refine lv_isub hx hb dL_law_33 ?_
    refine lv_icmp_gt (tgt := 912) hx hb dL_law_34 (by decide) (fun cq => ?_) (fun cq => ?_)
    · have h := h.1 cq
      refine lv_iconst (v := (1 : Int32)) hx hb dL_law_912 (by decide) ?_
      rw [h]
      refine va_forget (fun q hq => hf9 _ (hS.2.2 q hq)) ?_
      refine W.widen (k := 601024) (n := 7293034) (by omega) (by omega) ?_
      exact lw_ret hx hb hr hlocks dL_law_913
    · have h := h.2 cq
      refine lv_aload_n hx hb dL_law_37 rfl (lv_at hl 0 rfl) ?_
      refine lv_iload hx hb dL_law_38 (lv_at hl 5 rfl) ?_
      obtain ⟨hin, h⟩ := h
      refine va_sld hx hb hX hbl hbA hS hin dL_law_40 ?_
      refine lv_bipush (v := (15 : Int32)) hx hb dL_law_41 (by decide) ?_
      refine lv_iand hx hb dL_law_43 ?_
      refine lv_topi (fun x44 ex44 => ?_)
      have h := h x44 ex44
      by_cases c0 : x44 = 0
      · have h := h.1 c0
        refine lv_tableIn (tgt := 108) hx hb dL_law_44 (by rw [c0]; decide) (by rw [c0]; decide) (by rw [c0]; rfl) (by decide) ?_
        refine lv_aload_n hx hb dL_law_108 rfl (lv_at hl 1 rfl) ?_
        refine lv_aload_n hx hb dL_law_109 rfl (lv_at hl 0 rfl) ?_
        refine lv_iload hx hb dL_law_110 (lv_at hl 5 rfl) ?_
        refine lv_iconst (v := (1 : Int32)) hx hb dL_law_112 (by decide) ?_
        refine lv_iadd hx hb dL_law_113 ?_
        obtain ⟨hin, h⟩ := h
        refine va_sld hx hb hX hbl hbA hS hin dL_law_114 ?_
        refine lv_aload_n hx hb dL_law_115 rfl (lv_at hl 0 rfl) ?_
        refine lv_iload hx hb dL_law_116 (lv_at hl 5 rfl) ?_
        refine lv_iconst (v := (2 : Int32)) hx hb dL_law_118 (by decide) ?_
        refine lv_iadd hx hb dL_law_119 ?_
        obtain ⟨hin, h⟩ := h
        refine va_sld hx hb hX hbl hbA hS hin dL_law_120 ?_
        refine lv_aload_n hx hb dL_law_121 rfl (lv_at hl 0 rfl) ?_
        refine lv_iload hx hb dL_law_122 (lv_at hl 5 rfl) ?_
        refine lv_iconst (v := (3 : Int32)) hx hb dL_law_124 (by decide) ?_
        refine lv_iadd hx hb dL_law_125 ?_
        obtain ⟨hin, h⟩ := h
        refine va_sld hx hb hX hbl hbA hS hin dL_law_126 ?_
        refine lv_aload_n hx hb dL_law_127 rfl (lv_at hl 3 rfl) ?_
        have hPc := hP.sub (ws' := wC k aC aE aP aQ aM cX cY cN cM ++ wE k aE fX fY lX lY oP nE ++ wP k aP pX pY pD pO nP ++ wQ k aQ qF nQ ++ wM k aM mR mQ mN ++ wO k aO oL oD) [0, 1, 2, 3, 4, 5, 6, 7, 8, 9, 10, 11, 12, 13, 14, 15, 16, 17, 18, 19, 20, 21, 22, 23, 24, 25, 26, 27, 28, 29, 30, 48, 49] rfl
        have hDc := hD.sub (ws' := wC k aC aE aP aQ aM cX cY cN cM ++ wE k aE fX fY lX lY oP nE ++ wP k aP pX pY pD pO nP ++ wQ k aQ qF nQ ++ wM k aM mR mQ mN ++ wO k aO oL oD) [0, 1, 2, 3, 4, 5, 6, 7, 8, 9, 10, 11, 12, 13, 14, 15, 16, 17, 18, 19, 20, 21, 22, 23, 24, 25, 26, 27, 28, 29, 30, 48, 49] (by decide) rfl
        have hFc := va_free (wc := wC k aC aE aP aQ aM cX cY cN cM ++ wE k aE fX fY lX lY oP nE ++ wP k aP pX pY pD pO nP ++ wQ k aQ qF nQ ++ wM k aM mR mQ mN ++ wO k aO oL oD) hD hS hA [0, 1, 2, 3, 4, 5, 6, 7, 8, 9, 10, 11, 12, 13, 14, 15, 16, 17, 18, 19, 20, 21, 22, 23, 24, 25, 26, 27, 28, 29, 30, 48, 49] rfl
        refine va_calli (vx_runSW (As := [.ref (aC 0), .int (xs (v5 + (1 : Int32)).toNatClampNeg), .int (xs (v5 + (2 : Int32)).toNatClampNeg), .int (xs (v5 + (3 : Int32)).toNatClampNeg), .ref (aO 0)]) (rest := []) ⟨hx, hb, hml, hown, hts⟩ (m_L_vertex l D k aC aE aP aQ aM aO cX cY cN cM fX fY lX lY oP nE pX pY pD pO nP qF nQ mR mQ mN oL oD (xs (v5 + (1 : Int32)).toNatClampNeg) (xs (v5 + (2 : Int32)).toNatClampNeg) (xs (v5 + (3 : Int32)).toNatClampNeg) _ _ hlt h) (vx_cwSW 5 hts gL_law_L_vertex rfl rfl rfl (by decide +kernel) ⟨Nat.le_of_ble_eq_true rfl, Nat.le_of_ble_eq_true rfl⟩) (preS_th hE hT hS hFc hPc hDc) rfl rfl hl.1 rfl (lv_room (Nat.le_of_ble_eq_true rfl)) dL_law_128 ⟨by change _ ≤ 601024; omega, by change _ ≤ 7293034; omega⟩) hS (fun q _ h => hFc q h) hFc (fun r128 u t H1 locs ht hvm h hB hz1 hk1 hS => ?_)
        obtain ⟨cX_128, cY_128, cN_128, oL_128⟩ := u
        obtain ⟨hP1, hD1⟩ := hB
        rw [ht] at hP1
        obtain ⟨hP, hD⟩ := va_join (wr := wR k aR rF rS rVx rVy rMd rE rAx rAy rBx rBy rO rP rPx rPy rPd rQ rFi rLa rOn rLe rRi rHx rHy rHd rKx rKy rKd) (w1 := wC k aC aE aP aQ aM cX_128 cY_128 cN_128 cM ++ wE k aE fX fY lX lY oP nE ++ wP k aP pX pY pD pO nP ++ wQ k aQ qF nQ ++ wM k aM mR mQ mN ++ wO k aO oL_128 oD) hP hD [0, 1, 2, 3, 4, 5, 6, 7, 8, 9, 10, 11, 12, 13, 14, 15, 16, 17, 18, 19, 20, 21, 22, 23, 24, 25, 26, 27, 28, 29, 30, 48, 49] [31, 32, 33, 34, 35, 36, 37, 38, 39, 40, 41, 42, 43, 44, 45, 46, 47] rfl rfl (by decide) (by decide) hk1 hFc hP1 hD1
        generalize H1 = H at hP hS ⊢
        have hP : va_P D vwCl (wC k aC aE aP aQ aM cX_128 cY_128 cN_128 cM ++ wE k aE fX fY lX lY oP nE ++ wP k aP pX pY pD pO nP ++ wQ k aQ qF nQ ++ wM k aM mR mQ mN ++ wR k aR rF rS rVx rVy rMd rE rAx rAy rBx rBy rO rP rPx rPy rPd rQ rFi rLa rOn rLe rRi rHx rHy rHd rKx rKy rKd ++ wO k aO oL_128 oD) H := hP.sub [17, 18, 19, 20, 21, 22, 23, 24, 25, 26, 27, 28, 29, 30, 31, 32, 33, 34, 35, 36, 37, 38, 39, 40, 41, 42, 43, 44, 45, 46, 47, 0, 1, 2, 3, 4, 5, 6, 7, 8, 9, 10, 11, 12, 13, 14, 15, 16, 48, 49] rfl
        have hD : va_D A (wC k aC aE aP aQ aM cX_128 cY_128 cN_128 cM ++ wE k aE fX fY lX lY oP nE ++ wP k aP pX pY pD pO nP ++ wQ k aQ qF nQ ++ wM k aM mR mQ mN ++ wR k aR rF rS rVx rVy rMd rE rAx rAy rBx rBy rO rP rPx rPy rPd rQ rFi rLa rOn rLe rRi rHx rHy rHd rKx rKy rKd ++ wO k aO oL_128 oD) := hD.sub [17, 18, 19, 20, 21, 22, 23, 24, 25, 26, 27, 28, 29, 30, 31, 32, 33, 34, 35, 36, 37, 38, 39, 40, 41, 42, 43, 44, 45, 46, 47, 0, 1, 2, 3, 4, 5, 6, 7, 8, 9, 10, 11, 12, 13, 14, 15, 16, 48, 49] (by decide) rfl
        refine lv_istore (lv' := [(6, .int r128), (0, .ref b), (1, .ref (aC 0)), (2, .ref (aR 0)), (3, .ref (aO 0)), (4, .ref (aO 1)), (5, .int v5)]) hx hb dL_law_131 hl (by decide) rfl (fun ls hl => ?_)
        refine lv_aload_n hx hb dL_law_133 rfl (lv_at hl 3 rfl) ?_
        refine lv_aload_n hx hb dL_law_134 rfl (lv_at hl 1 rfl) ?_
        refine lv_iload hx hb dL_law_135 (lv_at hl 6 rfl) ?_
        refine lv_iconst (v := (1 : Int32)) hx hb dL_law_137 (by decide) ?_
        refine lv_iadd hx hb dL_law_138 ?_
        obtain ⟨hin, h⟩ := h
        refine va_sld hx hb hX hbl hbA hS hin dL_law_139 ?_
        refine lv_aload_n hx hb dL_law_140 rfl (lv_at hl 1 rfl) ?_
        refine lv_iload hx hb dL_law_141 (lv_at hl 6 rfl) ?_
        refine lv_iconst (v := (2 : Int32)) hx hb dL_law_143 (by decide) ?_
        refine lv_iadd hx hb dL_law_144 ?_
        obtain ⟨hin, h⟩ := h
        refine va_sld hx hb hX hbl hbA hS hin dL_law_145 ?_
        refine lv_aload_n hx hb dL_law_146 rfl (lv_at hl 1 rfl) ?_
        refine lv_iload hx hb dL_law_147 (lv_at hl 6 rfl) ?_
        refine lv_iconst (v := (3 : Int32)) hx hb dL_law_149 (by decide) ?_
        refine lv_iadd hx hb dL_law_150 ?_
        obtain ⟨hin, h⟩ := h
        refine va_sld hx hb hX hbl hbA hS hin dL_law_151 ?_
        have hPc := hP.sub (ws' := wR k aR rF rS rVx rVy rMd rE rAx rAy rBx rBy rO rP rPx rPy rPd rQ rFi rLa rOn rLe rRi rHx rHy rHd rKx rKy rKd) [31, 32, 33, 34, 35, 36, 37, 38, 39, 40, 41, 42, 43, 44, 45, 46, 47] rfl
        have hDc := hD.sub (ws' := wR k aR rF rS rVx rVy rMd rE rAx rAy rBx rBy rO rP rPx rPy rPd rQ rFi rLa rOn rLe rRi rHx rHy rHd rKx rKy rKd) [31, 32, 33, 34, 35, 36, 37, 38, 39, 40, 41, 42, 43, 44, 45, 46, 47] (by decide) rfl
        have hFc := va_free (wc := wR k aR rF rS rVx rVy rMd rE rAx rAy rBx rBy rO rP rPx rPy rPd rQ rFi rLa rOn rLe rRi rHx rHy rHd rKx rKy rKd) hD hS hA [31, 32, 33, 34, 35, 36, 37, 38, 39, 40, 41, 42, 43, 44, 45, 46, 47] rfl
        refine va_calli (va_runV (C := RX5) (b := (aR 0)) (As := [.int (xs (v5 + (1 : Int32)).toNatClampNeg), .int (xs (v5 + (2 : Int32)).toNatClampNeg), .int (xs (v5 + (3 : Int32)).toNatClampNeg)]) (rest := []) ⟨hx, hb, hml, hown, hts⟩ (m_X5_vertex l D k aR rF rS rVx rVy rMd rE rAx rAy rBx rBy rO rP rPx rPy rPd rQ rFi rLa rOn rLe rRi rHx rHy rHd rKx rKy rKd (xs (v5 + (1 : Int32)).toNatClampNeg) (xs (v5 + (2 : Int32)).toNatClampNeg) (xs (v5 + (3 : Int32)).toNatClampNeg) _ _ h) (cwV 3 hts gL_law_X5_vertex rfl rfl rfl (by decide +kernel) ⟨Nat.le_of_ble_eq_true rfl, Nat.le_of_ble_eq_true rfl⟩) (preV_rw (ci := 5) (q0 := 0) (C := RX5) (T := TX5) (N := 27) hE hPc hDc rfl rfl) rfl rfl hl.1 rfl (lv_room (Nat.le_of_ble_eq_true rfl)) dL_law_152 ⟨by change _ ≤ 601024; omega, by change _ ≤ 7293034; omega⟩) hS (fun q _ h => hFc q h) hFc (fun r152 u t H1 locs ht hvm h hB hz1 hk1 hS => ?_)
        obtain ⟨rF_152, rS_152, rVx_152, rVy_152⟩ := u
        obtain ⟨hP1, hD1⟩ := hB
        rw [ht] at hP1
        obtain ⟨hP, hD⟩ := va_join (wr := wC k aC aE aP aQ aM cX_128 cY_128 cN_128 cM ++ wE k aE fX fY lX lY oP nE ++ wP k aP pX pY pD pO nP ++ wQ k aQ qF nQ ++ wM k aM mR mQ mN ++ wO k aO oL_128 oD) (w1 := wR k aR rF_152 rS_152 rVx_152 rVy_152 rMd rE rAx rAy rBx rBy rO rP rPx rPy rPd rQ rFi rLa rOn rLe rRi rHx rHy rHd rKx rKy rKd) hP hD [31, 32, 33, 34, 35, 36, 37, 38, 39, 40, 41, 42, 43, 44, 45, 46, 47] [0, 1, 2, 3, 4, 5, 6, 7, 8, 9, 10, 11, 12, 13, 14, 15, 16, 17, 18, 19, 20, 21, 22, 23, 24, 25, 26, 27, 28, 29, 30, 48, 49] rfl rfl (by decide) (by decide) hk1 hFc hP1 hD1
        generalize H1 = H at hP hS ⊢
        have hP : va_P D vwCl (wC k aC aE aP aQ aM cX_128 cY_128 cN_128 cM ++ wE k aE fX fY lX lY oP nE ++ wP k aP pX pY pD pO nP ++ wQ k aQ qF nQ ++ wM k aM mR mQ mN ++ wR k aR rF_152 rS_152 rVx_152 rVy_152 rMd rE rAx rAy rBx rBy rO rP rPx rPy rPd rQ rFi rLa rOn rLe rRi rHx rHy rHd rKx rKy rKd ++ wO k aO oL_128 oD) H := hP.sub [0, 1, 2, 3, 4, 5, 6, 7, 8, 9, 10, 11, 12, 13, 14, 15, 16, 17, 18, 19, 20, 21, 22, 23, 24, 25, 26, 27, 28, 29, 30, 33, 34, 35, 36, 37, 38, 39, 40, 41, 42, 43, 44, 45, 46, 47, 48, 49, 31, 32] rfl
        have hD : va_D A (wC k aC aE aP aQ aM cX_128 cY_128 cN_128 cM ++ wE k aE fX fY lX lY oP nE ++ wP k aP pX pY pD pO nP ++ wQ k aQ qF nQ ++ wM k aM mR mQ mN ++ wR k aR rF_152 rS_152 rVx_152 rVy_152 rMd rE rAx rAy rBx rBy rO rP rPx rPy rPd rQ rFi rLa rOn rLe rRi rHx rHy rHd rKx rKy rKd ++ wO k aO oL_128 oD) := hD.sub [0, 1, 2, 3, 4, 5, 6, 7, 8, 9, 10, 11, 12, 13, 14, 15, 16, 17, 18, 19, 20, 21, 22, 23, 24, 25, 26, 27, 28, 29, 30, 33, 34, 35, 36, 37, 38, 39, 40, 41, 42, 43, 44, 45, 46, 47, 48, 49, 31, 32] (by decide) rfl
        refine lv_istore (lv' := [(7, .int r152), (6, .int r128), (0, .ref b), (1, .ref (aC 0)), (2, .ref (aR 0)), (3, .ref (aO 0)), (4, .ref (aO 1)), (5, .int v5)]) hx hb dL_law_155 hl (by decide) rfl (fun ls hl => ?_)
        refine lv_aload_n hx hb dL_law_157 rfl (lv_at hl 4 rfl) ?_
        have hPc := hP.sub (ws' := wR k aR rF_152 rS_152 rVx_152 rVy_152 rMd rE rAx rAy rBx rBy rO rP rPx rPy rPd rQ rFi rLa rOn rLe rRi rHx rHy rHd rKx rKy rKd) [31, 32, 33, 34, 35, 36, 37, 38, 39, 40, 41, 42, 43, 44, 45, 46, 47] rfl
        refine vp_callSi (W.runV (C := RX5) (b := (aR 0)) (As := []) (rest := []) ⟨hx, hb, hml, hown, hts⟩ (m_X5_thrown l D k aR rF_152 rS_152 rVx_152 rVy_152 rMd rE rAx rAy rBx rBy rO rP rPx rPy rPd rQ rFi rLa rOn rLe rRi rHx rHy rHd rKx rKy rKd  _ h) (cwV 0 hts gL_law_X5_thrown rfl rfl rfl (by decide +kernel) ⟨Nat.le_of_ble_eq_true rfl, Nat.le_of_ble_eq_true rfl⟩) (preV_ro (ci := 5) (q0 := 0) (C := RX5) (T := TX5) (N := 27) hE hPc rfl rfl) rfl rfl hl.1 rfl (lv_room (Nat.le_of_ble_eq_true rfl)) dL_law_158 ⟨by change _ ≤ 601024; omega, by change _ ≤ 7293034; omega⟩) (fun r158 h => ?_)
        refine lv_iload hx hb dL_law_161 (lv_at hl 1 rfl) ?_
        refine lv_icmp_eq (tgt := 168) hx hb dL_law_163 (by decide) (fun cq => ?_) (fun cq => ?_)
        · have h := h.1 cq
          refine lv_iload hx hb dL_law_168 (lv_at hl 1 rfl) ?_
          refine lv_if_ne (tgt := 185) hx hb dL_law_170 (by decide) (fun cq => ?_) (fun cq => ?_)
          · have h := h.1 cq
            exact L185 v5 cX_128 cY_128 cN_128 cM fX fY lX lY oP nE pX pY pD pO nP qF nQ mR mQ mN rF_152 rS_152 rVx_152 rVy_152 rMd rE rAx rAy rBx rBy rO rP rPx rPy rPd rQ rFi rLa rOn rLe rRi rHx rHy rHd rKx rKy rKd oL_128 oD _ _ _ _ _ (by omega) (by omega) h hP hD hS (lv_sub hl [2, 3, 4, 5, 6, 7] rfl)
          · have h := h.2 cq
            refine lv_aload_n hx hb dL_law_173 rfl (lv_at hl 5 rfl) ?_
            refine lv_iconst (v := (0 : Int32)) hx hb dL_law_174 (by decide) ?_
            obtain ⟨hin, h⟩ := h
            refine va_lald hx hb hK hP 48 2 rfl rfl hin dL_law_175 ?_
            refine lv_iload hx hb dL_law_176 (lv_at hl 0 rfl) ?_
            refine lv_i2l hx hb dL_law_178 rfl ?_
            refine W.lcmp hx hb dL_law_179 ?_
            refine lv_if_eq (tgt := 185) hx hb dL_law_180 (by decide) (fun cq => ?_) (fun cq => ?_)
            · have h := h.1 ((lg_cmp_eq _ _).mp cq)
              exact L185 v5 cX_128 cY_128 cN_128 cM fX fY lX lY oP nE pX pY pD pO nP qF nQ mR mQ mN rF_152 rS_152 rVx_152 rVy_152 rMd rE rAx rAy rBx rBy rO rP rPx rPy rPd rQ rFi rLa rOn rLe rRi rHx rHy rHd rKx rKy rKd oL_128 oD _ _ _ _ _ (by omega) (by omega) h hP hD hS (lv_sub hl [2, 3, 4, 5, 6, 7] rfl)
            · have h := h.2 (fun q => cq ((lg_cmp_eq _ _).mpr q))
              refine lv_iconst (v := (0 : Int32)) hx hb dL_law_183 (by decide) ?_
              rw [h]
              refine va_forget (fun q hq => hf9 _ (hS.2.2 q hq)) ?_
              refine W.widen (k := 601024) (n := 7293034) (by omega) (by omega) ?_
              exact lw_ret hx hb hr hlocks dL_law_184
        · have h := h.2 cq
          refine lv_iconst (v := (0 : Int32)) hx hb dL_law_166 (by decide) ?_
          rw [h]
          refine va_forget (fun q hq => hf9 _ (hS.2.2 q hq)) ?_
          refine W.widen (k := 601024) (n := 7293034) (by omega) (by omega) ?_
          exact lw_ret hx hb hr hlocks dL_law_167
      by_cases c1 : x44 = 1
      · have h := h.2.1 c1
        refine lv_tableIn (tgt := 188) hx hb dL_law_44 (by rw [c1]; decide) (by rw [c1]; decide) (by rw [c1]; rfl) (by decide) ?_
        refine lv_aload_n hx hb dL_law_188 rfl (lv_at hl 1 rfl) ?_
        refine lv_aload_n hx hb dL_law_189 rfl (lv_at hl 0 rfl) ?_
        refine lv_iload hx hb dL_law_190 (lv_at hl 5 rfl) ?_
        refine lv_iconst (v := (1 : Int32)) hx hb dL_law_192 (by decide) ?_
        refine lv_iadd hx hb dL_law_193 ?_
        obtain ⟨hin, h⟩ := h
        refine va_sld hx hb hX hbl hbA hS hin dL_law_194 ?_
        refine lv_aload_n hx hb dL_law_195 rfl (lv_at hl 3 rfl) ?_
        have hPc := hP.sub (ws' := wC k aC aE aP aQ aM cX cY cN cM ++ wE k aE fX fY lX lY oP nE ++ wP k aP pX pY pD pO nP ++ wQ k aQ qF nQ ++ wM k aM mR mQ mN ++ wO k aO oL oD) [0, 1, 2, 3, 4, 5, 6, 7, 8, 9, 10, 11, 12, 13, 14, 15, 16, 17, 18, 19, 20, 21, 22, 23, 24, 25, 26, 27, 28, 29, 30, 48, 49] rfl
        have hDc := hD.sub (ws' := wC k aC aE aP aQ aM cX cY cN cM ++ wE k aE fX fY lX lY oP nE ++ wP k aP pX pY pD pO nP ++ wQ k aQ qF nQ ++ wM k aM mR mQ mN ++ wO k aO oL oD) [0, 1, 2, 3, 4, 5, 6, 7, 8, 9, 10, 11, 12, 13, 14, 15, 16, 17, 18, 19, 20, 21, 22, 23, 24, 25, 26, 27, 28, 29, 30, 48, 49] (by decide) rfl
        have hFc := va_free (wc := wC k aC aE aP aQ aM cX cY cN cM ++ wE k aE fX fY lX lY oP nE ++ wP k aP pX pY pD pO nP ++ wQ k aQ qF nQ ++ wM k aM mR mQ mN ++ wO k aO oL oD) hD hS hA [0, 1, 2, 3, 4, 5, 6, 7, 8, 9, 10, 11, 12, 13, 14, 15, 16, 17, 18, 19, 20, 21, 22, 23, 24, 25, 26, 27, 28, 29, 30, 48, 49] rfl
        refine va_calli (vx_runSW (As := [.ref (aC 0), .int (xs (v5 + (1 : Int32)).toNatClampNeg), .ref (aO 0)]) (rest := []) ⟨hx, hb, hml, hown, hts⟩ (m_L_clear l D k aC aE aP aQ aM aO cX cY cN cM fX fY lX lY oP nE pX pY pD pO nP qF nQ mR mQ mN oL oD (xs (v5 + (1 : Int32)).toNatClampNeg) _ _ hlt h) (vx_cwSW 3 hts gL_law_L_clear rfl rfl rfl (by decide +kernel) ⟨Nat.le_of_ble_eq_true rfl, Nat.le_of_ble_eq_true rfl⟩) (preS_th hE hT hS hFc hPc hDc) rfl rfl hl.1 rfl (lv_room (Nat.le_of_ble_eq_true rfl)) dL_law_196 ⟨by change _ ≤ 601024; omega, by change _ ≤ 7293034; omega⟩) hS (fun q _ h => hFc q h) hFc (fun r196 u t H1 locs ht hvm h hB hz1 hk1 hS => ?_)
        obtain ⟨cN_196, oL_196⟩ := u
        obtain ⟨hP1, hD1⟩ := hB
        rw [ht] at hP1
        obtain ⟨hP, hD⟩ := va_join (wr := wR k aR rF rS rVx rVy rMd rE rAx rAy rBx rBy rO rP rPx rPy rPd rQ rFi rLa rOn rLe rRi rHx rHy rHd rKx rKy rKd) (w1 := wC k aC aE aP aQ aM cX cY cN_196 cM ++ wE k aE fX fY lX lY oP nE ++ wP k aP pX pY pD pO nP ++ wQ k aQ qF nQ ++ wM k aM mR mQ mN ++ wO k aO oL_196 oD) hP hD [0, 1, 2, 3, 4, 5, 6, 7, 8, 9, 10, 11, 12, 13, 14, 15, 16, 17, 18, 19, 20, 21, 22, 23, 24, 25, 26, 27, 28, 29, 30, 48, 49] [31, 32, 33, 34, 35, 36, 37, 38, 39, 40, 41, 42, 43, 44, 45, 46, 47] rfl rfl (by decide) (by decide) hk1 hFc hP1 hD1
        generalize H1 = H at hP hS ⊢
        have hP : va_P D vwCl (wC k aC aE aP aQ aM cX cY cN_196 cM ++ wE k aE fX fY lX lY oP nE ++ wP k aP pX pY pD pO nP ++ wQ k aQ qF nQ ++ wM k aM mR mQ mN ++ wR k aR rF rS rVx rVy rMd rE rAx rAy rBx rBy rO rP rPx rPy rPd rQ rFi rLa rOn rLe rRi rHx rHy rHd rKx rKy rKd ++ wO k aO oL_196 oD) H := hP.sub [17, 18, 19, 20, 21, 22, 23, 24, 25, 26, 27, 28, 29, 30, 31, 32, 33, 34, 35, 36, 37, 38, 39, 40, 41, 42, 43, 44, 45, 46, 47, 0, 1, 2, 3, 4, 5, 6, 7, 8, 9, 10, 11, 12, 13, 14, 15, 16, 48, 49] rfl
        have hD : va_D A (wC k aC aE aP aQ aM cX cY cN_196 cM ++ wE k aE fX fY lX lY oP nE ++ wP k aP pX pY pD pO nP ++ wQ k aQ qF nQ ++ wM k aM mR mQ mN ++ wR k aR rF rS rVx rVy rMd rE rAx rAy rBx rBy rO rP rPx rPy rPd rQ rFi rLa rOn rLe rRi rHx rHy rHd rKx rKy rKd ++ wO k aO oL_196 oD) := hD.sub [17, 18, 19, 20, 21, 22, 23, 24, 25, 26, 27, 28, 29, 30, 31, 32, 33, 34, 35, 36, 37, 38, 39, 40, 41, 42, 43, 44, 45, 46, 47, 0, 1, 2, 3, 4, 5, 6, 7, 8, 9, 10, 11, 12, 13, 14, 15, 16, 48, 49] (by decide) rfl
        refine lv_istore (lv' := [(6, .int r196), (0, .ref b), (1, .ref (aC 0)), (2, .ref (aR 0)), (3, .ref (aO 0)), (4, .ref (aO 1)), (5, .int v5)]) hx hb dL_law_199 hl (by decide) rfl (fun ls hl => ?_)
        refine lv_aload_n hx hb dL_law_201 rfl (lv_at hl 3 rfl) ?_
        refine lv_aload_n hx hb dL_law_202 rfl (lv_at hl 1 rfl) ?_
        refine lv_iload hx hb dL_law_203 (lv_at hl 6 rfl) ?_
        refine lv_iconst (v := (1 : Int32)) hx hb dL_law_205 (by decide) ?_
        refine lv_iadd hx hb dL_law_206 ?_
        obtain ⟨hin, h⟩ := h
        refine va_sld hx hb hX hbl hbA hS hin dL_law_207 ?_
        have hPc := hP.sub (ws' := wR k aR rF rS rVx rVy rMd rE rAx rAy rBx rBy rO rP rPx rPy rPd rQ rFi rLa rOn rLe rRi rHx rHy rHd rKx rKy rKd) [31, 32, 33, 34, 35, 36, 37, 38, 39, 40, 41, 42, 43, 44, 45, 46, 47] rfl
        have hDc := hD.sub (ws' := wR k aR rF rS rVx rVy rMd rE rAx rAy rBx rBy rO rP rPx rPy rPd rQ rFi rLa rOn rLe rRi rHx rHy rHd rKx rKy rKd) [31, 32, 33, 34, 35, 36, 37, 38, 39, 40, 41, 42, 43, 44, 45, 46, 47] (by decide) rfl
        have hFc := va_free (wc := wR k aR rF rS rVx rVy rMd rE rAx rAy rBx rBy rO rP rPx rPy rPd rQ rFi rLa rOn rLe rRi rHx rHy rHd rKx rKy rKd) hD hS hA [31, 32, 33, 34, 35, 36, 37, 38, 39, 40, 41, 42, 43, 44, 45, 46, 47] rfl
        refine va_calli (va_runV (C := RX5) (b := (aR 0)) (As := [.int (xs (v5 + (1 : Int32)).toNatClampNeg)]) (rest := []) ⟨hx, hb, hml, hown, hts⟩ (m_X5_clear l D k aR rF rS rVx rVy rMd rE rAx rAy rBx rBy rO rP rPx rPy rPd rQ rFi rLa rOn rLe rRi rHx rHy rHd rKx rKy rKd (xs (v5 + (1 : Int32)).toNatClampNeg) _ _ h) (cwV 1 hts gL_law_X5_clear rfl rfl rfl (by decide +kernel) ⟨Nat.le_of_ble_eq_true rfl, Nat.le_of_ble_eq_true rfl⟩) (preV_rw (ci := 5) (q0 := 0) (C := RX5) (T := TX5) (N := 27) hE hPc hDc rfl rfl) rfl rfl hl.1 rfl (lv_room (Nat.le_of_ble_eq_true rfl)) dL_law_208 ⟨by change _ ≤ 601024; omega, by change _ ≤ 7293034; omega⟩) hS (fun q _ h => hFc q h) hFc (fun r208 u t H1 locs ht hvm h hB hz1 hk1 hS => ?_)
        obtain ⟨rF_208, rS_208⟩ := u
        obtain ⟨hP1, hD1⟩ := hB
        rw [ht] at hP1
        obtain ⟨hP, hD⟩ := va_join (wr := wC k aC aE aP aQ aM cX cY cN_196 cM ++ wE k aE fX fY lX lY oP nE ++ wP k aP pX pY pD pO nP ++ wQ k aQ qF nQ ++ wM k aM mR mQ mN ++ wO k aO oL_196 oD) (w1 := wR k aR rF_208 rS_208 rVx rVy rMd rE rAx rAy rBx rBy rO rP rPx rPy rPd rQ rFi rLa rOn rLe rRi rHx rHy rHd rKx rKy rKd) hP hD [31, 32, 33, 34, 35, 36, 37, 38, 39, 40, 41, 42, 43, 44, 45, 46, 47] [0, 1, 2, 3, 4, 5, 6, 7, 8, 9, 10, 11, 12, 13, 14, 15, 16, 17, 18, 19, 20, 21, 22, 23, 24, 25, 26, 27, 28, 29, 30, 48, 49] rfl rfl (by decide) (by decide) hk1 hFc hP1 hD1
        generalize H1 = H at hP hS ⊢
        have hP : va_P D vwCl (wC k aC aE aP aQ aM cX cY cN_196 cM ++ wE k aE fX fY lX lY oP nE ++ wP k aP pX pY pD pO nP ++ wQ k aQ qF nQ ++ wM k aM mR mQ mN ++ wR k aR rF_208 rS_208 rVx rVy rMd rE rAx rAy rBx rBy rO rP rPx rPy rPd rQ rFi rLa rOn rLe rRi rHx rHy rHd rKx rKy rKd ++ wO k aO oL_196 oD) H := hP.sub [0, 1, 2, 3, 4, 5, 6, 7, 8, 9, 10, 11, 12, 13, 14, 15, 16, 17, 18, 19, 20, 21, 22, 23, 24, 25, 26, 27, 28, 29, 30, 33, 34, 35, 36, 37, 38, 39, 40, 41, 42, 43, 44, 45, 46, 47, 48, 49, 31, 32] rfl
        have hD : va_D A (wC k aC aE aP aQ aM cX cY cN_196 cM ++ wE k aE fX fY lX lY oP nE ++ wP k aP pX pY pD pO nP ++ wQ k aQ qF nQ ++ wM k aM mR mQ mN ++ wR k aR rF_208 rS_208 rVx rVy rMd rE rAx rAy rBx rBy rO rP rPx rPy rPd rQ rFi rLa rOn rLe rRi rHx rHy rHd rKx rKy rKd ++ wO k aO oL_196 oD) := hD.sub [0, 1, 2, 3, 4, 5, 6, 7, 8, 9, 10, 11, 12, 13, 14, 15, 16, 17, 18, 19, 20, 21, 22, 23, 24, 25, 26, 27, 28, 29, 30, 33, 34, 35, 36, 37, 38, 39, 40, 41, 42, 43, 44, 45, 46, 47, 48, 49, 31, 32] (by decide) rfl
        refine lv_istore (lv' := [(7, .int r208), (6, .int r196), (0, .ref b), (1, .ref (aC 0)), (2, .ref (aR 0)), (3, .ref (aO 0)), (4, .ref (aO 1)), (5, .int v5)]) hx hb dL_law_211 hl (by decide) rfl (fun ls hl => ?_)
        refine lv_aload_n hx hb dL_law_213 rfl (lv_at hl 4 rfl) ?_
        have hPc := hP.sub (ws' := wR k aR rF_208 rS_208 rVx rVy rMd rE rAx rAy rBx rBy rO rP rPx rPy rPd rQ rFi rLa rOn rLe rRi rHx rHy rHd rKx rKy rKd) [31, 32, 33, 34, 35, 36, 37, 38, 39, 40, 41, 42, 43, 44, 45, 46, 47] rfl
        refine vp_callSi (W.runV (C := RX5) (b := (aR 0)) (As := []) (rest := []) ⟨hx, hb, hml, hown, hts⟩ (m_X5_thrown l D k aR rF_208 rS_208 rVx rVy rMd rE rAx rAy rBx rBy rO rP rPx rPy rPd rQ rFi rLa rOn rLe rRi rHx rHy rHd rKx rKy rKd  _ h) (cwV 0 hts gL_law_X5_thrown rfl rfl rfl (by decide +kernel) ⟨Nat.le_of_ble_eq_true rfl, Nat.le_of_ble_eq_true rfl⟩) (preV_ro (ci := 5) (q0 := 0) (C := RX5) (T := TX5) (N := 27) hE hPc rfl rfl) rfl rfl hl.1 rfl (lv_room (Nat.le_of_ble_eq_true rfl)) dL_law_214 ⟨by change _ ≤ 601024; omega, by change _ ≤ 7293034; omega⟩) (fun r214 h => ?_)
        refine lv_iload hx hb dL_law_217 (lv_at hl 1 rfl) ?_
        refine lv_icmp_eq (tgt := 224) hx hb dL_law_219 (by decide) (fun cq => ?_) (fun cq => ?_)
        · have h := h.1 cq
          refine lv_iload hx hb dL_law_224 (lv_at hl 1 rfl) ?_
          refine lv_if_ne (tgt := 241) hx hb dL_law_226 (by decide) (fun cq => ?_) (fun cq => ?_)
          · have h := h.1 cq
            exact L241 v5 cX cY cN_196 cM fX fY lX lY oP nE pX pY pD pO nP qF nQ mR mQ mN rF_208 rS_208 rVx rVy rMd rE rAx rAy rBx rBy rO rP rPx rPy rPd rQ rFi rLa rOn rLe rRi rHx rHy rHd rKx rKy rKd oL_196 oD _ _ _ _ _ (by omega) (by omega) h hP hD hS (lv_sub hl [2, 3, 4, 5, 6, 7] rfl)
          · have h := h.2 cq
            refine lv_aload_n hx hb dL_law_229 rfl (lv_at hl 5 rfl) ?_
            refine lv_iconst (v := (0 : Int32)) hx hb dL_law_230 (by decide) ?_
            obtain ⟨hin, h⟩ := h
            refine va_lald hx hb hK hP 48 2 rfl rfl hin dL_law_231 ?_
            refine lv_iload hx hb dL_law_232 (lv_at hl 0 rfl) ?_
            refine lv_i2l hx hb dL_law_234 rfl ?_
            refine W.lcmp hx hb dL_law_235 ?_
            refine lv_if_eq (tgt := 241) hx hb dL_law_236 (by decide) (fun cq => ?_) (fun cq => ?_)
            · have h := h.1 ((lg_cmp_eq _ _).mp cq)
              exact L241 v5 cX cY cN_196 cM fX fY lX lY oP nE pX pY pD pO nP qF nQ mR mQ mN rF_208 rS_208 rVx rVy rMd rE rAx rAy rBx rBy rO rP rPx rPy rPd rQ rFi rLa rOn rLe rRi rHx rHy rHd rKx rKy rKd oL_196 oD _ _ _ _ _ (by omega) (by omega) h hP hD hS (lv_sub hl [2, 3, 4, 5, 6, 7] rfl)
            · have h := h.2 (fun q => cq ((lg_cmp_eq _ _).mpr q))
              refine lv_iconst (v := (0 : Int32)) hx hb dL_law_239 (by decide) ?_
              rw [h]
              refine va_forget (fun q hq => hf9 _ (hS.2.2 q hq)) ?_
              refine W.widen (k := 601024) (n := 7293034) (by omega) (by omega) ?_
              exact lw_ret hx hb hr hlocks dL_law_240
        · have h := h.2 cq
          refine lv_iconst (v := (0 : Int32)) hx hb dL_law_222 (by decide) ?_
          rw [h]
          refine va_forget (fun q hq => hf9 _ (hS.2.2 q hq)) ?_
          refine W.widen (k := 601024) (n := 7293034) (by omega) (by omega) ?_
          exact lw_ret hx hb hr hlocks dL_law_223
      by_cases c2 : x44 = 2
      · have h := h.2.2.1 c2
        refine lv_tableIn (tgt := 244) hx hb dL_law_44 (by rw [c2]; decide) (by rw [c2]; decide) (by rw [c2]; rfl) (by decide) ?_
        refine lv_aload_n hx hb dL_law_244 rfl (lv_at hl 1 rfl) ?_
        have hPc := hP.sub (ws' := wC k aC aE aP aQ aM cX cY cN cM ++ wE k aE fX fY lX lY oP nE ++ wP k aP pX pY pD pO nP ++ wQ k aQ qF nQ ++ wM k aM mR mQ mN) [0, 1, 2, 3, 4, 5, 6, 7, 8, 9, 10, 11, 12, 13, 14, 15, 16, 17, 18, 19, 20, 21, 22, 23, 24, 25, 26, 27, 28, 29, 30] rfl
        have hDc := hD.sub (ws' := wC k aC aE aP aQ aM cX cY cN cM ++ wE k aE fX fY lX lY oP nE ++ wP k aP pX pY pD pO nP ++ wQ k aQ qF nQ ++ wM k aM mR mQ mN) [0, 1, 2, 3, 4, 5, 6, 7, 8, 9, 10, 11, 12, 13, 14, 15, 16, 17, 18, 19, 20, 21, 22, 23, 24, 25, 26, 27, 28, 29, 30] (by decide) rfl
        have hFc := va_free (wc := wC k aC aE aP aQ aM cX cY cN cM ++ wE k aE fX fY lX lY oP nE ++ wP k aP pX pY pD pO nP ++ wQ k aQ qF nQ ++ wM k aM mR mQ mN) hD hS hA [0, 1, 2, 3, 4, 5, 6, 7, 8, 9, 10, 11, 12, 13, 14, 15, 16, 17, 18, 19, 20, 21, 22, 23, 24, 25, 26, 27, 28, 29, 30] rfl
        refine va_calli (va_runV (C := RX4) (b := (aC 0)) (As := []) (rest := []) ⟨hx, hb, hml, hown, hts⟩ (m_X4_overlay l D k aC aE aP aQ aM cX cY cN cM fX fY lX lY oP nE pX pY pD pO nP qF nQ mR mQ mN  _ _ h) (cwV 0 hts gL_law_X4_overlay rfl rfl rfl (by decide +kernel) ⟨Nat.le_of_ble_eq_true rfl, Nat.le_of_ble_eq_true rfl⟩) (preV_rw (ci := 4) (q0 := 0) (C := RX4) (T := TX4) (N := 8) hE hPc hDc rfl rfl) rfl rfl hl.1 rfl (lv_room (Nat.le_of_ble_eq_true rfl)) dL_law_245 ⟨by change _ ≤ 601024; omega, by change _ ≤ 7293034; omega⟩) hS (fun q _ h => hFc q h) hFc (fun r245 u t H1 locs ht hvm h hB hz1 hk1 hS => ?_)
        obtain ⟨cM_245, fX_245, fY_245, lX_245, lY_245, oP_245, nE_245, pX_245, pY_245, pD_245, pO_245, nP_245, qF_245, nQ_245, mR_245, mQ_245, mN_245⟩ := u
        obtain ⟨hP1, hD1⟩ := hB
        rw [ht] at hP1
        obtain ⟨hP, hD⟩ := va_join (wr := wR k aR rF rS rVx rVy rMd rE rAx rAy rBx rBy rO rP rPx rPy rPd rQ rFi rLa rOn rLe rRi rHx rHy rHd rKx rKy rKd ++ wO k aO oL oD) (w1 := wC k aC aE aP aQ aM cX cY cN cM_245 ++ wE k aE fX_245 fY_245 lX_245 lY_245 oP_245 nE_245 ++ wP k aP pX_245 pY_245 pD_245 pO_245 nP_245 ++ wQ k aQ qF_245 nQ_245 ++ wM k aM mR_245 mQ_245 mN_245) hP hD [0, 1, 2, 3, 4, 5, 6, 7, 8, 9, 10, 11, 12, 13, 14, 15, 16, 17, 18, 19, 20, 21, 22, 23, 24, 25, 26, 27, 28, 29, 30] [31, 32, 33, 34, 35, 36, 37, 38, 39, 40, 41, 42, 43, 44, 45, 46, 47, 48, 49] rfl rfl (by decide) (by decide) hk1 hFc hP1 hD1
        generalize H1 = H at hP hS ⊢
        have hP : va_P D vwCl (wC k aC aE aP aQ aM cX cY cN cM_245 ++ wE k aE fX_245 fY_245 lX_245 lY_245 oP_245 nE_245 ++ wP k aP pX_245 pY_245 pD_245 pO_245 nP_245 ++ wQ k aQ qF_245 nQ_245 ++ wM k aM mR_245 mQ_245 mN_245 ++ wR k aR rF rS rVx rVy rMd rE rAx rAy rBx rBy rO rP rPx rPy rPd rQ rFi rLa rOn rLe rRi rHx rHy rHd rKx rKy rKd ++ wO k aO oL oD) H := hP.sub [19, 20, 21, 22, 23, 24, 25, 26, 27, 28, 29, 30, 31, 32, 33, 34, 35, 36, 37, 38, 39, 40, 41, 42, 43, 44, 45, 46, 47, 48, 49, 0, 1, 2, 3, 4, 5, 6, 7, 8, 9, 10, 11, 12, 13, 14, 15, 16, 17, 18] rfl
        have hD : va_D A (wC k aC aE aP aQ aM cX cY cN cM_245 ++ wE k aE fX_245 fY_245 lX_245 lY_245 oP_245 nE_245 ++ wP k aP pX_245 pY_245 pD_245 pO_245 nP_245 ++ wQ k aQ qF_245 nQ_245 ++ wM k aM mR_245 mQ_245 mN_245 ++ wR k aR rF rS rVx rVy rMd rE rAx rAy rBx rBy rO rP rPx rPy rPd rQ rFi rLa rOn rLe rRi rHx rHy rHd rKx rKy rKd ++ wO k aO oL oD) := hD.sub [19, 20, 21, 22, 23, 24, 25, 26, 27, 28, 29, 30, 31, 32, 33, 34, 35, 36, 37, 38, 39, 40, 41, 42, 43, 44, 45, 46, 47, 48, 49, 0, 1, 2, 3, 4, 5, 6, 7, 8, 9, 10, 11, 12, 13, 14, 15, 16, 17, 18] (by decide) rfl
        refine lv_aload_n hx hb dL_law_248 rfl (lv_at hl 2 rfl) ?_
        have hPc := hP.sub (ws' := wR k aR rF rS rVx rVy rMd rE rAx rAy rBx rBy rO rP rPx rPy rPd rQ rFi rLa rOn rLe rRi rHx rHy rHd rKx rKy rKd) [31, 32, 33, 34, 35, 36, 37, 38, 39, 40, 41, 42, 43, 44, 45, 46, 47] rfl
        have hDc := hD.sub (ws' := wR k aR rF rS rVx rVy rMd rE rAx rAy rBx rBy rO rP rPx rPy rPd rQ rFi rLa rOn rLe rRi rHx rHy rHd rKx rKy rKd) [31, 32, 33, 34, 35, 36, 37, 38, 39, 40, 41, 42, 43, 44, 45, 46, 47] (by decide) rfl
        have hFc := va_free (wc := wR k aR rF rS rVx rVy rMd rE rAx rAy rBx rBy rO rP rPx rPy rPd rQ rFi rLa rOn rLe rRi rHx rHy rHd rKx rKy rKd) hD hS hA [31, 32, 33, 34, 35, 36, 37, 38, 39, 40, 41, 42, 43, 44, 45, 46, 47] rfl
        refine va_calli (va_runV (C := RX5) (b := (aR 0)) (As := []) (rest := [.int r245]) ⟨hx, hb, hml, hown, hts⟩ (m_X5_overlay l D k aR rF rS rVx rVy rMd rE rAx rAy rBx rBy rO rP rPx rPy rPd rQ rFi rLa rOn rLe rRi rHx rHy rHd rKx rKy rKd  _ _ h) (cwV 0 hts gL_law_X5_overlay rfl rfl rfl (by decide +kernel) ⟨Nat.le_of_ble_eq_true rfl, Nat.le_of_ble_eq_true rfl⟩) (preV_rw (ci := 5) (q0 := 0) (C := RX5) (T := TX5) (N := 27) hE hPc hDc rfl rfl) rfl rfl hl.1 rfl (lv_room (Nat.le_of_ble_eq_true rfl)) dL_law_249 ⟨by change _ ≤ 601024; omega, by change _ ≤ 7293034; omega⟩) hS (fun q _ h => hFc q h) hFc (fun r249 u t H1 locs ht hvm h hB hz1 hk1 hS => ?_)
        obtain ⟨rF_249, rMd_249, rE_249, rAx_249, rAy_249, rBx_249, rBy_249, rO_249, rP_249, rPx_249, rPy_249, rPd_249, rQ_249, rFi_249, rLa_249, rOn_249, rLe_249, rRi_249, rHx_249, rHy_249, rHd_249, rKx_249, rKy_249, rKd_249⟩ := u
        obtain ⟨hP1, hD1⟩ := hB
        rw [ht] at hP1
        obtain ⟨hP, hD⟩ := va_join (wr := wC k aC aE aP aQ aM cX cY cN cM_245 ++ wE k aE fX_245 fY_245 lX_245 lY_245 oP_245 nE_245 ++ wP k aP pX_245 pY_245 pD_245 pO_245 nP_245 ++ wQ k aQ qF_245 nQ_245 ++ wM k aM mR_245 mQ_245 mN_245 ++ wO k aO oL oD) (w1 := wR k aR rF_249 rS rVx rVy rMd_249 rE_249 rAx_249 rAy_249 rBx_249 rBy_249 rO_249 rP_249 rPx_249 rPy_249 rPd_249 rQ_249 rFi_249 rLa_249 rOn_249 rLe_249 rRi_249 rHx_249 rHy_249 rHd_249 rKx_249 rKy_249 rKd_249) hP hD [31, 32, 33, 34, 35, 36, 37, 38, 39, 40, 41, 42, 43, 44, 45, 46, 47] [0, 1, 2, 3, 4, 5, 6, 7, 8, 9, 10, 11, 12, 13, 14, 15, 16, 17, 18, 19, 20, 21, 22, 23, 24, 25, 26, 27, 28, 29, 30, 48, 49] rfl rfl (by decide) (by decide) hk1 hFc hP1 hD1
        generalize H1 = H at hP hS ⊢
        have hP : va_P D vwCl (wC k aC aE aP aQ aM cX cY cN cM_245 ++ wE k aE fX_245 fY_245 lX_245 lY_245 oP_245 nE_245 ++ wP k aP pX_245 pY_245 pD_245 pO_245 nP_245 ++ wQ k aQ qF_245 nQ_245 ++ wM k aM mR_245 mQ_245 mN_245 ++ wR k aR rF_249 rS rVx rVy rMd_249 rE_249 rAx_249 rAy_249 rBx_249 rBy_249 rO_249 rP_249 rPx_249 rPy_249 rPd_249 rQ_249 rFi_249 rLa_249 rOn_249 rLe_249 rRi_249 rHx_249 rHy_249 rHd_249 rKx_249 rKy_249 rKd_249 ++ wO k aO oL oD) H := hP.sub [0, 1, 2, 3, 4, 5, 6, 7, 8, 9, 10, 11, 12, 13, 14, 15, 16, 17, 18, 19, 20, 21, 22, 23, 24, 25, 26, 27, 28, 29, 30, 33, 34, 35, 36, 37, 38, 39, 40, 41, 42, 43, 44, 45, 46, 47, 48, 49, 31, 32] rfl
        have hD : va_D A (wC k aC aE aP aQ aM cX cY cN cM_245 ++ wE k aE fX_245 fY_245 lX_245 lY_245 oP_245 nE_245 ++ wP k aP pX_245 pY_245 pD_245 pO_245 nP_245 ++ wQ k aQ qF_245 nQ_245 ++ wM k aM mR_245 mQ_245 mN_245 ++ wR k aR rF_249 rS rVx rVy rMd_249 rE_249 rAx_249 rAy_249 rBx_249 rBy_249 rO_249 rP_249 rPx_249 rPy_249 rPd_249 rQ_249 rFi_249 rLa_249 rOn_249 rLe_249 rRi_249 rHx_249 rHy_249 rHd_249 rKx_249 rKy_249 rKd_249 ++ wO k aO oL oD) := hD.sub [0, 1, 2, 3, 4, 5, 6, 7, 8, 9, 10, 11, 12, 13, 14, 15, 16, 17, 18, 19, 20, 21, 22, 23, 24, 25, 26, 27, 28, 29, 30, 33, 34, 35, 36, 37, 38, 39, 40, 41, 42, 43, 44, 45, 46, 47, 48, 49, 31, 32] (by decide) rfl
        refine lv_icmp_eq (tgt := 906) hx hb dL_law_252 (by decide) (fun cq => ?_) (fun cq => ?_)
        · have h := h.1 cq
          exact L906 v5 cX cY cN cM_245 fX_245 fY_245 lX_245 lY_245 oP_245 nE_245 pX_245 pY_245 pD_245 pO_245 nP_245 qF_245 nQ_245 mR_245 mQ_245 mN_245 rF_249 rS rVx rVy rMd_249 rE_249 rAx_249 rAy_249 rBx_249 rBy_249 rO_249 rP_249 rPx_249 rPy_249 rPd_249 rQ_249 rFi_249 rLa_249 rOn_249 rLe_249 rRi_249 rHx_249 rHy_249 rHd_249 rKx_249 rKy_249 rKd_249 oL oD _ _ _ _ _ (by omega) (by omega) h hP hD hS (lv_sub hl [0, 1, 2, 3, 4, 5] rfl)
        · have h := h.2 cq
          refine lv_iconst (v := (0 : Int32)) hx hb dL_law_255 (by decide) ?_
          rw [h]
          refine va_forget (fun q hq => hf9 _ (hS.2.2 q hq)) ?_
          refine W.widen (k := 601024) (n := 7293034) (by omega) (by omega) ?_
          exact lw_ret hx hb hr hlocks dL_law_256
      by_cases c3 : x44 = 3
      · have h := h.2.2.2.1 c3
        refine lv_tableIn (tgt := 257) hx hb dL_law_44 (by rw [c3]; decide) (by rw [c3]; decide) (by rw [c3]; rfl) (by decide) ?_
        refine lv_aload_n hx hb dL_law_257 rfl (lv_at hl 1 rfl) ?_
        refine lv_aload_n hx hb dL_law_258 rfl (lv_at hl 0 rfl) ?_
        refine lv_iload hx hb dL_law_259 (lv_at hl 5 rfl) ?_
        refine lv_iconst (v := (1 : Int32)) hx hb dL_law_261 (by decide) ?_
        refine lv_iadd hx hb dL_law_262 ?_
        obtain ⟨hin, h⟩ := h
        refine va_sld hx hb hX hbl hbA hS hin dL_law_263 ?_
        refine lv_aload_n hx hb dL_law_264 rfl (lv_at hl 3 rfl) ?_
        have hPc := hP.sub (ws' := wC k aC aE aP aQ aM cX cY cN cM ++ wE k aE fX fY lX lY oP nE ++ wP k aP pX pY pD pO nP ++ wQ k aQ qF nQ ++ wM k aM mR mQ mN ++ wO k aO oL oD) [0, 1, 2, 3, 4, 5, 6, 7, 8, 9, 10, 11, 12, 13, 14, 15, 16, 17, 18, 19, 20, 21, 22, 23, 24, 25, 26, 27, 28, 29, 30, 48, 49] rfl
        have hDc := hD.sub (ws' := wC k aC aE aP aQ aM cX cY cN cM ++ wE k aE fX fY lX lY oP nE ++ wP k aP pX pY pD pO nP ++ wQ k aQ qF nQ ++ wM k aM mR mQ mN ++ wO k aO oL oD) [0, 1, 2, 3, 4, 5, 6, 7, 8, 9, 10, 11, 12, 13, 14, 15, 16, 17, 18, 19, 20, 21, 22, 23, 24, 25, 26, 27, 28, 29, 30, 48, 49] (by decide) rfl
        have hFc := va_free (wc := wC k aC aE aP aQ aM cX cY cN cM ++ wE k aE fX fY lX lY oP nE ++ wP k aP pX pY pD pO nP ++ wQ k aQ qF nQ ++ wM k aM mR mQ mN ++ wO k aO oL oD) hD hS hA [0, 1, 2, 3, 4, 5, 6, 7, 8, 9, 10, 11, 12, 13, 14, 15, 16, 17, 18, 19, 20, 21, 22, 23, 24, 25, 26, 27, 28, 29, 30, 48, 49] rfl
        refine va_calli (vx_runSW (As := [.ref (aC 0), .int (xs (v5 + (1 : Int32)).toNatClampNeg), .ref (aO 0)]) (rest := []) ⟨hx, hb, hml, hown, hts⟩ (m_L_size l D k aC aE aP aQ aM aO cX cY cN cM fX fY lX lY oP nE pX pY pD pO nP qF nQ mR mQ mN oL oD (xs (v5 + (1 : Int32)).toNatClampNeg) _ _ hlt h) (vx_cwSW 3 hts gL_law_L_size rfl rfl rfl (by decide +kernel) ⟨Nat.le_of_ble_eq_true rfl, Nat.le_of_ble_eq_true rfl⟩) (preS_th hE hT hS hFc hPc hDc) rfl rfl hl.1 rfl (lv_room (Nat.le_of_ble_eq_true rfl)) dL_law_265 ⟨by change _ ≤ 601024; omega, by change _ ≤ 7293034; omega⟩) hS (fun q _ h => hFc q h) hFc (fun r265 oL_265 t H1 locs ht hvm h hB hz1 hk1 hS => ?_)
        obtain ⟨hP1, hD1⟩ := hB
        rw [ht] at hP1
        obtain ⟨hP, hD⟩ := va_join (wr := wR k aR rF rS rVx rVy rMd rE rAx rAy rBx rBy rO rP rPx rPy rPd rQ rFi rLa rOn rLe rRi rHx rHy rHd rKx rKy rKd) (w1 := wC k aC aE aP aQ aM cX cY cN cM ++ wE k aE fX fY lX lY oP nE ++ wP k aP pX pY pD pO nP ++ wQ k aQ qF nQ ++ wM k aM mR mQ mN ++ wO k aO oL_265 oD) hP hD [0, 1, 2, 3, 4, 5, 6, 7, 8, 9, 10, 11, 12, 13, 14, 15, 16, 17, 18, 19, 20, 21, 22, 23, 24, 25, 26, 27, 28, 29, 30, 48, 49] [31, 32, 33, 34, 35, 36, 37, 38, 39, 40, 41, 42, 43, 44, 45, 46, 47] rfl rfl (by decide) (by decide) hk1 hFc hP1 hD1
        generalize H1 = H at hP hS ⊢
        have hP : va_P D vwCl (wC k aC aE aP aQ aM cX cY cN cM ++ wE k aE fX fY lX lY oP nE ++ wP k aP pX pY pD pO nP ++ wQ k aQ qF nQ ++ wM k aM mR mQ mN ++ wR k aR rF rS rVx rVy rMd rE rAx rAy rBx rBy rO rP rPx rPy rPd rQ rFi rLa rOn rLe rRi rHx rHy rHd rKx rKy rKd ++ wO k aO oL_265 oD) H := hP.sub [17, 18, 19, 20, 21, 22, 23, 24, 25, 26, 27, 28, 29, 30, 31, 32, 33, 34, 35, 36, 37, 38, 39, 40, 41, 42, 43, 44, 45, 46, 47, 0, 1, 2, 3, 4, 5, 6, 7, 8, 9, 10, 11, 12, 13, 14, 15, 16, 48, 49] rfl
        have hD : va_D A (wC k aC aE aP aQ aM cX cY cN cM ++ wE k aE fX fY lX lY oP nE ++ wP k aP pX pY pD pO nP ++ wQ k aQ qF nQ ++ wM k aM mR mQ mN ++ wR k aR rF rS rVx rVy rMd rE rAx rAy rBx rBy rO rP rPx rPy rPd rQ rFi rLa rOn rLe rRi rHx rHy rHd rKx rKy rKd ++ wO k aO oL_265 oD) := hD.sub [17, 18, 19, 20, 21, 22, 23, 24, 25, 26, 27, 28, 29, 30, 31, 32, 33, 34, 35, 36, 37, 38, 39, 40, 41, 42, 43, 44, 45, 46, 47, 0, 1, 2, 3, 4, 5, 6, 7, 8, 9, 10, 11, 12, 13, 14, 15, 16, 48, 49] (by decide) rfl
        refine lv_istore (lv' := [(6, .int r265), (0, .ref b), (1, .ref (aC 0)), (2, .ref (aR 0)), (3, .ref (aO 0)), (4, .ref (aO 1)), (5, .int v5)]) hx hb dL_law_268 hl (by decide) rfl (fun ls hl => ?_)
        refine lv_aload_n hx hb dL_law_270 rfl (lv_at hl 3 rfl) ?_
        refine lv_aload_n hx hb dL_law_271 rfl (lv_at hl 1 rfl) ?_
        refine lv_iload hx hb dL_law_272 (lv_at hl 6 rfl) ?_
        refine lv_iconst (v := (1 : Int32)) hx hb dL_law_274 (by decide) ?_
        refine lv_iadd hx hb dL_law_275 ?_
        obtain ⟨hin, h⟩ := h
        refine va_sld hx hb hX hbl hbA hS hin dL_law_276 ?_
        have hPc := hP.sub (ws' := wR k aR rF rS rVx rVy rMd rE rAx rAy rBx rBy rO rP rPx rPy rPd rQ rFi rLa rOn rLe rRi rHx rHy rHd rKx rKy rKd) [31, 32, 33, 34, 35, 36, 37, 38, 39, 40, 41, 42, 43, 44, 45, 46, 47] rfl
        have hDc := hD.sub (ws' := wR k aR rF rS rVx rVy rMd rE rAx rAy rBx rBy rO rP rPx rPy rPd rQ rFi rLa rOn rLe rRi rHx rHy rHd rKx rKy rKd) [31, 32, 33, 34, 35, 36, 37, 38, 39, 40, 41, 42, 43, 44, 45, 46, 47] (by decide) rfl
        have hFc := va_free (wc := wR k aR rF rS rVx rVy rMd rE rAx rAy rBx rBy rO rP rPx rPy rPd rQ rFi rLa rOn rLe rRi rHx rHy rHd rKx rKy rKd) hD hS hA [31, 32, 33, 34, 35, 36, 37, 38, 39, 40, 41, 42, 43, 44, 45, 46, 47] rfl
        refine va_calli (va_runV (C := RX5) (b := (aR 0)) (As := [.int (xs (v5 + (1 : Int32)).toNatClampNeg)]) (rest := []) ⟨hx, hb, hml, hown, hts⟩ (m_X5_size l D k aR rF rS rVx rVy rMd rE rAx rAy rBx rBy rO rP rPx rPy rPd rQ rFi rLa rOn rLe rRi rHx rHy rHd rKx rKy rKd (xs (v5 + (1 : Int32)).toNatClampNeg) _ _ h) (cwV 1 hts gL_law_X5_size rfl rfl rfl (by decide +kernel) ⟨Nat.le_of_ble_eq_true rfl, Nat.le_of_ble_eq_true rfl⟩) (preV_rw (ci := 5) (q0 := 0) (C := RX5) (T := TX5) (N := 27) hE hPc hDc rfl rfl) rfl rfl hl.1 rfl (lv_room (Nat.le_of_ble_eq_true rfl)) dL_law_277 ⟨by change _ ≤ 601024; omega, by change _ ≤ 7293034; omega⟩) hS (fun q _ h => hFc q h) hFc (fun r277 u t H1 locs ht hvm h hB hz1 hk1 hS => ?_)
        obtain ⟨rF_277, rHx_277, rHy_277, rHd_277, rKx_277, rKy_277, rKd_277⟩ := u
        obtain ⟨hP1, hD1⟩ := hB
        rw [ht] at hP1
        obtain ⟨hP, hD⟩ := va_join (wr := wC k aC aE aP aQ aM cX cY cN cM ++ wE k aE fX fY lX lY oP nE ++ wP k aP pX pY pD pO nP ++ wQ k aQ qF nQ ++ wM k aM mR mQ mN ++ wO k aO oL_265 oD) (w1 := wR k aR rF_277 rS rVx rVy rMd rE rAx rAy rBx rBy rO rP rPx rPy rPd rQ rFi rLa rOn rLe rRi rHx_277 rHy_277 rHd_277 rKx_277 rKy_277 rKd_277) hP hD [31, 32, 33, 34, 35, 36, 37, 38, 39, 40, 41, 42, 43, 44, 45, 46, 47] [0, 1, 2, 3, 4, 5, 6, 7, 8, 9, 10, 11, 12, 13, 14, 15, 16, 17, 18, 19, 20, 21, 22, 23, 24, 25, 26, 27, 28, 29, 30, 48, 49] rfl rfl (by decide) (by decide) hk1 hFc hP1 hD1
        generalize H1 = H at hP hS ⊢
        have hP : va_P D vwCl (wC k aC aE aP aQ aM cX cY cN cM ++ wE k aE fX fY lX lY oP nE ++ wP k aP pX pY pD pO nP ++ wQ k aQ qF nQ ++ wM k aM mR mQ mN ++ wR k aR rF_277 rS rVx rVy rMd rE rAx rAy rBx rBy rO rP rPx rPy rPd rQ rFi rLa rOn rLe rRi rHx_277 rHy_277 rHd_277 rKx_277 rKy_277 rKd_277 ++ wO k aO oL_265 oD) H := hP.sub [0, 1, 2, 3, 4, 5, 6, 7, 8, 9, 10, 11, 12, 13, 14, 15, 16, 17, 18, 19, 20, 21, 22, 23, 24, 25, 26, 27, 28, 29, 30, 33, 34, 35, 36, 37, 38, 39, 40, 41, 42, 43, 44, 45, 46, 47, 48, 49, 31, 32] rfl
        have hD : va_D A (wC k aC aE aP aQ aM cX cY cN cM ++ wE k aE fX fY lX lY oP nE ++ wP k aP pX pY pD pO nP ++ wQ k aQ qF nQ ++ wM k aM mR mQ mN ++ wR k aR rF_277 rS rVx rVy rMd rE rAx rAy rBx rBy rO rP rPx rPy rPd rQ rFi rLa rOn rLe rRi rHx_277 rHy_277 rHd_277 rKx_277 rKy_277 rKd_277 ++ wO k aO oL_265 oD) := hD.sub [0, 1, 2, 3, 4, 5, 6, 7, 8, 9, 10, 11, 12, 13, 14, 15, 16, 17, 18, 19, 20, 21, 22, 23, 24, 25, 26, 27, 28, 29, 30, 33, 34, 35, 36, 37, 38, 39, 40, 41, 42, 43, 44, 45, 46, 47, 48, 49, 31, 32] (by decide) rfl
        refine lv_istore (lv' := [(7, .int r277), (6, .int r265), (0, .ref b), (1, .ref (aC 0)), (2, .ref (aR 0)), (3, .ref (aO 0)), (4, .ref (aO 1)), (5, .int v5)]) hx hb dL_law_280 hl (by decide) rfl (fun ls hl => ?_)
        refine lv_aload_n hx hb dL_law_282 rfl (lv_at hl 4 rfl) ?_
        have hPc := hP.sub (ws' := wR k aR rF_277 rS rVx rVy rMd rE rAx rAy rBx rBy rO rP rPx rPy rPd rQ rFi rLa rOn rLe rRi rHx_277 rHy_277 rHd_277 rKx_277 rKy_277 rKd_277) [31, 32, 33, 34, 35, 36, 37, 38, 39, 40, 41, 42, 43, 44, 45, 46, 47] rfl
        refine vp_callSi (W.runV (C := RX5) (b := (aR 0)) (As := []) (rest := []) ⟨hx, hb, hml, hown, hts⟩ (m_X5_thrown l D k aR rF_277 rS rVx rVy rMd rE rAx rAy rBx rBy rO rP rPx rPy rPd rQ rFi rLa rOn rLe rRi rHx_277 rHy_277 rHd_277 rKx_277 rKy_277 rKd_277  _ h) (cwV 0 hts gL_law_X5_thrown rfl rfl rfl (by decide +kernel) ⟨Nat.le_of_ble_eq_true rfl, Nat.le_of_ble_eq_true rfl⟩) (preV_ro (ci := 5) (q0 := 0) (C := RX5) (T := TX5) (N := 27) hE hPc rfl rfl) rfl rfl hl.1 rfl (lv_room (Nat.le_of_ble_eq_true rfl)) dL_law_283 ⟨by change _ ≤ 601024; omega, by change _ ≤ 7293034; omega⟩) (fun r283 h => ?_)
        refine lv_iload hx hb dL_law_286 (lv_at hl 1 rfl) ?_
        refine lv_icmp_eq (tgt := 293) hx hb dL_law_288 (by decide) (fun cq => ?_) (fun cq => ?_)
        · have h := h.1 cq
          refine lv_iload hx hb dL_law_293 (lv_at hl 1 rfl) ?_
          refine lv_if_ne (tgt := 310) hx hb dL_law_295 (by decide) (fun cq => ?_) (fun cq => ?_)
          · have h := h.1 cq
            exact L310 v5 cX cY cN cM fX fY lX lY oP nE pX pY pD pO nP qF nQ mR mQ mN rF_277 rS rVx rVy rMd rE rAx rAy rBx rBy rO rP rPx rPy rPd rQ rFi rLa rOn rLe rRi rHx_277 rHy_277 rHd_277 rKx_277 rKy_277 rKd_277 oL_265 oD _ _ _ _ _ (by omega) (by omega) h hP hD hS (lv_sub hl [2, 3, 4, 5, 6, 7] rfl)
          · have h := h.2 cq
            refine lv_aload_n hx hb dL_law_298 rfl (lv_at hl 5 rfl) ?_
            refine lv_iconst (v := (0 : Int32)) hx hb dL_law_299 (by decide) ?_
            obtain ⟨hin, h⟩ := h
            refine va_lald hx hb hK hP 48 2 rfl rfl hin dL_law_300 ?_
            refine lv_iload hx hb dL_law_301 (lv_at hl 0 rfl) ?_
            refine lv_i2l hx hb dL_law_303 rfl ?_
            refine W.lcmp hx hb dL_law_304 ?_
            refine lv_if_eq (tgt := 310) hx hb dL_law_305 (by decide) (fun cq => ?_) (fun cq => ?_)
            · have h := h.1 ((lg_cmp_eq _ _).mp cq)
              exact L310 v5 cX cY cN cM fX fY lX lY oP nE pX pY pD pO nP qF nQ mR mQ mN rF_277 rS rVx rVy rMd rE rAx rAy rBx rBy rO rP rPx rPy rPd rQ rFi rLa rOn rLe rRi rHx_277 rHy_277 rHd_277 rKx_277 rKy_277 rKd_277 oL_265 oD _ _ _ _ _ (by omega) (by omega) h hP hD hS (lv_sub hl [2, 3, 4, 5, 6, 7] rfl)
            · have h := h.2 (fun q => cq ((lg_cmp_eq _ _).mpr q))
              refine lv_iconst (v := (0 : Int32)) hx hb dL_law_308 (by decide) ?_
              rw [h]
              refine va_forget (fun q hq => hf9 _ (hS.2.2 q hq)) ?_
              refine W.widen (k := 601024) (n := 7293034) (by omega) (by omega) ?_
              exact lw_ret hx hb hr hlocks dL_law_309
        · have h := h.2 cq
          refine lv_iconst (v := (0 : Int32)) hx hb dL_law_291 (by decide) ?_
          rw [h]
          refine va_forget (fun q hq => hf9 _ (hS.2.2 q hq)) ?_
          refine W.widen (k := 601024) (n := 7293034) (by omega) (by omega) ?_
          exact lw_ret hx hb hr hlocks dL_law_292
      by_cases c4 : x44 = 4
      · have h := h.2.2.2.2.1 c4
        refine lv_tableIn (tgt := 313) hx hb dL_law_44 (by rw [c4]; decide) (by rw [c4]; decide) (by rw [c4]; rfl) (by decide) ?_
        refine lv_aload_n hx hb dL_law_313 rfl (lv_at hl 1 rfl) ?_
        refine lv_aload_n hx hb dL_law_314 rfl (lv_at hl 0 rfl) ?_
        refine lv_iload hx hb dL_law_315 (lv_at hl 5 rfl) ?_
        refine lv_iconst (v := (1 : Int32)) hx hb dL_law_317 (by decide) ?_
        refine lv_iadd hx hb dL_law_318 ?_
        obtain ⟨hin, h⟩ := h
        refine va_sld hx hb hX hbl hbA hS hin dL_law_319 ?_
        refine lv_aload_n hx hb dL_law_320 rfl (lv_at hl 0 rfl) ?_
        refine lv_iload hx hb dL_law_321 (lv_at hl 5 rfl) ?_
        refine lv_iconst (v := (2 : Int32)) hx hb dL_law_323 (by decide) ?_
        refine lv_iadd hx hb dL_law_324 ?_
        obtain ⟨hin, h⟩ := h
        refine va_sld hx hb hX hbl hbA hS hin dL_law_325 ?_
        refine lv_aload_n hx hb dL_law_326 rfl (lv_at hl 3 rfl) ?_
        have hPc := hP.sub (ws' := wC k aC aE aP aQ aM cX cY cN cM ++ wE k aE fX fY lX lY oP nE ++ wP k aP pX pY pD pO nP ++ wQ k aQ qF nQ ++ wM k aM mR mQ mN ++ wO k aO oL oD) [0, 1, 2, 3, 4, 5, 6, 7, 8, 9, 10, 11, 12, 13, 14, 15, 16, 17, 18, 19, 20, 21, 22, 23, 24, 25, 26, 27, 28, 29, 30, 48, 49] rfl
        have hDc := hD.sub (ws' := wC k aC aE aP aQ aM cX cY cN cM ++ wE k aE fX fY lX lY oP nE ++ wP k aP pX pY pD pO nP ++ wQ k aQ qF nQ ++ wM k aM mR mQ mN ++ wO k aO oL oD) [0, 1, 2, 3, 4, 5, 6, 7, 8, 9, 10, 11, 12, 13, 14, 15, 16, 17, 18, 19, 20, 21, 22, 23, 24, 25, 26, 27, 28, 29, 30, 48, 49] (by decide) rfl
        have hFc := va_free (wc := wC k aC aE aP aQ aM cX cY cN cM ++ wE k aE fX fY lX lY oP nE ++ wP k aP pX pY pD pO nP ++ wQ k aQ qF nQ ++ wM k aM mR mQ mN ++ wO k aO oL oD) hD hS hA [0, 1, 2, 3, 4, 5, 6, 7, 8, 9, 10, 11, 12, 13, 14, 15, 16, 17, 18, 19, 20, 21, 22, 23, 24, 25, 26, 27, 28, 29, 30, 48, 49] rfl
        refine va_calli (vx_runSW (As := [.ref (aC 0), .int (xs (v5 + (1 : Int32)).toNatClampNeg), .int (xs (v5 + (2 : Int32)).toNatClampNeg), .ref (aO 0)]) (rest := []) ⟨hx, hb, hml, hown, hts⟩ (m_L_point l D k aC aE aP aQ aM aO cX cY cN cM fX fY lX lY oP nE pX pY pD pO nP qF nQ mR mQ mN oL oD (xs (v5 + (1 : Int32)).toNatClampNeg) (xs (v5 + (2 : Int32)).toNatClampNeg) _ _ hlt h) (vx_cwSW 4 hts gL_law_L_point rfl rfl rfl (by decide +kernel) ⟨Nat.le_of_ble_eq_true rfl, Nat.le_of_ble_eq_true rfl⟩) (preS_th hE hT hS hFc hPc hDc) rfl rfl hl.1 rfl (lv_room (Nat.le_of_ble_eq_true rfl)) dL_law_327 ⟨by change _ ≤ 601024; omega, by change _ ≤ 7293034; omega⟩) hS (fun q _ h => hFc q h) hFc (fun r327 oL_327 t H1 locs ht hvm h hB hz1 hk1 hS => ?_)
        obtain ⟨hP1, hD1⟩ := hB
        rw [ht] at hP1
        obtain ⟨hP, hD⟩ := va_join (wr := wR k aR rF rS rVx rVy rMd rE rAx rAy rBx rBy rO rP rPx rPy rPd rQ rFi rLa rOn rLe rRi rHx rHy rHd rKx rKy rKd) (w1 := wC k aC aE aP aQ aM cX cY cN cM ++ wE k aE fX fY lX lY oP nE ++ wP k aP pX pY pD pO nP ++ wQ k aQ qF nQ ++ wM k aM mR mQ mN ++ wO k aO oL_327 oD) hP hD [0, 1, 2, 3, 4, 5, 6, 7, 8, 9, 10, 11, 12, 13, 14, 15, 16, 17, 18, 19, 20, 21, 22, 23, 24, 25, 26, 27, 28, 29, 30, 48, 49] [31, 32, 33, 34, 35, 36, 37, 38, 39, 40, 41, 42, 43, 44, 45, 46, 47] rfl rfl (by decide) (by decide) hk1 hFc hP1 hD1
        generalize H1 = H at hP hS ⊢
        have hP : va_P D vwCl (wC k aC aE aP aQ aM cX cY cN cM ++ wE k aE fX fY lX lY oP nE ++ wP k aP pX pY pD pO nP ++ wQ k aQ qF nQ ++ wM k aM mR mQ mN ++ wR k aR rF rS rVx rVy rMd rE rAx rAy rBx rBy rO rP rPx rPy rPd rQ rFi rLa rOn rLe rRi rHx rHy rHd rKx rKy rKd ++ wO k aO oL_327 oD) H := hP.sub [17, 18, 19, 20, 21, 22, 23, 24, 25, 26, 27, 28, 29, 30, 31, 32, 33, 34, 35, 36, 37, 38, 39, 40, 41, 42, 43, 44, 45, 46, 47, 0, 1, 2, 3, 4, 5, 6, 7, 8, 9, 10, 11, 12, 13, 14, 15, 16, 48, 49] rfl
        have hD : va_D A (wC k aC aE aP aQ aM cX cY cN cM ++ wE k aE fX fY lX lY oP nE ++ wP k aP pX pY pD pO nP ++ wQ k aQ qF nQ ++ wM k aM mR mQ mN ++ wR k aR rF rS rVx rVy rMd rE rAx rAy rBx rBy rO rP rPx rPy rPd rQ rFi rLa rOn rLe rRi rHx rHy rHd rKx rKy rKd ++ wO k aO oL_327 oD) := hD.sub [17, 18, 19, 20, 21, 22, 23, 24, 25, 26, 27, 28, 29, 30, 31, 32, 33, 34, 35, 36, 37, 38, 39, 40, 41, 42, 43, 44, 45, 46, 47, 0, 1, 2, 3, 4, 5, 6, 7, 8, 9, 10, 11, 12, 13, 14, 15, 16, 48, 49] (by decide) rfl
        refine lv_istore (lv' := [(6, .int r327), (0, .ref b), (1, .ref (aC 0)), (2, .ref (aR 0)), (3, .ref (aO 0)), (4, .ref (aO 1)), (5, .int v5)]) hx hb dL_law_330 hl (by decide) rfl (fun ls hl => ?_)
        refine lv_aload_n hx hb dL_law_332 rfl (lv_at hl 3 rfl) ?_
        refine lv_aload_n hx hb dL_law_333 rfl (lv_at hl 1 rfl) ?_
        refine lv_iload hx hb dL_law_334 (lv_at hl 6 rfl) ?_
        refine lv_iconst (v := (1 : Int32)) hx hb dL_law_336 (by decide) ?_
        refine lv_iadd hx hb dL_law_337 ?_
        obtain ⟨hin, h⟩ := h
        refine va_sld hx hb hX hbl hbA hS hin dL_law_338 ?_
        refine lv_aload_n hx hb dL_law_339 rfl (lv_at hl 1 rfl) ?_
        refine lv_iload hx hb dL_law_340 (lv_at hl 6 rfl) ?_
        refine lv_iconst (v := (2 : Int32)) hx hb dL_law_342 (by decide) ?_
        refine lv_iadd hx hb dL_law_343 ?_
        obtain ⟨hin, h⟩ := h
        refine va_sld hx hb hX hbl hbA hS hin dL_law_344 ?_
        have hPc := hP.sub (ws' := wR k aR rF rS rVx rVy rMd rE rAx rAy rBx rBy rO rP rPx rPy rPd rQ rFi rLa rOn rLe rRi rHx rHy rHd rKx rKy rKd) [31, 32, 33, 34, 35, 36, 37, 38, 39, 40, 41, 42, 43, 44, 45, 46, 47] rfl
        have hDc := hD.sub (ws' := wR k aR rF rS rVx rVy rMd rE rAx rAy rBx rBy rO rP rPx rPy rPd rQ rFi rLa rOn rLe rRi rHx rHy rHd rKx rKy rKd) [31, 32, 33, 34, 35, 36, 37, 38, 39, 40, 41, 42, 43, 44, 45, 46, 47] (by decide) rfl
        have hFc := va_free (wc := wR k aR rF rS rVx rVy rMd rE rAx rAy rBx rBy rO rP rPx rPy rPd rQ rFi rLa rOn rLe rRi rHx rHy rHd rKx rKy rKd) hD hS hA [31, 32, 33, 34, 35, 36, 37, 38, 39, 40, 41, 42, 43, 44, 45, 46, 47] rfl
        refine va_calli (va_runV (C := RX5) (b := (aR 0)) (As := [.int (xs (v5 + (1 : Int32)).toNatClampNeg), .int (xs (v5 + (2 : Int32)).toNatClampNeg)]) (rest := []) ⟨hx, hb, hml, hown, hts⟩ (m_X5_point l D k aR rF rS rVx rVy rMd rE rAx rAy rBx rBy rO rP rPx rPy rPd rQ rFi rLa rOn rLe rRi rHx rHy rHd rKx rKy rKd (xs (v5 + (1 : Int32)).toNatClampNeg) (xs (v5 + (2 : Int32)).toNatClampNeg) _ _ h) (cwV 2 hts gL_law_X5_point rfl rfl rfl (by decide +kernel) ⟨Nat.le_of_ble_eq_true rfl, Nat.le_of_ble_eq_true rfl⟩) (preV_rw (ci := 5) (q0 := 0) (C := RX5) (T := TX5) (N := 27) hE hPc hDc rfl rfl) rfl rfl hl.1 rfl (lv_room (Nat.le_of_ble_eq_true rfl)) dL_law_345 ⟨by change _ ≤ 601024; omega, by change _ ≤ 7293034; omega⟩) hS (fun q _ h => hFc q h) hFc (fun r345 rF_345 t H1 locs ht hvm h hB hz1 hk1 hS => ?_)
        obtain ⟨hP1, hD1⟩ := hB
        rw [ht] at hP1
        obtain ⟨hP, hD⟩ := va_join (wr := wC k aC aE aP aQ aM cX cY cN cM ++ wE k aE fX fY lX lY oP nE ++ wP k aP pX pY pD pO nP ++ wQ k aQ qF nQ ++ wM k aM mR mQ mN ++ wO k aO oL_327 oD) (w1 := wR k aR rF_345 rS rVx rVy rMd rE rAx rAy rBx rBy rO rP rPx rPy rPd rQ rFi rLa rOn rLe rRi rHx rHy rHd rKx rKy rKd) hP hD [31, 32, 33, 34, 35, 36, 37, 38, 39, 40, 41, 42, 43, 44, 45, 46, 47] [0, 1, 2, 3, 4, 5, 6, 7, 8, 9, 10, 11, 12, 13, 14, 15, 16, 17, 18, 19, 20, 21, 22, 23, 24, 25, 26, 27, 28, 29, 30, 48, 49] rfl rfl (by decide) (by decide) hk1 hFc hP1 hD1
        generalize H1 = H at hP hS ⊢
        have hP : va_P D vwCl (wC k aC aE aP aQ aM cX cY cN cM ++ wE k aE fX fY lX lY oP nE ++ wP k aP pX pY pD pO nP ++ wQ k aQ qF nQ ++ wM k aM mR mQ mN ++ wR k aR rF_345 rS rVx rVy rMd rE rAx rAy rBx rBy rO rP rPx rPy rPd rQ rFi rLa rOn rLe rRi rHx rHy rHd rKx rKy rKd ++ wO k aO oL_327 oD) H := hP.sub [0, 1, 2, 3, 4, 5, 6, 7, 8, 9, 10, 11, 12, 13, 14, 15, 16, 17, 18, 19, 20, 21, 22, 23, 24, 25, 26, 27, 28, 29, 30, 33, 34, 35, 36, 37, 38, 39, 40, 41, 42, 43, 44, 45, 46, 47, 48, 49, 31, 32] rfl
        have hD : va_D A (wC k aC aE aP aQ aM cX cY cN cM ++ wE k aE fX fY lX lY oP nE ++ wP k aP pX pY pD pO nP ++ wQ k aQ qF nQ ++ wM k aM mR mQ mN ++ wR k aR rF_345 rS rVx rVy rMd rE rAx rAy rBx rBy rO rP rPx rPy rPd rQ rFi rLa rOn rLe rRi rHx rHy rHd rKx rKy rKd ++ wO k aO oL_327 oD) := hD.sub [0, 1, 2, 3, 4, 5, 6, 7, 8, 9, 10, 11, 12, 13, 14, 15, 16, 17, 18, 19, 20, 21, 22, 23, 24, 25, 26, 27, 28, 29, 30, 33, 34, 35, 36, 37, 38, 39, 40, 41, 42, 43, 44, 45, 46, 47, 48, 49, 31, 32] (by decide) rfl
        refine lv_istore (lv' := [(7, .int r345), (6, .int r327), (0, .ref b), (1, .ref (aC 0)), (2, .ref (aR 0)), (3, .ref (aO 0)), (4, .ref (aO 1)), (5, .int v5)]) hx hb dL_law_348 hl (by decide) rfl (fun ls hl => ?_)
        refine lv_aload_n hx hb dL_law_350 rfl (lv_at hl 4 rfl) ?_
        have hPc := hP.sub (ws' := wR k aR rF_345 rS rVx rVy rMd rE rAx rAy rBx rBy rO rP rPx rPy rPd rQ rFi rLa rOn rLe rRi rHx rHy rHd rKx rKy rKd) [31, 32, 33, 34, 35, 36, 37, 38, 39, 40, 41, 42, 43, 44, 45, 46, 47] rfl
        refine vp_callSi (W.runV (C := RX5) (b := (aR 0)) (As := []) (rest := []) ⟨hx, hb, hml, hown, hts⟩ (m_X5_thrown l D k aR rF_345 rS rVx rVy rMd rE rAx rAy rBx rBy rO rP rPx rPy rPd rQ rFi rLa rOn rLe rRi rHx rHy rHd rKx rKy rKd  _ h) (cwV 0 hts gL_law_X5_thrown rfl rfl rfl (by decide +kernel) ⟨Nat.le_of_ble_eq_true rfl, Nat.le_of_ble_eq_true rfl⟩) (preV_ro (ci := 5) (q0 := 0) (C := RX5) (T := TX5) (N := 27) hE hPc rfl rfl) rfl rfl hl.1 rfl (lv_room (Nat.le_of_ble_eq_true rfl)) dL_law_351 ⟨by change _ ≤ 601024; omega, by change _ ≤ 7293034; omega⟩) (fun r351 h => ?_)
        refine lv_iload hx hb dL_law_354 (lv_at hl 1 rfl) ?_
        refine lv_icmp_eq (tgt := 361) hx hb dL_law_356 (by decide) (fun cq => ?_) (fun cq => ?_)
        · have h := h.1 cq
          refine lv_iload hx hb dL_law_361 (lv_at hl 1 rfl) ?_
          refine lv_if_ne (tgt := 378) hx hb dL_law_363 (by decide) (fun cq => ?_) (fun cq => ?_)
          · have h := h.1 cq
            exact L378 v5 cX cY cN cM fX fY lX lY oP nE pX pY pD pO nP qF nQ mR mQ mN rF_345 rS rVx rVy rMd rE rAx rAy rBx rBy rO rP rPx rPy rPd rQ rFi rLa rOn rLe rRi rHx rHy rHd rKx rKy rKd oL_327 oD _ _ _ _ _ (by omega) (by omega) h hP hD hS (lv_sub hl [2, 3, 4, 5, 6, 7] rfl)
          · have h := h.2 cq
            refine lv_aload_n hx hb dL_law_366 rfl (lv_at hl 5 rfl) ?_
            refine lv_iconst (v := (0 : Int32)) hx hb dL_law_367 (by decide) ?_
            obtain ⟨hin, h⟩ := h
            refine va_lald hx hb hK hP 48 2 rfl rfl hin dL_law_368 ?_
            refine lv_iload hx hb dL_law_369 (lv_at hl 0 rfl) ?_
            refine lv_i2l hx hb dL_law_371 rfl ?_
            refine W.lcmp hx hb dL_law_372 ?_
            refine lv_if_eq (tgt := 378) hx hb dL_law_373 (by decide) (fun cq => ?_) (fun cq => ?_)
            · have h := h.1 ((lg_cmp_eq _ _).mp cq)
              exact L378 v5 cX cY cN cM fX fY lX lY oP nE pX pY pD pO nP qF nQ mR mQ mN rF_345 rS rVx rVy rMd rE rAx rAy rBx rBy rO rP rPx rPy rPd rQ rFi rLa rOn rLe rRi rHx rHy rHd rKx rKy rKd oL_327 oD _ _ _ _ _ (by omega) (by omega) h hP hD hS (lv_sub hl [2, 3, 4, 5, 6, 7] rfl)
            · have h := h.2 (fun q => cq ((lg_cmp_eq _ _).mpr q))
              refine lv_iconst (v := (0 : Int32)) hx hb dL_law_376 (by decide) ?_
              rw [h]
              refine va_forget (fun q hq => hf9 _ (hS.2.2 q hq)) ?_
              refine W.widen (k := 601024) (n := 7293034) (by omega) (by omega) ?_
              exact lw_ret hx hb hr hlocks dL_law_377
        · have h := h.2 cq
          refine lv_iconst (v := (0 : Int32)) hx hb dL_law_359 (by decide) ?_
          rw [h]
          refine va_forget (fun q hq => hf9 _ (hS.2.2 q hq)) ?_
          refine W.widen (k := 601024) (n := 7293034) (by omega) (by omega) ?_
          exact lw_ret hx hb hr hlocks dL_law_360
      by_cases c5 : x44 = 5
      · have h := h.2.2.2.2.2.1 c5
        refine lv_tableIn (tgt := 381) hx hb dL_law_44 (by rw [c5]; decide) (by rw [c5]; decide) (by rw [c5]; rfl) (by decide) ?_
        refine lv_aload_n hx hb dL_law_381 rfl (lv_at hl 1 rfl) ?_
        refine lv_aload_n hx hb dL_law_382 rfl (lv_at hl 0 rfl) ?_
        refine lv_iload hx hb dL_law_383 (lv_at hl 5 rfl) ?_
        refine lv_iconst (v := (1 : Int32)) hx hb dL_law_385 (by decide) ?_
        refine lv_iadd hx hb dL_law_386 ?_
        obtain ⟨hin, h⟩ := h
        refine va_sld hx hb hX hbl hbA hS hin dL_law_387 ?_
        refine lv_aload_n hx hb dL_law_388 rfl (lv_at hl 0 rfl) ?_
        refine lv_iload hx hb dL_law_389 (lv_at hl 5 rfl) ?_
        refine lv_iconst (v := (2 : Int32)) hx hb dL_law_391 (by decide) ?_
        refine lv_iadd hx hb dL_law_392 ?_
        obtain ⟨hin, h⟩ := h
        refine va_sld hx hb hX hbl hbA hS hin dL_law_393 ?_
        refine lv_aload_n hx hb dL_law_394 rfl (lv_at hl 3 rfl) ?_
        have hPc := hP.sub (ws' := wC k aC aE aP aQ aM cX cY cN cM ++ wE k aE fX fY lX lY oP nE ++ wP k aP pX pY pD pO nP ++ wQ k aQ qF nQ ++ wM k aM mR mQ mN ++ wO k aO oL oD) [0, 1, 2, 3, 4, 5, 6, 7, 8, 9, 10, 11, 12, 13, 14, 15, 16, 17, 18, 19, 20, 21, 22, 23, 24, 25, 26, 27, 28, 29, 30, 48, 49] rfl
        have hDc := hD.sub (ws' := wC k aC aE aP aQ aM cX cY cN cM ++ wE k aE fX fY lX lY oP nE ++ wP k aP pX pY pD pO nP ++ wQ k aQ qF nQ ++ wM k aM mR mQ mN ++ wO k aO oL oD) [0, 1, 2, 3, 4, 5, 6, 7, 8, 9, 10, 11, 12, 13, 14, 15, 16, 17, 18, 19, 20, 21, 22, 23, 24, 25, 26, 27, 28, 29, 30, 48, 49] (by decide) rfl
        have hFc := va_free (wc := wC k aC aE aP aQ aM cX cY cN cM ++ wE k aE fX fY lX lY oP nE ++ wP k aP pX pY pD pO nP ++ wQ k aQ qF nQ ++ wM k aM mR mQ mN ++ wO k aO oL oD) hD hS hA [0, 1, 2, 3, 4, 5, 6, 7, 8, 9, 10, 11, 12, 13, 14, 15, 16, 17, 18, 19, 20, 21, 22, 23, 24, 25, 26, 27, 28, 29, 30, 48, 49] rfl
        refine va_calli (vx_runSW (As := [.ref (aC 0), .int (xs (v5 + (1 : Int32)).toNatClampNeg), .int (xs (v5 + (2 : Int32)).toNatClampNeg), .ref (aO 0)]) (rest := []) ⟨hx, hb, hml, hown, hts⟩ (m_L_piece l D k aC aE aP aQ aM aO cX cY cN cM fX fY lX lY oP nE pX pY pD pO nP qF nQ mR mQ mN oL oD (xs (v5 + (1 : Int32)).toNatClampNeg) (xs (v5 + (2 : Int32)).toNatClampNeg) _ _ hlt h) (vx_cwSW 4 hts gL_law_L_piece rfl rfl rfl (by decide +kernel) ⟨Nat.le_of_ble_eq_true rfl, Nat.le_of_ble_eq_true rfl⟩) (preS_th hE hT hS hFc hPc hDc) rfl rfl hl.1 rfl (lv_room (Nat.le_of_ble_eq_true rfl)) dL_law_395 ⟨by change _ ≤ 601024; omega, by change _ ≤ 7293034; omega⟩) hS (fun q _ h => hFc q h) hFc (fun r395 oL_395 t H1 locs ht hvm h hB hz1 hk1 hS => ?_)
        obtain ⟨hP1, hD1⟩ := hB
        rw [ht] at hP1
        obtain ⟨hP, hD⟩ := va_join (wr := wR k aR rF rS rVx rVy rMd rE rAx rAy rBx rBy rO rP rPx rPy rPd rQ rFi rLa rOn rLe rRi rHx rHy rHd rKx rKy rKd) (w1 := wC k aC aE aP aQ aM cX cY cN cM ++ wE k aE fX fY lX lY oP nE ++ wP k aP pX pY pD pO nP ++ wQ k aQ qF nQ ++ wM k aM mR mQ mN ++ wO k aO oL_395 oD) hP hD [0, 1, 2, 3, 4, 5, 6, 7, 8, 9, 10, 11, 12, 13, 14, 15, 16, 17, 18, 19, 20, 21, 22, 23, 24, 25, 26, 27, 28, 29, 30, 48, 49] [31, 32, 33, 34, 35, 36, 37, 38, 39, 40, 41, 42, 43, 44, 45, 46, 47] rfl rfl (by decide) (by decide) hk1 hFc hP1 hD1
        generalize H1 = H at hP hS ⊢
        have hP : va_P D vwCl (wC k aC aE aP aQ aM cX cY cN cM ++ wE k aE fX fY lX lY oP nE ++ wP k aP pX pY pD pO nP ++ wQ k aQ qF nQ ++ wM k aM mR mQ mN ++ wR k aR rF rS rVx rVy rMd rE rAx rAy rBx rBy rO rP rPx rPy rPd rQ rFi rLa rOn rLe rRi rHx rHy rHd rKx rKy rKd ++ wO k aO oL_395 oD) H := hP.sub [17, 18, 19, 20, 21, 22, 23, 24, 25, 26, 27, 28, 29, 30, 31, 32, 33, 34, 35, 36, 37, 38, 39, 40, 41, 42, 43, 44, 45, 46, 47, 0, 1, 2, 3, 4, 5, 6, 7, 8, 9, 10, 11, 12, 13, 14, 15, 16, 48, 49] rfl
        have hD : va_D A (wC k aC aE aP aQ aM cX cY cN cM ++ wE k aE fX fY lX lY oP nE ++ wP k aP pX pY pD pO nP ++ wQ k aQ qF nQ ++ wM k aM mR mQ mN ++ wR k aR rF rS rVx rVy rMd rE rAx rAy rBx rBy rO rP rPx rPy rPd rQ rFi rLa rOn rLe rRi rHx rHy rHd rKx rKy rKd ++ wO k aO oL_395 oD) := hD.sub [17, 18, 19, 20, 21, 22, 23, 24, 25, 26, 27, 28, 29, 30, 31, 32, 33, 34, 35, 36, 37, 38, 39, 40, 41, 42, 43, 44, 45, 46, 47, 0, 1, 2, 3, 4, 5, 6, 7, 8, 9, 10, 11, 12, 13, 14, 15, 16, 48, 49] (by decide) rfl
        refine lv_istore (lv' := [(6, .int r395), (0, .ref b), (1, .ref (aC 0)), (2, .ref (aR 0)), (3, .ref (aO 0)), (4, .ref (aO 1)), (5, .int v5)]) hx hb dL_law_398 hl (by decide) rfl (fun ls hl => ?_)
        refine lv_aload_n hx hb dL_law_400 rfl (lv_at hl 3 rfl) ?_
        refine lv_aload_n hx hb dL_law_401 rfl (lv_at hl 1 rfl) ?_
        refine lv_iload hx hb dL_law_402 (lv_at hl 6 rfl) ?_
        refine lv_iconst (v := (1 : Int32)) hx hb dL_law_404 (by decide) ?_
        refine lv_iadd hx hb dL_law_405 ?_
        obtain ⟨hin, h⟩ := h
        refine va_sld hx hb hX hbl hbA hS hin dL_law_406 ?_
        refine lv_aload_n hx hb dL_law_407 rfl (lv_at hl 1 rfl) ?_
        refine lv_iload hx hb dL_law_408 (lv_at hl 6 rfl) ?_
        refine lv_iconst (v := (2 : Int32)) hx hb dL_law_410 (by decide) ?_
        refine lv_iadd hx hb dL_law_411 ?_
        obtain ⟨hin, h⟩ := h
        refine va_sld hx hb hX hbl hbA hS hin dL_law_412 ?_
        have hPc := hP.sub (ws' := wR k aR rF rS rVx rVy rMd rE rAx rAy rBx rBy rO rP rPx rPy rPd rQ rFi rLa rOn rLe rRi rHx rHy rHd rKx rKy rKd) [31, 32, 33, 34, 35, 36, 37, 38, 39, 40, 41, 42, 43, 44, 45, 46, 47] rfl
        have hDc := hD.sub (ws' := wR k aR rF rS rVx rVy rMd rE rAx rAy rBx rBy rO rP rPx rPy rPd rQ rFi rLa rOn rLe rRi rHx rHy rHd rKx rKy rKd) [31, 32, 33, 34, 35, 36, 37, 38, 39, 40, 41, 42, 43, 44, 45, 46, 47] (by decide) rfl
        have hFc := va_free (wc := wR k aR rF rS rVx rVy rMd rE rAx rAy rBx rBy rO rP rPx rPy rPd rQ rFi rLa rOn rLe rRi rHx rHy rHd rKx rKy rKd) hD hS hA [31, 32, 33, 34, 35, 36, 37, 38, 39, 40, 41, 42, 43, 44, 45, 46, 47] rfl
        refine va_calli (va_runV (C := RX5) (b := (aR 0)) (As := [.int (xs (v5 + (1 : Int32)).toNatClampNeg), .int (xs (v5 + (2 : Int32)).toNatClampNeg)]) (rest := []) ⟨hx, hb, hml, hown, hts⟩ (m_X5_piece l D k aR rF rS rVx rVy rMd rE rAx rAy rBx rBy rO rP rPx rPy rPd rQ rFi rLa rOn rLe rRi rHx rHy rHd rKx rKy rKd (xs (v5 + (1 : Int32)).toNatClampNeg) (xs (v5 + (2 : Int32)).toNatClampNeg) _ _ h) (cwV 2 hts gL_law_X5_piece rfl rfl rfl (by decide +kernel) ⟨Nat.le_of_ble_eq_true rfl, Nat.le_of_ble_eq_true rfl⟩) (preV_rw (ci := 5) (q0 := 0) (C := RX5) (T := TX5) (N := 27) hE hPc hDc rfl rfl) rfl rfl hl.1 rfl (lv_room (Nat.le_of_ble_eq_true rfl)) dL_law_413 ⟨by change _ ≤ 601024; omega, by change _ ≤ 7293034; omega⟩) hS (fun q _ h => hFc q h) hFc (fun r413 rF_413 t H1 locs ht hvm h hB hz1 hk1 hS => ?_)
        obtain ⟨hP1, hD1⟩ := hB
        rw [ht] at hP1
        obtain ⟨hP, hD⟩ := va_join (wr := wC k aC aE aP aQ aM cX cY cN cM ++ wE k aE fX fY lX lY oP nE ++ wP k aP pX pY pD pO nP ++ wQ k aQ qF nQ ++ wM k aM mR mQ mN ++ wO k aO oL_395 oD) (w1 := wR k aR rF_413 rS rVx rVy rMd rE rAx rAy rBx rBy rO rP rPx rPy rPd rQ rFi rLa rOn rLe rRi rHx rHy rHd rKx rKy rKd) hP hD [31, 32, 33, 34, 35, 36, 37, 38, 39, 40, 41, 42, 43, 44, 45, 46, 47] [0, 1, 2, 3, 4, 5, 6, 7, 8, 9, 10, 11, 12, 13, 14, 15, 16, 17, 18, 19, 20, 21, 22, 23, 24, 25, 26, 27, 28, 29, 30, 48, 49] rfl rfl (by decide) (by decide) hk1 hFc hP1 hD1
        generalize H1 = H at hP hS ⊢
        have hP : va_P D vwCl (wC k aC aE aP aQ aM cX cY cN cM ++ wE k aE fX fY lX lY oP nE ++ wP k aP pX pY pD pO nP ++ wQ k aQ qF nQ ++ wM k aM mR mQ mN ++ wR k aR rF_413 rS rVx rVy rMd rE rAx rAy rBx rBy rO rP rPx rPy rPd rQ rFi rLa rOn rLe rRi rHx rHy rHd rKx rKy rKd ++ wO k aO oL_395 oD) H := hP.sub [0, 1, 2, 3, 4, 5, 6, 7, 8, 9, 10, 11, 12, 13, 14, 15, 16, 17, 18, 19, 20, 21, 22, 23, 24, 25, 26, 27, 28, 29, 30, 33, 34, 35, 36, 37, 38, 39, 40, 41, 42, 43, 44, 45, 46, 47, 48, 49, 31, 32] rfl
        have hD : va_D A (wC k aC aE aP aQ aM cX cY cN cM ++ wE k aE fX fY lX lY oP nE ++ wP k aP pX pY pD pO nP ++ wQ k aQ qF nQ ++ wM k aM mR mQ mN ++ wR k aR rF_413 rS rVx rVy rMd rE rAx rAy rBx rBy rO rP rPx rPy rPd rQ rFi rLa rOn rLe rRi rHx rHy rHd rKx rKy rKd ++ wO k aO oL_395 oD) := hD.sub [0, 1, 2, 3, 4, 5, 6, 7, 8, 9, 10, 11, 12, 13, 14, 15, 16, 17, 18, 19, 20, 21, 22, 23, 24, 25, 26, 27, 28, 29, 30, 33, 34, 35, 36, 37, 38, 39, 40, 41, 42, 43, 44, 45, 46, 47, 48, 49, 31, 32] (by decide) rfl
        refine lv_istore (lv' := [(7, .int r413), (6, .int r395), (0, .ref b), (1, .ref (aC 0)), (2, .ref (aR 0)), (3, .ref (aO 0)), (4, .ref (aO 1)), (5, .int v5)]) hx hb dL_law_416 hl (by decide) rfl (fun ls hl => ?_)
        refine lv_aload_n hx hb dL_law_418 rfl (lv_at hl 4 rfl) ?_
        have hPc := hP.sub (ws' := wR k aR rF_413 rS rVx rVy rMd rE rAx rAy rBx rBy rO rP rPx rPy rPd rQ rFi rLa rOn rLe rRi rHx rHy rHd rKx rKy rKd) [31, 32, 33, 34, 35, 36, 37, 38, 39, 40, 41, 42, 43, 44, 45, 46, 47] rfl
        refine vp_callSi (W.runV (C := RX5) (b := (aR 0)) (As := []) (rest := []) ⟨hx, hb, hml, hown, hts⟩ (m_X5_thrown l D k aR rF_413 rS rVx rVy rMd rE rAx rAy rBx rBy rO rP rPx rPy rPd rQ rFi rLa rOn rLe rRi rHx rHy rHd rKx rKy rKd  _ h) (cwV 0 hts gL_law_X5_thrown rfl rfl rfl (by decide +kernel) ⟨Nat.le_of_ble_eq_true rfl, Nat.le_of_ble_eq_true rfl⟩) (preV_ro (ci := 5) (q0 := 0) (C := RX5) (T := TX5) (N := 27) hE hPc rfl rfl) rfl rfl hl.1 rfl (lv_room (Nat.le_of_ble_eq_true rfl)) dL_law_419 ⟨by change _ ≤ 601024; omega, by change _ ≤ 7293034; omega⟩) (fun r419 h => ?_)
        refine lv_iload hx hb dL_law_422 (lv_at hl 1 rfl) ?_
        refine lv_icmp_eq (tgt := 429) hx hb dL_law_424 (by decide) (fun cq => ?_) (fun cq => ?_)
        · have h := h.1 cq
          refine lv_iload hx hb dL_law_429 (lv_at hl 1 rfl) ?_
          refine lv_if_ne (tgt := 446) hx hb dL_law_431 (by decide) (fun cq => ?_) (fun cq => ?_)
          · have h := h.1 cq
            exact L446 v5 cX cY cN cM fX fY lX lY oP nE pX pY pD pO nP qF nQ mR mQ mN rF_413 rS rVx rVy rMd rE rAx rAy rBx rBy rO rP rPx rPy rPd rQ rFi rLa rOn rLe rRi rHx rHy rHd rKx rKy rKd oL_395 oD _ _ _ _ _ (by omega) (by omega) h hP hD hS (lv_sub hl [2, 3, 4, 5, 6, 7] rfl)
          · have h := h.2 cq
            refine lv_aload_n hx hb dL_law_434 rfl (lv_at hl 5 rfl) ?_
            refine lv_iconst (v := (0 : Int32)) hx hb dL_law_435 (by decide) ?_
            obtain ⟨hin, h⟩ := h
            refine va_lald hx hb hK hP 48 2 rfl rfl hin dL_law_436 ?_
            refine lv_iload hx hb dL_law_437 (lv_at hl 0 rfl) ?_
            refine lv_i2l hx hb dL_law_439 rfl ?_
            refine W.lcmp hx hb dL_law_440 ?_
            refine lv_if_eq (tgt := 446) hx hb dL_law_441 (by decide) (fun cq => ?_) (fun cq => ?_)
            · have h := h.1 ((lg_cmp_eq _ _).mp cq)
              exact L446 v5 cX cY cN cM fX fY lX lY oP nE pX pY pD pO nP qF nQ mR mQ mN rF_413 rS rVx rVy rMd rE rAx rAy rBx rBy rO rP rPx rPy rPd rQ rFi rLa rOn rLe rRi rHx rHy rHd rKx rKy rKd oL_395 oD _ _ _ _ _ (by omega) (by omega) h hP hD hS (lv_sub hl [2, 3, 4, 5, 6, 7] rfl)
            · have h := h.2 (fun q => cq ((lg_cmp_eq _ _).mpr q))
              refine lv_iconst (v := (0 : Int32)) hx hb dL_law_444 (by decide) ?_
              rw [h]
              refine va_forget (fun q hq => hf9 _ (hS.2.2 q hq)) ?_
              refine W.widen (k := 601024) (n := 7293034) (by omega) (by omega) ?_
              exact lw_ret hx hb hr hlocks dL_law_445
        · have h := h.2 cq
          refine lv_iconst (v := (0 : Int32)) hx hb dL_law_427 (by decide) ?_
          rw [h]
          refine va_forget (fun q hq => hf9 _ (hS.2.2 q hq)) ?_
          refine W.widen (k := 601024) (n := 7293034) (by omega) (by omega) ?_
          exact lw_ret hx hb hr hlocks dL_law_428
      by_cases c6 : x44 = 6
      · have h := h.2.2.2.2.2.2.1 c6
        refine lv_tableIn (tgt := 449) hx hb dL_law_44 (by rw [c6]; decide) (by rw [c6]; decide) (by rw [c6]; rfl) (by decide) ?_
        refine lv_aload_n hx hb dL_law_449 rfl (lv_at hl 1 rfl) ?_
        refine lv_aload_n hx hb dL_law_450 rfl (lv_at hl 0 rfl) ?_
        refine lv_iload hx hb dL_law_451 (lv_at hl 5 rfl) ?_
        refine lv_iconst (v := (1 : Int32)) hx hb dL_law_453 (by decide) ?_
        refine lv_iadd hx hb dL_law_454 ?_
        obtain ⟨hin, h⟩ := h
        refine va_sld hx hb hX hbl hbA hS hin dL_law_455 ?_
        refine lv_aload_n hx hb dL_law_456 rfl (lv_at hl 0 rfl) ?_
        refine lv_iload hx hb dL_law_457 (lv_at hl 5 rfl) ?_
        refine lv_iconst (v := (2 : Int32)) hx hb dL_law_459 (by decide) ?_
        refine lv_iadd hx hb dL_law_460 ?_
        obtain ⟨hin, h⟩ := h
        refine va_sld hx hb hX hbl hbA hS hin dL_law_461 ?_
        refine lv_aload_n hx hb dL_law_462 rfl (lv_at hl 3 rfl) ?_
        have hPc := hP.sub (ws' := wC k aC aE aP aQ aM cX cY cN cM ++ wE k aE fX fY lX lY oP nE ++ wP k aP pX pY pD pO nP ++ wQ k aQ qF nQ ++ wM k aM mR mQ mN ++ wO k aO oL oD) [0, 1, 2, 3, 4, 5, 6, 7, 8, 9, 10, 11, 12, 13, 14, 15, 16, 17, 18, 19, 20, 21, 22, 23, 24, 25, 26, 27, 28, 29, 30, 48, 49] rfl
        have hDc := hD.sub (ws' := wC k aC aE aP aQ aM cX cY cN cM ++ wE k aE fX fY lX lY oP nE ++ wP k aP pX pY pD pO nP ++ wQ k aQ qF nQ ++ wM k aM mR mQ mN ++ wO k aO oL oD) [0, 1, 2, 3, 4, 5, 6, 7, 8, 9, 10, 11, 12, 13, 14, 15, 16, 17, 18, 19, 20, 21, 22, 23, 24, 25, 26, 27, 28, 29, 30, 48, 49] (by decide) rfl
        have hFc := va_free (wc := wC k aC aE aP aQ aM cX cY cN cM ++ wE k aE fX fY lX lY oP nE ++ wP k aP pX pY pD pO nP ++ wQ k aQ qF nQ ++ wM k aM mR mQ mN ++ wO k aO oL oD) hD hS hA [0, 1, 2, 3, 4, 5, 6, 7, 8, 9, 10, 11, 12, 13, 14, 15, 16, 17, 18, 19, 20, 21, 22, 23, 24, 25, 26, 27, 28, 29, 30, 48, 49] rfl
        refine va_calli (vx_runSW (As := [.ref (aC 0), .int (xs (v5 + (1 : Int32)).toNatClampNeg), .int (xs (v5 + (2 : Int32)).toNatClampNeg), .ref (aO 0)]) (rest := []) ⟨hx, hb, hml, hown, hts⟩ (m_L_common l D k aC aE aP aQ aM aO cX cY cN cM fX fY lX lY oP nE pX pY pD pO nP qF nQ mR mQ mN oL oD (xs (v5 + (1 : Int32)).toNatClampNeg) (xs (v5 + (2 : Int32)).toNatClampNeg) _ _ hlt h) (vx_cwSW 4 hts gL_law_L_common rfl rfl rfl (by decide +kernel) ⟨Nat.le_of_ble_eq_true rfl, Nat.le_of_ble_eq_true rfl⟩) (preS_th hE hT hS hFc hPc hDc) rfl rfl hl.1 rfl (lv_room (Nat.le_of_ble_eq_true rfl)) dL_law_463 ⟨by change _ ≤ 601024; omega, by change _ ≤ 7293034; omega⟩) hS (fun q _ h => hFc q h) hFc (fun r463 oL_463 t H1 locs ht hvm h hB hz1 hk1 hS => ?_)
        obtain ⟨hP1, hD1⟩ := hB
        rw [ht] at hP1
        obtain ⟨hP, hD⟩ := va_join (wr := wR k aR rF rS rVx rVy rMd rE rAx rAy rBx rBy rO rP rPx rPy rPd rQ rFi rLa rOn rLe rRi rHx rHy rHd rKx rKy rKd) (w1 := wC k aC aE aP aQ aM cX cY cN cM ++ wE k aE fX fY lX lY oP nE ++ wP k aP pX pY pD pO nP ++ wQ k aQ qF nQ ++ wM k aM mR mQ mN ++ wO k aO oL_463 oD) hP hD [0, 1, 2, 3, 4, 5, 6, 7, 8, 9, 10, 11, 12, 13, 14, 15, 16, 17, 18, 19, 20, 21, 22, 23, 24, 25, 26, 27, 28, 29, 30, 48, 49] [31, 32, 33, 34, 35, 36, 37, 38, 39, 40, 41, 42, 43, 44, 45, 46, 47] rfl rfl (by decide) (by decide) hk1 hFc hP1 hD1
        generalize H1 = H at hP hS ⊢
        have hP : va_P D vwCl (wC k aC aE aP aQ aM cX cY cN cM ++ wE k aE fX fY lX lY oP nE ++ wP k aP pX pY pD pO nP ++ wQ k aQ qF nQ ++ wM k aM mR mQ mN ++ wR k aR rF rS rVx rVy rMd rE rAx rAy rBx rBy rO rP rPx rPy rPd rQ rFi rLa rOn rLe rRi rHx rHy rHd rKx rKy rKd ++ wO k aO oL_463 oD) H := hP.sub [17, 18, 19, 20, 21, 22, 23, 24, 25, 26, 27, 28, 29, 30, 31, 32, 33, 34, 35, 36, 37, 38, 39, 40, 41, 42, 43, 44, 45, 46, 47, 0, 1, 2, 3, 4, 5, 6, 7, 8, 9, 10, 11, 12, 13, 14, 15, 16, 48, 49] rfl
        have hD : va_D A (wC k aC aE aP aQ aM cX cY cN cM ++ wE k aE fX fY lX lY oP nE ++ wP k aP pX pY pD pO nP ++ wQ k aQ qF nQ ++ wM k aM mR mQ mN ++ wR k aR rF rS rVx rVy rMd rE rAx rAy rBx rBy rO rP rPx rPy rPd rQ rFi rLa rOn rLe rRi rHx rHy rHd rKx rKy rKd ++ wO k aO oL_463 oD) := hD.sub [17, 18, 19, 20, 21, 22, 23, 24, 25, 26, 27, 28, 29, 30, 31, 32, 33, 34, 35, 36, 37, 38, 39, 40, 41, 42, 43, 44, 45, 46, 47, 0, 1, 2, 3, 4, 5, 6, 7, 8, 9, 10, 11, 12, 13, 14, 15, 16, 48, 49] (by decide) rfl
        refine lv_istore (lv' := [(6, .int r463), (0, .ref b), (1, .ref (aC 0)), (2, .ref (aR 0)), (3, .ref (aO 0)), (4, .ref (aO 1)), (5, .int v5)]) hx hb dL_law_466 hl (by decide) rfl (fun ls hl => ?_)
        refine lv_aload_n hx hb dL_law_468 rfl (lv_at hl 3 rfl) ?_
        refine lv_aload_n hx hb dL_law_469 rfl (lv_at hl 1 rfl) ?_
        refine lv_iload hx hb dL_law_470 (lv_at hl 6 rfl) ?_
        refine lv_iconst (v := (1 : Int32)) hx hb dL_law_472 (by decide) ?_
        refine lv_iadd hx hb dL_law_473 ?_
        obtain ⟨hin, h⟩ := h
        refine va_sld hx hb hX hbl hbA hS hin dL_law_474 ?_
        refine lv_aload_n hx hb dL_law_475 rfl (lv_at hl 1 rfl) ?_
        refine lv_iload hx hb dL_law_476 (lv_at hl 6 rfl) ?_
        refine lv_iconst (v := (2 : Int32)) hx hb dL_law_478 (by decide) ?_
        refine lv_iadd hx hb dL_law_479 ?_
        obtain ⟨hin, h⟩ := h
        refine va_sld hx hb hX hbl hbA hS hin dL_law_480 ?_
        have hPc := hP.sub (ws' := wR k aR rF rS rVx rVy rMd rE rAx rAy rBx rBy rO rP rPx rPy rPd rQ rFi rLa rOn rLe rRi rHx rHy rHd rKx rKy rKd) [31, 32, 33, 34, 35, 36, 37, 38, 39, 40, 41, 42, 43, 44, 45, 46, 47] rfl
        have hDc := hD.sub (ws' := wR k aR rF rS rVx rVy rMd rE rAx rAy rBx rBy rO rP rPx rPy rPd rQ rFi rLa rOn rLe rRi rHx rHy rHd rKx rKy rKd) [31, 32, 33, 34, 35, 36, 37, 38, 39, 40, 41, 42, 43, 44, 45, 46, 47] (by decide) rfl
        have hFc := va_free (wc := wR k aR rF rS rVx rVy rMd rE rAx rAy rBx rBy rO rP rPx rPy rPd rQ rFi rLa rOn rLe rRi rHx rHy rHd rKx rKy rKd) hD hS hA [31, 32, 33, 34, 35, 36, 37, 38, 39, 40, 41, 42, 43, 44, 45, 46, 47] rfl
        refine va_calli (va_runV (C := RX5) (b := (aR 0)) (As := [.int (xs (v5 + (1 : Int32)).toNatClampNeg), .int (xs (v5 + (2 : Int32)).toNatClampNeg)]) (rest := []) ⟨hx, hb, hml, hown, hts⟩ (m_X5_common l D k aR rF rS rVx rVy rMd rE rAx rAy rBx rBy rO rP rPx rPy rPd rQ rFi rLa rOn rLe rRi rHx rHy rHd rKx rKy rKd (xs (v5 + (1 : Int32)).toNatClampNeg) (xs (v5 + (2 : Int32)).toNatClampNeg) _ _ h) (cwV 2 hts gL_law_X5_common rfl rfl rfl (by decide +kernel) ⟨Nat.le_of_ble_eq_true rfl, Nat.le_of_ble_eq_true rfl⟩) (preV_rw (ci := 5) (q0 := 0) (C := RX5) (T := TX5) (N := 27) hE hPc hDc rfl rfl) rfl rfl hl.1 rfl (lv_room (Nat.le_of_ble_eq_true rfl)) dL_law_481 ⟨by change _ ≤ 601024; omega, by change _ ≤ 7293034; omega⟩) hS (fun q _ h => hFc q h) hFc (fun r481 u t H1 locs ht hvm h hB hz1 hk1 hS => ?_)
        obtain ⟨rF_481, rHx_481, rHy_481, rHd_481, rKx_481, rKy_481, rKd_481⟩ := u
        obtain ⟨hP1, hD1⟩ := hB
        rw [ht] at hP1
        obtain ⟨hP, hD⟩ := va_join (wr := wC k aC aE aP aQ aM cX cY cN cM ++ wE k aE fX fY lX lY oP nE ++ wP k aP pX pY pD pO nP ++ wQ k aQ qF nQ ++ wM k aM mR mQ mN ++ wO k aO oL_463 oD) (w1 := wR k aR rF_481 rS rVx rVy rMd rE rAx rAy rBx rBy rO rP rPx rPy rPd rQ rFi rLa rOn rLe rRi rHx_481 rHy_481 rHd_481 rKx_481 rKy_481 rKd_481) hP hD [31, 32, 33, 34, 35, 36, 37, 38, 39, 40, 41, 42, 43, 44, 45, 46, 47] [0, 1, 2, 3, 4, 5, 6, 7, 8, 9, 10, 11, 12, 13, 14, 15, 16, 17, 18, 19, 20, 21, 22, 23, 24, 25, 26, 27, 28, 29, 30, 48, 49] rfl rfl (by decide) (by decide) hk1 hFc hP1 hD1
        generalize H1 = H at hP hS ⊢
        have hP : va_P D vwCl (wC k aC aE aP aQ aM cX cY cN cM ++ wE k aE fX fY lX lY oP nE ++ wP k aP pX pY pD pO nP ++ wQ k aQ qF nQ ++ wM k aM mR mQ mN ++ wR k aR rF_481 rS rVx rVy rMd rE rAx rAy rBx rBy rO rP rPx rPy rPd rQ rFi rLa rOn rLe rRi rHx_481 rHy_481 rHd_481 rKx_481 rKy_481 rKd_481 ++ wO k aO oL_463 oD) H := hP.sub [0, 1, 2, 3, 4, 5, 6, 7, 8, 9, 10, 11, 12, 13, 14, 15, 16, 17, 18, 19, 20, 21, 22, 23, 24, 25, 26, 27, 28, 29, 30, 33, 34, 35, 36, 37, 38, 39, 40, 41, 42, 43, 44, 45, 46, 47, 48, 49, 31, 32] rfl
        have hD : va_D A (wC k aC aE aP aQ aM cX cY cN cM ++ wE k aE fX fY lX lY oP nE ++ wP k aP pX pY pD pO nP ++ wQ k aQ qF nQ ++ wM k aM mR mQ mN ++ wR k aR rF_481 rS rVx rVy rMd rE rAx rAy rBx rBy rO rP rPx rPy rPd rQ rFi rLa rOn rLe rRi rHx_481 rHy_481 rHd_481 rKx_481 rKy_481 rKd_481 ++ wO k aO oL_463 oD) := hD.sub [0, 1, 2, 3, 4, 5, 6, 7, 8, 9, 10, 11, 12, 13, 14, 15, 16, 17, 18, 19, 20, 21, 22, 23, 24, 25, 26, 27, 28, 29, 30, 33, 34, 35, 36, 37, 38, 39, 40, 41, 42, 43, 44, 45, 46, 47, 48, 49, 31, 32] (by decide) rfl
        refine lv_istore (lv' := [(7, .int r481), (6, .int r463), (0, .ref b), (1, .ref (aC 0)), (2, .ref (aR 0)), (3, .ref (aO 0)), (4, .ref (aO 1)), (5, .int v5)]) hx hb dL_law_484 hl (by decide) rfl (fun ls hl => ?_)
        refine lv_aload_n hx hb dL_law_486 rfl (lv_at hl 4 rfl) ?_
        have hPc := hP.sub (ws' := wR k aR rF_481 rS rVx rVy rMd rE rAx rAy rBx rBy rO rP rPx rPy rPd rQ rFi rLa rOn rLe rRi rHx_481 rHy_481 rHd_481 rKx_481 rKy_481 rKd_481) [31, 32, 33, 34, 35, 36, 37, 38, 39, 40, 41, 42, 43, 44, 45, 46, 47] rfl
        refine vp_callSi (W.runV (C := RX5) (b := (aR 0)) (As := []) (rest := []) ⟨hx, hb, hml, hown, hts⟩ (m_X5_thrown l D k aR rF_481 rS rVx rVy rMd rE rAx rAy rBx rBy rO rP rPx rPy rPd rQ rFi rLa rOn rLe rRi rHx_481 rHy_481 rHd_481 rKx_481 rKy_481 rKd_481  _ h) (cwV 0 hts gL_law_X5_thrown rfl rfl rfl (by decide +kernel) ⟨Nat.le_of_ble_eq_true rfl, Nat.le_of_ble_eq_true rfl⟩) (preV_ro (ci := 5) (q0 := 0) (C := RX5) (T := TX5) (N := 27) hE hPc rfl rfl) rfl rfl hl.1 rfl (lv_room (Nat.le_of_ble_eq_true rfl)) dL_law_487 ⟨by change _ ≤ 601024; omega, by change _ ≤ 7293034; omega⟩) (fun r487 h => ?_)
        refine lv_iload hx hb dL_law_490 (lv_at hl 1 rfl) ?_
        refine lv_icmp_eq (tgt := 497) hx hb dL_law_492 (by decide) (fun cq => ?_) (fun cq => ?_)
        · have h := h.1 cq
          refine lv_iload hx hb dL_law_497 (lv_at hl 1 rfl) ?_
          refine lv_if_ne (tgt := 514) hx hb dL_law_499 (by decide) (fun cq => ?_) (fun cq => ?_)
          · have h := h.1 cq
            exact L514 v5 cX cY cN cM fX fY lX lY oP nE pX pY pD pO nP qF nQ mR mQ mN rF_481 rS rVx rVy rMd rE rAx rAy rBx rBy rO rP rPx rPy rPd rQ rFi rLa rOn rLe rRi rHx_481 rHy_481 rHd_481 rKx_481 rKy_481 rKd_481 oL_463 oD _ _ _ _ _ (by omega) (by omega) h hP hD hS (lv_sub hl [2, 3, 4, 5, 6, 7] rfl)
          · have h := h.2 cq
            refine lv_aload_n hx hb dL_law_502 rfl (lv_at hl 5 rfl) ?_
            refine lv_iconst (v := (0 : Int32)) hx hb dL_law_503 (by decide) ?_
            obtain ⟨hin, h⟩ := h
            refine va_lald hx hb hK hP 48 2 rfl rfl hin dL_law_504 ?_
            refine lv_iload hx hb dL_law_505 (lv_at hl 0 rfl) ?_
            refine lv_i2l hx hb dL_law_507 rfl ?_
            refine W.lcmp hx hb dL_law_508 ?_
            refine lv_if_eq (tgt := 514) hx hb dL_law_509 (by decide) (fun cq => ?_) (fun cq => ?_)
            · have h := h.1 ((lg_cmp_eq _ _).mp cq)
              exact L514 v5 cX cY cN cM fX fY lX lY oP nE pX pY pD pO nP qF nQ mR mQ mN rF_481 rS rVx rVy rMd rE rAx rAy rBx rBy rO rP rPx rPy rPd rQ rFi rLa rOn rLe rRi rHx_481 rHy_481 rHd_481 rKx_481 rKy_481 rKd_481 oL_463 oD _ _ _ _ _ (by omega) (by omega) h hP hD hS (lv_sub hl [2, 3, 4, 5, 6, 7] rfl)
            · have h := h.2 (fun q => cq ((lg_cmp_eq _ _).mpr q))
              refine lv_iconst (v := (0 : Int32)) hx hb dL_law_512 (by decide) ?_
              rw [h]
              refine va_forget (fun q hq => hf9 _ (hS.2.2 q hq)) ?_
              refine W.widen (k := 601024) (n := 7293034) (by omega) (by omega) ?_
              exact lw_ret hx hb hr hlocks dL_law_513
        · have h := h.2 cq
          refine lv_iconst (v := (0 : Int32)) hx hb dL_law_495 (by decide) ?_
          rw [h]
          refine va_forget (fun q hq => hf9 _ (hS.2.2 q hq)) ?_
          refine W.widen (k := 601024) (n := 7293034) (by omega) (by omega) ?_
          exact lw_ret hx hb hr hlocks dL_law_496
      by_cases c7 : x44 = 7
      · have h := h.2.2.2.2.2.2.2.1 c7
        refine lv_tableIn (tgt := 517) hx hb dL_law_44 (by rw [c7]; decide) (by rw [c7]; decide) (by rw [c7]; rfl) (by decide) ?_
        refine lv_aload_n hx hb dL_law_517 rfl (lv_at hl 1 rfl) ?_
        refine lv_aload_n hx hb dL_law_518 rfl (lv_at hl 0 rfl) ?_
        refine lv_iload hx hb dL_law_519 (lv_at hl 5 rfl) ?_
        refine lv_iconst (v := (1 : Int32)) hx hb dL_law_521 (by decide) ?_
        refine lv_iadd hx hb dL_law_522 ?_
        obtain ⟨hin, h⟩ := h
        refine va_sld hx hb hX hbl hbA hS hin dL_law_523 ?_
        refine lv_aload_n hx hb dL_law_524 rfl (lv_at hl 0 rfl) ?_
        refine lv_iload hx hb dL_law_525 (lv_at hl 5 rfl) ?_
        refine lv_iconst (v := (2 : Int32)) hx hb dL_law_527 (by decide) ?_
        refine lv_iadd hx hb dL_law_528 ?_
        obtain ⟨hin, h⟩ := h
        refine va_sld hx hb hX hbl hbA hS hin dL_law_529 ?_
        refine lv_aload_n hx hb dL_law_530 rfl (lv_at hl 0 rfl) ?_
        refine lv_iload hx hb dL_law_531 (lv_at hl 5 rfl) ?_
        refine lv_iconst (v := (3 : Int32)) hx hb dL_law_533 (by decide) ?_
        refine lv_iadd hx hb dL_law_534 ?_
        obtain ⟨hin, h⟩ := h
        refine va_sld hx hb hX hbl hbA hS hin dL_law_535 ?_
        refine lv_if_eq (tgt := 543) hx hb dL_law_536 (by decide) (fun cq => ?_) (fun cq => ?_)
        · have h := h.1 cq
          refine lv_iconst (v := (0 : Int32)) hx hb dL_law_543 (by decide) ?_
          exact L544 v5 (0 : Int32) (xs (v5 + (2 : Int32)).toNatClampNeg) (xs (v5 + (1 : Int32)).toNatClampNeg) cX cY cN cM fX fY lX lY oP nE pX pY pD pO nP qF nQ mR mQ mN rF rS rVx rVy rMd rE rAx rAy rBx rBy rO rP rPx rPy rPd rQ rFi rLa rOn rLe rRi rHx rHy rHd rKx rKy rKd oL oD _ _ _ _ _ (by omega) (by omega) h hP hD hS (lv_sub hl [0, 1, 2, 3, 4, 5] rfl)
        · have h := h.2 cq
          refine lv_iconst (v := (1 : Int32)) hx hb dL_law_539 (by decide) ?_
          refine lv_goto (tgt := 544) hx hb dL_law_540 (by decide) ?_
          exact L544 v5 (1 : Int32) (xs (v5 + (2 : Int32)).toNatClampNeg) (xs (v5 + (1 : Int32)).toNatClampNeg) cX cY cN cM fX fY lX lY oP nE pX pY pD pO nP qF nQ mR mQ mN rF rS rVx rVy rMd rE rAx rAy rBx rBy rO rP rPx rPy rPd rQ rFi rLa rOn rLe rRi rHx rHy rHd rKx rKy rKd oL oD _ _ _ _ _ (by omega) (by omega) h hP hD hS (lv_sub hl [0, 1, 2, 3, 4, 5] rfl)
      by_cases c8 : x44 = 8
      · have h := h.2.2.2.2.2.2.2.2.1 c8
        refine lv_tableIn (tgt := 613) hx hb dL_law_44 (by rw [c8]; decide) (by rw [c8]; decide) (by rw [c8]; rfl) (by decide) ?_
        refine lv_aload_n hx hb dL_law_613 rfl (lv_at hl 1 rfl) ?_
        refine lv_aload_n hx hb dL_law_614 rfl (lv_at hl 0 rfl) ?_
        refine lv_iload hx hb dL_law_615 (lv_at hl 5 rfl) ?_
        refine lv_iconst (v := (1 : Int32)) hx hb dL_law_617 (by decide) ?_
        refine lv_iadd hx hb dL_law_618 ?_
        obtain ⟨hin, h⟩ := h
        refine va_sld hx hb hX hbl hbA hS hin dL_law_619 ?_
        refine lv_aload_n hx hb dL_law_620 rfl (lv_at hl 3 rfl) ?_
        have hPc := hP.sub (ws' := wC k aC aE aP aQ aM cX cY cN cM ++ wE k aE fX fY lX lY oP nE ++ wP k aP pX pY pD pO nP ++ wQ k aQ qF nQ ++ wM k aM mR mQ mN ++ wO k aO oL oD) [0, 1, 2, 3, 4, 5, 6, 7, 8, 9, 10, 11, 12, 13, 14, 15, 16, 17, 18, 19, 20, 21, 22, 23, 24, 25, 26, 27, 28, 29, 30, 48, 49] rfl
        have hDc := hD.sub (ws' := wC k aC aE aP aQ aM cX cY cN cM ++ wE k aE fX fY lX lY oP nE ++ wP k aP pX pY pD pO nP ++ wQ k aQ qF nQ ++ wM k aM mR mQ mN ++ wO k aO oL oD) [0, 1, 2, 3, 4, 5, 6, 7, 8, 9, 10, 11, 12, 13, 14, 15, 16, 17, 18, 19, 20, 21, 22, 23, 24, 25, 26, 27, 28, 29, 30, 48, 49] (by decide) rfl
        have hFc := va_free (wc := wC k aC aE aP aQ aM cX cY cN cM ++ wE k aE fX fY lX lY oP nE ++ wP k aP pX pY pD pO nP ++ wQ k aQ qF nQ ++ wM k aM mR mQ mN ++ wO k aO oL oD) hD hS hA [0, 1, 2, 3, 4, 5, 6, 7, 8, 9, 10, 11, 12, 13, 14, 15, 16, 17, 18, 19, 20, 21, 22, 23, 24, 25, 26, 27, 28, 29, 30, 48, 49] rfl
        refine va_calli (vx_runSW (As := [.ref (aC 0), .int (xs (v5 + (1 : Int32)).toNatClampNeg), .ref (aO 0)]) (rest := []) ⟨hx, hb, hml, hown, hts⟩ (m_L_bounds l D k aC aE aP aQ aM aO cX cY cN cM fX fY lX lY oP nE pX pY pD pO nP qF nQ mR mQ mN oL oD (xs (v5 + (1 : Int32)).toNatClampNeg) _ _ hlt h) (vx_cwSW 3 hts gL_law_L_bounds rfl rfl rfl (by decide +kernel) ⟨Nat.le_of_ble_eq_true rfl, Nat.le_of_ble_eq_true rfl⟩) (preS_th hE hT hS hFc hPc hDc) rfl rfl hl.1 rfl (lv_room (Nat.le_of_ble_eq_true rfl)) dL_law_621 ⟨by change _ ≤ 601024; omega, by change _ ≤ 7293034; omega⟩) hS (fun q _ h => hFc q h) hFc (fun r621 oL_621 t H1 locs ht hvm h hB hz1 hk1 hS => ?_)
        obtain ⟨hP1, hD1⟩ := hB
        rw [ht] at hP1
        obtain ⟨hP, hD⟩ := va_join (wr := wR k aR rF rS rVx rVy rMd rE rAx rAy rBx rBy rO rP rPx rPy rPd rQ rFi rLa rOn rLe rRi rHx rHy rHd rKx rKy rKd) (w1 := wC k aC aE aP aQ aM cX cY cN cM ++ wE k aE fX fY lX lY oP nE ++ wP k aP pX pY pD pO nP ++ wQ k aQ qF nQ ++ wM k aM mR mQ mN ++ wO k aO oL_621 oD) hP hD [0, 1, 2, 3, 4, 5, 6, 7, 8, 9, 10, 11, 12, 13, 14, 15, 16, 17, 18, 19, 20, 21, 22, 23, 24, 25, 26, 27, 28, 29, 30, 48, 49] [31, 32, 33, 34, 35, 36, 37, 38, 39, 40, 41, 42, 43, 44, 45, 46, 47] rfl rfl (by decide) (by decide) hk1 hFc hP1 hD1
        generalize H1 = H at hP hS ⊢
        have hP : va_P D vwCl (wC k aC aE aP aQ aM cX cY cN cM ++ wE k aE fX fY lX lY oP nE ++ wP k aP pX pY pD pO nP ++ wQ k aQ qF nQ ++ wM k aM mR mQ mN ++ wR k aR rF rS rVx rVy rMd rE rAx rAy rBx rBy rO rP rPx rPy rPd rQ rFi rLa rOn rLe rRi rHx rHy rHd rKx rKy rKd ++ wO k aO oL_621 oD) H := hP.sub [17, 18, 19, 20, 21, 22, 23, 24, 25, 26, 27, 28, 29, 30, 31, 32, 33, 34, 35, 36, 37, 38, 39, 40, 41, 42, 43, 44, 45, 46, 47, 0, 1, 2, 3, 4, 5, 6, 7, 8, 9, 10, 11, 12, 13, 14, 15, 16, 48, 49] rfl
        have hD : va_D A (wC k aC aE aP aQ aM cX cY cN cM ++ wE k aE fX fY lX lY oP nE ++ wP k aP pX pY pD pO nP ++ wQ k aQ qF nQ ++ wM k aM mR mQ mN ++ wR k aR rF rS rVx rVy rMd rE rAx rAy rBx rBy rO rP rPx rPy rPd rQ rFi rLa rOn rLe rRi rHx rHy rHd rKx rKy rKd ++ wO k aO oL_621 oD) := hD.sub [17, 18, 19, 20, 21, 22, 23, 24, 25, 26, 27, 28, 29, 30, 31, 32, 33, 34, 35, 36, 37, 38, 39, 40, 41, 42, 43, 44, 45, 46, 47, 0, 1, 2, 3, 4, 5, 6, 7, 8, 9, 10, 11, 12, 13, 14, 15, 16, 48, 49] (by decide) rfl
        refine lv_istore (lv' := [(6, .int r621), (0, .ref b), (1, .ref (aC 0)), (2, .ref (aR 0)), (3, .ref (aO 0)), (4, .ref (aO 1)), (5, .int v5)]) hx hb dL_law_624 hl (by decide) rfl (fun ls hl => ?_)
        refine lv_aload_n hx hb dL_law_626 rfl (lv_at hl 3 rfl) ?_
        refine lv_aload_n hx hb dL_law_627 rfl (lv_at hl 1 rfl) ?_
        refine lv_iload hx hb dL_law_628 (lv_at hl 6 rfl) ?_
        refine lv_iconst (v := (1 : Int32)) hx hb dL_law_630 (by decide) ?_
        refine lv_iadd hx hb dL_law_631 ?_
        obtain ⟨hin, h⟩ := h
        refine va_sld hx hb hX hbl hbA hS hin dL_law_632 ?_
        have hPc := hP.sub (ws' := wR k aR rF rS rVx rVy rMd rE rAx rAy rBx rBy rO rP rPx rPy rPd rQ rFi rLa rOn rLe rRi rHx rHy rHd rKx rKy rKd) [31, 32, 33, 34, 35, 36, 37, 38, 39, 40, 41, 42, 43, 44, 45, 46, 47] rfl
        have hDc := hD.sub (ws' := wR k aR rF rS rVx rVy rMd rE rAx rAy rBx rBy rO rP rPx rPy rPd rQ rFi rLa rOn rLe rRi rHx rHy rHd rKx rKy rKd) [31, 32, 33, 34, 35, 36, 37, 38, 39, 40, 41, 42, 43, 44, 45, 46, 47] (by decide) rfl
        have hFc := va_free (wc := wR k aR rF rS rVx rVy rMd rE rAx rAy rBx rBy rO rP rPx rPy rPd rQ rFi rLa rOn rLe rRi rHx rHy rHd rKx rKy rKd) hD hS hA [31, 32, 33, 34, 35, 36, 37, 38, 39, 40, 41, 42, 43, 44, 45, 46, 47] rfl
        refine va_calli (va_runV (C := RX5) (b := (aR 0)) (As := [.int (xs (v5 + (1 : Int32)).toNatClampNeg)]) (rest := []) ⟨hx, hb, hml, hown, hts⟩ (m_X5_bounds l D k aR rF rS rVx rVy rMd rE rAx rAy rBx rBy rO rP rPx rPy rPd rQ rFi rLa rOn rLe rRi rHx rHy rHd rKx rKy rKd (xs (v5 + (1 : Int32)).toNatClampNeg) _ _ h) (cwV 1 hts gL_law_X5_bounds rfl rfl rfl (by decide +kernel) ⟨Nat.le_of_ble_eq_true rfl, Nat.le_of_ble_eq_true rfl⟩) (preV_rw (ci := 5) (q0 := 0) (C := RX5) (T := TX5) (N := 27) hE hPc hDc rfl rfl) rfl rfl hl.1 rfl (lv_room (Nat.le_of_ble_eq_true rfl)) dL_law_633 ⟨by change _ ≤ 601024; omega, by change _ ≤ 7293034; omega⟩) hS (fun q _ h => hFc q h) hFc (fun r633 rF_633 t H1 locs ht hvm h hB hz1 hk1 hS => ?_)
        obtain ⟨hP1, hD1⟩ := hB
        rw [ht] at hP1
        obtain ⟨hP, hD⟩ := va_join (wr := wC k aC aE aP aQ aM cX cY cN cM ++ wE k aE fX fY lX lY oP nE ++ wP k aP pX pY pD pO nP ++ wQ k aQ qF nQ ++ wM k aM mR mQ mN ++ wO k aO oL_621 oD) (w1 := wR k aR rF_633 rS rVx rVy rMd rE rAx rAy rBx rBy rO rP rPx rPy rPd rQ rFi rLa rOn rLe rRi rHx rHy rHd rKx rKy rKd) hP hD [31, 32, 33, 34, 35, 36, 37, 38, 39, 40, 41, 42, 43, 44, 45, 46, 47] [0, 1, 2, 3, 4, 5, 6, 7, 8, 9, 10, 11, 12, 13, 14, 15, 16, 17, 18, 19, 20, 21, 22, 23, 24, 25, 26, 27, 28, 29, 30, 48, 49] rfl rfl (by decide) (by decide) hk1 hFc hP1 hD1
        generalize H1 = H at hP hS ⊢
        have hP : va_P D vwCl (wC k aC aE aP aQ aM cX cY cN cM ++ wE k aE fX fY lX lY oP nE ++ wP k aP pX pY pD pO nP ++ wQ k aQ qF nQ ++ wM k aM mR mQ mN ++ wR k aR rF_633 rS rVx rVy rMd rE rAx rAy rBx rBy rO rP rPx rPy rPd rQ rFi rLa rOn rLe rRi rHx rHy rHd rKx rKy rKd ++ wO k aO oL_621 oD) H := hP.sub [0, 1, 2, 3, 4, 5, 6, 7, 8, 9, 10, 11, 12, 13, 14, 15, 16, 17, 18, 19, 20, 21, 22, 23, 24, 25, 26, 27, 28, 29, 30, 33, 34, 35, 36, 37, 38, 39, 40, 41, 42, 43, 44, 45, 46, 47, 48, 49, 31, 32] rfl
        have hD : va_D A (wC k aC aE aP aQ aM cX cY cN cM ++ wE k aE fX fY lX lY oP nE ++ wP k aP pX pY pD pO nP ++ wQ k aQ qF nQ ++ wM k aM mR mQ mN ++ wR k aR rF_633 rS rVx rVy rMd rE rAx rAy rBx rBy rO rP rPx rPy rPd rQ rFi rLa rOn rLe rRi rHx rHy rHd rKx rKy rKd ++ wO k aO oL_621 oD) := hD.sub [0, 1, 2, 3, 4, 5, 6, 7, 8, 9, 10, 11, 12, 13, 14, 15, 16, 17, 18, 19, 20, 21, 22, 23, 24, 25, 26, 27, 28, 29, 30, 33, 34, 35, 36, 37, 38, 39, 40, 41, 42, 43, 44, 45, 46, 47, 48, 49, 31, 32] (by decide) rfl
        refine lv_istore (lv' := [(7, .int r633), (6, .int r621), (0, .ref b), (1, .ref (aC 0)), (2, .ref (aR 0)), (3, .ref (aO 0)), (4, .ref (aO 1)), (5, .int v5)]) hx hb dL_law_636 hl (by decide) rfl (fun ls hl => ?_)
        refine lv_aload_n hx hb dL_law_638 rfl (lv_at hl 4 rfl) ?_
        have hPc := hP.sub (ws' := wR k aR rF_633 rS rVx rVy rMd rE rAx rAy rBx rBy rO rP rPx rPy rPd rQ rFi rLa rOn rLe rRi rHx rHy rHd rKx rKy rKd) [31, 32, 33, 34, 35, 36, 37, 38, 39, 40, 41, 42, 43, 44, 45, 46, 47] rfl
        refine vp_callSi (W.runV (C := RX5) (b := (aR 0)) (As := []) (rest := []) ⟨hx, hb, hml, hown, hts⟩ (m_X5_thrown l D k aR rF_633 rS rVx rVy rMd rE rAx rAy rBx rBy rO rP rPx rPy rPd rQ rFi rLa rOn rLe rRi rHx rHy rHd rKx rKy rKd  _ h) (cwV 0 hts gL_law_X5_thrown rfl rfl rfl (by decide +kernel) ⟨Nat.le_of_ble_eq_true rfl, Nat.le_of_ble_eq_true rfl⟩) (preV_ro (ci := 5) (q0 := 0) (C := RX5) (T := TX5) (N := 27) hE hPc rfl rfl) rfl rfl hl.1 rfl (lv_room (Nat.le_of_ble_eq_true rfl)) dL_law_639 ⟨by change _ ≤ 601024; omega, by change _ ≤ 7293034; omega⟩) (fun r639 h => ?_)
        refine lv_iload hx hb dL_law_642 (lv_at hl 1 rfl) ?_
        refine lv_icmp_eq (tgt := 649) hx hb dL_law_644 (by decide) (fun cq => ?_) (fun cq => ?_)
        · have h := h.1 cq
          refine lv_iload hx hb dL_law_649 (lv_at hl 1 rfl) ?_
          refine lv_if_ne (tgt := 666) hx hb dL_law_651 (by decide) (fun cq => ?_) (fun cq => ?_)
          · have h := h.1 cq
            exact L666 v5 cX cY cN cM fX fY lX lY oP nE pX pY pD pO nP qF nQ mR mQ mN rF_633 rS rVx rVy rMd rE rAx rAy rBx rBy rO rP rPx rPy rPd rQ rFi rLa rOn rLe rRi rHx rHy rHd rKx rKy rKd oL_621 oD _ _ _ _ _ (by omega) (by omega) h hP hD hS (lv_sub hl [2, 3, 4, 5, 6, 7] rfl)
          · have h := h.2 cq
            refine lv_aload_n hx hb dL_law_654 rfl (lv_at hl 5 rfl) ?_
            refine lv_iconst (v := (0 : Int32)) hx hb dL_law_655 (by decide) ?_
            obtain ⟨hin, h⟩ := h
            refine va_lald hx hb hK hP 48 2 rfl rfl hin dL_law_656 ?_
            refine lv_iload hx hb dL_law_657 (lv_at hl 0 rfl) ?_
            refine lv_i2l hx hb dL_law_659 rfl ?_
            refine W.lcmp hx hb dL_law_660 ?_
            refine lv_if_eq (tgt := 666) hx hb dL_law_661 (by decide) (fun cq => ?_) (fun cq => ?_)
            · have h := h.1 ((lg_cmp_eq _ _).mp cq)
              exact L666 v5 cX cY cN cM fX fY lX lY oP nE pX pY pD pO nP qF nQ mR mQ mN rF_633 rS rVx rVy rMd rE rAx rAy rBx rBy rO rP rPx rPy rPd rQ rFi rLa rOn rLe rRi rHx rHy rHd rKx rKy rKd oL_621 oD _ _ _ _ _ (by omega) (by omega) h hP hD hS (lv_sub hl [2, 3, 4, 5, 6, 7] rfl)
            · have h := h.2 (fun q => cq ((lg_cmp_eq _ _).mpr q))
              refine lv_iconst (v := (0 : Int32)) hx hb dL_law_664 (by decide) ?_
              rw [h]
              refine va_forget (fun q hq => hf9 _ (hS.2.2 q hq)) ?_
              refine W.widen (k := 601024) (n := 7293034) (by omega) (by omega) ?_
              exact lw_ret hx hb hr hlocks dL_law_665
        · have h := h.2 cq
          refine lv_iconst (v := (0 : Int32)) hx hb dL_law_647 (by decide) ?_
          rw [h]
          refine va_forget (fun q hq => hf9 _ (hS.2.2 q hq)) ?_
          refine W.widen (k := 601024) (n := 7293034) (by omega) (by omega) ?_
          exact lw_ret hx hb hr hlocks dL_law_648
      by_cases c9 : x44 = 9
      · have h := h.2.2.2.2.2.2.2.2.2.1 c9
        refine lv_tableIn (tgt := 669) hx hb dL_law_44 (by rw [c9]; decide) (by rw [c9]; decide) (by rw [c9]; rfl) (by decide) ?_
        refine lv_aload_n hx hb dL_law_669 rfl (lv_at hl 1 rfl) ?_
        refine lv_aload_n hx hb dL_law_670 rfl (lv_at hl 0 rfl) ?_
        refine lv_iload hx hb dL_law_671 (lv_at hl 5 rfl) ?_
        refine lv_iconst (v := (1 : Int32)) hx hb dL_law_673 (by decide) ?_
        refine lv_iadd hx hb dL_law_674 ?_
        obtain ⟨hin, h⟩ := h
        refine va_sld hx hb hX hbl hbA hS hin dL_law_675 ?_
        refine lv_aload_n hx hb dL_law_676 rfl (lv_at hl 0 rfl) ?_
        refine lv_iload hx hb dL_law_677 (lv_at hl 5 rfl) ?_
        refine lv_iconst (v := (2 : Int32)) hx hb dL_law_679 (by decide) ?_
        refine lv_iadd hx hb dL_law_680 ?_
        obtain ⟨hin, h⟩ := h
        refine va_sld hx hb hX hbl hbA hS hin dL_law_681 ?_
        refine lv_aload_n hx hb dL_law_682 rfl (lv_at hl 3 rfl) ?_
        have hPc := hP.sub (ws' := wC k aC aE aP aQ aM cX cY cN cM ++ wE k aE fX fY lX lY oP nE ++ wP k aP pX pY pD pO nP ++ wQ k aQ qF nQ ++ wM k aM mR mQ mN ++ wO k aO oL oD) [0, 1, 2, 3, 4, 5, 6, 7, 8, 9, 10, 11, 12, 13, 14, 15, 16, 17, 18, 19, 20, 21, 22, 23, 24, 25, 26, 27, 28, 29, 30, 48, 49] rfl
        have hDc := hD.sub (ws' := wC k aC aE aP aQ aM cX cY cN cM ++ wE k aE fX fY lX lY oP nE ++ wP k aP pX pY pD pO nP ++ wQ k aQ qF nQ ++ wM k aM mR mQ mN ++ wO k aO oL oD) [0, 1, 2, 3, 4, 5, 6, 7, 8, 9, 10, 11, 12, 13, 14, 15, 16, 17, 18, 19, 20, 21, 22, 23, 24, 25, 26, 27, 28, 29, 30, 48, 49] (by decide) rfl
        have hFc := va_free (wc := wC k aC aE aP aQ aM cX cY cN cM ++ wE k aE fX fY lX lY oP nE ++ wP k aP pX pY pD pO nP ++ wQ k aQ qF nQ ++ wM k aM mR mQ mN ++ wO k aO oL oD) hD hS hA [0, 1, 2, 3, 4, 5, 6, 7, 8, 9, 10, 11, 12, 13, 14, 15, 16, 17, 18, 19, 20, 21, 22, 23, 24, 25, 26, 27, 28, 29, 30, 48, 49] rfl
        refine va_calli (vx_runSW (As := [.ref (aC 0), .int (xs (v5 + (1 : Int32)).toNatClampNeg), .int (xs (v5 + (2 : Int32)).toNatClampNeg), .ref (aO 0)]) (rest := []) ⟨hx, hb, hml, hown, hts⟩ (m_L_bound l D k aC aE aP aQ aM aO cX cY cN cM fX fY lX lY oP nE pX pY pD pO nP qF nQ mR mQ mN oL oD (xs (v5 + (1 : Int32)).toNatClampNeg) (xs (v5 + (2 : Int32)).toNatClampNeg) _ _ hlt h) (vx_cwSW 4 hts gL_law_L_bound rfl rfl rfl (by decide +kernel) ⟨Nat.le_of_ble_eq_true rfl, Nat.le_of_ble_eq_true rfl⟩) (preS_th hE hT hS hFc hPc hDc) rfl rfl hl.1 rfl (lv_room (Nat.le_of_ble_eq_true rfl)) dL_law_683 ⟨by change _ ≤ 601024; omega, by change _ ≤ 7293034; omega⟩) hS (fun q _ h => hFc q h) hFc (fun r683 oL_683 t H1 locs ht hvm h hB hz1 hk1 hS => ?_)
        obtain ⟨hP1, hD1⟩ := hB
        rw [ht] at hP1
        obtain ⟨hP, hD⟩ := va_join (wr := wR k aR rF rS rVx rVy rMd rE rAx rAy rBx rBy rO rP rPx rPy rPd rQ rFi rLa rOn rLe rRi rHx rHy rHd rKx rKy rKd) (w1 := wC k aC aE aP aQ aM cX cY cN cM ++ wE k aE fX fY lX lY oP nE ++ wP k aP pX pY pD pO nP ++ wQ k aQ qF nQ ++ wM k aM mR mQ mN ++ wO k aO oL_683 oD) hP hD [0, 1, 2, 3, 4, 5, 6, 7, 8, 9, 10, 11, 12, 13, 14, 15, 16, 17, 18, 19, 20, 21, 22, 23, 24, 25, 26, 27, 28, 29, 30, 48, 49] [31, 32, 33, 34, 35, 36, 37, 38, 39, 40, 41, 42, 43, 44, 45, 46, 47] rfl rfl (by decide) (by decide) hk1 hFc hP1 hD1
        generalize H1 = H at hP hS ⊢
        have hP : va_P D vwCl (wC k aC aE aP aQ aM cX cY cN cM ++ wE k aE fX fY lX lY oP nE ++ wP k aP pX pY pD pO nP ++ wQ k aQ qF nQ ++ wM k aM mR mQ mN ++ wR k aR rF rS rVx rVy rMd rE rAx rAy rBx rBy rO rP rPx rPy rPd rQ rFi rLa rOn rLe rRi rHx rHy rHd rKx rKy rKd ++ wO k aO oL_683 oD) H := hP.sub [17, 18, 19, 20, 21, 22, 23, 24, 25, 26, 27, 28, 29, 30, 31, 32, 33, 34, 35, 36, 37, 38, 39, 40, 41, 42, 43, 44, 45, 46, 47, 0, 1, 2, 3, 4, 5, 6, 7, 8, 9, 10, 11, 12, 13, 14, 15, 16, 48, 49] rfl
        have hD : va_D A (wC k aC aE aP aQ aM cX cY cN cM ++ wE k aE fX fY lX lY oP nE ++ wP k aP pX pY pD pO nP ++ wQ k aQ qF nQ ++ wM k aM mR mQ mN ++ wR k aR rF rS rVx rVy rMd rE rAx rAy rBx rBy rO rP rPx rPy rPd rQ rFi rLa rOn rLe rRi rHx rHy rHd rKx rKy rKd ++ wO k aO oL_683 oD) := hD.sub [17, 18, 19, 20, 21, 22, 23, 24, 25, 26, 27, 28, 29, 30, 31, 32, 33, 34, 35, 36, 37, 38, 39, 40, 41, 42, 43, 44, 45, 46, 47, 0, 1, 2, 3, 4, 5, 6, 7, 8, 9, 10, 11, 12, 13, 14, 15, 16, 48, 49] (by decide) rfl
        refine lv_istore (lv' := [(6, .int r683), (0, .ref b), (1, .ref (aC 0)), (2, .ref (aR 0)), (3, .ref (aO 0)), (4, .ref (aO 1)), (5, .int v5)]) hx hb dL_law_686 hl (by decide) rfl (fun ls hl => ?_)
        refine lv_aload_n hx hb dL_law_688 rfl (lv_at hl 3 rfl) ?_
        refine lv_aload_n hx hb dL_law_689 rfl (lv_at hl 1 rfl) ?_
        refine lv_iload hx hb dL_law_690 (lv_at hl 6 rfl) ?_
        refine lv_iconst (v := (1 : Int32)) hx hb dL_law_692 (by decide) ?_
        refine lv_iadd hx hb dL_law_693 ?_
        obtain ⟨hin, h⟩ := h
        refine va_sld hx hb hX hbl hbA hS hin dL_law_694 ?_
        refine lv_aload_n hx hb dL_law_695 rfl (lv_at hl 1 rfl) ?_
        refine lv_iload hx hb dL_law_696 (lv_at hl 6 rfl) ?_
        refine lv_iconst (v := (2 : Int32)) hx hb dL_law_698 (by decide) ?_
        refine lv_iadd hx hb dL_law_699 ?_
        obtain ⟨hin, h⟩ := h
        refine va_sld hx hb hX hbl hbA hS hin dL_law_700 ?_
        have hPc := hP.sub (ws' := wR k aR rF rS rVx rVy rMd rE rAx rAy rBx rBy rO rP rPx rPy rPd rQ rFi rLa rOn rLe rRi rHx rHy rHd rKx rKy rKd) [31, 32, 33, 34, 35, 36, 37, 38, 39, 40, 41, 42, 43, 44, 45, 46, 47] rfl
        have hDc := hD.sub (ws' := wR k aR rF rS rVx rVy rMd rE rAx rAy rBx rBy rO rP rPx rPy rPd rQ rFi rLa rOn rLe rRi rHx rHy rHd rKx rKy rKd) [31, 32, 33, 34, 35, 36, 37, 38, 39, 40, 41, 42, 43, 44, 45, 46, 47] (by decide) rfl
        have hFc := va_free (wc := wR k aR rF rS rVx rVy rMd rE rAx rAy rBx rBy rO rP rPx rPy rPd rQ rFi rLa rOn rLe rRi rHx rHy rHd rKx rKy rKd) hD hS hA [31, 32, 33, 34, 35, 36, 37, 38, 39, 40, 41, 42, 43, 44, 45, 46, 47] rfl
        refine va_calli (va_runV (C := RX5) (b := (aR 0)) (As := [.int (xs (v5 + (1 : Int32)).toNatClampNeg), .int (xs (v5 + (2 : Int32)).toNatClampNeg)]) (rest := []) ⟨hx, hb, hml, hown, hts⟩ (m_X5_bound l D k aR rF rS rVx rVy rMd rE rAx rAy rBx rBy rO rP rPx rPy rPd rQ rFi rLa rOn rLe rRi rHx rHy rHd rKx rKy rKd (xs (v5 + (1 : Int32)).toNatClampNeg) (xs (v5 + (2 : Int32)).toNatClampNeg) _ _ h) (cwV 2 hts gL_law_X5_bound rfl rfl rfl (by decide +kernel) ⟨Nat.le_of_ble_eq_true rfl, Nat.le_of_ble_eq_true rfl⟩) (preV_rw (ci := 5) (q0 := 0) (C := RX5) (T := TX5) (N := 27) hE hPc hDc rfl rfl) rfl rfl hl.1 rfl (lv_room (Nat.le_of_ble_eq_true rfl)) dL_law_701 ⟨by change _ ≤ 601024; omega, by change _ ≤ 7293034; omega⟩) hS (fun q _ h => hFc q h) hFc (fun r701 rF_701 t H1 locs ht hvm h hB hz1 hk1 hS => ?_)
        obtain ⟨hP1, hD1⟩ := hB
        rw [ht] at hP1
        obtain ⟨hP, hD⟩ := va_join (wr := wC k aC aE aP aQ aM cX cY cN cM ++ wE k aE fX fY lX lY oP nE ++ wP k aP pX pY pD pO nP ++ wQ k aQ qF nQ ++ wM k aM mR mQ mN ++ wO k aO oL_683 oD) (w1 := wR k aR rF_701 rS rVx rVy rMd rE rAx rAy rBx rBy rO rP rPx rPy rPd rQ rFi rLa rOn rLe rRi rHx rHy rHd rKx rKy rKd) hP hD [31, 32, 33, 34, 35, 36, 37, 38, 39, 40, 41, 42, 43, 44, 45, 46, 47] [0, 1, 2, 3, 4, 5, 6, 7, 8, 9, 10, 11, 12, 13, 14, 15, 16, 17, 18, 19, 20, 21, 22, 23, 24, 25, 26, 27, 28, 29, 30, 48, 49] rfl rfl (by decide) (by decide) hk1 hFc hP1 hD1
        generalize H1 = H at hP hS ⊢
        have hP : va_P D vwCl (wC k aC aE aP aQ aM cX cY cN cM ++ wE k aE fX fY lX lY oP nE ++ wP k aP pX pY pD pO nP ++ wQ k aQ qF nQ ++ wM k aM mR mQ mN ++ wR k aR rF_701 rS rVx rVy rMd rE rAx rAy rBx rBy rO rP rPx rPy rPd rQ rFi rLa rOn rLe rRi rHx rHy rHd rKx rKy rKd ++ wO k aO oL_683 oD) H := hP.sub [0, 1, 2, 3, 4, 5, 6, 7, 8, 9, 10, 11, 12, 13, 14, 15, 16, 17, 18, 19, 20, 21, 22, 23, 24, 25, 26, 27, 28, 29, 30, 33, 34, 35, 36, 37, 38, 39, 40, 41, 42, 43, 44, 45, 46, 47, 48, 49, 31, 32] rfl
        have hD : va_D A (wC k aC aE aP aQ aM cX cY cN cM ++ wE k aE fX fY lX lY oP nE ++ wP k aP pX pY pD pO nP ++ wQ k aQ qF nQ ++ wM k aM mR mQ mN ++ wR k aR rF_701 rS rVx rVy rMd rE rAx rAy rBx rBy rO rP rPx rPy rPd rQ rFi rLa rOn rLe rRi rHx rHy rHd rKx rKy rKd ++ wO k aO oL_683 oD) := hD.sub [0, 1, 2, 3, 4, 5, 6, 7, 8, 9, 10, 11, 12, 13, 14, 15, 16, 17, 18, 19, 20, 21, 22, 23, 24, 25, 26, 27, 28, 29, 30, 33, 34, 35, 36, 37, 38, 39, 40, 41, 42, 43, 44, 45, 46, 47, 48, 49, 31, 32] (by decide) rfl
        refine lv_istore (lv' := [(7, .int r701), (6, .int r683), (0, .ref b), (1, .ref (aC 0)), (2, .ref (aR 0)), (3, .ref (aO 0)), (4, .ref (aO 1)), (5, .int v5)]) hx hb dL_law_704 hl (by decide) rfl (fun ls hl => ?_)
        refine lv_aload_n hx hb dL_law_706 rfl (lv_at hl 4 rfl) ?_
        have hPc := hP.sub (ws' := wR k aR rF_701 rS rVx rVy rMd rE rAx rAy rBx rBy rO rP rPx rPy rPd rQ rFi rLa rOn rLe rRi rHx rHy rHd rKx rKy rKd) [31, 32, 33, 34, 35, 36, 37, 38, 39, 40, 41, 42, 43, 44, 45, 46, 47] rfl
        refine vp_callSi (W.runV (C := RX5) (b := (aR 0)) (As := []) (rest := []) ⟨hx, hb, hml, hown, hts⟩ (m_X5_thrown l D k aR rF_701 rS rVx rVy rMd rE rAx rAy rBx rBy rO rP rPx rPy rPd rQ rFi rLa rOn rLe rRi rHx rHy rHd rKx rKy rKd  _ h) (cwV 0 hts gL_law_X5_thrown rfl rfl rfl (by decide +kernel) ⟨Nat.le_of_ble_eq_true rfl, Nat.le_of_ble_eq_true rfl⟩) (preV_ro (ci := 5) (q0 := 0) (C := RX5) (T := TX5) (N := 27) hE hPc rfl rfl) rfl rfl hl.1 rfl (lv_room (Nat.le_of_ble_eq_true rfl)) dL_law_707 ⟨by change _ ≤ 601024; omega, by change _ ≤ 7293034; omega⟩) (fun r707 h => ?_)
        refine lv_iload hx hb dL_law_710 (lv_at hl 1 rfl) ?_
        refine lv_icmp_eq (tgt := 717) hx hb dL_law_712 (by decide) (fun cq => ?_) (fun cq => ?_)
        · have h := h.1 cq
          refine lv_iload hx hb dL_law_717 (lv_at hl 1 rfl) ?_
          refine lv_if_ne (tgt := 734) hx hb dL_law_719 (by decide) (fun cq => ?_) (fun cq => ?_)
          · have h := h.1 cq
            exact L734 v5 cX cY cN cM fX fY lX lY oP nE pX pY pD pO nP qF nQ mR mQ mN rF_701 rS rVx rVy rMd rE rAx rAy rBx rBy rO rP rPx rPy rPd rQ rFi rLa rOn rLe rRi rHx rHy rHd rKx rKy rKd oL_683 oD _ _ _ _ _ (by omega) (by omega) h hP hD hS (lv_sub hl [2, 3, 4, 5, 6, 7] rfl)
          · have h := h.2 cq
            refine lv_aload_n hx hb dL_law_722 rfl (lv_at hl 5 rfl) ?_
            refine lv_iconst (v := (0 : Int32)) hx hb dL_law_723 (by decide) ?_
            obtain ⟨hin, h⟩ := h
            refine va_lald hx hb hK hP 48 2 rfl rfl hin dL_law_724 ?_
            refine lv_iload hx hb dL_law_725 (lv_at hl 0 rfl) ?_
            refine lv_i2l hx hb dL_law_727 rfl ?_
            refine W.lcmp hx hb dL_law_728 ?_
            refine lv_if_eq (tgt := 734) hx hb dL_law_729 (by decide) (fun cq => ?_) (fun cq => ?_)
            · have h := h.1 ((lg_cmp_eq _ _).mp cq)
              exact L734 v5 cX cY cN cM fX fY lX lY oP nE pX pY pD pO nP qF nQ mR mQ mN rF_701 rS rVx rVy rMd rE rAx rAy rBx rBy rO rP rPx rPy rPd rQ rFi rLa rOn rLe rRi rHx rHy rHd rKx rKy rKd oL_683 oD _ _ _ _ _ (by omega) (by omega) h hP hD hS (lv_sub hl [2, 3, 4, 5, 6, 7] rfl)
            · have h := h.2 (fun q => cq ((lg_cmp_eq _ _).mpr q))
              refine lv_iconst (v := (0 : Int32)) hx hb dL_law_732 (by decide) ?_
              rw [h]
              refine va_forget (fun q hq => hf9 _ (hS.2.2 q hq)) ?_
              refine W.widen (k := 601024) (n := 7293034) (by omega) (by omega) ?_
              exact lw_ret hx hb hr hlocks dL_law_733
        · have h := h.2 cq
          refine lv_iconst (v := (0 : Int32)) hx hb dL_law_715 (by decide) ?_
          rw [h]
          refine va_forget (fun q hq => hf9 _ (hS.2.2 q hq)) ?_
          refine W.widen (k := 601024) (n := 7293034) (by omega) (by omega) ?_
          exact lw_ret hx hb hr hlocks dL_law_716
      by_cases c10 : x44 = 10
      · have h := h.2.2.2.2.2.2.2.2.2.2.1 c10
        refine lv_tableIn (tgt := 737) hx hb dL_law_44 (by rw [c10]; decide) (by rw [c10]; decide) (by rw [c10]; rfl) (by decide) ?_
        refine lv_aload_n hx hb dL_law_737 rfl (lv_at hl 1 rfl) ?_
        refine lv_aload_n hx hb dL_law_738 rfl (lv_at hl 0 rfl) ?_
        refine lv_iload hx hb dL_law_739 (lv_at hl 5 rfl) ?_
        refine lv_iconst (v := (1 : Int32)) hx hb dL_law_741 (by decide) ?_
        refine lv_iadd hx hb dL_law_742 ?_
        obtain ⟨hin, h⟩ := h
        refine va_sld hx hb hX hbl hbA hS hin dL_law_743 ?_
        refine lv_aload_n hx hb dL_law_744 rfl (lv_at hl 0 rfl) ?_
        refine lv_iload hx hb dL_law_745 (lv_at hl 5 rfl) ?_
        refine lv_iconst (v := (2 : Int32)) hx hb dL_law_747 (by decide) ?_
        refine lv_iadd hx hb dL_law_748 ?_
        obtain ⟨hin, h⟩ := h
        refine va_sld hx hb hX hbl hbA hS hin dL_law_749 ?_
        refine lv_aload_n hx hb dL_law_750 rfl (lv_at hl 0 rfl) ?_
        refine lv_iload hx hb dL_law_751 (lv_at hl 5 rfl) ?_
        refine lv_iconst (v := (3 : Int32)) hx hb dL_law_753 (by decide) ?_
        refine lv_iadd hx hb dL_law_754 ?_
        obtain ⟨hin, h⟩ := h
        refine va_sld hx hb hX hbl hbA hS hin dL_law_755 ?_
        refine lv_aload_n hx hb dL_law_756 rfl (lv_at hl 0 rfl) ?_
        refine lv_iload hx hb dL_law_757 (lv_at hl 5 rfl) ?_
        refine lv_iconst (v := (4 : Int32)) hx hb dL_law_759 (by decide) ?_
        refine lv_iadd hx hb dL_law_760 ?_
        obtain ⟨hin, h⟩ := h
        refine va_sld hx hb hX hbl hbA hS hin dL_law_761 ?_
        refine lv_aload_n hx hb dL_law_762 rfl (lv_at hl 3 rfl) ?_
        have hPc := hP.sub (ws' := wC k aC aE aP aQ aM cX cY cN cM ++ wE k aE fX fY lX lY oP nE ++ wP k aP pX pY pD pO nP ++ wQ k aQ qF nQ ++ wM k aM mR mQ mN ++ wO k aO oL oD) [0, 1, 2, 3, 4, 5, 6, 7, 8, 9, 10, 11, 12, 13, 14, 15, 16, 17, 18, 19, 20, 21, 22, 23, 24, 25, 26, 27, 28, 29, 30, 48, 49] rfl
        have hDc := hD.sub (ws' := wC k aC aE aP aQ aM cX cY cN cM ++ wE k aE fX fY lX lY oP nE ++ wP k aP pX pY pD pO nP ++ wQ k aQ qF nQ ++ wM k aM mR mQ mN ++ wO k aO oL oD) [0, 1, 2, 3, 4, 5, 6, 7, 8, 9, 10, 11, 12, 13, 14, 15, 16, 17, 18, 19, 20, 21, 22, 23, 24, 25, 26, 27, 28, 29, 30, 48, 49] (by decide) rfl
        have hFc := va_free (wc := wC k aC aE aP aQ aM cX cY cN cM ++ wE k aE fX fY lX lY oP nE ++ wP k aP pX pY pD pO nP ++ wQ k aQ qF nQ ++ wM k aM mR mQ mN ++ wO k aO oL oD) hD hS hA [0, 1, 2, 3, 4, 5, 6, 7, 8, 9, 10, 11, 12, 13, 14, 15, 16, 17, 18, 19, 20, 21, 22, 23, 24, 25, 26, 27, 28, 29, 30, 48, 49] rfl
        refine va_calli (vx_runSW (As := [.ref (aC 0), .int (xs (v5 + (1 : Int32)).toNatClampNeg), .int (xs (v5 + (2 : Int32)).toNatClampNeg), .int (xs (v5 + (3 : Int32)).toNatClampNeg), .int (xs (v5 + (4 : Int32)).toNatClampNeg), .ref (aO 0)]) (rest := []) ⟨hx, hb, hml, hown, hts⟩ (m_L_where l D k aC aE aP aQ aM aO cX cY cN cM fX fY lX lY oP nE pX pY pD pO nP qF nQ mR mQ mN oL oD (xs (v5 + (1 : Int32)).toNatClampNeg) (xs (v5 + (2 : Int32)).toNatClampNeg) (xs (v5 + (3 : Int32)).toNatClampNeg) (xs (v5 + (4 : Int32)).toNatClampNeg) _ _ hlt h) (vx_cwSW 6 hts gL_law_L_where rfl rfl rfl (by decide +kernel) ⟨Nat.le_of_ble_eq_true rfl, Nat.le_of_ble_eq_true rfl⟩) (preS_th hE hT hS hFc hPc hDc) rfl rfl hl.1 rfl (lv_room (Nat.le_of_ble_eq_true rfl)) dL_law_763 ⟨by change _ ≤ 601024; omega, by change _ ≤ 7293034; omega⟩) hS (fun q _ h => hFc q h) hFc (fun r763 oL_763 t H1 locs ht hvm h hB hz1 hk1 hS => ?_)
        obtain ⟨hP1, hD1⟩ := hB
        rw [ht] at hP1
        obtain ⟨hP, hD⟩ := va_join (wr := wR k aR rF rS rVx rVy rMd rE rAx rAy rBx rBy rO rP rPx rPy rPd rQ rFi rLa rOn rLe rRi rHx rHy rHd rKx rKy rKd) (w1 := wC k aC aE aP aQ aM cX cY cN cM ++ wE k aE fX fY lX lY oP nE ++ wP k aP pX pY pD pO nP ++ wQ k aQ qF nQ ++ wM k aM mR mQ mN ++ wO k aO oL_763 oD) hP hD [0, 1, 2, 3, 4, 5, 6, 7, 8, 9, 10, 11, 12, 13, 14, 15, 16, 17, 18, 19, 20, 21, 22, 23, 24, 25, 26, 27, 28, 29, 30, 48, 49] [31, 32, 33, 34, 35, 36, 37, 38, 39, 40, 41, 42, 43, 44, 45, 46, 47] rfl rfl (by decide) (by decide) hk1 hFc hP1 hD1
        generalize H1 = H at hP hS ⊢
        have hP : va_P D vwCl (wC k aC aE aP aQ aM cX cY cN cM ++ wE k aE fX fY lX lY oP nE ++ wP k aP pX pY pD pO nP ++ wQ k aQ qF nQ ++ wM k aM mR mQ mN ++ wR k aR rF rS rVx rVy rMd rE rAx rAy rBx rBy rO rP rPx rPy rPd rQ rFi rLa rOn rLe rRi rHx rHy rHd rKx rKy rKd ++ wO k aO oL_763 oD) H := hP.sub [17, 18, 19, 20, 21, 22, 23, 24, 25, 26, 27, 28, 29, 30, 31, 32, 33, 34, 35, 36, 37, 38, 39, 40, 41, 42, 43, 44, 45, 46, 47, 0, 1, 2, 3, 4, 5, 6, 7, 8, 9, 10, 11, 12, 13, 14, 15, 16, 48, 49] rfl
        have hD : va_D A (wC k aC aE aP aQ aM cX cY cN cM ++ wE k aE fX fY lX lY oP nE ++ wP k aP pX pY pD pO nP ++ wQ k aQ qF nQ ++ wM k aM mR mQ mN ++ wR k aR rF rS rVx rVy rMd rE rAx rAy rBx rBy rO rP rPx rPy rPd rQ rFi rLa rOn rLe rRi rHx rHy rHd rKx rKy rKd ++ wO k aO oL_763 oD) := hD.sub [17, 18, 19, 20, 21, 22, 23, 24, 25, 26, 27, 28, 29, 30, 31, 32, 33, 34, 35, 36, 37, 38, 39, 40, 41, 42, 43, 44, 45, 46, 47, 0, 1, 2, 3, 4, 5, 6, 7, 8, 9, 10, 11, 12, 13, 14, 15, 16, 48, 49] (by decide) rfl
        refine lv_istore (lv' := [(6, .int r763), (0, .ref b), (1, .ref (aC 0)), (2, .ref (aR 0)), (3, .ref (aO 0)), (4, .ref (aO 1)), (5, .int v5)]) hx hb dL_law_766 hl (by decide) rfl (fun ls hl => ?_)
        refine lv_aload_n hx hb dL_law_768 rfl (lv_at hl 3 rfl) ?_
        refine lv_aload_n hx hb dL_law_769 rfl (lv_at hl 1 rfl) ?_
        refine lv_iload hx hb dL_law_770 (lv_at hl 6 rfl) ?_
        refine lv_iconst (v := (1 : Int32)) hx hb dL_law_772 (by decide) ?_
        refine lv_iadd hx hb dL_law_773 ?_
        obtain ⟨hin, h⟩ := h
        refine va_sld hx hb hX hbl hbA hS hin dL_law_774 ?_
        refine lv_aload_n hx hb dL_law_775 rfl (lv_at hl 1 rfl) ?_
        refine lv_iload hx hb dL_law_776 (lv_at hl 6 rfl) ?_
        refine lv_iconst (v := (2 : Int32)) hx hb dL_law_778 (by decide) ?_
        refine lv_iadd hx hb dL_law_779 ?_
        obtain ⟨hin, h⟩ := h
        refine va_sld hx hb hX hbl hbA hS hin dL_law_780 ?_
        refine lv_aload_n hx hb dL_law_781 rfl (lv_at hl 1 rfl) ?_
        refine lv_iload hx hb dL_law_782 (lv_at hl 6 rfl) ?_
        refine lv_iconst (v := (3 : Int32)) hx hb dL_law_784 (by decide) ?_
        refine lv_iadd hx hb dL_law_785 ?_
        obtain ⟨hin, h⟩ := h
        refine va_sld hx hb hX hbl hbA hS hin dL_law_786 ?_
        refine lv_aload_n hx hb dL_law_787 rfl (lv_at hl 1 rfl) ?_
        refine lv_iload hx hb dL_law_788 (lv_at hl 6 rfl) ?_
        refine lv_iconst (v := (4 : Int32)) hx hb dL_law_790 (by decide) ?_
        refine lv_iadd hx hb dL_law_791 ?_
        obtain ⟨hin, h⟩ := h
        refine va_sld hx hb hX hbl hbA hS hin dL_law_792 ?_
        have hPc := hP.sub (ws' := wR k aR rF rS rVx rVy rMd rE rAx rAy rBx rBy rO rP rPx rPy rPd rQ rFi rLa rOn rLe rRi rHx rHy rHd rKx rKy rKd) [31, 32, 33, 34, 35, 36, 37, 38, 39, 40, 41, 42, 43, 44, 45, 46, 47] rfl
        have hDc := hD.sub (ws' := wR k aR rF rS rVx rVy rMd rE rAx rAy rBx rBy rO rP rPx rPy rPd rQ rFi rLa rOn rLe rRi rHx rHy rHd rKx rKy rKd) [31, 32, 33, 34, 35, 36, 37, 38, 39, 40, 41, 42, 43, 44, 45, 46, 47] (by decide) rfl
        have hFc := va_free (wc := wR k aR rF rS rVx rVy rMd rE rAx rAy rBx rBy rO rP rPx rPy rPd rQ rFi rLa rOn rLe rRi rHx rHy rHd rKx rKy rKd) hD hS hA [31, 32, 33, 34, 35, 36, 37, 38, 39, 40, 41, 42, 43, 44, 45, 46, 47] rfl
        refine va_calli (va_runV (C := RX5) (b := (aR 0)) (As := [.int (xs (v5 + (1 : Int32)).toNatClampNeg), .int (xs (v5 + (2 : Int32)).toNatClampNeg), .int (xs (v5 + (3 : Int32)).toNatClampNeg), .int (xs (v5 + (4 : Int32)).toNatClampNeg)]) (rest := []) ⟨hx, hb, hml, hown, hts⟩ (m_X5_where l D k aR rF rS rVx rVy rMd rE rAx rAy rBx rBy rO rP rPx rPy rPd rQ rFi rLa rOn rLe rRi rHx rHy rHd rKx rKy rKd (xs (v5 + (1 : Int32)).toNatClampNeg) (xs (v5 + (2 : Int32)).toNatClampNeg) (xs (v5 + (3 : Int32)).toNatClampNeg) (xs (v5 + (4 : Int32)).toNatClampNeg) _ _ h) (cwV 4 hts gL_law_X5_where rfl rfl rfl (by decide +kernel) ⟨Nat.le_of_ble_eq_true rfl, Nat.le_of_ble_eq_true rfl⟩) (preV_rw (ci := 5) (q0 := 0) (C := RX5) (T := TX5) (N := 27) hE hPc hDc rfl rfl) rfl rfl hl.1 rfl (lv_room (Nat.le_of_ble_eq_true rfl)) dL_law_793 ⟨by change _ ≤ 601024; omega, by change _ ≤ 7293034; omega⟩) hS (fun q _ h => hFc q h) hFc (fun r793 rF_793 t H1 locs ht hvm h hB hz1 hk1 hS => ?_)
        obtain ⟨hP1, hD1⟩ := hB
        rw [ht] at hP1
        obtain ⟨hP, hD⟩ := va_join (wr := wC k aC aE aP aQ aM cX cY cN cM ++ wE k aE fX fY lX lY oP nE ++ wP k aP pX pY pD pO nP ++ wQ k aQ qF nQ ++ wM k aM mR mQ mN ++ wO k aO oL_763 oD) (w1 := wR k aR rF_793 rS rVx rVy rMd rE rAx rAy rBx rBy rO rP rPx rPy rPd rQ rFi rLa rOn rLe rRi rHx rHy rHd rKx rKy rKd) hP hD [31, 32, 33, 34, 35, 36, 37, 38, 39, 40, 41, 42, 43, 44, 45, 46, 47] [0, 1, 2, 3, 4, 5, 6, 7, 8, 9, 10, 11, 12, 13, 14, 15, 16, 17, 18, 19, 20, 21, 22, 23, 24, 25, 26, 27, 28, 29, 30, 48, 49] rfl rfl (by decide) (by decide) hk1 hFc hP1 hD1
        generalize H1 = H at hP hS ⊢
        have hP : va_P D vwCl (wC k aC aE aP aQ aM cX cY cN cM ++ wE k aE fX fY lX lY oP nE ++ wP k aP pX pY pD pO nP ++ wQ k aQ qF nQ ++ wM k aM mR mQ mN ++ wR k aR rF_793 rS rVx rVy rMd rE rAx rAy rBx rBy rO rP rPx rPy rPd rQ rFi rLa rOn rLe rRi rHx rHy rHd rKx rKy rKd ++ wO k aO oL_763 oD) H := hP.sub [0, 1, 2, 3, 4, 5, 6, 7, 8, 9, 10, 11, 12, 13, 14, 15, 16, 17, 18, 19, 20, 21, 22, 23, 24, 25, 26, 27, 28, 29, 30, 33, 34, 35, 36, 37, 38, 39, 40, 41, 42, 43, 44, 45, 46, 47, 48, 49, 31, 32] rfl
        have hD : va_D A (wC k aC aE aP aQ aM cX cY cN cM ++ wE k aE fX fY lX lY oP nE ++ wP k aP pX pY pD pO nP ++ wQ k aQ qF nQ ++ wM k aM mR mQ mN ++ wR k aR rF_793 rS rVx rVy rMd rE rAx rAy rBx rBy rO rP rPx rPy rPd rQ rFi rLa rOn rLe rRi rHx rHy rHd rKx rKy rKd ++ wO k aO oL_763 oD) := hD.sub [0, 1, 2, 3, 4, 5, 6, 7, 8, 9, 10, 11, 12, 13, 14, 15, 16, 17, 18, 19, 20, 21, 22, 23, 24, 25, 26, 27, 28, 29, 30, 33, 34, 35, 36, 37, 38, 39, 40, 41, 42, 43, 44, 45, 46, 47, 48, 49, 31, 32] (by decide) rfl
        refine lv_istore (lv' := [(7, .int r793), (6, .int r763), (0, .ref b), (1, .ref (aC 0)), (2, .ref (aR 0)), (3, .ref (aO 0)), (4, .ref (aO 1)), (5, .int v5)]) hx hb dL_law_796 hl (by decide) rfl (fun ls hl => ?_)
        refine lv_aload_n hx hb dL_law_798 rfl (lv_at hl 4 rfl) ?_
        have hPc := hP.sub (ws' := wR k aR rF_793 rS rVx rVy rMd rE rAx rAy rBx rBy rO rP rPx rPy rPd rQ rFi rLa rOn rLe rRi rHx rHy rHd rKx rKy rKd) [31, 32, 33, 34, 35, 36, 37, 38, 39, 40, 41, 42, 43, 44, 45, 46, 47] rfl
        refine vp_callSi (W.runV (C := RX5) (b := (aR 0)) (As := []) (rest := []) ⟨hx, hb, hml, hown, hts⟩ (m_X5_thrown l D k aR rF_793 rS rVx rVy rMd rE rAx rAy rBx rBy rO rP rPx rPy rPd rQ rFi rLa rOn rLe rRi rHx rHy rHd rKx rKy rKd  _ h) (cwV 0 hts gL_law_X5_thrown rfl rfl rfl (by decide +kernel) ⟨Nat.le_of_ble_eq_true rfl, Nat.le_of_ble_eq_true rfl⟩) (preV_ro (ci := 5) (q0 := 0) (C := RX5) (T := TX5) (N := 27) hE hPc rfl rfl) rfl rfl hl.1 rfl (lv_room (Nat.le_of_ble_eq_true rfl)) dL_law_799 ⟨by change _ ≤ 601024; omega, by change _ ≤ 7293034; omega⟩) (fun r799 h => ?_)
        refine lv_iload hx hb dL_law_802 (lv_at hl 1 rfl) ?_
        refine lv_icmp_eq (tgt := 809) hx hb dL_law_804 (by decide) (fun cq => ?_) (fun cq => ?_)
        · have h := h.1 cq
          refine lv_iload hx hb dL_law_809 (lv_at hl 1 rfl) ?_
          refine lv_if_ne (tgt := 826) hx hb dL_law_811 (by decide) (fun cq => ?_) (fun cq => ?_)
          · have h := h.1 cq
            exact L826 v5 cX cY cN cM fX fY lX lY oP nE pX pY pD pO nP qF nQ mR mQ mN rF_793 rS rVx rVy rMd rE rAx rAy rBx rBy rO rP rPx rPy rPd rQ rFi rLa rOn rLe rRi rHx rHy rHd rKx rKy rKd oL_763 oD _ _ _ _ _ (by omega) (by omega) h hP hD hS (lv_sub hl [2, 3, 4, 5, 6, 7] rfl)
          · have h := h.2 cq
            refine lv_aload_n hx hb dL_law_814 rfl (lv_at hl 5 rfl) ?_
            refine lv_iconst (v := (0 : Int32)) hx hb dL_law_815 (by decide) ?_
            obtain ⟨hin, h⟩ := h
            refine va_lald hx hb hK hP 48 2 rfl rfl hin dL_law_816 ?_
            refine lv_iload hx hb dL_law_817 (lv_at hl 0 rfl) ?_
            refine lv_i2l hx hb dL_law_819 rfl ?_
            refine W.lcmp hx hb dL_law_820 ?_
            refine lv_if_eq (tgt := 826) hx hb dL_law_821 (by decide) (fun cq => ?_) (fun cq => ?_)
            · have h := h.1 ((lg_cmp_eq _ _).mp cq)
              exact L826 v5 cX cY cN cM fX fY lX lY oP nE pX pY pD pO nP qF nQ mR mQ mN rF_793 rS rVx rVy rMd rE rAx rAy rBx rBy rO rP rPx rPy rPd rQ rFi rLa rOn rLe rRi rHx rHy rHd rKx rKy rKd oL_763 oD _ _ _ _ _ (by omega) (by omega) h hP hD hS (lv_sub hl [2, 3, 4, 5, 6, 7] rfl)
            · have h := h.2 (fun q => cq ((lg_cmp_eq _ _).mpr q))
              refine lv_iconst (v := (0 : Int32)) hx hb dL_law_824 (by decide) ?_
              rw [h]
              refine va_forget (fun q hq => hf9 _ (hS.2.2 q hq)) ?_
              refine W.widen (k := 601024) (n := 7293034) (by omega) (by omega) ?_
              exact lw_ret hx hb hr hlocks dL_law_825
        · have h := h.2 cq
          refine lv_iconst (v := (0 : Int32)) hx hb dL_law_807 (by decide) ?_
          rw [h]
          refine va_forget (fun q hq => hf9 _ (hS.2.2 q hq)) ?_
          refine W.widen (k := 601024) (n := 7293034) (by omega) (by omega) ?_
          exact lw_ret hx hb hr hlocks dL_law_808
      by_cases c11 : x44 = 11
      · have h := h.2.2.2.2.2.2.2.2.2.2.2.1 c11
        refine lv_tableIn (tgt := 829) hx hb dL_law_44 (by rw [c11]; decide) (by rw [c11]; decide) (by rw [c11]; rfl) (by decide) ?_
        refine lv_aload_n hx hb dL_law_829 rfl (lv_at hl 1 rfl) ?_
        refine lv_aload_n hx hb dL_law_830 rfl (lv_at hl 0 rfl) ?_
        refine lv_iload hx hb dL_law_831 (lv_at hl 5 rfl) ?_
        refine lv_iconst (v := (1 : Int32)) hx hb dL_law_833 (by decide) ?_
        refine lv_iadd hx hb dL_law_834 ?_
        obtain ⟨hin, h⟩ := h
        refine va_sld hx hb hX hbl hbA hS hin dL_law_835 ?_
        refine lv_aload hx hb dL_law_836 (lv_at hl 4 rfl) ?_
        have hPc := hP.sub (ws' := wC k aC aE aP aQ aM cX cY cN cM ++ wE k aE fX fY lX lY oP nE ++ wP k aP pX pY pD pO nP ++ wQ k aQ qF nQ ++ wM k aM mR mQ mN ++ wO k aO oL oD) [0, 1, 2, 3, 4, 5, 6, 7, 8, 9, 10, 11, 12, 13, 14, 15, 16, 17, 18, 19, 20, 21, 22, 23, 24, 25, 26, 27, 28, 29, 30, 48, 49] rfl
        have hDc := hD.sub (ws' := wC k aC aE aP aQ aM cX cY cN cM ++ wE k aE fX fY lX lY oP nE ++ wP k aP pX pY pD pO nP ++ wQ k aQ qF nQ ++ wM k aM mR mQ mN ++ wO k aO oL oD) [0, 1, 2, 3, 4, 5, 6, 7, 8, 9, 10, 11, 12, 13, 14, 15, 16, 17, 18, 19, 20, 21, 22, 23, 24, 25, 26, 27, 28, 29, 30, 48, 49] (by decide) rfl
        have hFc := va_free (wc := wC k aC aE aP aQ aM cX cY cN cM ++ wE k aE fX fY lX lY oP nE ++ wP k aP pX pY pD pO nP ++ wQ k aQ qF nQ ++ wM k aM mR mQ mN ++ wO k aO oL oD) hD hS hA [0, 1, 2, 3, 4, 5, 6, 7, 8, 9, 10, 11, 12, 13, 14, 15, 16, 17, 18, 19, 20, 21, 22, 23, 24, 25, 26, 27, 28, 29, 30, 48, 49] rfl
        refine va_calli (vx_runSW (As := [.ref (aC 0), .int (xs (v5 + (1 : Int32)).toNatClampNeg), .ref (aO 1)]) (rest := []) ⟨hx, hb, hml, hown, hts⟩ (m_L_area l D k aC aE aP aQ aM aO cX cY cN cM fX fY lX lY oP nE pX pY pD pO nP qF nQ mR mQ mN oL oD (xs (v5 + (1 : Int32)).toNatClampNeg) _ _ hlt h) (vx_cwSW 3 hts gL_law_L_area rfl rfl rfl (by decide +kernel) ⟨Nat.le_of_ble_eq_true rfl, Nat.le_of_ble_eq_true rfl⟩) (preS_th hE hT hS hFc hPc hDc) rfl rfl hl.1 rfl (lv_room (Nat.le_of_ble_eq_true rfl)) dL_law_838 ⟨by change _ ≤ 601024; omega, by change _ ≤ 7293034; omega⟩) hS (fun q _ h => hFc q h) hFc (fun r838 oD_838 t H1 locs ht hvm h hB hz1 hk1 hS => ?_)
        obtain ⟨hP1, hD1⟩ := hB
        rw [ht] at hP1
        obtain ⟨hP, hD⟩ := va_join (wr := wR k aR rF rS rVx rVy rMd rE rAx rAy rBx rBy rO rP rPx rPy rPd rQ rFi rLa rOn rLe rRi rHx rHy rHd rKx rKy rKd) (w1 := wC k aC aE aP aQ aM cX cY cN cM ++ wE k aE fX fY lX lY oP nE ++ wP k aP pX pY pD pO nP ++ wQ k aQ qF nQ ++ wM k aM mR mQ mN ++ wO k aO oL oD_838) hP hD [0, 1, 2, 3, 4, 5, 6, 7, 8, 9, 10, 11, 12, 13, 14, 15, 16, 17, 18, 19, 20, 21, 22, 23, 24, 25, 26, 27, 28, 29, 30, 48, 49] [31, 32, 33, 34, 35, 36, 37, 38, 39, 40, 41, 42, 43, 44, 45, 46, 47] rfl rfl (by decide) (by decide) hk1 hFc hP1 hD1
        generalize H1 = H at hP hS ⊢
        have hP : va_P D vwCl (wC k aC aE aP aQ aM cX cY cN cM ++ wE k aE fX fY lX lY oP nE ++ wP k aP pX pY pD pO nP ++ wQ k aQ qF nQ ++ wM k aM mR mQ mN ++ wR k aR rF rS rVx rVy rMd rE rAx rAy rBx rBy rO rP rPx rPy rPd rQ rFi rLa rOn rLe rRi rHx rHy rHd rKx rKy rKd ++ wO k aO oL oD_838) H := hP.sub [17, 18, 19, 20, 21, 22, 23, 24, 25, 26, 27, 28, 29, 30, 31, 32, 33, 34, 35, 36, 37, 38, 39, 40, 41, 42, 43, 44, 45, 46, 47, 0, 1, 2, 3, 4, 5, 6, 7, 8, 9, 10, 11, 12, 13, 14, 15, 16, 48, 49] rfl
        have hD : va_D A (wC k aC aE aP aQ aM cX cY cN cM ++ wE k aE fX fY lX lY oP nE ++ wP k aP pX pY pD pO nP ++ wQ k aQ qF nQ ++ wM k aM mR mQ mN ++ wR k aR rF rS rVx rVy rMd rE rAx rAy rBx rBy rO rP rPx rPy rPd rQ rFi rLa rOn rLe rRi rHx rHy rHd rKx rKy rKd ++ wO k aO oL oD_838) := hD.sub [17, 18, 19, 20, 21, 22, 23, 24, 25, 26, 27, 28, 29, 30, 31, 32, 33, 34, 35, 36, 37, 38, 39, 40, 41, 42, 43, 44, 45, 46, 47, 0, 1, 2, 3, 4, 5, 6, 7, 8, 9, 10, 11, 12, 13, 14, 15, 16, 48, 49] (by decide) rfl
        refine lv_istore (lv' := [(6, .int r838), (0, .ref b), (1, .ref (aC 0)), (2, .ref (aR 0)), (3, .ref (aO 0)), (4, .ref (aO 1)), (5, .int v5)]) hx hb dL_law_841 hl (by decide) rfl (fun ls hl => ?_)
        refine lv_aload_n hx hb dL_law_843 rfl (lv_at hl 3 rfl) ?_
        refine lv_aload_n hx hb dL_law_844 rfl (lv_at hl 1 rfl) ?_
        refine lv_iload hx hb dL_law_845 (lv_at hl 6 rfl) ?_
        refine lv_iconst (v := (1 : Int32)) hx hb dL_law_847 (by decide) ?_
        refine lv_iadd hx hb dL_law_848 ?_
        obtain ⟨hin, h⟩ := h
        refine va_sld hx hb hX hbl hbA hS hin dL_law_849 ?_
        have hPc := hP.sub (ws' := wR k aR rF rS rVx rVy rMd rE rAx rAy rBx rBy rO rP rPx rPy rPd rQ rFi rLa rOn rLe rRi rHx rHy rHd rKx rKy rKd) [31, 32, 33, 34, 35, 36, 37, 38, 39, 40, 41, 42, 43, 44, 45, 46, 47] rfl
        have hDc := hD.sub (ws' := wR k aR rF rS rVx rVy rMd rE rAx rAy rBx rBy rO rP rPx rPy rPd rQ rFi rLa rOn rLe rRi rHx rHy rHd rKx rKy rKd) [31, 32, 33, 34, 35, 36, 37, 38, 39, 40, 41, 42, 43, 44, 45, 46, 47] (by decide) rfl
        have hFc := va_free (wc := wR k aR rF rS rVx rVy rMd rE rAx rAy rBx rBy rO rP rPx rPy rPd rQ rFi rLa rOn rLe rRi rHx rHy rHd rKx rKy rKd) hD hS hA [31, 32, 33, 34, 35, 36, 37, 38, 39, 40, 41, 42, 43, 44, 45, 46, 47] rfl
        refine va_calld (va_runV (C := RX5) (b := (aR 0)) (As := [.int (xs (v5 + (1 : Int32)).toNatClampNeg)]) (rest := []) ⟨hx, hb, hml, hown, hts⟩ (m_X5_area l D k aR rF rS rVx rVy rMd rE rAx rAy rBx rBy rO rP rPx rPy rPd rQ rFi rLa rOn rLe rRi rHx rHy rHd rKx rKy rKd (xs (v5 + (1 : Int32)).toNatClampNeg) _ _ h) (cwV 1 hts gL_law_X5_area rfl rfl rfl (by decide +kernel) ⟨Nat.le_of_ble_eq_true rfl, Nat.le_of_ble_eq_true rfl⟩) (preV_rw (ci := 5) (q0 := 0) (C := RX5) (T := TX5) (N := 27) hE hPc hDc rfl rfl) rfl rfl hl.1 rfl (lv_room (Nat.le_of_ble_eq_true rfl)) dL_law_850 ⟨by change _ ≤ 601024; omega, by change _ ≤ 7293034; omega⟩) hS (fun q _ h => hFc q h) hFc (fun r850 rF_850 t H1 locs ht hvm h hB hz1 hk1 hS => ?_)
        obtain ⟨hP1, hD1⟩ := hB
        rw [ht] at hP1
        obtain ⟨hP, hD⟩ := va_join (wr := wC k aC aE aP aQ aM cX cY cN cM ++ wE k aE fX fY lX lY oP nE ++ wP k aP pX pY pD pO nP ++ wQ k aQ qF nQ ++ wM k aM mR mQ mN ++ wO k aO oL oD_838) (w1 := wR k aR rF_850 rS rVx rVy rMd rE rAx rAy rBx rBy rO rP rPx rPy rPd rQ rFi rLa rOn rLe rRi rHx rHy rHd rKx rKy rKd) hP hD [31, 32, 33, 34, 35, 36, 37, 38, 39, 40, 41, 42, 43, 44, 45, 46, 47] [0, 1, 2, 3, 4, 5, 6, 7, 8, 9, 10, 11, 12, 13, 14, 15, 16, 17, 18, 19, 20, 21, 22, 23, 24, 25, 26, 27, 28, 29, 30, 48, 49] rfl rfl (by decide) (by decide) hk1 hFc hP1 hD1
        generalize H1 = H at hP hS ⊢
        have hP : va_P D vwCl (wC k aC aE aP aQ aM cX cY cN cM ++ wE k aE fX fY lX lY oP nE ++ wP k aP pX pY pD pO nP ++ wQ k aQ qF nQ ++ wM k aM mR mQ mN ++ wR k aR rF_850 rS rVx rVy rMd rE rAx rAy rBx rBy rO rP rPx rPy rPd rQ rFi rLa rOn rLe rRi rHx rHy rHd rKx rKy rKd ++ wO k aO oL oD_838) H := hP.sub [0, 1, 2, 3, 4, 5, 6, 7, 8, 9, 10, 11, 12, 13, 14, 15, 16, 17, 18, 19, 20, 21, 22, 23, 24, 25, 26, 27, 28, 29, 30, 33, 34, 35, 36, 37, 38, 39, 40, 41, 42, 43, 44, 45, 46, 47, 48, 49, 31, 32] rfl
        have hD : va_D A (wC k aC aE aP aQ aM cX cY cN cM ++ wE k aE fX fY lX lY oP nE ++ wP k aP pX pY pD pO nP ++ wQ k aQ qF nQ ++ wM k aM mR mQ mN ++ wR k aR rF_850 rS rVx rVy rMd rE rAx rAy rBx rBy rO rP rPx rPy rPd rQ rFi rLa rOn rLe rRi rHx rHy rHd rKx rKy rKd ++ wO k aO oL oD_838) := hD.sub [0, 1, 2, 3, 4, 5, 6, 7, 8, 9, 10, 11, 12, 13, 14, 15, 16, 17, 18, 19, 20, 21, 22, 23, 24, 25, 26, 27, 28, 29, 30, 33, 34, 35, 36, 37, 38, 39, 40, 41, 42, 43, 44, 45, 46, 47, 48, 49, 31, 32] (by decide) rfl
        refine lv_dstore (lv' := [(7, .double r850), (6, .int r838), (0, .ref b), (1, .ref (aC 0)), (2, .ref (aR 0)), (3, .ref (aO 0)), (4, .ref (aO 1)), (5, .int v5)]) hx hb dL_law_853 hl (by decide) rfl (fun ls hl => ?_)
        refine lv_aload_n hx hb dL_law_855 rfl (lv_at hl 4 rfl) ?_
        have hPc := hP.sub (ws' := wR k aR rF_850 rS rVx rVy rMd rE rAx rAy rBx rBy rO rP rPx rPy rPd rQ rFi rLa rOn rLe rRi rHx rHy rHd rKx rKy rKd) [31, 32, 33, 34, 35, 36, 37, 38, 39, 40, 41, 42, 43, 44, 45, 46, 47] rfl
        refine vp_callSi (W.runV (C := RX5) (b := (aR 0)) (As := []) (rest := []) ⟨hx, hb, hml, hown, hts⟩ (m_X5_thrown l D k aR rF_850 rS rVx rVy rMd rE rAx rAy rBx rBy rO rP rPx rPy rPd rQ rFi rLa rOn rLe rRi rHx rHy rHd rKx rKy rKd  _ h) (cwV 0 hts gL_law_X5_thrown rfl rfl rfl (by decide +kernel) ⟨Nat.le_of_ble_eq_true rfl, Nat.le_of_ble_eq_true rfl⟩) (preV_ro (ci := 5) (q0 := 0) (C := RX5) (T := TX5) (N := 27) hE hPc rfl rfl) rfl rfl hl.1 rfl (lv_room (Nat.le_of_ble_eq_true rfl)) dL_law_856 ⟨by change _ ≤ 601024; omega, by change _ ≤ 7293034; omega⟩) (fun r856 h => ?_)
        refine lv_iload hx hb dL_law_859 (lv_at hl 1 rfl) ?_
        refine lv_icmp_eq (tgt := 866) hx hb dL_law_861 (by decide) (fun cq => ?_) (fun cq => ?_)
        · have h := h.1 cq
          refine lv_iload hx hb dL_law_866 (lv_at hl 1 rfl) ?_
          refine lv_if_ne (tgt := 903) hx hb dL_law_868 (by decide) (fun cq => ?_) (fun cq => ?_)
          · have h := h.1 cq
            exact L903 v5 cX cY cN cM fX fY lX lY oP nE pX pY pD pO nP qF nQ mR mQ mN rF_850 rS rVx rVy rMd rE rAx rAy rBx rBy rO rP rPx rPy rPd rQ rFi rLa rOn rLe rRi rHx rHy rHd rKx rKy rKd oL oD_838 _ _ _ _ _ (by omega) (by omega) h hP hD hS (lv_sub hl [2, 3, 4, 5, 6, 7] rfl)
          · have h := h.2 cq
            refine lv_aload hx hb dL_law_871 (lv_at hl 6 rfl) ?_
            refine lv_iconst (v := (0 : Int32)) hx hb dL_law_873 (by decide) ?_
            obtain ⟨hin, h⟩ := h
            refine va_dald hx hb hK hP 49 3 rfl rfl hin dL_law_874 ?_
            refine lv_dload hx hb dL_law_875 (lv_at hl 0 rfl) ?_
            refine lv_dcmp hx hb dL_law_877 ?_
            refine lv_if_eq (tgt := 903) hx hb dL_law_878 (by decide) (fun cq => ?_) (fun cq => ?_)
            · have h := h.1 cq
              exact L903 v5 cX cY cN cM fX fY lX lY oP nE pX pY pD pO nP qF nQ mR mQ mN rF_850 rS rVx rVy rMd rE rAx rAy rBx rBy rO rP rPx rPy rPd rQ rFi rLa rOn rLe rRi rHx rHy rHd rKx rKy rKd oL oD_838 _ _ _ _ _ (by omega) (by omega) h hP hD hS (lv_sub hl [2, 3, 4, 5, 6, 7] rfl)
            · have h := h.2 cq
              refine lv_aload hx hb dL_law_881 (lv_at hl 6 rfl) ?_
              refine lv_iconst (v := (0 : Int32)) hx hb dL_law_883 (by decide) ?_
              obtain ⟨hin, h⟩ := h
              refine va_dald hx hb hK hP 49 3 rfl rfl hin dL_law_884 ?_
              refine lv_aload hx hb dL_law_885 (lv_at hl 6 rfl) ?_
              refine lv_iconst (v := (0 : Int32)) hx hb dL_law_887 (by decide) ?_
              obtain ⟨hin, h⟩ := h
              refine va_dald hx hb hK hP 49 3 rfl rfl hin dL_law_888 ?_
              refine lv_dcmp hx hb dL_law_889 ?_
              refine lv_if_eq (tgt := 901) hx hb dL_law_890 (by decide) (fun cq => ?_) (fun cq => ?_)
              · have h := h.1 cq
                exact L901 cX cY cN cM fX fY lX lY oP nE pX pY pD pO nP qF nQ mR mQ mN rF_850 rS rVx rVy rMd rE rAx rAy rBx rBy rO rP rPx rPy rPd rQ rFi rLa rOn rLe rRi rHx rHy rHd rKx rKy rKd oL oD_838 _ _ _ _ _ (by omega) (by omega) h hP hD hS (lv_sub hl [] rfl)
              · have h := h.2 cq
                refine lv_dload hx hb dL_law_893 (lv_at hl 0 rfl) ?_
                refine lv_dload hx hb dL_law_895 (lv_at hl 0 rfl) ?_
                refine lv_dcmp hx hb dL_law_897 ?_
                refine lv_if_ne (tgt := 903) hx hb dL_law_898 (by decide) (fun cq => ?_) (fun cq => ?_)
                · have h := h.1 cq
                  exact L903 v5 cX cY cN cM fX fY lX lY oP nE pX pY pD pO nP qF nQ mR mQ mN rF_850 rS rVx rVy rMd rE rAx rAy rBx rBy rO rP rPx rPy rPd rQ rFi rLa rOn rLe rRi rHx rHy rHd rKx rKy rKd oL oD_838 _ _ _ _ _ (by omega) (by omega) h hP hD hS (lv_sub hl [2, 3, 4, 5, 6, 7] rfl)
                · have h := h.2 cq
                  exact L901 cX cY cN cM fX fY lX lY oP nE pX pY pD pO nP qF nQ mR mQ mN rF_850 rS rVx rVy rMd rE rAx rAy rBx rBy rO rP rPx rPy rPd rQ rFi rLa rOn rLe rRi rHx rHy rHd rKx rKy rKd oL oD_838 _ _ _ _ _ (by omega) (by omega) h hP hD hS (lv_sub hl [] rfl)
        · have h := h.2 cq
          refine lv_iconst (v := (0 : Int32)) hx hb dL_law_864 (by decide) ?_
          rw [h]
          refine va_forget (fun q hq => hf9 _ (hS.2.2 q hq)) ?_
          refine W.widen (k := 601024) (n := 7293034) (by omega) (by omega) ?_
          exact lw_ret hx hb hr hlocks dL_law_865
      have h := h.2.2.2.2.2.2.2.2.2.2.2.2 c0 c1 c2 c3 c4 c5 c6 c7 c8 c9 c10 c11
      refine lv_tableOut (tgt := 906) hx hb dL_law_44 (sw_out11 c0 c1 c2 c3 c4 c5 c6 c7 c8 c9 c10 c11) (by decide) ?_
      exact L906 v5 cX cY cN cM fX fY lX lY oP nE pX pY pD pO nP qF nQ mR mQ mN rF rS rVx rVy rMd rE rAx rAy rBx rBy rO rP rPx rPy rPd rQ rFi rLa rOn rLe rRi rHx rHy rHd rKx rKy rKd oL oD _ _ _ _ _ (by omega) (by omega) h hP hD hS (lv_sub hl [0, 1, 2, 3, 4, 5] rfl)
