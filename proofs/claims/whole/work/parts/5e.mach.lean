set_option maxHeartbeats 4000000 in
set_option maxRecDepth 100000 in
theorem m_X5_along (l : Launch) (D : va_G) (k : Nat → ClassId) (aR : Nat → Nat) (rF : Int32) (rS : Nat → Int32) (rVx : Nat → Int32) (rVy : Nat → Int32) (rMd : Int32) (rE : Int32) (rAx : Nat → Int32) (rAy : Nat → Int32) (rBx : Nat → Int32) (rBy : Nat → Int32) (rO : Nat → Int32) (rP : Int32) (rPx : Nat → Int32) (rPy : Nat → Int32) (rPd : Nat → Int32) (rQ : Int32) (rFi : Nat → Int32) (rLa : Nat → Int32) (rOn : Nat → Int32) (rLe : Nat → Int32) (rRi : Nat → Int32) (rHx : Int64) (rHy : Int64) (rHd : Int64) (rKx : Int64) (rKy : Int64) (rKd : Int64) (p0 : Int32) (p1 : Int32) (Q : Int32 → (Int64) → (Int64) → (Int64) → (Int64) → (Int64) → (Int64) → Prop) (sz : Nat) (h : wp_X5_along p0 p1 rAx rAy rBx rBy rHx rHy rHd rKx rKy rKd Q) : Met l yX5_along wsX5_along ({ frames := 1, cells := 0, slots := 0, locals := 35 }) (Prw D k [.ref (aR 0), .int p0, .int p1] (wR k aR rF rS rVx rVy rMd rE rAx rAy rBx rBy rO rP rPx rPy rPd rQ rFi rLa rOn rLe rRi rHx rHy rHd rKx rKy rKd) sz) (va_Qi (fun (r : Int32) (u : (Int64) × (Int64) × (Int64) × (Int64) × (Int64) × (Int64)) => Q r u.1 u.2.1 u.2.2.1 u.2.2.2.1 u.2.2.2.2.1 u.2.2.2.2.2) (fun (u : (Int64) × (Int64) × (Int64) × (Int64) × (Int64) × (Int64)) t => va_P D vwCl (wR k aR rF rS rVx rVy rMd rE rAx rAy rBx rBy rO rP rPx rPy rPd rQ rFi rLa rOn rLe rRi (u.1) (u.2.1) (u.2.2.1) (u.2.2.2.1) (u.2.2.2.2.1) (u.2.2.2.2.2)) t.heap ∧ va_D (va_A (wR k aR rF rS rVx rVy rMd rE rAx rAy rBx rBy rO rP rPx rPy rPd rQ rFi rLa rOn rLe rRi rHx rHy rHd rKx rKy rKd) sz) (wR k aR rF rS rVx rVy rMd rE rAx rAy rBx rBy rO rP rPx rPy rPd rQ rFi rLa rOn rLe rRi (u.1) (u.2.1) (u.2.2.1) (u.2.2.2.1) (u.2.2.2.2.1) (u.2.2.2.2.2))) (va_A (wR k aR rF rS rVx rVy rMd rE rAx rAy rBx rBy rO rP rPx rPy rPd rQ rFi rLa rOn rLe rRi rHx rHy rHd rKx rKy rKd) sz)) 0 0 (va_A (wR k aR rF rS rVx rVy rMd rE rAx rAy rBx rBy rO rP rPx rPy rPd rQ rFi rLa rOn rLe rRi rHx rHy rHd rKx rKy rKd) sz) := by
  refine Met.ofW (cc := cX5_along) (maxL := 6) (ret := (some .int)) (by decide) rfl ?_
  intro p e s m args below meth c s₁ B hml hv
  obtain ⟨hav, hsz, hP, hE, hD0⟩ := hv
  subst hsz
  have hx := B.exec
  have hb := B.bytes
  have hr := B.returns
  have hts := atoms_spec (ws := wsX5_along) B.pre
  have hown : s.vm.findClass RX5 = some m.cls := findClass_of_methodNamed B.named
  have hlocks := B.notSynchronized
  have hK := hE.1
  have hD := hD0.self (sz := s.heap.size)
  generalize hAe : va_A (wR k aR rF rS rVx rVy rMd rE rAx rAy rBx rBy rO rP rPx rPy rPd rQ rFi rLa rOn rLe rRi rHx rHy rHd rKx rKy rKd) s.heap.size = A at hD ⊢
  have hA : ∀ q : Nat, s.heap.size ≤ q → A q := fun q h => by rw [← hAe]; exact Or.inr h
  have hS : va_S A s.heap s.heap [] := va_S.rf
  have hl := lv_entry ([.ref (aR 0), .int p0, .int p1]) (n := 6) (Nat.le_of_ble_eq_true rfl)
  rw [show entryFrame m args 6 = entryFrame m ([.ref (aR 0), .int p0, .int p1] : List Value).toArray 6 by rw [hav]]
  rw [lg_entry_eq]
  refine W.gq (fun GQ hGQ => ?_)
  generalize (lg_sl ([.ref (aR 0), .int p0, .int p1]) ++ List.replicate (6 - (lg_sl ([.ref (aR 0), .int p0, .int p1])).length) Slot.unset).toArray = ls at hl ⊢
  have hl : lv_has ls 6 [(0, .ref (aR 0)), (1, .int p0), (2, .int p1)] := hl
  have hiX5 := (by decide +kernel : ∀ w ∈ wsX50, w ∈ wsX5_along)
  have f106 := hts (.fieldLink RX5 106 "PlaneOverlayModel" "ky" "J") (by decide +kernel)
  have f109 := hts (.fieldLink RX5 109 "PlaneOverlayModel" "kd" "J") (by decide +kernel)
  have f70 := hts (.fieldLink RX5 70 "PlaneOverlayModel" "hx" "J") (by decide +kernel)
  have f74 := hts (.fieldLink RX5 74 "PlaneOverlayModel" "hy" "J") (by decide +kernel)
  have f77 := hts (.fieldLink RX5 77 "PlaneOverlayModel" "hd" "J") (by decide +kernel)
  have f103 := hts (.fieldLink RX5 103 "PlaneOverlayModel" "kx" "J") (by decide +kernel)
  have f28 := hts (.fieldLink RX5 28 "PlaneOverlayModel" "by" "[I") (by decide +kernel)
  have f25 := hts (.fieldLink RX5 25 "PlaneOverlayModel" "bx" "[I") (by decide +kernel)
  have f22 := hts (.fieldLink RX5 22 "PlaneOverlayModel" "ay" "[I") (by decide +kernel)
  have f19 := hts (.fieldLink RX5 19 "PlaneOverlayModel" "ax" "[I") (by decide +kernel)
  have L272 : ∀ (z0 : Int32) (rHx : Int64) (rHy : Int64) (rHd : Int64) (rKx : Int64) (rKy : Int64) (rKd : Int64) (H : Heap) (locs : List Loc) (ls : Array Slot), wp_X5_along_L272 p0 p1 rAx rAy rBx rBy Q  z0 rHx rHy rHd rKx rKy rKd → va_P D vwCl (wR k aR rF rS rVx rVy rMd rE rAx rAy rBx rBy rO rP rPx rPy rPd rQ rFi rLa rOn rLe rRi rHx rHy rHd rKx rKy rKd) H → va_D A (wR k aR rF rS rVx rVy rMd rE rAx rAy rBx rBy rO rP rPx rPy rPd rQ rFi rLa rOn rLe rRi rHx rHy rHd rKx rKy rKd) → va_S A s.heap H locs → lv_has ls 6 [] → W p l e (headSpec wsX5_along ({ frames := 1, cells := 0, slots := 0, locals := 35 })).room s m args below meth c H locs 0 0 GQ (F0 m 272 ls [.int z0]) := by
    intro z0 rHx rHy rHd rKx rKy rKd H locs ls h hP hD hS hl
    unfold wp_X5_along_L272 at h
    rw [hGQ]
    exact W.iret (v := z0) hx hb hr (fun t ht hW => ⟨⟨_, (rHx, rHy, rHd, rKx, rKy, rKd), rfl, h, by rw [ht]; exact hP, hD⟩, hS.F ht⟩) hS.2.2 dX5_along_272
  have L216 : ∀ (z0 : Int64) (rHx : Int64) (rHy : Int64) (rHd : Int64) (rKx : Int64) (rKy : Int64) (rKd : Int64) (H : Heap) (locs : List Loc) (ls : Array Slot), wp_X5_along_L216 p0 p1 rAx rAy rBx rBy Q  z0 rHx rHy rHd rKx rKy rKd → va_P D vwCl (wR k aR rF rS rVx rVy rMd rE rAx rAy rBx rBy rO rP rPx rPy rPd rQ rFi rLa rOn rLe rRi rHx rHy rHd rKx rKy rKd) H → va_D A (wR k aR rF rS rVx rVy rMd rE rAx rAy rBx rBy rO rP rPx rPy rPd rQ rFi rLa rOn rLe rRi rHx rHy rHd rKx rKy rKd) → va_S A s.heap H locs → lv_has ls 6 [(0, .ref (aR 0))] → W p l e (headSpec wsX5_along ({ frames := 1, cells := 0, slots := 0, locals := 35 })).room s m args below meth c H locs 0 0 GQ (F0 m 216 ls [.long z0, .ref (aR 0)]) := by
    intro z0 rHx rHy rHd rKx rKy rKd H locs ls h hP hD hS hl
    unfold wp_X5_along_L216 at h
    refine va_put (D := D) (ci := 5) (v := .long z0) (ty := .long) (C := RX5) (T := TX5) (N := 27) hx hb hts hiX5 tyX5 tyX5_ok nmX5 hown hK hP hD hS 0 rfl rfl 25 (by decide) f106 (fun _ h9 => h9) rfl (by decide +kernel) rfl rfl (Nat.le_of_ble_eq_true rfl) dX5_along_216 (fun H locs hP hD hS => ?_)
    have hP : va_P D vwCl (wR k aR rF rS rVx rVy rMd rE rAx rAy rBx rBy rO rP rPx rPy rPd rQ rFi rLa rOn rLe rRi rHx rHy rHd rKx z0 rKd) H := hP
    have hD : va_D A (wR k aR rF rS rVx rVy rMd rE rAx rAy rBx rBy rO rP rPx rPy rPd rQ rFi rLa rOn rLe rRi rHx rHy rHd rKx z0 rKd) := hD
    refine lv_aload_n hx hb dX5_along_219 rfl (lv_at hl 0 rfl) ?_
    refine lv_lconst (v := (1 : Int64)) hx hb dX5_along_220 (by decide) ?_
    refine va_put (D := D) (ci := 5) (v := .long (1 : Int64)) (ty := .long) (C := RX5) (T := TX5) (N := 27) hx hb hts hiX5 tyX5 tyX5_ok nmX5 hown hK hP hD hS 0 rfl rfl 26 (by decide) f109 (fun _ h9 => h9) rfl (by decide +kernel) rfl rfl (Nat.le_of_ble_eq_true rfl) dX5_along_221 (fun H locs hP hD hS => ?_)
    have hP : va_P D vwCl (wR k aR rF rS rVx rVy rMd rE rAx rAy rBx rBy rO rP rPx rPy rPd rQ rFi rLa rOn rLe rRi rHx rHy rHd rKx z0 (1 : Int64)) H := hP
    have hD : va_D A (wR k aR rF rS rVx rVy rMd rE rAx rAy rBx rBy rO rP rPx rPy rPd rQ rFi rLa rOn rLe rRi rHx rHy rHd rKx z0 (1 : Int64)) := hD
    refine lv_aload_n hx hb dX5_along_224 rfl (lv_at hl 0 rfl) ?_
    refine va_get (D := D) (ci := 5) (v := .long rHx) (C := RX5) (T := TX5) (N := 27) hx hb hts hiX5 hown hK hP 0 rfl rfl 21 (by decide) f70 (fun _ h9 => h9) rfl dX5_along_225 ?_
    refine lv_aload_n hx hb dX5_along_228 rfl (lv_at hl 0 rfl) ?_
    refine va_get (D := D) (ci := 5) (v := .long rHy) (C := RX5) (T := TX5) (N := 27) hx hb hts hiX5 hown hK hP 0 rfl rfl 22 (by decide) f74 (fun _ h9 => h9) rfl dX5_along_229 ?_
    refine lv_aload_n hx hb dX5_along_232 rfl (lv_at hl 0 rfl) ?_
    refine va_get (D := D) (ci := 5) (v := .long rHd) (C := RX5) (T := TX5) (N := 27) hx hb hts hiX5 hown hK hP 0 rfl rfl 23 (by decide) f77 (fun _ h9 => h9) rfl dX5_along_233 ?_
    refine lv_aload_n hx hb dX5_along_236 rfl (lv_at hl 0 rfl) ?_
    refine va_get (D := D) (ci := 5) (v := .long rKx) (C := RX5) (T := TX5) (N := 27) hx hb hts hiX5 hown hK hP 0 rfl rfl 24 (by decide) f103 (fun _ h9 => h9) rfl dX5_along_237 ?_
    refine lv_aload_n hx hb dX5_along_240 rfl (lv_at hl 0 rfl) ?_
    refine va_get (D := D) (ci := 5) (v := .long z0) (C := RX5) (T := TX5) (N := 27) hx hb hts hiX5 hown hK hP 0 rfl rfl 25 (by decide) f106 (fun _ h9 => h9) rfl dX5_along_241 ?_
    refine lv_aload_n hx hb dX5_along_244 rfl (lv_at hl 0 rfl) ?_
    refine va_get (D := D) (ci := 5) (v := .long (1 : Int64)) (C := RX5) (T := TX5) (N := 27) hx hb hts hiX5 hown hK hP 0 rfl rfl 26 (by decide) f109 (fun _ h9 => h9) rfl dX5_along_245 ?_
    refine vp_callSi (W.runS (As := [.long rHx, .long rHy, .long rHd, .long rKx, .long z0, .long (1 : Int64)]) (rest := []) ⟨hx, hb, hml, hown, hts⟩ (m_X5_order l D k   rHx rHy rHd rKx z0 (1 : Int64) _ h) (va_cwS 6 hts gX5_along_X5_order rfl rfl rfl (by decide +kernel) ⟨Nat.le_of_ble_eq_true rfl, Nat.le_of_ble_eq_true rfl⟩) (preS_ro hE vaP0) rfl rfl hl.1 rfl (lv_room (Nat.le_of_ble_eq_true rfl)) dX5_along_248 ⟨Nat.le_of_ble_eq_true rfl, Nat.le_of_ble_eq_true rfl⟩) (fun r248 h => ?_)
    refine lv_istore (lv' := [(5, .int r248), (0, .ref (aR 0))]) hx hb dX5_along_251 hl (by decide) rfl (fun ls hl => ?_)
    refine lv_iload hx hb dX5_along_253 (lv_at hl 0 rfl) ?_
    refine lv_if_le (tgt := 262) hx hb dX5_along_255 (by decide) (fun cq => ?_) (fun cq => ?_)
    · have h := h.1 cq
      refine lv_iload hx hb dX5_along_262 (lv_at hl 0 rfl) ?_
      refine lv_if_ne (tgt := 271) hx hb dX5_along_264 (by decide) (fun cq => ?_) (fun cq => ?_)
      · have h := h.1 cq
        refine lv_iconst (v := (2 : Int32)) hx hb dX5_along_271 (by decide) ?_
        exact L272 (2 : Int32) rHx rHy rHd rKx z0 (1 : Int64) _ _ _ h hP hD hS (lv_sub hl [] rfl)
      · have h := h.2 cq
        refine lv_iconst (v := (1 : Int32)) hx hb dX5_along_267 (by decide) ?_
        refine lv_goto (tgt := 272) hx hb dX5_along_268 (by decide) ?_
        exact L272 (1 : Int32) rHx rHy rHd rKx z0 (1 : Int64) _ _ _ h hP hD hS (lv_sub hl [] rfl)
    · have h := h.2 cq
      refine lv_iconst (v := (0 : Int32)) hx hb dX5_along_258 (by decide) ?_
      refine lv_goto (tgt := 272) hx hb dX5_along_259 (by decide) ?_
      exact L272 (0 : Int32) rHx rHy rHd rKx z0 (1 : Int64) _ _ _ h hP hD hS (lv_sub hl [] rfl)
  have L190 : ∀ (v4 : Int32) (z0 : Int64) (rHx : Int64) (rHy : Int64) (rHd : Int64) (rKx : Int64) (rKy : Int64) (rKd : Int64) (H : Heap) (locs : List Loc) (ls : Array Slot), wp_X5_along_L190 p0 p1 rAx rAy rBx rBy Q  v4 z0 rHx rHy rHd rKx rKy rKd → va_P D vwCl (wR k aR rF rS rVx rVy rMd rE rAx rAy rBx rBy rO rP rPx rPy rPd rQ rFi rLa rOn rLe rRi rHx rHy rHd rKx rKy rKd) H → va_D A (wR k aR rF rS rVx rVy rMd rE rAx rAy rBx rBy rO rP rPx rPy rPd rQ rFi rLa rOn rLe rRi rHx rHy rHd rKx rKy rKd) → va_S A s.heap H locs → lv_has ls 6 [(0, .ref (aR 0)), (1, .int p0), (2, .int p1), (4, .int v4)] → W p l e (headSpec wsX5_along ({ frames := 1, cells := 0, slots := 0, locals := 35 })).room s m args below meth c H locs 0 0 GQ (F0 m 190 ls [.long z0, .ref (aR 0)]) := by
    intro v4 z0 rHx rHy rHd rKx rKy rKd H locs ls h hP hD hS hl
    unfold wp_X5_along_L190 at h
    refine va_put (D := D) (ci := 5) (v := .long z0) (ty := .long) (C := RX5) (T := TX5) (N := 27) hx hb hts hiX5 tyX5 tyX5_ok nmX5 hown hK hP hD hS 0 rfl rfl 24 (by decide) f103 (fun _ h9 => h9) rfl (by decide +kernel) rfl rfl (Nat.le_of_ble_eq_true rfl) dX5_along_190 (fun H locs hP hD hS => ?_)
    have hP : va_P D vwCl (wR k aR rF rS rVx rVy rMd rE rAx rAy rBx rBy rO rP rPx rPy rPd rQ rFi rLa rOn rLe rRi rHx rHy rHd z0 rKy rKd) H := hP
    have hD : va_D A (wR k aR rF rS rVx rVy rMd rE rAx rAy rBx rBy rO rP rPx rPy rPd rQ rFi rLa rOn rLe rRi rHx rHy rHd z0 rKy rKd) := hD
    refine lv_aload_n hx hb dX5_along_193 rfl (lv_at hl 0 rfl) ?_
    refine lv_iload hx hb dX5_along_194 (lv_at hl 3 rfl) ?_
    refine lv_if_eq (tgt := 209) hx hb dX5_along_196 (by decide) (fun cq => ?_) (fun cq => ?_)
    · have h := h.1 cq
      refine lv_aload_n hx hb dX5_along_209 rfl (lv_at hl 0 rfl) ?_
      refine va_get (D := D) (ci := 5) (v := .ref (aR 7)) (C := RX5) (T := TX5) (N := 27) hx hb hts hiX5 hown hK hP 0 rfl rfl 9 (by decide) f28 (fun _ h9 => h9) rfl dX5_along_210 ?_
      refine lv_iload_n hx hb dX5_along_213 rfl (lv_at hl 1 rfl) ?_
      obtain ⟨hin, h⟩ := h
      refine va_iald hx hb hK hP 7 0 rfl rfl hin dX5_along_214 ?_
      refine lv_i2l hx hb dX5_along_215 rfl ?_
      exact L216 ((rBy p0.toNatClampNeg).toInt64) rHx rHy rHd z0 rKy rKd _ _ _ h hP hD hS (lv_sub hl [0] rfl)
    · have h := h.2 cq
      refine lv_aload_n hx hb dX5_along_199 rfl (lv_at hl 0 rfl) ?_
      refine va_get (D := D) (ci := 5) (v := .ref (aR 7)) (C := RX5) (T := TX5) (N := 27) hx hb hts hiX5 hown hK hP 0 rfl rfl 9 (by decide) f28 (fun _ h9 => h9) rfl dX5_along_200 ?_
      refine lv_iload_n hx hb dX5_along_203 rfl (lv_at hl 2 rfl) ?_
      obtain ⟨hin, h⟩ := h
      refine va_iald hx hb hK hP 7 0 rfl rfl hin dX5_along_204 ?_
      refine lv_i2l hx hb dX5_along_205 rfl ?_
      refine lv_goto (tgt := 216) hx hb dX5_along_206 (by decide) ?_
      exact L216 ((rBy p1.toNatClampNeg).toInt64) rHx rHy rHd z0 rKy rKd _ _ _ h hP hD hS (lv_sub hl [0] rfl)
  have L165 : ∀ (z0 : Int32) (rHx : Int64) (rHy : Int64) (rHd : Int64) (rKx : Int64) (rKy : Int64) (rKd : Int64) (H : Heap) (locs : List Loc) (ls : Array Slot), wp_X5_along_L165 p0 p1 rAx rAy rBx rBy Q  z0 rHx rHy rHd rKx rKy rKd → va_P D vwCl (wR k aR rF rS rVx rVy rMd rE rAx rAy rBx rBy rO rP rPx rPy rPd rQ rFi rLa rOn rLe rRi rHx rHy rHd rKx rKy rKd) H → va_D A (wR k aR rF rS rVx rVy rMd rE rAx rAy rBx rBy rO rP rPx rPy rPd rQ rFi rLa rOn rLe rRi rHx rHy rHd rKx rKy rKd) → va_S A s.heap H locs → lv_has ls 6 [(0, .ref (aR 0)), (1, .int p0), (2, .int p1)] → W p l e (headSpec wsX5_along ({ frames := 1, cells := 0, slots := 0, locals := 35 })).room s m args below meth c H locs 0 0 GQ (F0 m 165 ls [.int z0]) := by
    intro z0 rHx rHy rHd rKx rKy rKd H locs ls h hP hD hS hl
    unfold wp_X5_along_L165 at h
    refine lv_istore (lv' := [(4, .int z0), (0, .ref (aR 0)), (1, .int p0), (2, .int p1)]) hx hb dX5_along_165 hl (by decide) rfl (fun ls hl => ?_)
    refine lv_aload_n hx hb dX5_along_167 rfl (lv_at hl 1 rfl) ?_
    refine lv_iload hx hb dX5_along_168 (lv_at hl 0 rfl) ?_
    refine lv_if_eq (tgt := 183) hx hb dX5_along_170 (by decide) (fun cq => ?_) (fun cq => ?_)
    · have h := h.1 cq
      refine lv_aload_n hx hb dX5_along_183 rfl (lv_at hl 1 rfl) ?_
      refine va_get (D := D) (ci := 5) (v := .ref (aR 6)) (C := RX5) (T := TX5) (N := 27) hx hb hts hiX5 hown hK hP 0 rfl rfl 8 (by decide) f25 (fun _ h9 => h9) rfl dX5_along_184 ?_
      refine lv_iload_n hx hb dX5_along_187 rfl (lv_at hl 2 rfl) ?_
      obtain ⟨hin, h⟩ := h
      refine va_iald hx hb hK hP 6 0 rfl rfl hin dX5_along_188 ?_
      refine lv_i2l hx hb dX5_along_189 rfl ?_
      exact L190 z0 ((rBx p0.toNatClampNeg).toInt64) rHx rHy rHd rKx rKy rKd _ _ _ h hP hD hS (lv_sub hl [1, 2, 3, 0] rfl)
    · have h := h.2 cq
      refine lv_aload_n hx hb dX5_along_173 rfl (lv_at hl 1 rfl) ?_
      refine va_get (D := D) (ci := 5) (v := .ref (aR 6)) (C := RX5) (T := TX5) (N := 27) hx hb hts hiX5 hown hK hP 0 rfl rfl 8 (by decide) f25 (fun _ h9 => h9) rfl dX5_along_174 ?_
      refine lv_iload_n hx hb dX5_along_177 rfl (lv_at hl 3 rfl) ?_
      obtain ⟨hin, h⟩ := h
      refine va_iald hx hb hK hP 6 0 rfl rfl hin dX5_along_178 ?_
      refine lv_i2l hx hb dX5_along_179 rfl ?_
      refine lv_goto (tgt := 190) hx hb dX5_along_180 (by decide) ?_
      exact L190 z0 ((rBx p1.toNatClampNeg).toInt64) rHx rHy rHd rKx rKy rKd _ _ _ h hP hD hS (lv_sub hl [1, 2, 3, 0] rfl)
  have L116 : ∀ (z0 : Int64) (rHx : Int64) (rHy : Int64) (rHd : Int64) (rKx : Int64) (rKy : Int64) (rKd : Int64) (H : Heap) (locs : List Loc) (ls : Array Slot), wp_X5_along_L116 p0 p1 rAx rAy rBx rBy Q  z0 rHx rHy rHd rKx rKy rKd → va_P D vwCl (wR k aR rF rS rVx rVy rMd rE rAx rAy rBx rBy rO rP rPx rPy rPd rQ rFi rLa rOn rLe rRi rHx rHy rHd rKx rKy rKd) H → va_D A (wR k aR rF rS rVx rVy rMd rE rAx rAy rBx rBy rO rP rPx rPy rPd rQ rFi rLa rOn rLe rRi rHx rHy rHd rKx rKy rKd) → va_S A s.heap H locs → lv_has ls 6 [(0, .ref (aR 0)), (1, .int p0), (2, .int p1)] → W p l e (headSpec wsX5_along ({ frames := 1, cells := 0, slots := 0, locals := 35 })).room s m args below meth c H locs 0 0 GQ (F0 m 116 ls [.long z0, .ref (aR 0)]) := by
    intro z0 rHx rHy rHd rKx rKy rKd H locs ls h hP hD hS hl
    unfold wp_X5_along_L116 at h
    refine va_put (D := D) (ci := 5) (v := .long z0) (ty := .long) (C := RX5) (T := TX5) (N := 27) hx hb hts hiX5 tyX5 tyX5_ok nmX5 hown hK hP hD hS 0 rfl rfl 22 (by decide) f74 (fun _ h9 => h9) rfl (by decide +kernel) rfl rfl (Nat.le_of_ble_eq_true rfl) dX5_along_116 (fun H locs hP hD hS => ?_)
    have hP : va_P D vwCl (wR k aR rF rS rVx rVy rMd rE rAx rAy rBx rBy rO rP rPx rPy rPd rQ rFi rLa rOn rLe rRi rHx z0 rHd rKx rKy rKd) H := hP
    have hD : va_D A (wR k aR rF rS rVx rVy rMd rE rAx rAy rBx rBy rO rP rPx rPy rPd rQ rFi rLa rOn rLe rRi rHx z0 rHd rKx rKy rKd) := hD
    refine lv_aload_n hx hb dX5_along_119 rfl (lv_at hl 0 rfl) ?_
    refine lv_lconst (v := (1 : Int64)) hx hb dX5_along_120 (by decide) ?_
    refine va_put (D := D) (ci := 5) (v := .long (1 : Int64)) (ty := .long) (C := RX5) (T := TX5) (N := 27) hx hb hts hiX5 tyX5 tyX5_ok nmX5 hown hK hP hD hS 0 rfl rfl 23 (by decide) f77 (fun _ h9 => h9) rfl (by decide +kernel) rfl rfl (Nat.le_of_ble_eq_true rfl) dX5_along_121 (fun H locs hP hD hS => ?_)
    have hP : va_P D vwCl (wR k aR rF rS rVx rVy rMd rE rAx rAy rBx rBy rO rP rPx rPy rPd rQ rFi rLa rOn rLe rRi rHx z0 (1 : Int64) rKx rKy rKd) H := hP
    have hD : va_D A (wR k aR rF rS rVx rVy rMd rE rAx rAy rBx rBy rO rP rPx rPy rPd rQ rFi rLa rOn rLe rRi rHx z0 (1 : Int64) rKx rKy rKd) := hD
    refine lv_aload_n hx hb dX5_along_124 rfl (lv_at hl 0 rfl) ?_
    refine va_get (D := D) (ci := 5) (v := .ref (aR 6)) (C := RX5) (T := TX5) (N := 27) hx hb hts hiX5 hown hK hP 0 rfl rfl 8 (by decide) f25 (fun _ h9 => h9) rfl dX5_along_125 ?_
    refine lv_iload_n hx hb dX5_along_128 rfl (lv_at hl 1 rfl) ?_
    obtain ⟨hin, h⟩ := h
    refine va_iald hx hb hK hP 6 0 rfl rfl hin dX5_along_129 ?_
    refine lv_i2l hx hb dX5_along_130 rfl ?_
    refine lv_aload_n hx hb dX5_along_131 rfl (lv_at hl 0 rfl) ?_
    refine va_get (D := D) (ci := 5) (v := .ref (aR 7)) (C := RX5) (T := TX5) (N := 27) hx hb hts hiX5 hown hK hP 0 rfl rfl 9 (by decide) f28 (fun _ h9 => h9) rfl dX5_along_132 ?_
    refine lv_iload_n hx hb dX5_along_135 rfl (lv_at hl 1 rfl) ?_
    obtain ⟨hin, h⟩ := h
    refine va_iald hx hb hK hP 7 0 rfl rfl hin dX5_along_136 ?_
    refine lv_i2l hx hb dX5_along_137 rfl ?_
    refine lv_lconst (v := (1 : Int64)) hx hb dX5_along_138 (by decide) ?_
    refine lv_aload_n hx hb dX5_along_139 rfl (lv_at hl 0 rfl) ?_
    refine va_get (D := D) (ci := 5) (v := .ref (aR 6)) (C := RX5) (T := TX5) (N := 27) hx hb hts hiX5 hown hK hP 0 rfl rfl 8 (by decide) f25 (fun _ h9 => h9) rfl dX5_along_140 ?_
    refine lv_iload_n hx hb dX5_along_143 rfl (lv_at hl 2 rfl) ?_
    obtain ⟨hin, h⟩ := h
    refine va_iald hx hb hK hP 6 0 rfl rfl hin dX5_along_144 ?_
    refine lv_i2l hx hb dX5_along_145 rfl ?_
    refine lv_aload_n hx hb dX5_along_146 rfl (lv_at hl 0 rfl) ?_
    refine va_get (D := D) (ci := 5) (v := .ref (aR 7)) (C := RX5) (T := TX5) (N := 27) hx hb hts hiX5 hown hK hP 0 rfl rfl 9 (by decide) f28 (fun _ h9 => h9) rfl dX5_along_147 ?_
    refine lv_iload_n hx hb dX5_along_150 rfl (lv_at hl 2 rfl) ?_
    obtain ⟨hin, h⟩ := h
    refine va_iald hx hb hK hP 7 0 rfl rfl hin dX5_along_151 ?_
    refine lv_i2l hx hb dX5_along_152 rfl ?_
    refine lv_lconst (v := (1 : Int64)) hx hb dX5_along_153 (by decide) ?_
    refine vp_callSi (W.runS (As := [.long ((rBx p0.toNatClampNeg).toInt64), .long ((rBy p0.toNatClampNeg).toInt64), .long (1 : Int64), .long ((rBx p1.toNatClampNeg).toInt64), .long ((rBy p1.toNatClampNeg).toInt64), .long (1 : Int64)]) (rest := []) ⟨hx, hb, hml, hown, hts⟩ (m_X5_order l D k   ((rBx p0.toNatClampNeg).toInt64) ((rBy p0.toNatClampNeg).toInt64) (1 : Int64) ((rBx p1.toNatClampNeg).toInt64) ((rBy p1.toNatClampNeg).toInt64) (1 : Int64) _ h) (va_cwS 6 hts gX5_along_X5_order rfl rfl rfl (by decide +kernel) ⟨Nat.le_of_ble_eq_true rfl, Nat.le_of_ble_eq_true rfl⟩) (preS_ro hE vaP0) rfl rfl hl.1 rfl (lv_room (Nat.le_of_ble_eq_true rfl)) dX5_along_154 ⟨Nat.le_of_ble_eq_true rfl, Nat.le_of_ble_eq_true rfl⟩) (fun r154 h => ?_)
    refine lv_if_le (tgt := 164) hx hb dX5_along_157 (by decide) (fun cq => ?_) (fun cq => ?_)
    · have h := h.1 cq
      refine lv_iconst (v := (0 : Int32)) hx hb dX5_along_164 (by decide) ?_
      exact L165 (0 : Int32) rHx z0 (1 : Int64) rKx rKy rKd _ _ _ h hP hD hS (lv_sub hl [0, 1, 2] rfl)
    · have h := h.2 cq
      refine lv_iconst (v := (1 : Int32)) hx hb dX5_along_160 (by decide) ?_
      refine lv_goto (tgt := 165) hx hb dX5_along_161 (by decide) ?_
      exact L165 (1 : Int32) rHx z0 (1 : Int64) rKx rKy rKd _ _ _ h hP hD hS (lv_sub hl [0, 1, 2] rfl)
  have L91 : ∀ (v3 : Int32) (z0 : Int64) (rHx : Int64) (rHy : Int64) (rHd : Int64) (rKx : Int64) (rKy : Int64) (rKd : Int64) (H : Heap) (locs : List Loc) (ls : Array Slot), wp_X5_along_L91 p0 p1 rAx rAy rBx rBy Q  v3 z0 rHx rHy rHd rKx rKy rKd → va_P D vwCl (wR k aR rF rS rVx rVy rMd rE rAx rAy rBx rBy rO rP rPx rPy rPd rQ rFi rLa rOn rLe rRi rHx rHy rHd rKx rKy rKd) H → va_D A (wR k aR rF rS rVx rVy rMd rE rAx rAy rBx rBy rO rP rPx rPy rPd rQ rFi rLa rOn rLe rRi rHx rHy rHd rKx rKy rKd) → va_S A s.heap H locs → lv_has ls 6 [(0, .ref (aR 0)), (1, .int p0), (2, .int p1), (3, .int v3)] → W p l e (headSpec wsX5_along ({ frames := 1, cells := 0, slots := 0, locals := 35 })).room s m args below meth c H locs 0 0 GQ (F0 m 91 ls [.long z0, .ref (aR 0)]) := by
    intro v3 z0 rHx rHy rHd rKx rKy rKd H locs ls h hP hD hS hl
    unfold wp_X5_along_L91 at h
    refine va_put (D := D) (ci := 5) (v := .long z0) (ty := .long) (C := RX5) (T := TX5) (N := 27) hx hb hts hiX5 tyX5 tyX5_ok nmX5 hown hK hP hD hS 0 rfl rfl 21 (by decide) f70 (fun _ h9 => h9) rfl (by decide +kernel) rfl rfl (Nat.le_of_ble_eq_true rfl) dX5_along_91 (fun H locs hP hD hS => ?_)
    have hP : va_P D vwCl (wR k aR rF rS rVx rVy rMd rE rAx rAy rBx rBy rO rP rPx rPy rPd rQ rFi rLa rOn rLe rRi z0 rHy rHd rKx rKy rKd) H := hP
    have hD : va_D A (wR k aR rF rS rVx rVy rMd rE rAx rAy rBx rBy rO rP rPx rPy rPd rQ rFi rLa rOn rLe rRi z0 rHy rHd rKx rKy rKd) := hD
    refine lv_aload_n hx hb dX5_along_94 rfl (lv_at hl 0 rfl) ?_
    refine lv_iload_n hx hb dX5_along_95 rfl (lv_at hl 3 rfl) ?_
    refine lv_if_eq (tgt := 109) hx hb dX5_along_96 (by decide) (fun cq => ?_) (fun cq => ?_)
    · have h := h.1 cq
      refine lv_aload_n hx hb dX5_along_109 rfl (lv_at hl 0 rfl) ?_
      refine va_get (D := D) (ci := 5) (v := .ref (aR 5)) (C := RX5) (T := TX5) (N := 27) hx hb hts hiX5 hown hK hP 0 rfl rfl 7 (by decide) f22 (fun _ h9 => h9) rfl dX5_along_110 ?_
      refine lv_iload_n hx hb dX5_along_113 rfl (lv_at hl 1 rfl) ?_
      obtain ⟨hin, h⟩ := h
      refine va_iald hx hb hK hP 5 0 rfl rfl hin dX5_along_114 ?_
      refine lv_i2l hx hb dX5_along_115 rfl ?_
      exact L116 ((rAy p0.toNatClampNeg).toInt64) z0 rHy rHd rKx rKy rKd _ _ _ h hP hD hS (lv_sub hl [0, 1, 2] rfl)
    · have h := h.2 cq
      refine lv_aload_n hx hb dX5_along_99 rfl (lv_at hl 0 rfl) ?_
      refine va_get (D := D) (ci := 5) (v := .ref (aR 5)) (C := RX5) (T := TX5) (N := 27) hx hb hts hiX5 hown hK hP 0 rfl rfl 7 (by decide) f22 (fun _ h9 => h9) rfl dX5_along_100 ?_
      refine lv_iload_n hx hb dX5_along_103 rfl (lv_at hl 2 rfl) ?_
      obtain ⟨hin, h⟩ := h
      refine va_iald hx hb hK hP 5 0 rfl rfl hin dX5_along_104 ?_
      refine lv_i2l hx hb dX5_along_105 rfl ?_
      refine lv_goto (tgt := 116) hx hb dX5_along_106 (by decide) ?_
      exact L116 ((rAy p1.toNatClampNeg).toInt64) z0 rHy rHd rKx rKy rKd _ _ _ h hP hD hS (lv_sub hl [0, 1, 2] rfl)
  have L68 : ∀ (z0 : Int32) (rHx : Int64) (rHy : Int64) (rHd : Int64) (rKx : Int64) (rKy : Int64) (rKd : Int64) (H : Heap) (locs : List Loc) (ls : Array Slot), wp_X5_along_L68 p0 p1 rAx rAy rBx rBy Q  z0 rHx rHy rHd rKx rKy rKd → va_P D vwCl (wR k aR rF rS rVx rVy rMd rE rAx rAy rBx rBy rO rP rPx rPy rPd rQ rFi rLa rOn rLe rRi rHx rHy rHd rKx rKy rKd) H → va_D A (wR k aR rF rS rVx rVy rMd rE rAx rAy rBx rBy rO rP rPx rPy rPd rQ rFi rLa rOn rLe rRi rHx rHy rHd rKx rKy rKd) → va_S A s.heap H locs → lv_has ls 6 [(0, .ref (aR 0)), (1, .int p0), (2, .int p1)] → W p l e (headSpec wsX5_along ({ frames := 1, cells := 0, slots := 0, locals := 35 })).room s m args below meth c H locs 0 0 GQ (F0 m 68 ls [.int z0]) := by
    intro z0 rHx rHy rHd rKx rKy rKd H locs ls h hP hD hS hl
    unfold wp_X5_along_L68 at h
    refine lv_istore_n (lv' := [(3, .int z0), (0, .ref (aR 0)), (1, .int p0), (2, .int p1)]) hx hb dX5_along_68 rfl hl (by decide) rfl (fun ls hl => ?_)
    refine lv_aload_n hx hb dX5_along_69 rfl (lv_at hl 1 rfl) ?_
    refine lv_iload_n hx hb dX5_along_70 rfl (lv_at hl 0 rfl) ?_
    refine lv_if_eq (tgt := 84) hx hb dX5_along_71 (by decide) (fun cq => ?_) (fun cq => ?_)
    · have h := h.1 cq
      refine lv_aload_n hx hb dX5_along_84 rfl (lv_at hl 1 rfl) ?_
      refine va_get (D := D) (ci := 5) (v := .ref (aR 4)) (C := RX5) (T := TX5) (N := 27) hx hb hts hiX5 hown hK hP 0 rfl rfl 6 (by decide) f19 (fun _ h9 => h9) rfl dX5_along_85 ?_
      refine lv_iload_n hx hb dX5_along_88 rfl (lv_at hl 2 rfl) ?_
      obtain ⟨hin, h⟩ := h
      refine va_iald hx hb hK hP 4 0 rfl rfl hin dX5_along_89 ?_
      refine lv_i2l hx hb dX5_along_90 rfl ?_
      exact L91 z0 ((rAx p0.toNatClampNeg).toInt64) rHx rHy rHd rKx rKy rKd _ _ _ h hP hD hS (lv_sub hl [1, 2, 3, 0] rfl)
    · have h := h.2 cq
      refine lv_aload_n hx hb dX5_along_74 rfl (lv_at hl 1 rfl) ?_
      refine va_get (D := D) (ci := 5) (v := .ref (aR 4)) (C := RX5) (T := TX5) (N := 27) hx hb hts hiX5 hown hK hP 0 rfl rfl 6 (by decide) f19 (fun _ h9 => h9) rfl dX5_along_75 ?_
      refine lv_iload_n hx hb dX5_along_78 rfl (lv_at hl 3 rfl) ?_
      obtain ⟨hin, h⟩ := h
      refine va_iald hx hb hK hP 4 0 rfl rfl hin dX5_along_79 ?_
      refine lv_i2l hx hb dX5_along_80 rfl ?_
      refine lv_goto (tgt := 91) hx hb dX5_along_81 (by decide) ?_
      exact L91 z0 ((rAx p1.toNatClampNeg).toInt64) rHx rHy rHd rKx rKy rKd _ _ _ h hP hD hS (lv_sub hl [1, 2, 3, 0] rfl)
  unfold wp_X5_along at h
  refine lv_aload_n hx hb dX5_along_0 rfl (lv_at hl 0 rfl) ?_
  refine lv_iload_n hx hb dX5_along_1 rfl (lv_at hl 1 rfl) ?_
  refine lv_aload_n hx hb dX5_along_2 rfl (lv_at hl 0 rfl) ?_
  refine va_get (D := D) (ci := 5) (v := .ref (aR 4)) (C := RX5) (T := TX5) (N := 27) hx hb hts hiX5 hown hK hP 0 rfl rfl 6 (by decide) f19 (fun _ h9 => h9) rfl dX5_along_3 ?_
  refine lv_iload_n hx hb dX5_along_6 rfl (lv_at hl 2 rfl) ?_
  obtain ⟨hin, h⟩ := h
  refine va_iald hx hb hK hP 4 0 rfl rfl hin dX5_along_7 ?_
  refine lv_i2l hx hb dX5_along_8 rfl ?_
  refine lv_aload_n hx hb dX5_along_9 rfl (lv_at hl 0 rfl) ?_
  refine va_get (D := D) (ci := 5) (v := .ref (aR 5)) (C := RX5) (T := TX5) (N := 27) hx hb hts hiX5 hown hK hP 0 rfl rfl 7 (by decide) f22 (fun _ h9 => h9) rfl dX5_along_10 ?_
  refine lv_iload_n hx hb dX5_along_13 rfl (lv_at hl 2 rfl) ?_
  obtain ⟨hin, h⟩ := h
  refine va_iald hx hb hK hP 5 0 rfl rfl hin dX5_along_14 ?_
  refine lv_i2l hx hb dX5_along_15 rfl ?_
  refine lv_lconst (v := (1 : Int64)) hx hb dX5_along_16 (by decide) ?_
  refine vp_callSl (W.runV (C := RX5) (b := (aR 0)) (As := [.int p0, .long ((rAx p1.toNatClampNeg).toInt64), .long ((rAy p1.toNatClampNeg).toInt64), .long (1 : Int64)]) (rest := []) ⟨hx, hb, hml, hown, hts⟩ (m_X5_side l D k aR rF rS rVx rVy rMd rE rAx rAy rBx rBy rO rP rPx rPy rPd rQ rFi rLa rOn rLe rRi rHx rHy rHd rKx rKy rKd p0 ((rAx p1.toNatClampNeg).toInt64) ((rAy p1.toNatClampNeg).toInt64) (1 : Int64) _ h) (cwV 4 hts gX5_along_X5_side rfl rfl rfl (by decide +kernel) ⟨Nat.le_of_ble_eq_true rfl, Nat.le_of_ble_eq_true rfl⟩) (preV_ro (ci := 5) (q0 := 0) (C := RX5) (T := TX5) (N := 27) hE hP rfl rfl) rfl rfl hl.1 rfl (lv_room (Nat.le_of_ble_eq_true rfl)) dX5_along_17 ⟨Nat.le_of_ble_eq_true rfl, Nat.le_of_ble_eq_true rfl⟩) (fun r17 h => ?_)
  refine lv_lconst (v := (0 : Int64)) hx hb dX5_along_20 (by decide) ?_
  refine W.lcmp hx hb dX5_along_21 ?_
  refine lv_if_eq (tgt := 27) hx hb dX5_along_22 (by decide) (fun cq => ?_) (fun cq => ?_)
  · have h := h.1 ((lg_cmp_eq _ _).mp cq)
    refine lv_aload_n hx hb dX5_along_27 rfl (lv_at hl 0 rfl) ?_
    refine va_get (D := D) (ci := 5) (v := .ref (aR 4)) (C := RX5) (T := TX5) (N := 27) hx hb hts hiX5 hown hK hP 0 rfl rfl 6 (by decide) f19 (fun _ h9 => h9) rfl dX5_along_28 ?_
    refine lv_iload_n hx hb dX5_along_31 rfl (lv_at hl 1 rfl) ?_
    obtain ⟨hin, h⟩ := h
    refine va_iald hx hb hK hP 4 0 rfl rfl hin dX5_along_32 ?_
    refine lv_i2l hx hb dX5_along_33 rfl ?_
    refine lv_aload_n hx hb dX5_along_34 rfl (lv_at hl 0 rfl) ?_
    refine va_get (D := D) (ci := 5) (v := .ref (aR 5)) (C := RX5) (T := TX5) (N := 27) hx hb hts hiX5 hown hK hP 0 rfl rfl 7 (by decide) f22 (fun _ h9 => h9) rfl dX5_along_35 ?_
    refine lv_iload_n hx hb dX5_along_38 rfl (lv_at hl 1 rfl) ?_
    obtain ⟨hin, h⟩ := h
    refine va_iald hx hb hK hP 5 0 rfl rfl hin dX5_along_39 ?_
    refine lv_i2l hx hb dX5_along_40 rfl ?_
    refine lv_lconst (v := (1 : Int64)) hx hb dX5_along_41 (by decide) ?_
    refine lv_aload_n hx hb dX5_along_42 rfl (lv_at hl 0 rfl) ?_
    refine va_get (D := D) (ci := 5) (v := .ref (aR 4)) (C := RX5) (T := TX5) (N := 27) hx hb hts hiX5 hown hK hP 0 rfl rfl 6 (by decide) f19 (fun _ h9 => h9) rfl dX5_along_43 ?_
    refine lv_iload_n hx hb dX5_along_46 rfl (lv_at hl 2 rfl) ?_
    obtain ⟨hin, h⟩ := h
    refine va_iald hx hb hK hP 4 0 rfl rfl hin dX5_along_47 ?_
    refine lv_i2l hx hb dX5_along_48 rfl ?_
    refine lv_aload_n hx hb dX5_along_49 rfl (lv_at hl 0 rfl) ?_
    refine va_get (D := D) (ci := 5) (v := .ref (aR 5)) (C := RX5) (T := TX5) (N := 27) hx hb hts hiX5 hown hK hP 0 rfl rfl 7 (by decide) f22 (fun _ h9 => h9) rfl dX5_along_50 ?_
    refine lv_iload_n hx hb dX5_along_53 rfl (lv_at hl 2 rfl) ?_
    obtain ⟨hin, h⟩ := h
    refine va_iald hx hb hK hP 5 0 rfl rfl hin dX5_along_54 ?_
    refine lv_i2l hx hb dX5_along_55 rfl ?_
    refine lv_lconst (v := (1 : Int64)) hx hb dX5_along_56 (by decide) ?_
    refine vp_callSi (W.runS (As := [.long ((rAx p0.toNatClampNeg).toInt64), .long ((rAy p0.toNatClampNeg).toInt64), .long (1 : Int64), .long ((rAx p1.toNatClampNeg).toInt64), .long ((rAy p1.toNatClampNeg).toInt64), .long (1 : Int64)]) (rest := []) ⟨hx, hb, hml, hown, hts⟩ (m_X5_order l D k   ((rAx p0.toNatClampNeg).toInt64) ((rAy p0.toNatClampNeg).toInt64) (1 : Int64) ((rAx p1.toNatClampNeg).toInt64) ((rAy p1.toNatClampNeg).toInt64) (1 : Int64) _ h) (va_cwS 6 hts gX5_along_X5_order rfl rfl rfl (by decide +kernel) ⟨Nat.le_of_ble_eq_true rfl, Nat.le_of_ble_eq_true rfl⟩) (preS_ro hE vaP0) rfl rfl hl.1 rfl (lv_room (Nat.le_of_ble_eq_true rfl)) dX5_along_57 ⟨Nat.le_of_ble_eq_true rfl, Nat.le_of_ble_eq_true rfl⟩) (fun r57 h => ?_)
    refine lv_if_ge (tgt := 67) hx hb dX5_along_60 (by decide) (fun cq => ?_) (fun cq => ?_)
    · have h := h.1 cq
      refine lv_iconst (v := (0 : Int32)) hx hb dX5_along_67 (by decide) ?_
      exact L68 (0 : Int32) rHx rHy rHd rKx rKy rKd _ _ _ h hP hD hS (lv_sub hl [0, 1, 2] rfl)
    · have h := h.2 cq
      refine lv_iconst (v := (1 : Int32)) hx hb dX5_along_63 (by decide) ?_
      refine lv_goto (tgt := 68) hx hb dX5_along_64 (by decide) ?_
      exact L68 (1 : Int32) rHx rHy rHd rKx rKy rKd _ _ _ h hP hD hS (lv_sub hl [0, 1, 2] rfl)
  · have h := h.2 (fun q => cq ((lg_cmp_eq _ _).mpr q))
    refine lv_iconst (v := (0 : Int32)) hx hb dX5_along_25 (by decide) ?_
    rw [hGQ]
    exact W.iret (v := (0 : Int32)) hx hb hr (fun t ht hW => ⟨⟨_, (rHx, rHy, rHd, rKx, rKy, rKd), rfl, h, by rw [ht]; exact hP, hD⟩, hS.F ht⟩) hS.2.2 dX5_along_26
set_option maxHeartbeats 4000000 in
set_option maxRecDepth 100000 in
theorem m_X5_meet (l : Launch) (D : va_G) (k : Nat → ClassId) (aR : Nat → Nat) (rF : Int32) (rS : Nat → Int32) (rVx : Nat → Int32) (rVy : Nat → Int32) (rMd : Int32) (rE : Int32) (rAx : Nat → Int32) (rAy : Nat → Int32) (rBx : Nat → Int32) (rBy : Nat → Int32) (rO : Nat → Int32) (rP : Int32) (rPx : Nat → Int32) (rPy : Nat → Int32) (rPd : Nat → Int32) (rQ : Int32) (rFi : Nat → Int32) (rLa : Nat → Int32) (rOn : Nat → Int32) (rLe : Nat → Int32) (rRi : Nat → Int32) (rHx : Int64) (rHy : Int64) (rHd : Int64) (rKx : Int64) (rKy : Int64) (rKd : Int64) (p0 : Int32) (p1 : Int32) (Q : Int32 → (Int64) → (Int64) → (Int64) → (Int64) → (Int64) → (Int64) → Prop) (sz : Nat) (h : wp_X5_meet p0 p1 rAx rAy rBx rBy rHx rHy rHd rKx rKy rKd Q) : Met l yX5_meet wsX5_meet ({ frames := 2, cells := 0, slots := 0, locals := 62 }) (Prw D k [.ref (aR 0), .int p0, .int p1] (wR k aR rF rS rVx rVy rMd rE rAx rAy rBx rBy rO rP rPx rPy rPd rQ rFi rLa rOn rLe rRi rHx rHy rHd rKx rKy rKd) sz) (va_Qi (fun (r : Int32) (u : (Int64) × (Int64) × (Int64) × (Int64) × (Int64) × (Int64)) => Q r u.1 u.2.1 u.2.2.1 u.2.2.2.1 u.2.2.2.2.1 u.2.2.2.2.2) (fun (u : (Int64) × (Int64) × (Int64) × (Int64) × (Int64) × (Int64)) t => va_P D vwCl (wR k aR rF rS rVx rVy rMd rE rAx rAy rBx rBy rO rP rPx rPy rPd rQ rFi rLa rOn rLe rRi (u.1) (u.2.1) (u.2.2.1) (u.2.2.2.1) (u.2.2.2.2.1) (u.2.2.2.2.2)) t.heap ∧ va_D (va_A (wR k aR rF rS rVx rVy rMd rE rAx rAy rBx rBy rO rP rPx rPy rPd rQ rFi rLa rOn rLe rRi rHx rHy rHd rKx rKy rKd) sz) (wR k aR rF rS rVx rVy rMd rE rAx rAy rBx rBy rO rP rPx rPy rPd rQ rFi rLa rOn rLe rRi (u.1) (u.2.1) (u.2.2.1) (u.2.2.2.1) (u.2.2.2.2.1) (u.2.2.2.2.2))) (va_A (wR k aR rF rS rVx rVy rMd rE rAx rAy rBx rBy rO rP rPx rPy rPd rQ rFi rLa rOn rLe rRi rHx rHy rHd rKx rKy rKd) sz)) 0 0 (va_A (wR k aR rF rS rVx rVy rMd rE rAx rAy rBx rBy rO rP rPx rPy rPd rQ rFi rLa rOn rLe rRi rHx rHy rHd rKx rKy rKd) sz) := by
  refine Met.ofW (cc := cX5_meet) (maxL := 17) (ret := (some .int)) (by decide) rfl ?_
  intro p e s m args below meth c s₁ B hml hv
  obtain ⟨hav, hsz, hP, hE, hD0⟩ := hv
  subst hsz
  have hx := B.exec
  have hb := B.bytes
  have hr := B.returns
  have hts := atoms_spec (ws := wsX5_meet) B.pre
  have hown : s.vm.findClass RX5 = some m.cls := findClass_of_methodNamed B.named
  have hlocks := B.notSynchronized
  have hK := hE.1
  have hD := hD0.self (sz := s.heap.size)
  generalize hAe : va_A (wR k aR rF rS rVx rVy rMd rE rAx rAy rBx rBy rO rP rPx rPy rPd rQ rFi rLa rOn rLe rRi rHx rHy rHd rKx rKy rKd) s.heap.size = A at hD ⊢
  have hA : ∀ q : Nat, s.heap.size ≤ q → A q := fun q h => by rw [← hAe]; exact Or.inr h
  have hS : va_S A s.heap s.heap [] := va_S.rf
  have hl := lv_entry ([.ref (aR 0), .int p0, .int p1]) (n := 17) (Nat.le_of_ble_eq_true rfl)
  rw [show entryFrame m args 17 = entryFrame m ([.ref (aR 0), .int p0, .int p1] : List Value).toArray 17 by rw [hav]]
  rw [lg_entry_eq]
  refine W.gq (fun GQ hGQ => ?_)
  generalize (lg_sl ([.ref (aR 0), .int p0, .int p1]) ++ List.replicate (17 - (lg_sl ([.ref (aR 0), .int p0, .int p1])).length) Slot.unset).toArray = ls at hl ⊢
  have hl : lv_has ls 17 [(0, .ref (aR 0)), (1, .int p0), (2, .int p1)] := hl
  have hiX5 := (by decide +kernel : ∀ w ∈ wsX50, w ∈ wsX5_meet)
  have f19 := hts (.fieldLink RX5 19 "PlaneOverlayModel" "ax" "[I") (by decide +kernel)
  have f70 := hts (.fieldLink RX5 70 "PlaneOverlayModel" "hx" "J") (by decide +kernel)
  have f22 := hts (.fieldLink RX5 22 "PlaneOverlayModel" "ay" "[I") (by decide +kernel)
  have f74 := hts (.fieldLink RX5 74 "PlaneOverlayModel" "hy" "J") (by decide +kernel)
  have f77 := hts (.fieldLink RX5 77 "PlaneOverlayModel" "hd" "J") (by decide +kernel)
  have f103 := hts (.fieldLink RX5 103 "PlaneOverlayModel" "kx" "J") (by decide +kernel)
  have f106 := hts (.fieldLink RX5 106 "PlaneOverlayModel" "ky" "J") (by decide +kernel)
  have f109 := hts (.fieldLink RX5 109 "PlaneOverlayModel" "kd" "J") (by decide +kernel)
  have f25 := hts (.fieldLink RX5 25 "PlaneOverlayModel" "bx" "[I") (by decide +kernel)
  have f28 := hts (.fieldLink RX5 28 "PlaneOverlayModel" "by" "[I") (by decide +kernel)
  have L274 : ∀ (z0 : Int32) (rHx : Int64) (rHy : Int64) (rHd : Int64) (rKx : Int64) (rKy : Int64) (rKd : Int64) (H : Heap) (locs : List Loc) (ls : Array Slot), wp_X5_meet_L274 p0 p1 rAx rAy rBx rBy Q  z0 rHx rHy rHd rKx rKy rKd → va_P D vwCl (wR k aR rF rS rVx rVy rMd rE rAx rAy rBx rBy rO rP rPx rPy rPd rQ rFi rLa rOn rLe rRi rHx rHy rHd rKx rKy rKd) H → va_D A (wR k aR rF rS rVx rVy rMd rE rAx rAy rBx rBy rO rP rPx rPy rPd rQ rFi rLa rOn rLe rRi rHx rHy rHd rKx rKy rKd) → va_S A s.heap H locs → lv_has ls 17 [] → W p l e (headSpec wsX5_meet ({ frames := 2, cells := 0, slots := 0, locals := 62 })).room s m args below meth c H locs 0 0 GQ (F0 m 274 ls [.int z0]) := by
    intro z0 rHx rHy rHd rKx rKy rKd H locs ls h hP hD hS hl
    unfold wp_X5_meet_L274 at h
    rw [hGQ]
    exact W.iret (v := z0) hx hb hr (fun t ht hW => ⟨⟨_, (rHx, rHy, rHd, rKx, rKy, rKd), rfl, h, by rw [ht]; exact hP, hD⟩, hS.F ht⟩) hS.2.2 dX5_meet_274
  have L273 : ∀ (rHx : Int64) (rHy : Int64) (rHd : Int64) (rKx : Int64) (rKy : Int64) (rKd : Int64) (H : Heap) (locs : List Loc) (ls : Array Slot), wp_X5_meet_L273 p0 p1 rAx rAy rBx rBy Q  rHx rHy rHd rKx rKy rKd → va_P D vwCl (wR k aR rF rS rVx rVy rMd rE rAx rAy rBx rBy rO rP rPx rPy rPd rQ rFi rLa rOn rLe rRi rHx rHy rHd rKx rKy rKd) H → va_D A (wR k aR rF rS rVx rVy rMd rE rAx rAy rBx rBy rO rP rPx rPy rPd rQ rFi rLa rOn rLe rRi rHx rHy rHd rKx rKy rKd) → va_S A s.heap H locs → lv_has ls 17 [] → W p l e (headSpec wsX5_meet ({ frames := 2, cells := 0, slots := 0, locals := 62 })).room s m args below meth c H locs 0 0 GQ (F0 m 273 ls []) := by
    intro rHx rHy rHd rKx rKy rKd H locs ls h hP hD hS hl
    unfold wp_X5_meet_L273 at h
    refine lv_iconst (v := (0 : Int32)) hx hb dX5_meet_273 (by decide) ?_
    exact L274 (0 : Int32) rHx rHy rHd rKx rKy rKd _ _ _ h hP hD hS (lv_sub hl [] rfl)
  have L158 : ∀ (v3 : Int64) (v5 : Int64) (v13 : Int64) (z0 : Int64) (rHx : Int64) (rHy : Int64) (rHd : Int64) (rKx : Int64) (rKy : Int64) (rKd : Int64) (H : Heap) (locs : List Loc) (ls : Array Slot), wp_X5_meet_L158 p0 p1 rAx rAy rBx rBy Q  v3 v5 v13 z0 rHx rHy rHd rKx rKy rKd → va_P D vwCl (wR k aR rF rS rVx rVy rMd rE rAx rAy rBx rBy rO rP rPx rPy rPd rQ rFi rLa rOn rLe rRi rHx rHy rHd rKx rKy rKd) H → va_D A (wR k aR rF rS rVx rVy rMd rE rAx rAy rBx rBy rO rP rPx rPy rPd rQ rFi rLa rOn rLe rRi rHx rHy rHd rKx rKy rKd) → va_S A s.heap H locs → lv_has ls 17 [(0, .ref (aR 0)), (1, .int p0), (2, .int p1), (3, .long v3), (5, .long v5), (13, .long v13)] → W p l e (headSpec wsX5_meet ({ frames := 2, cells := 0, slots := 0, locals := 62 })).room s m args below meth c H locs 0 0 GQ (F0 m 158 ls [.long z0]) := by
    intro v3 v5 v13 z0 rHx rHy rHd rKx rKy rKd H locs ls h hP hD hS hl
    unfold wp_X5_meet_L158 at h
    refine lv_lstore (lv' := [(15, .long z0), (0, .ref (aR 0)), (1, .int p0), (2, .int p1), (3, .long v3), (5, .long v5), (13, .long v13)]) hx hb dX5_meet_158 hl (by decide) rfl (fun ls hl => ?_)
    refine lv_aload_n hx hb dX5_meet_160 rfl (lv_at hl 1 rfl) ?_
    refine lv_aload_n hx hb dX5_meet_161 rfl (lv_at hl 1 rfl) ?_
    refine va_get (D := D) (ci := 5) (v := .ref (aR 4)) (C := RX5) (T := TX5) (N := 27) hx hb hts hiX5 hown hK hP 0 rfl rfl 6 (by decide) f19 (fun _ h9 => h9) rfl dX5_meet_162 ?_
    refine lv_iload_n hx hb dX5_meet_165 rfl (lv_at hl 2 rfl) ?_
    obtain ⟨hin, h⟩ := h
    refine va_iald hx hb hK hP 4 0 rfl rfl hin dX5_meet_166 ?_
    refine lv_i2l hx hb dX5_meet_167 rfl ?_
    refine lv_lload hx hb dX5_meet_168 (lv_at hl 6 rfl) ?_
    refine lv_lmul hx hb dX5_meet_170 ?_
    refine lv_lload hx hb dX5_meet_171 (lv_at hl 0 rfl) ?_
    refine lv_lload_n hx hb dX5_meet_173 rfl (lv_at hl 4 rfl) ?_
    refine lv_lmul hx hb dX5_meet_174 ?_
    refine lv_ladd hx hb dX5_meet_175 ?_
    refine lv_topl (fun x176 ex176 => ?_)
    have h := h x176 ex176
    refine va_put (D := D) (ci := 5) (v := .long x176) (ty := .long) (C := RX5) (T := TX5) (N := 27) hx hb hts hiX5 tyX5 tyX5_ok nmX5 hown hK hP hD hS 0 rfl rfl 21 (by decide) f70 (fun _ h9 => h9) rfl (by decide +kernel) rfl rfl (Nat.le_of_ble_eq_true rfl) dX5_meet_176 (fun H locs hP hD hS => ?_)
    have hP : va_P D vwCl (wR k aR rF rS rVx rVy rMd rE rAx rAy rBx rBy rO rP rPx rPy rPd rQ rFi rLa rOn rLe rRi x176 rHy rHd rKx rKy rKd) H := hP
    have hD : va_D A (wR k aR rF rS rVx rVy rMd rE rAx rAy rBx rBy rO rP rPx rPy rPd rQ rFi rLa rOn rLe rRi x176 rHy rHd rKx rKy rKd) := hD
    refine lv_aload_n hx hb dX5_meet_179 rfl (lv_at hl 1 rfl) ?_
    refine lv_aload_n hx hb dX5_meet_180 rfl (lv_at hl 1 rfl) ?_
    refine va_get (D := D) (ci := 5) (v := .ref (aR 5)) (C := RX5) (T := TX5) (N := 27) hx hb hts hiX5 hown hK hP 0 rfl rfl 7 (by decide) f22 (fun _ h9 => h9) rfl dX5_meet_181 ?_
    refine lv_iload_n hx hb dX5_meet_184 rfl (lv_at hl 2 rfl) ?_
    obtain ⟨hin, h⟩ := h
    refine va_iald hx hb hK hP 5 0 rfl rfl hin dX5_meet_185 ?_
    refine lv_i2l hx hb dX5_meet_186 rfl ?_
    refine lv_lload hx hb dX5_meet_187 (lv_at hl 6 rfl) ?_
    refine lv_lmul hx hb dX5_meet_189 ?_
    refine lv_lload hx hb dX5_meet_190 (lv_at hl 0 rfl) ?_
    refine lv_lload hx hb dX5_meet_192 (lv_at hl 5 rfl) ?_
    refine lv_lmul hx hb dX5_meet_194 ?_
    refine lv_ladd hx hb dX5_meet_195 ?_
    refine lv_topl (fun x196 ex196 => ?_)
    have h := h x196 ex196
    refine va_put (D := D) (ci := 5) (v := .long x196) (ty := .long) (C := RX5) (T := TX5) (N := 27) hx hb hts hiX5 tyX5 tyX5_ok nmX5 hown hK hP hD hS 0 rfl rfl 22 (by decide) f74 (fun _ h9 => h9) rfl (by decide +kernel) rfl rfl (Nat.le_of_ble_eq_true rfl) dX5_meet_196 (fun H locs hP hD hS => ?_)
    have hP : va_P D vwCl (wR k aR rF rS rVx rVy rMd rE rAx rAy rBx rBy rO rP rPx rPy rPd rQ rFi rLa rOn rLe rRi x176 x196 rHd rKx rKy rKd) H := hP
    have hD : va_D A (wR k aR rF rS rVx rVy rMd rE rAx rAy rBx rBy rO rP rPx rPy rPd rQ rFi rLa rOn rLe rRi x176 x196 rHd rKx rKy rKd) := hD
    refine lv_aload_n hx hb dX5_meet_199 rfl (lv_at hl 1 rfl) ?_
    refine lv_lload hx hb dX5_meet_200 (lv_at hl 6 rfl) ?_
    refine va_put (D := D) (ci := 5) (v := .long v13) (ty := .long) (C := RX5) (T := TX5) (N := 27) hx hb hts hiX5 tyX5 tyX5_ok nmX5 hown hK hP hD hS 0 rfl rfl 23 (by decide) f77 (fun _ h9 => h9) rfl (by decide +kernel) rfl rfl (Nat.le_of_ble_eq_true rfl) dX5_meet_202 (fun H locs hP hD hS => ?_)
    have hP : va_P D vwCl (wR k aR rF rS rVx rVy rMd rE rAx rAy rBx rBy rO rP rPx rPy rPd rQ rFi rLa rOn rLe rRi x176 x196 v13 rKx rKy rKd) H := hP
    have hD : va_D A (wR k aR rF rS rVx rVy rMd rE rAx rAy rBx rBy rO rP rPx rPy rPd rQ rFi rLa rOn rLe rRi x176 x196 v13 rKx rKy rKd) := hD
    refine lv_aload_n hx hb dX5_meet_205 rfl (lv_at hl 1 rfl) ?_
    refine lv_aload_n hx hb dX5_meet_206 rfl (lv_at hl 1 rfl) ?_
    refine va_get (D := D) (ci := 5) (v := .long x176) (C := RX5) (T := TX5) (N := 27) hx hb hts hiX5 hown hK hP 0 rfl rfl 21 (by decide) f70 (fun _ h9 => h9) rfl dX5_meet_207 ?_
    refine va_put (D := D) (ci := 5) (v := .long x176) (ty := .long) (C := RX5) (T := TX5) (N := 27) hx hb hts hiX5 tyX5 tyX5_ok nmX5 hown hK hP hD hS 0 rfl rfl 24 (by decide) f103 (fun _ h9 => h9) rfl (by decide +kernel) rfl rfl (Nat.le_of_ble_eq_true rfl) dX5_meet_210 (fun H locs hP hD hS => ?_)
    have hP : va_P D vwCl (wR k aR rF rS rVx rVy rMd rE rAx rAy rBx rBy rO rP rPx rPy rPd rQ rFi rLa rOn rLe rRi x176 x196 v13 x176 rKy rKd) H := hP
    have hD : va_D A (wR k aR rF rS rVx rVy rMd rE rAx rAy rBx rBy rO rP rPx rPy rPd rQ rFi rLa rOn rLe rRi x176 x196 v13 x176 rKy rKd) := hD
    refine lv_aload_n hx hb dX5_meet_213 rfl (lv_at hl 1 rfl) ?_
    refine lv_aload_n hx hb dX5_meet_214 rfl (lv_at hl 1 rfl) ?_
    refine va_get (D := D) (ci := 5) (v := .long x196) (C := RX5) (T := TX5) (N := 27) hx hb hts hiX5 hown hK hP 0 rfl rfl 22 (by decide) f74 (fun _ h9 => h9) rfl dX5_meet_215 ?_
    refine va_put (D := D) (ci := 5) (v := .long x196) (ty := .long) (C := RX5) (T := TX5) (N := 27) hx hb hts hiX5 tyX5 tyX5_ok nmX5 hown hK hP hD hS 0 rfl rfl 25 (by decide) f106 (fun _ h9 => h9) rfl (by decide +kernel) rfl rfl (Nat.le_of_ble_eq_true rfl) dX5_meet_218 (fun H locs hP hD hS => ?_)
    have hP : va_P D vwCl (wR k aR rF rS rVx rVy rMd rE rAx rAy rBx rBy rO rP rPx rPy rPd rQ rFi rLa rOn rLe rRi x176 x196 v13 x176 x196 rKd) H := hP
    have hD : va_D A (wR k aR rF rS rVx rVy rMd rE rAx rAy rBx rBy rO rP rPx rPy rPd rQ rFi rLa rOn rLe rRi x176 x196 v13 x176 x196 rKd) := hD
    refine lv_aload_n hx hb dX5_meet_221 rfl (lv_at hl 1 rfl) ?_
    refine lv_aload_n hx hb dX5_meet_222 rfl (lv_at hl 1 rfl) ?_
    refine va_get (D := D) (ci := 5) (v := .long v13) (C := RX5) (T := TX5) (N := 27) hx hb hts hiX5 hown hK hP 0 rfl rfl 23 (by decide) f77 (fun _ h9 => h9) rfl dX5_meet_223 ?_
    refine va_put (D := D) (ci := 5) (v := .long v13) (ty := .long) (C := RX5) (T := TX5) (N := 27) hx hb hts hiX5 tyX5 tyX5_ok nmX5 hown hK hP hD hS 0 rfl rfl 26 (by decide) f109 (fun _ h9 => h9) rfl (by decide +kernel) rfl rfl (Nat.le_of_ble_eq_true rfl) dX5_meet_226 (fun H locs hP hD hS => ?_)
    have hP : va_P D vwCl (wR k aR rF rS rVx rVy rMd rE rAx rAy rBx rBy rO rP rPx rPy rPd rQ rFi rLa rOn rLe rRi x176 x196 v13 x176 x196 v13) H := hP
    have hD : va_D A (wR k aR rF rS rVx rVy rMd rE rAx rAy rBx rBy rO rP rPx rPy rPd rQ rFi rLa rOn rLe rRi x176 x196 v13 x176 x196 v13) := hD
    refine lv_aload_n hx hb dX5_meet_229 rfl (lv_at hl 1 rfl) ?_
    refine lv_iload_n hx hb dX5_meet_230 rfl (lv_at hl 2 rfl) ?_
    refine lv_aload_n hx hb dX5_meet_231 rfl (lv_at hl 1 rfl) ?_
    refine va_get (D := D) (ci := 5) (v := .long x176) (C := RX5) (T := TX5) (N := 27) hx hb hts hiX5 hown hK hP 0 rfl rfl 21 (by decide) f70 (fun _ h9 => h9) rfl dX5_meet_232 ?_
    refine lv_aload_n hx hb dX5_meet_235 rfl (lv_at hl 1 rfl) ?_
    refine va_get (D := D) (ci := 5) (v := .long x196) (C := RX5) (T := TX5) (N := 27) hx hb hts hiX5 hown hK hP 0 rfl rfl 22 (by decide) f74 (fun _ h9 => h9) rfl dX5_meet_236 ?_
    refine lv_aload_n hx hb dX5_meet_239 rfl (lv_at hl 1 rfl) ?_
    refine va_get (D := D) (ci := 5) (v := .long v13) (C := RX5) (T := TX5) (N := 27) hx hb hts hiX5 hown hK hP 0 rfl rfl 23 (by decide) f77 (fun _ h9 => h9) rfl dX5_meet_240 ?_
    refine vp_callSi (W.runV (C := RX5) (b := (aR 0)) (As := [.int p0, .long x176, .long x196, .long v13]) (rest := []) ⟨hx, hb, hml, hown, hts⟩ (m_X5_onEdge l D k aR rF rS rVx rVy rMd rE rAx rAy rBx rBy rO rP rPx rPy rPd rQ rFi rLa rOn rLe rRi x176 x196 v13 x176 x196 v13 p0 x176 x196 v13 _ h) (cwV 4 hts gX5_meet_X5_onEdge rfl rfl rfl (by decide +kernel) ⟨Nat.le_of_ble_eq_true rfl, Nat.le_of_ble_eq_true rfl⟩) (preV_ro (ci := 5) (q0 := 0) (C := RX5) (T := TX5) (N := 27) hE hP rfl rfl) rfl rfl hl.1 rfl (lv_room (Nat.le_of_ble_eq_true rfl)) dX5_meet_243 ⟨Nat.le_of_ble_eq_true rfl, Nat.le_of_ble_eq_true rfl⟩) (fun r243 h => ?_)
    refine lv_if_eq (tgt := 273) hx hb dX5_meet_246 (by decide) (fun cq => ?_) (fun cq => ?_)
    · have h := h.1 cq
      exact L273 x176 x196 v13 x176 x196 v13 _ _ _ h hP hD hS (lv_sub hl [] rfl)
    · have h := h.2 cq
      refine lv_aload_n hx hb dX5_meet_249 rfl (lv_at hl 1 rfl) ?_
      refine lv_iload_n hx hb dX5_meet_250 rfl (lv_at hl 3 rfl) ?_
      refine lv_aload_n hx hb dX5_meet_251 rfl (lv_at hl 1 rfl) ?_
      refine va_get (D := D) (ci := 5) (v := .long x176) (C := RX5) (T := TX5) (N := 27) hx hb hts hiX5 hown hK hP 0 rfl rfl 21 (by decide) f70 (fun _ h9 => h9) rfl dX5_meet_252 ?_
      refine lv_aload_n hx hb dX5_meet_255 rfl (lv_at hl 1 rfl) ?_
      refine va_get (D := D) (ci := 5) (v := .long x196) (C := RX5) (T := TX5) (N := 27) hx hb hts hiX5 hown hK hP 0 rfl rfl 22 (by decide) f74 (fun _ h9 => h9) rfl dX5_meet_256 ?_
      refine lv_aload_n hx hb dX5_meet_259 rfl (lv_at hl 1 rfl) ?_
      refine va_get (D := D) (ci := 5) (v := .long v13) (C := RX5) (T := TX5) (N := 27) hx hb hts hiX5 hown hK hP 0 rfl rfl 23 (by decide) f77 (fun _ h9 => h9) rfl dX5_meet_260 ?_
      refine vp_callSi (W.runV (C := RX5) (b := (aR 0)) (As := [.int p1, .long x176, .long x196, .long v13]) (rest := []) ⟨hx, hb, hml, hown, hts⟩ (m_X5_onEdge l D k aR rF rS rVx rVy rMd rE rAx rAy rBx rBy rO rP rPx rPy rPd rQ rFi rLa rOn rLe rRi x176 x196 v13 x176 x196 v13 p1 x176 x196 v13 _ h) (cwV 4 hts gX5_meet_X5_onEdge rfl rfl rfl (by decide +kernel) ⟨Nat.le_of_ble_eq_true rfl, Nat.le_of_ble_eq_true rfl⟩) (preV_ro (ci := 5) (q0 := 0) (C := RX5) (T := TX5) (N := 27) hE hP rfl rfl) rfl rfl hl.1 rfl (lv_room (Nat.le_of_ble_eq_true rfl)) dX5_meet_263 ⟨Nat.le_of_ble_eq_true rfl, Nat.le_of_ble_eq_true rfl⟩) (fun r263 h => ?_)
      refine lv_if_eq (tgt := 273) hx hb dX5_meet_266 (by decide) (fun cq => ?_) (fun cq => ?_)
      · have h := h.1 cq
        exact L273 x176 x196 v13 x176 x196 v13 _ _ _ h hP hD hS (lv_sub hl [] rfl)
      · have h := h.2 cq
        refine lv_iconst (v := (1 : Int32)) hx hb dX5_meet_269 (by decide) ?_
        refine lv_goto (tgt := 274) hx hb dX5_meet_270 (by decide) ?_
        exact L274 (1 : Int32) x176 x196 v13 x176 x196 v13 _ _ _ h hP hD hS (lv_sub hl [] rfl)
  have L104 : ∀ (v3 : Int64) (v5 : Int64) (v7 : Int64) (v9 : Int64) (v11 : Int64) (z0 : Int64) (rHx : Int64) (rHy : Int64) (rHd : Int64) (rKx : Int64) (rKy : Int64) (rKd : Int64) (H : Heap) (locs : List Loc) (ls : Array Slot), wp_X5_meet_L104 p0 p1 rAx rAy rBx rBy Q  v3 v5 v7 v9 v11 z0 rHx rHy rHd rKx rKy rKd → va_P D vwCl (wR k aR rF rS rVx rVy rMd rE rAx rAy rBx rBy rO rP rPx rPy rPd rQ rFi rLa rOn rLe rRi rHx rHy rHd rKx rKy rKd) H → va_D A (wR k aR rF rS rVx rVy rMd rE rAx rAy rBx rBy rO rP rPx rPy rPd rQ rFi rLa rOn rLe rRi rHx rHy rHd rKx rKy rKd) → va_S A s.heap H locs → lv_has ls 17 [(0, .ref (aR 0)), (1, .int p0), (2, .int p1), (3, .long v3), (5, .long v5), (7, .long v7), (9, .long v9), (11, .long v11)] → W p l e (headSpec wsX5_meet ({ frames := 2, cells := 0, slots := 0, locals := 62 })).room s m args below meth c H locs 0 0 GQ (F0 m 104 ls [.long z0]) := by
    intro v3 v5 v7 v9 v11 z0 rHx rHy rHd rKx rKy rKd H locs ls h hP hD hS hl
    unfold wp_X5_meet_L104 at h
    refine lv_lstore (lv' := [(13, .long z0), (0, .ref (aR 0)), (1, .int p0), (2, .int p1), (3, .long v3), (5, .long v5), (7, .long v7), (9, .long v9), (11, .long v11)]) hx hb dX5_meet_104 hl (by decide) rfl (fun ls hl => ?_)
    refine lv_aload_n hx hb dX5_meet_106 rfl (lv_at hl 1 rfl) ?_
    refine va_get (D := D) (ci := 5) (v := .ref (aR 4)) (C := RX5) (T := TX5) (N := 27) hx hb hts hiX5 hown hK hP 0 rfl rfl 6 (by decide) f19 (fun _ h9 => h9) rfl dX5_meet_107 ?_
    refine lv_iload_n hx hb dX5_meet_110 rfl (lv_at hl 3 rfl) ?_
    obtain ⟨hin, h⟩ := h
    refine va_iald hx hb hK hP 4 0 rfl rfl hin dX5_meet_111 ?_
    refine lv_aload_n hx hb dX5_meet_112 rfl (lv_at hl 1 rfl) ?_
    refine va_get (D := D) (ci := 5) (v := .ref (aR 4)) (C := RX5) (T := TX5) (N := 27) hx hb hts hiX5 hown hK hP 0 rfl rfl 6 (by decide) f19 (fun _ h9 => h9) rfl dX5_meet_113 ?_
    refine lv_iload_n hx hb dX5_meet_116 rfl (lv_at hl 2 rfl) ?_
    obtain ⟨hin, h⟩ := h
    refine va_iald hx hb hK hP 4 0 rfl rfl hin dX5_meet_117 ?_
    refine lv_isub hx hb dX5_meet_118 ?_
    refine lv_i2l hx hb dX5_meet_119 rfl ?_
    refine lv_lload hx hb dX5_meet_120 (lv_at hl 7 rfl) ?_
    refine lv_lmul hx hb dX5_meet_122 ?_
    refine lv_aload_n hx hb dX5_meet_123 rfl (lv_at hl 1 rfl) ?_
    refine va_get (D := D) (ci := 5) (v := .ref (aR 5)) (C := RX5) (T := TX5) (N := 27) hx hb hts hiX5 hown hK hP 0 rfl rfl 7 (by decide) f22 (fun _ h9 => h9) rfl dX5_meet_124 ?_
    refine lv_iload_n hx hb dX5_meet_127 rfl (lv_at hl 3 rfl) ?_
    obtain ⟨hin, h⟩ := h
    refine va_iald hx hb hK hP 5 0 rfl rfl hin dX5_meet_128 ?_
    refine lv_aload_n hx hb dX5_meet_129 rfl (lv_at hl 1 rfl) ?_
    refine va_get (D := D) (ci := 5) (v := .ref (aR 5)) (C := RX5) (T := TX5) (N := 27) hx hb hts hiX5 hown hK hP 0 rfl rfl 7 (by decide) f22 (fun _ h9 => h9) rfl dX5_meet_130 ?_
    refine lv_iload_n hx hb dX5_meet_133 rfl (lv_at hl 2 rfl) ?_
    obtain ⟨hin, h⟩ := h
    refine va_iald hx hb hK hP 5 0 rfl rfl hin dX5_meet_134 ?_
    refine lv_isub hx hb dX5_meet_135 ?_
    refine lv_i2l hx hb dX5_meet_136 rfl ?_
    refine lv_lload hx hb dX5_meet_137 (lv_at hl 6 rfl) ?_
    refine lv_lmul hx hb dX5_meet_139 ?_
    refine lv_lsub hx hb dX5_meet_140 ?_
    refine lv_topl (fun x141 ex141 => ?_)
    have h := h x141 ex141
    refine lv_lstore (lv' := [(15, .long x141), (13, .long z0), (0, .ref (aR 0)), (1, .int p0), (2, .int p1), (3, .long v3), (5, .long v5), (7, .long v7), (9, .long v9), (11, .long v11)]) hx hb dX5_meet_141 hl (by decide) rfl (fun ls hl => ?_)
    refine lv_lload hx hb dX5_meet_143 (lv_at hl 9 rfl) ?_
    refine lv_lconst (v := (0 : Int64)) hx hb dX5_meet_145 (by decide) ?_
    refine W.lcmp hx hb dX5_meet_146 ?_
    refine lv_if_ge (tgt := 156) hx hb dX5_meet_147 (by decide) (fun cq => ?_) (fun cq => ?_)
    · have h := h.1 ((lg_cmp_ge _ _).mp cq)
      refine lv_lload hx hb dX5_meet_156 (lv_at hl 0 rfl) ?_
      exact L158 v3 v5 z0 x141 rHx rHy rHd rKx rKy rKd _ _ _ h hP hD hS (lv_sub hl [2, 3, 4, 5, 6, 1] rfl)
    · have h := h.2 (fun q => cq ((lg_cmp_ge _ _).mpr q))
      refine lv_lload hx hb dX5_meet_150 (lv_at hl 0 rfl) ?_
      refine lv_lneg hx hb dX5_meet_152 ?_
      refine lv_goto (tgt := 158) hx hb dX5_meet_153 (by decide) ?_
      exact L158 v3 v5 z0 (-x141) rHx rHy rHd rKx rKy rKd _ _ _ h hP hD hS (lv_sub hl [2, 3, 4, 5, 6, 1] rfl)
  unfold wp_X5_meet at h
  refine lv_aload_n hx hb dX5_meet_0 rfl (lv_at hl 0 rfl) ?_
  refine va_get (D := D) (ci := 5) (v := .ref (aR 6)) (C := RX5) (T := TX5) (N := 27) hx hb hts hiX5 hown hK hP 0 rfl rfl 8 (by decide) f25 (fun _ h9 => h9) rfl dX5_meet_1 ?_
  refine lv_iload_n hx hb dX5_meet_4 rfl (lv_at hl 1 rfl) ?_
  obtain ⟨hin, h⟩ := h
  refine va_iald hx hb hK hP 6 0 rfl rfl hin dX5_meet_5 ?_
  refine lv_aload_n hx hb dX5_meet_6 rfl (lv_at hl 0 rfl) ?_
  refine va_get (D := D) (ci := 5) (v := .ref (aR 4)) (C := RX5) (T := TX5) (N := 27) hx hb hts hiX5 hown hK hP 0 rfl rfl 6 (by decide) f19 (fun _ h9 => h9) rfl dX5_meet_7 ?_
  refine lv_iload_n hx hb dX5_meet_10 rfl (lv_at hl 1 rfl) ?_
  obtain ⟨hin, h⟩ := h
  refine va_iald hx hb hK hP 4 0 rfl rfl hin dX5_meet_11 ?_
  refine lv_isub hx hb dX5_meet_12 ?_
  refine lv_i2l hx hb dX5_meet_13 rfl ?_
  refine lv_topl (fun x14 ex14 => ?_)
  have h := h x14 ex14
  refine lv_lstore_n (lv' := [(3, .long x14), (0, .ref (aR 0)), (1, .int p0), (2, .int p1)]) hx hb dX5_meet_14 rfl hl (by decide) rfl (fun ls hl => ?_)
  refine lv_aload_n hx hb dX5_meet_15 rfl (lv_at hl 1 rfl) ?_
  refine va_get (D := D) (ci := 5) (v := .ref (aR 7)) (C := RX5) (T := TX5) (N := 27) hx hb hts hiX5 hown hK hP 0 rfl rfl 9 (by decide) f28 (fun _ h9 => h9) rfl dX5_meet_16 ?_
  refine lv_iload_n hx hb dX5_meet_19 rfl (lv_at hl 2 rfl) ?_
  obtain ⟨hin, h⟩ := h
  refine va_iald hx hb hK hP 7 0 rfl rfl hin dX5_meet_20 ?_
  refine lv_aload_n hx hb dX5_meet_21 rfl (lv_at hl 1 rfl) ?_
  refine va_get (D := D) (ci := 5) (v := .ref (aR 5)) (C := RX5) (T := TX5) (N := 27) hx hb hts hiX5 hown hK hP 0 rfl rfl 7 (by decide) f22 (fun _ h9 => h9) rfl dX5_meet_22 ?_
  refine lv_iload_n hx hb dX5_meet_25 rfl (lv_at hl 2 rfl) ?_
  obtain ⟨hin, h⟩ := h
  refine va_iald hx hb hK hP 5 0 rfl rfl hin dX5_meet_26 ?_
  refine lv_isub hx hb dX5_meet_27 ?_
  refine lv_i2l hx hb dX5_meet_28 rfl ?_
  refine lv_topl (fun x29 ex29 => ?_)
  have h := h x29 ex29
  refine lv_lstore (lv' := [(5, .long x29), (3, .long x14), (0, .ref (aR 0)), (1, .int p0), (2, .int p1)]) hx hb dX5_meet_29 hl (by decide) rfl (fun ls hl => ?_)
  refine lv_aload_n hx hb dX5_meet_31 rfl (lv_at hl 2 rfl) ?_
  refine va_get (D := D) (ci := 5) (v := .ref (aR 6)) (C := RX5) (T := TX5) (N := 27) hx hb hts hiX5 hown hK hP 0 rfl rfl 8 (by decide) f25 (fun _ h9 => h9) rfl dX5_meet_32 ?_
  refine lv_iload_n hx hb dX5_meet_35 rfl (lv_at hl 4 rfl) ?_
  obtain ⟨hin, h⟩ := h
  refine va_iald hx hb hK hP 6 0 rfl rfl hin dX5_meet_36 ?_
  refine lv_aload_n hx hb dX5_meet_37 rfl (lv_at hl 2 rfl) ?_
  refine va_get (D := D) (ci := 5) (v := .ref (aR 4)) (C := RX5) (T := TX5) (N := 27) hx hb hts hiX5 hown hK hP 0 rfl rfl 6 (by decide) f19 (fun _ h9 => h9) rfl dX5_meet_38 ?_
  refine lv_iload_n hx hb dX5_meet_41 rfl (lv_at hl 4 rfl) ?_
  obtain ⟨hin, h⟩ := h
  refine va_iald hx hb hK hP 4 0 rfl rfl hin dX5_meet_42 ?_
  refine lv_isub hx hb dX5_meet_43 ?_
  refine lv_i2l hx hb dX5_meet_44 rfl ?_
  refine lv_topl (fun x45 ex45 => ?_)
  have h := h x45 ex45
  refine lv_lstore (lv' := [(7, .long x45), (5, .long x29), (3, .long x14), (0, .ref (aR 0)), (1, .int p0), (2, .int p1)]) hx hb dX5_meet_45 hl (by decide) rfl (fun ls hl => ?_)
  refine lv_aload_n hx hb dX5_meet_47 rfl (lv_at hl 3 rfl) ?_
  refine va_get (D := D) (ci := 5) (v := .ref (aR 7)) (C := RX5) (T := TX5) (N := 27) hx hb hts hiX5 hown hK hP 0 rfl rfl 9 (by decide) f28 (fun _ h9 => h9) rfl dX5_meet_48 ?_
  refine lv_iload_n hx hb dX5_meet_51 rfl (lv_at hl 5 rfl) ?_
  obtain ⟨hin, h⟩ := h
  refine va_iald hx hb hK hP 7 0 rfl rfl hin dX5_meet_52 ?_
  refine lv_aload_n hx hb dX5_meet_53 rfl (lv_at hl 3 rfl) ?_
  refine va_get (D := D) (ci := 5) (v := .ref (aR 5)) (C := RX5) (T := TX5) (N := 27) hx hb hts hiX5 hown hK hP 0 rfl rfl 7 (by decide) f22 (fun _ h9 => h9) rfl dX5_meet_54 ?_
  refine lv_iload_n hx hb dX5_meet_57 rfl (lv_at hl 5 rfl) ?_
  obtain ⟨hin, h⟩ := h
  refine va_iald hx hb hK hP 5 0 rfl rfl hin dX5_meet_58 ?_
  refine lv_isub hx hb dX5_meet_59 ?_
  refine lv_i2l hx hb dX5_meet_60 rfl ?_
  refine lv_topl (fun x61 ex61 => ?_)
  have h := h x61 ex61
  refine lv_lstore (lv' := [(9, .long x61), (7, .long x45), (5, .long x29), (3, .long x14), (0, .ref (aR 0)), (1, .int p0), (2, .int p1)]) hx hb dX5_meet_61 hl (by decide) rfl (fun ls hl => ?_)
  refine lv_lload_n hx hb dX5_meet_63 rfl (lv_at hl 3 rfl) ?_
  refine lv_lload hx hb dX5_meet_64 (lv_at hl 0 rfl) ?_
  refine lv_lmul hx hb dX5_meet_66 ?_
  refine lv_lload hx hb dX5_meet_67 (lv_at hl 2 rfl) ?_
  refine lv_lload hx hb dX5_meet_69 (lv_at hl 1 rfl) ?_
  refine lv_lmul hx hb dX5_meet_71 ?_
  refine lv_lsub hx hb dX5_meet_72 ?_
  refine lv_topl (fun x73 ex73 => ?_)
  have h := h x73 ex73
  refine lv_lstore (lv' := [(11, .long x73), (9, .long x61), (7, .long x45), (5, .long x29), (3, .long x14), (0, .ref (aR 0)), (1, .int p0), (2, .int p1)]) hx hb dX5_meet_73 hl (by decide) rfl (fun ls hl => ?_)
  refine lv_lload hx hb dX5_meet_75 (lv_at hl 0 rfl) ?_
  refine lv_lconst (v := (0 : Int64)) hx hb dX5_meet_77 (by decide) ?_
  refine W.lcmp hx hb dX5_meet_78 ?_
  refine lv_if_ne (tgt := 89) hx hb dX5_meet_79 (by decide) (fun cq => ?_) (fun cq => ?_)
  · have h := h.1 (fun q => cq ((lg_cmp_eq _ _).mpr q))
    refine lv_lload hx hb dX5_meet_89 (lv_at hl 0 rfl) ?_
    refine lv_lconst (v := (0 : Int64)) hx hb dX5_meet_91 (by decide) ?_
    refine W.lcmp hx hb dX5_meet_92 ?_
    refine lv_if_ge (tgt := 102) hx hb dX5_meet_93 (by decide) (fun cq => ?_) (fun cq => ?_)
    · have h := h.1 ((lg_cmp_ge _ _).mp cq)
      refine lv_lload hx hb dX5_meet_102 (lv_at hl 0 rfl) ?_
      exact L104 x14 x29 x45 x61 x73 x73 rHx rHy rHd rKx rKy rKd _ _ _ h hP hD hS (lv_sub hl [5, 6, 7, 4, 3, 2, 1, 0] rfl)
    · have h := h.2 (fun q => cq ((lg_cmp_ge _ _).mpr q))
      refine lv_lload hx hb dX5_meet_96 (lv_at hl 0 rfl) ?_
      refine lv_lneg hx hb dX5_meet_98 ?_
      refine lv_goto (tgt := 104) hx hb dX5_meet_99 (by decide) ?_
      exact L104 x14 x29 x45 x61 x73 (-x73) rHx rHy rHd rKx rKy rKd _ _ _ h hP hD hS (lv_sub hl [5, 6, 7, 4, 3, 2, 1, 0] rfl)
  · have h := h.2 ((lg_cmp_eq _ _).mp cq)
    refine lv_aload_n hx hb dX5_meet_82 rfl (lv_at hl 5 rfl) ?_
    refine lv_iload_n hx hb dX5_meet_83 rfl (lv_at hl 6 rfl) ?_
    refine lv_iload_n hx hb dX5_meet_84 rfl (lv_at hl 7 rfl) ?_
    have hFc := va_free (wc := wR k aR rF rS rVx rVy rMd rE rAx rAy rBx rBy rO rP rPx rPy rPd rQ rFi rLa rOn rLe rRi rHx rHy rHd rKx rKy rKd) hD hS hA [0, 1, 2, 3, 4, 5, 6, 7, 8, 9, 10, 11, 12, 13, 14, 15, 16] rfl
    refine va_calli (va_runV (C := RX5) (b := (aR 0)) (As := [.int p0, .int p1]) (rest := []) ⟨hx, hb, hml, hown, hts⟩ (m_X5_along l D k aR rF rS rVx rVy rMd rE rAx rAy rBx rBy rO rP rPx rPy rPd rQ rFi rLa rOn rLe rRi rHx rHy rHd rKx rKy rKd p0 p1 _ _ h) (cwV 2 hts gX5_meet_X5_along rfl rfl rfl (by decide +kernel) ⟨Nat.le_of_ble_eq_true rfl, Nat.le_of_ble_eq_true rfl⟩) (preV_rw (ci := 5) (q0 := 0) (C := RX5) (T := TX5) (N := 27) hE hP hD rfl rfl) rfl rfl hl.1 rfl (lv_room (Nat.le_of_ble_eq_true rfl)) dX5_meet_85 ⟨Nat.le_of_ble_eq_true rfl, Nat.le_of_ble_eq_true rfl⟩) hS (fun q _ h => hFc q h) hFc (fun r85 u t H1 locs ht hvm h hB hz1 hk1 hS => ?_)
    obtain ⟨rHx_85, rHy_85, rHd_85, rKx_85, rKy_85, rKd_85⟩ := u
    obtain ⟨hP1, hD1⟩ := hB
    rw [ht] at hP1
    obtain ⟨hP, hD⟩ := va_join (wr := ([] : va_W)) (w1 := wR k aR rF rS rVx rVy rMd rE rAx rAy rBx rBy rO rP rPx rPy rPd rQ rFi rLa rOn rLe rRi rHx_85 rHy_85 rHd_85 rKx_85 rKy_85 rKd_85) hP hD [0, 1, 2, 3, 4, 5, 6, 7, 8, 9, 10, 11, 12, 13, 14, 15, 16] [] rfl rfl (by decide) (by decide) hk1 hFc hP1 hD1
    generalize H1 = H at hP hS ⊢
    have hP : va_P D vwCl (wR k aR rF rS rVx rVy rMd rE rAx rAy rBx rBy rO rP rPx rPy rPd rQ rFi rLa rOn rLe rRi rHx_85 rHy_85 rHd_85 rKx_85 rKy_85 rKd_85) H := hP.sub [0, 1, 2, 3, 4, 5, 6, 7, 8, 9, 10, 11, 12, 13, 14, 15, 16] rfl
    have hD : va_D A (wR k aR rF rS rVx rVy rMd rE rAx rAy rBx rBy rO rP rPx rPy rPd rQ rFi rLa rOn rLe rRi rHx_85 rHy_85 rHd_85 rKx_85 rKy_85 rKd_85) := hD.sub [0, 1, 2, 3, 4, 5, 6, 7, 8, 9, 10, 11, 12, 13, 14, 15, 16] (by decide) rfl
    rw [hGQ]
    exact W.iret (v := r85) hx hb hr (fun t ht hW => ⟨⟨_, (rHx_85, rHy_85, rHd_85, rKx_85, rKy_85, rKd_85), rfl, h, by rw [ht]; exact hP, hD⟩, hS.F ht⟩) hS.2.2 dX5_meet_88
set_option maxHeartbeats 4000000 in
set_option maxRecDepth 100000 in
theorem m_X5_addPiece (l : Launch) (D : va_G) (k : Nat → ClassId) (aR : Nat → Nat) (rF : Int32) (rS : Nat → Int32) (rVx : Nat → Int32) (rVy : Nat → Int32) (rMd : Int32) (rE : Int32) (rAx : Nat → Int32) (rAy : Nat → Int32) (rBx : Nat → Int32) (rBy : Nat → Int32) (rO : Nat → Int32) (rP : Int32) (rPx : Nat → Int32) (rPy : Nat → Int32) (rPd : Nat → Int32) (rQ : Int32) (rFi : Nat → Int32) (rLa : Nat → Int32) (rOn : Nat → Int32) (rLe : Nat → Int32) (rRi : Nat → Int32) (rHx : Int64) (rHy : Int64) (rHd : Int64) (rKx : Int64) (rKy : Int64) (rKd : Int64) (p0 : Int32) (p1 : Int32) (p2 : Int32) (Q : (Int32) → (Nat → Int32) → (Nat → Int32) → (Nat → Int32) → Prop) (sz : Nat) (h : wp_X5_addPiece p0 p1 p2 rQ rFi rLa rOn Q) : Met l yX5_addPiece wsX5_addPiece ({ frames := 0, cells := 0, slots := 0, locals := 0 }) (Prw D k [.ref (aR 0), .int p0, .int p1, .int p2] (wR k aR rF rS rVx rVy rMd rE rAx rAy rBx rBy rO rP rPx rPy rPd rQ rFi rLa rOn rLe rRi rHx rHy rHd rKx rKy rKd) sz) (va_Qv (fun (u : (Int32) × (Nat → Int32) × (Nat → Int32) × (Nat → Int32)) => Q u.1 u.2.1 u.2.2.1 u.2.2.2) (fun (u : (Int32) × (Nat → Int32) × (Nat → Int32) × (Nat → Int32)) t => va_P D vwCl (wR k aR rF rS rVx rVy rMd rE rAx rAy rBx rBy rO rP rPx rPy rPd (u.1) (u.2.1) (u.2.2.1) (u.2.2.2) rLe rRi rHx rHy rHd rKx rKy rKd) t.heap ∧ va_D (va_A (wR k aR rF rS rVx rVy rMd rE rAx rAy rBx rBy rO rP rPx rPy rPd rQ rFi rLa rOn rLe rRi rHx rHy rHd rKx rKy rKd) sz) (wR k aR rF rS rVx rVy rMd rE rAx rAy rBx rBy rO rP rPx rPy rPd (u.1) (u.2.1) (u.2.2.1) (u.2.2.2) rLe rRi rHx rHy rHd rKx rKy rKd)) (va_A (wR k aR rF rS rVx rVy rMd rE rAx rAy rBx rBy rO rP rPx rPy rPd rQ rFi rLa rOn rLe rRi rHx rHy rHd rKx rKy rKd) sz)) 0 0 (va_A (wR k aR rF rS rVx rVy rMd rE rAx rAy rBx rBy rO rP rPx rPy rPd rQ rFi rLa rOn rLe rRi rHx rHy rHd rKx rKy rKd) sz) := by
  refine Met.ofW (cc := cX5_addPiece) (maxL := 6) (ret := none) (by decide) rfl ?_
  intro p e s m args below meth c s₁ B hml hv
  obtain ⟨hav, hsz, hP, hE, hD0⟩ := hv
  subst hsz
  have hx := B.exec
  have hb := B.bytes
  have hr := B.returns
  have hts := atoms_spec (ws := wsX5_addPiece) B.pre
  have hown : s.vm.findClass RX5 = some m.cls := findClass_of_methodNamed B.named
  have hlocks := B.notSynchronized
  have hK := hE.1
  have hD := hD0.self (sz := s.heap.size)
  generalize hAe : va_A (wR k aR rF rS rVx rVy rMd rE rAx rAy rBx rBy rO rP rPx rPy rPd rQ rFi rLa rOn rLe rRi rHx rHy rHd rKx rKy rKd) s.heap.size = A at hD ⊢
  have hA : ∀ q : Nat, s.heap.size ≤ q → A q := fun q h => by rw [← hAe]; exact Or.inr h
  have hS : va_S A s.heap s.heap [] := va_S.rf
  have hl := lv_entry ([.ref (aR 0), .int p0, .int p1, .int p2]) (n := 6) (Nat.le_of_ble_eq_true rfl)
  rw [show entryFrame m args 6 = entryFrame m ([.ref (aR 0), .int p0, .int p1, .int p2] : List Value).toArray 6 by rw [hav]]
  rw [lg_entry_eq]
  refine W.gq (fun GQ hGQ => ?_)
  generalize (lg_sl ([.ref (aR 0), .int p0, .int p1, .int p2]) ++ List.replicate (6 - (lg_sl ([.ref (aR 0), .int p0, .int p1, .int p2])).length) Slot.unset).toArray = ls at hl ⊢
  have hl : lv_has ls 6 [(0, .ref (aR 0)), (1, .int p0), (2, .int p1), (3, .int p2)] := hl
  have hiX5 := (by decide +kernel : ∀ w ∈ wsX50, w ∈ wsX5_addPiece)
  have f49 := hts (.fieldLink RX5 49 "PlaneOverlayModel" "on" "[I") (by decide +kernel)
  have f43 := hts (.fieldLink RX5 43 "PlaneOverlayModel" "first" "[I") (by decide +kernel)
  have f46 := hts (.fieldLink RX5 46 "PlaneOverlayModel" "last" "[I") (by decide +kernel)
  have f116 := hts (.fieldLink RX5 116 "PlaneOverlayModel" "pieces" "I") (by decide +kernel)
  have L223 : ∀ (v4 : Int32) (rQ : Int32) (rFi : Nat → Int32) (rLa : Nat → Int32) (rOn : Nat → Int32) (H : Heap) (locs : List Loc) (ls : Array Slot), wp_X5_addPiece_L223 p0 p1 p2 Q  v4 rQ rFi rLa rOn → va_P D vwCl (wR k aR rF rS rVx rVy rMd rE rAx rAy rBx rBy rO rP rPx rPy rPd rQ rFi rLa rOn rLe rRi rHx rHy rHd rKx rKy rKd) H → va_D A (wR k aR rF rS rVx rVy rMd rE rAx rAy rBx rBy rO rP rPx rPy rPd rQ rFi rLa rOn rLe rRi rHx rHy rHd rKx rKy rKd) → va_S A s.heap H locs → lv_has ls 6 [(0, .ref (aR 0)), (3, .int p2), (4, .int v4)] → W p l e (headSpec wsX5_addPiece ({ frames := 0, cells := 0, slots := 0, locals := 0 })).room s m args below meth c H locs 0 0 GQ (F0 m 223 ls []) := by
    intro v4 rQ rFi rLa rOn H locs ls h hP hD hS hl
    unfold wp_X5_addPiece_L223 at h
    refine lv_aload_n hx hb dX5_addPiece_223 rfl (lv_at hl 0 rfl) ?_
    refine va_get (D := D) (ci := 5) (v := .ref (aR 14)) (C := RX5) (T := TX5) (N := 27) hx hb hts hiX5 hown hK hP 0 rfl rfl 18 (by decide) f49 (fun _ h9 => h9) rfl dX5_addPiece_224 ?_
    refine lv_iconst (v := (2 : Int32)) hx hb dX5_addPiece_227 (by decide) ?_
    refine lv_iload hx hb dX5_addPiece_228 (lv_at hl 2 rfl) ?_
    refine lv_imul hx hb dX5_addPiece_230 ?_
    refine lv_iload_n hx hb dX5_addPiece_231 rfl (lv_at hl 1 rfl) ?_
    refine lv_iadd hx hb dX5_addPiece_232 ?_
    refine lv_dup2_11 hx hb dX5_addPiece_233 rfl rfl ?_
    obtain ⟨hin, h⟩ := h
    refine va_iald hx hb hK hP 14 0 rfl rfl hin dX5_addPiece_234 ?_
    refine lv_iconst (v := (1 : Int32)) hx hb dX5_addPiece_235 (by decide) ?_
    refine lv_iadd hx hb dX5_addPiece_236 ?_
    obtain ⟨hin, h⟩ := h
    obtain ⟨y237, ey237⟩ : ∃ z : Nat → Int32, z = upd rOn (((2 : Int32) * v4) + p2).toNatClampNeg ((rOn (((2 : Int32) * v4) + p2).toNatClampNeg) + (1 : Int32)) := ⟨_, rfl⟩
    have h := h y237 ey237
    refine va_iast hx hb hK hP hD hS 14 0 rfl rfl hin dX5_addPiece_237 (fun H locs hP hD hS => ?_)
    rw [← ey237] at hP hD
    have hP : va_P D vwCl (wR k aR rF rS rVx rVy rMd rE rAx rAy rBx rBy rO rP rPx rPy rPd rQ rFi rLa y237 rLe rRi rHx rHy rHd rKx rKy rKd) H := hP
    have hD : va_D A (wR k aR rF rS rVx rVy rMd rE rAx rAy rBx rBy rO rP rPx rPy rPd rQ rFi rLa y237 rLe rRi rHx rHy rHd rKx rKy rKd) := hD
    rw [hGQ]
    exact W.vret hx hb hr (fun t ht hW => ⟨⟨(rQ, rFi, rLa, y237), rfl, h, by rw [ht]; exact hP, hD⟩, hS.F ht⟩) hS.2.2 dX5_addPiece_238
  have L175 : ∀ (v4 : Int32) (rQ : Int32) (rFi : Nat → Int32) (rLa : Nat → Int32) (rOn : Nat → Int32) (H : Heap) (locs : List Loc) (ls : Array Slot), wp_X5_addPiece_L175 p0 p1 p2 Q  v4 rQ rFi rLa rOn → va_P D vwCl (wR k aR rF rS rVx rVy rMd rE rAx rAy rBx rBy rO rP rPx rPy rPd rQ rFi rLa rOn rLe rRi rHx rHy rHd rKx rKy rKd) H → va_D A (wR k aR rF rS rVx rVy rMd rE rAx rAy rBx rBy rO rP rPx rPy rPd rQ rFi rLa rOn rLe rRi rHx rHy rHd rKx rKy rKd) → va_S A s.heap H locs → lv_has ls 6 [(0, .ref (aR 0)), (1, .int p0), (2, .int p1), (3, .int p2), (4, .int v4)] → W p l e (headSpec wsX5_addPiece ({ frames := 0, cells := 0, slots := 0, locals := 0 })).room s m args below meth c H locs 0 0 GQ (F0 m 175 ls []) := by
    intro v4 rQ rFi rLa rOn H locs ls h hP hD hS hl
    unfold wp_X5_addPiece_L175 at h
    refine lv_aload_n hx hb dX5_addPiece_175 rfl (lv_at hl 0 rfl) ?_
    refine va_get (D := D) (ci := 5) (v := .ref (aR 12)) (C := RX5) (T := TX5) (N := 27) hx hb hts hiX5 hown hK hP 0 rfl rfl 16 (by decide) f43 (fun _ h9 => h9) rfl dX5_addPiece_176 ?_
    refine lv_iload hx hb dX5_addPiece_179 (lv_at hl 4 rfl) ?_
    refine lv_iload_n hx hb dX5_addPiece_181 rfl (lv_at hl 1 rfl) ?_
    obtain ⟨hin, h⟩ := h
    obtain ⟨y182, ey182⟩ : ∃ z : Nat → Int32, z = upd rFi v4.toNatClampNeg p0 := ⟨_, rfl⟩
    have h := h y182 ey182
    refine va_iast hx hb hK hP hD hS 12 0 rfl rfl hin dX5_addPiece_182 (fun H locs hP hD hS => ?_)
    rw [← ey182] at hP hD
    have hP : va_P D vwCl (wR k aR rF rS rVx rVy rMd rE rAx rAy rBx rBy rO rP rPx rPy rPd rQ y182 rLa rOn rLe rRi rHx rHy rHd rKx rKy rKd) H := hP
    have hD : va_D A (wR k aR rF rS rVx rVy rMd rE rAx rAy rBx rBy rO rP rPx rPy rPd rQ y182 rLa rOn rLe rRi rHx rHy rHd rKx rKy rKd) := hD
    refine lv_aload_n hx hb dX5_addPiece_183 rfl (lv_at hl 0 rfl) ?_
    refine va_get (D := D) (ci := 5) (v := .ref (aR 13)) (C := RX5) (T := TX5) (N := 27) hx hb hts hiX5 hown hK hP 0 rfl rfl 17 (by decide) f46 (fun _ h9 => h9) rfl dX5_addPiece_184 ?_
    refine lv_iload hx hb dX5_addPiece_187 (lv_at hl 4 rfl) ?_
    refine lv_iload_n hx hb dX5_addPiece_189 rfl (lv_at hl 2 rfl) ?_
    obtain ⟨hin, h⟩ := h
    obtain ⟨y190, ey190⟩ : ∃ z : Nat → Int32, z = upd rLa v4.toNatClampNeg p1 := ⟨_, rfl⟩
    have h := h y190 ey190
    refine va_iast hx hb hK hP hD hS 13 0 rfl rfl hin dX5_addPiece_190 (fun H locs hP hD hS => ?_)
    rw [← ey190] at hP hD
    have hP : va_P D vwCl (wR k aR rF rS rVx rVy rMd rE rAx rAy rBx rBy rO rP rPx rPy rPd rQ y182 y190 rOn rLe rRi rHx rHy rHd rKx rKy rKd) H := hP
    have hD : va_D A (wR k aR rF rS rVx rVy rMd rE rAx rAy rBx rBy rO rP rPx rPy rPd rQ y182 y190 rOn rLe rRi rHx rHy rHd rKx rKy rKd) := hD
    refine lv_aload_n hx hb dX5_addPiece_191 rfl (lv_at hl 0 rfl) ?_
    refine va_get (D := D) (ci := 5) (v := .ref (aR 14)) (C := RX5) (T := TX5) (N := 27) hx hb hts hiX5 hown hK hP 0 rfl rfl 18 (by decide) f49 (fun _ h9 => h9) rfl dX5_addPiece_192 ?_
    refine lv_iconst (v := (2 : Int32)) hx hb dX5_addPiece_195 (by decide) ?_
    refine lv_iload hx hb dX5_addPiece_196 (lv_at hl 4 rfl) ?_
    refine lv_imul hx hb dX5_addPiece_198 ?_
    refine lv_iconst (v := (0 : Int32)) hx hb dX5_addPiece_199 (by decide) ?_
    obtain ⟨hin, h⟩ := h
    obtain ⟨y200, ey200⟩ : ∃ z : Nat → Int32, z = upd rOn ((2 : Int32) * v4).toNatClampNeg (0 : Int32) := ⟨_, rfl⟩
    have h := h y200 ey200
    refine va_iast hx hb hK hP hD hS 14 0 rfl rfl hin dX5_addPiece_200 (fun H locs hP hD hS => ?_)
    rw [← ey200] at hP hD
    have hP : va_P D vwCl (wR k aR rF rS rVx rVy rMd rE rAx rAy rBx rBy rO rP rPx rPy rPd rQ y182 y190 y200 rLe rRi rHx rHy rHd rKx rKy rKd) H := hP
    have hD : va_D A (wR k aR rF rS rVx rVy rMd rE rAx rAy rBx rBy rO rP rPx rPy rPd rQ y182 y190 y200 rLe rRi rHx rHy rHd rKx rKy rKd) := hD
    refine lv_aload_n hx hb dX5_addPiece_201 rfl (lv_at hl 0 rfl) ?_
    refine va_get (D := D) (ci := 5) (v := .ref (aR 14)) (C := RX5) (T := TX5) (N := 27) hx hb hts hiX5 hown hK hP 0 rfl rfl 18 (by decide) f49 (fun _ h9 => h9) rfl dX5_addPiece_202 ?_
    refine lv_iconst (v := (2 : Int32)) hx hb dX5_addPiece_205 (by decide) ?_
    refine lv_iload hx hb dX5_addPiece_206 (lv_at hl 4 rfl) ?_
    refine lv_imul hx hb dX5_addPiece_208 ?_
    refine lv_iconst (v := (1 : Int32)) hx hb dX5_addPiece_209 (by decide) ?_
    refine lv_iadd hx hb dX5_addPiece_210 ?_
    refine lv_iconst (v := (0 : Int32)) hx hb dX5_addPiece_211 (by decide) ?_
    obtain ⟨hin, h⟩ := h
    obtain ⟨y212, ey212⟩ : ∃ z : Nat → Int32, z = upd y200 (((2 : Int32) * v4) + (1 : Int32)).toNatClampNeg (0 : Int32) := ⟨_, rfl⟩
    have h := h y212 ey212
    refine va_iast hx hb hK hP hD hS 14 0 rfl rfl hin dX5_addPiece_212 (fun H locs hP hD hS => ?_)
    rw [← ey212] at hP hD
    have hP : va_P D vwCl (wR k aR rF rS rVx rVy rMd rE rAx rAy rBx rBy rO rP rPx rPy rPd rQ y182 y190 y212 rLe rRi rHx rHy rHd rKx rKy rKd) H := hP
    have hD : va_D A (wR k aR rF rS rVx rVy rMd rE rAx rAy rBx rBy rO rP rPx rPy rPd rQ y182 y190 y212 rLe rRi rHx rHy rHd rKx rKy rKd) := hD
    refine lv_aload_n hx hb dX5_addPiece_213 rfl (lv_at hl 0 rfl) ?_
    refine lv_dup hx hb dX5_addPiece_214 rfl ?_
    refine va_get (D := D) (ci := 5) (v := .int rQ) (C := RX5) (T := TX5) (N := 27) hx hb hts hiX5 hown hK hP 0 rfl rfl 15 (by decide) f116 (fun _ h9 => h9) rfl dX5_addPiece_215 ?_
    refine lv_iconst (v := (1 : Int32)) hx hb dX5_addPiece_218 (by decide) ?_
    refine lv_iadd hx hb dX5_addPiece_219 ?_
    refine lv_topi (fun x220 ex220 => ?_)
    have h := h x220 ex220
    refine va_put (D := D) (ci := 5) (v := .int x220) (ty := .int) (C := RX5) (T := TX5) (N := 27) hx hb hts hiX5 tyX5 tyX5_ok nmX5 hown hK hP hD hS 0 rfl rfl 15 (by decide) f116 (fun _ h9 => h9) rfl (by decide +kernel) rfl rfl (Nat.le_of_ble_eq_true rfl) dX5_addPiece_220 (fun H locs hP hD hS => ?_)
    have hP : va_P D vwCl (wR k aR rF rS rVx rVy rMd rE rAx rAy rBx rBy rO rP rPx rPy rPd x220 y182 y190 y212 rLe rRi rHx rHy rHd rKx rKy rKd) H := hP
    have hD : va_D A (wR k aR rF rS rVx rVy rMd rE rAx rAy rBx rBy rO rP rPx rPy rPd x220 y182 y190 y212 rLe rRi rHx rHy rHd rKx rKy rKd) := hD
    exact L223 v4 x220 y182 y190 y212 _ _ _ h hP hD hS (lv_sub hl [0, 3, 4] rfl)
  have L88 : ∀ (n88 : Nat) (v4 : Int32) (v5 : Int32) (rQ : Int32) (rFi : Nat → Int32) (rLa : Nat → Int32) (rOn : Nat → Int32) (H : Heap) (locs : List Loc) (ls : Array Slot), wp_X5_addPiece_L88 p0 p1 p2 Q (fun v4 rQ rFi rLa rOn => (wp_X5_addPiece_L175 p0 p1 p2 Q  v4 rQ rFi rLa rOn)) n88 v4 v5 rQ rFi rLa rOn → va_P D vwCl (wR k aR rF rS rVx rVy rMd rE rAx rAy rBx rBy rO rP rPx rPy rPd rQ rFi rLa rOn rLe rRi rHx rHy rHd rKx rKy rKd) H → va_D A (wR k aR rF rS rVx rVy rMd rE rAx rAy rBx rBy rO rP rPx rPy rPd rQ rFi rLa rOn rLe rRi rHx rHy rHd rKx rKy rKd) → va_S A s.heap H locs → lv_has ls 6 [(0, .ref (aR 0)), (1, .int p0), (2, .int p1), (3, .int p2), (4, .int v4), (5, .int v5)] → W p l e (headSpec wsX5_addPiece ({ frames := 0, cells := 0, slots := 0, locals := 0 })).room s m args below meth c H locs 0 0 GQ (F0 m 88 ls []) := by
    intro n88
    induction n88 with
    | zero => intro v4 v5 rQ rFi rLa rOn H locs ls h hP hD hS hl; exact False.elim h
    | succ n88 ih88 =>
      intro v4 v5 rQ rFi rLa rOn H locs ls h hP hD hS hl
      rw [wp_X5_addPiece_L88] at h
      refine lv_iload hx hb dX5_addPiece_88 (lv_at hl 5 rfl) ?_
      refine lv_iload hx hb dX5_addPiece_90 (lv_at hl 4 rfl) ?_
      refine lv_icmp_le (tgt := 175) hx hb dX5_addPiece_92 (by decide) (fun cq => ?_) (fun cq => ?_)
      · have h := h.1 cq
        exact L175 v4 rQ rFi rLa rOn _ _ _ h hP hD hS (lv_sub hl [0, 1, 2, 3, 4] rfl)
      · have h := h.2 cq
        refine lv_aload_n hx hb dX5_addPiece_95 rfl (lv_at hl 0 rfl) ?_
        refine va_get (D := D) (ci := 5) (v := .ref (aR 12)) (C := RX5) (T := TX5) (N := 27) hx hb hts hiX5 hown hK hP 0 rfl rfl 16 (by decide) f43 (fun _ h9 => h9) rfl dX5_addPiece_96 ?_
        refine lv_iload hx hb dX5_addPiece_99 (lv_at hl 5 rfl) ?_
        refine lv_aload_n hx hb dX5_addPiece_101 rfl (lv_at hl 0 rfl) ?_
        refine va_get (D := D) (ci := 5) (v := .ref (aR 12)) (C := RX5) (T := TX5) (N := 27) hx hb hts hiX5 hown hK hP 0 rfl rfl 16 (by decide) f43 (fun _ h9 => h9) rfl dX5_addPiece_102 ?_
        refine lv_iload hx hb dX5_addPiece_105 (lv_at hl 5 rfl) ?_
        refine lv_iconst (v := (1 : Int32)) hx hb dX5_addPiece_107 (by decide) ?_
        refine lv_isub hx hb dX5_addPiece_108 ?_
        obtain ⟨hin, h⟩ := h
        refine va_iald hx hb hK hP 12 0 rfl rfl hin dX5_addPiece_109 ?_
        obtain ⟨hin, h⟩ := h
        obtain ⟨y110, ey110⟩ : ∃ z : Nat → Int32, z = upd rFi v5.toNatClampNeg (rFi (v5 - (1 : Int32)).toNatClampNeg) := ⟨_, rfl⟩
        have h := h y110 ey110
        refine va_iast hx hb hK hP hD hS 12 0 rfl rfl hin dX5_addPiece_110 (fun H locs hP hD hS => ?_)
        rw [← ey110] at hP hD
        have hP : va_P D vwCl (wR k aR rF rS rVx rVy rMd rE rAx rAy rBx rBy rO rP rPx rPy rPd rQ y110 rLa rOn rLe rRi rHx rHy rHd rKx rKy rKd) H := hP
        have hD : va_D A (wR k aR rF rS rVx rVy rMd rE rAx rAy rBx rBy rO rP rPx rPy rPd rQ y110 rLa rOn rLe rRi rHx rHy rHd rKx rKy rKd) := hD
        refine lv_aload_n hx hb dX5_addPiece_111 rfl (lv_at hl 0 rfl) ?_
        refine va_get (D := D) (ci := 5) (v := .ref (aR 13)) (C := RX5) (T := TX5) (N := 27) hx hb hts hiX5 hown hK hP 0 rfl rfl 17 (by decide) f46 (fun _ h9 => h9) rfl dX5_addPiece_112 ?_
        refine lv_iload hx hb dX5_addPiece_115 (lv_at hl 5 rfl) ?_
        refine lv_aload_n hx hb dX5_addPiece_117 rfl (lv_at hl 0 rfl) ?_
        refine va_get (D := D) (ci := 5) (v := .ref (aR 13)) (C := RX5) (T := TX5) (N := 27) hx hb hts hiX5 hown hK hP 0 rfl rfl 17 (by decide) f46 (fun _ h9 => h9) rfl dX5_addPiece_118 ?_
        refine lv_iload hx hb dX5_addPiece_121 (lv_at hl 5 rfl) ?_
        refine lv_iconst (v := (1 : Int32)) hx hb dX5_addPiece_123 (by decide) ?_
        refine lv_isub hx hb dX5_addPiece_124 ?_
        obtain ⟨hin, h⟩ := h
        refine va_iald hx hb hK hP 13 0 rfl rfl hin dX5_addPiece_125 ?_
        obtain ⟨hin, h⟩ := h
        obtain ⟨y126, ey126⟩ : ∃ z : Nat → Int32, z = upd rLa v5.toNatClampNeg (rLa (v5 - (1 : Int32)).toNatClampNeg) := ⟨_, rfl⟩
        have h := h y126 ey126
        refine va_iast hx hb hK hP hD hS 13 0 rfl rfl hin dX5_addPiece_126 (fun H locs hP hD hS => ?_)
        rw [← ey126] at hP hD
        have hP : va_P D vwCl (wR k aR rF rS rVx rVy rMd rE rAx rAy rBx rBy rO rP rPx rPy rPd rQ y110 y126 rOn rLe rRi rHx rHy rHd rKx rKy rKd) H := hP
        have hD : va_D A (wR k aR rF rS rVx rVy rMd rE rAx rAy rBx rBy rO rP rPx rPy rPd rQ y110 y126 rOn rLe rRi rHx rHy rHd rKx rKy rKd) := hD
        refine lv_aload_n hx hb dX5_addPiece_127 rfl (lv_at hl 0 rfl) ?_
        refine va_get (D := D) (ci := 5) (v := .ref (aR 14)) (C := RX5) (T := TX5) (N := 27) hx hb hts hiX5 hown hK hP 0 rfl rfl 18 (by decide) f49 (fun _ h9 => h9) rfl dX5_addPiece_128 ?_
        refine lv_iconst (v := (2 : Int32)) hx hb dX5_addPiece_131 (by decide) ?_
        refine lv_iload hx hb dX5_addPiece_132 (lv_at hl 5 rfl) ?_
        refine lv_imul hx hb dX5_addPiece_134 ?_
        refine lv_aload_n hx hb dX5_addPiece_135 rfl (lv_at hl 0 rfl) ?_
        refine va_get (D := D) (ci := 5) (v := .ref (aR 14)) (C := RX5) (T := TX5) (N := 27) hx hb hts hiX5 hown hK hP 0 rfl rfl 18 (by decide) f49 (fun _ h9 => h9) rfl dX5_addPiece_136 ?_
        refine lv_iconst (v := (2 : Int32)) hx hb dX5_addPiece_139 (by decide) ?_
        refine lv_iload hx hb dX5_addPiece_140 (lv_at hl 5 rfl) ?_
        refine lv_imul hx hb dX5_addPiece_142 ?_
        refine lv_iconst (v := (2 : Int32)) hx hb dX5_addPiece_143 (by decide) ?_
        refine lv_isub hx hb dX5_addPiece_144 ?_
        obtain ⟨hin, h⟩ := h
        refine va_iald hx hb hK hP 14 0 rfl rfl hin dX5_addPiece_145 ?_
        obtain ⟨hin, h⟩ := h
        obtain ⟨y146, ey146⟩ : ∃ z : Nat → Int32, z = upd rOn ((2 : Int32) * v5).toNatClampNeg (rOn (((2 : Int32) * v5) - (2 : Int32)).toNatClampNeg) := ⟨_, rfl⟩
        have h := h y146 ey146
        refine va_iast hx hb hK hP hD hS 14 0 rfl rfl hin dX5_addPiece_146 (fun H locs hP hD hS => ?_)
        rw [← ey146] at hP hD
        have hP : va_P D vwCl (wR k aR rF rS rVx rVy rMd rE rAx rAy rBx rBy rO rP rPx rPy rPd rQ y110 y126 y146 rLe rRi rHx rHy rHd rKx rKy rKd) H := hP
        have hD : va_D A (wR k aR rF rS rVx rVy rMd rE rAx rAy rBx rBy rO rP rPx rPy rPd rQ y110 y126 y146 rLe rRi rHx rHy rHd rKx rKy rKd) := hD
        refine lv_aload_n hx hb dX5_addPiece_147 rfl (lv_at hl 0 rfl) ?_
        refine va_get (D := D) (ci := 5) (v := .ref (aR 14)) (C := RX5) (T := TX5) (N := 27) hx hb hts hiX5 hown hK hP 0 rfl rfl 18 (by decide) f49 (fun _ h9 => h9) rfl dX5_addPiece_148 ?_
        refine lv_iconst (v := (2 : Int32)) hx hb dX5_addPiece_151 (by decide) ?_
        refine lv_iload hx hb dX5_addPiece_152 (lv_at hl 5 rfl) ?_
        refine lv_imul hx hb dX5_addPiece_154 ?_
        refine lv_iconst (v := (1 : Int32)) hx hb dX5_addPiece_155 (by decide) ?_
        refine lv_iadd hx hb dX5_addPiece_156 ?_
        refine lv_aload_n hx hb dX5_addPiece_157 rfl (lv_at hl 0 rfl) ?_
        refine va_get (D := D) (ci := 5) (v := .ref (aR 14)) (C := RX5) (T := TX5) (N := 27) hx hb hts hiX5 hown hK hP 0 rfl rfl 18 (by decide) f49 (fun _ h9 => h9) rfl dX5_addPiece_158 ?_
        refine lv_iconst (v := (2 : Int32)) hx hb dX5_addPiece_161 (by decide) ?_
        refine lv_iload hx hb dX5_addPiece_162 (lv_at hl 5 rfl) ?_
        refine lv_imul hx hb dX5_addPiece_164 ?_
        refine lv_iconst (v := (1 : Int32)) hx hb dX5_addPiece_165 (by decide) ?_
        refine lv_isub hx hb dX5_addPiece_166 ?_
        obtain ⟨hin, h⟩ := h
        refine va_iald hx hb hK hP 14 0 rfl rfl hin dX5_addPiece_167 ?_
        obtain ⟨hin, h⟩ := h
        obtain ⟨y168, ey168⟩ : ∃ z : Nat → Int32, z = upd y146 (((2 : Int32) * v5) + (1 : Int32)).toNatClampNeg (y146 (((2 : Int32) * v5) - (1 : Int32)).toNatClampNeg) := ⟨_, rfl⟩
        have h := h y168 ey168
        refine va_iast hx hb hK hP hD hS 14 0 rfl rfl hin dX5_addPiece_168 (fun H locs hP hD hS => ?_)
        rw [← ey168] at hP hD
        have hP : va_P D vwCl (wR k aR rF rS rVx rVy rMd rE rAx rAy rBx rBy rO rP rPx rPy rPd rQ y110 y126 y168 rLe rRi rHx rHy rHd rKx rKy rKd) H := hP
        have hD : va_D A (wR k aR rF rS rVx rVy rMd rE rAx rAy rBx rBy rO rP rPx rPy rPd rQ y110 y126 y168 rLe rRi rHx rHy rHd rKx rKy rKd) := hD
        refine lv_iinc (v := (v5 + (-1))) (lv' := [(5, .int (v5 + (-1))), (0, .ref (aR 0)), (1, .int p0), (2, .int p1), (3, .int p2), (4, .int v4)]) hx hb dX5_addPiece_169 hl (k := 5) rfl (by rw [show Int32.ofInt (-1) = -1 by decide]) (by decide) rfl (fun ls hl => ?_)
        refine lv_goto (tgt := 88) hx hb dX5_addPiece_172 (by decide) ?_
        exact ih88 v4 (v5 + (-1)) rQ y110 y126 y168 _ _ _ h hP hD hS (lv_sub hl [1, 2, 3, 4, 5, 0] rfl)
  have L82 : ∀ (v4 : Int32) (rQ : Int32) (rFi : Nat → Int32) (rLa : Nat → Int32) (rOn : Nat → Int32) (H : Heap) (locs : List Loc) (ls : Array Slot), wp_X5_addPiece_L82 p0 p1 p2 Q  v4 rQ rFi rLa rOn → va_P D vwCl (wR k aR rF rS rVx rVy rMd rE rAx rAy rBx rBy rO rP rPx rPy rPd rQ rFi rLa rOn rLe rRi rHx rHy rHd rKx rKy rKd) H → va_D A (wR k aR rF rS rVx rVy rMd rE rAx rAy rBx rBy rO rP rPx rPy rPd rQ rFi rLa rOn rLe rRi rHx rHy rHd rKx rKy rKd) → va_S A s.heap H locs → lv_has ls 6 [(0, .ref (aR 0)), (1, .int p0), (2, .int p1), (3, .int p2), (4, .int v4)] → W p l e (headSpec wsX5_addPiece ({ frames := 0, cells := 0, slots := 0, locals := 0 })).room s m args below meth c H locs 0 0 GQ (F0 m 82 ls []) := by
    intro v4 rQ rFi rLa rOn H locs ls h hP hD hS hl
    unfold wp_X5_addPiece_L82 at h
    refine lv_aload_n hx hb dX5_addPiece_82 rfl (lv_at hl 0 rfl) ?_
    refine va_get (D := D) (ci := 5) (v := .int rQ) (C := RX5) (T := TX5) (N := 27) hx hb hts hiX5 hown hK hP 0 rfl rfl 15 (by decide) f116 (fun _ h9 => h9) rfl dX5_addPiece_83 ?_
    refine lv_istore (lv' := [(5, .int rQ), (0, .ref (aR 0)), (1, .int p0), (2, .int p1), (3, .int p2), (4, .int v4)]) hx hb dX5_addPiece_86 hl (by decide) rfl (fun ls hl => ?_)
    obtain ⟨n9, h⟩ := h
    exact L88 n9 v4 rQ rQ rFi rLa rOn _ _ _ h hP hD hS (lv_sub hl [1, 2, 3, 4, 5, 0] rfl)
  have L51 : ∀ (v4 : Int32) (rQ : Int32) (rFi : Nat → Int32) (rLa : Nat → Int32) (rOn : Nat → Int32) (H : Heap) (locs : List Loc) (ls : Array Slot), wp_X5_addPiece_L51 p0 p1 p2 Q  v4 rQ rFi rLa rOn → va_P D vwCl (wR k aR rF rS rVx rVy rMd rE rAx rAy rBx rBy rO rP rPx rPy rPd rQ rFi rLa rOn rLe rRi rHx rHy rHd rKx rKy rKd) H → va_D A (wR k aR rF rS rVx rVy rMd rE rAx rAy rBx rBy rO rP rPx rPy rPd rQ rFi rLa rOn rLe rRi rHx rHy rHd rKx rKy rKd) → va_S A s.heap H locs → lv_has ls 6 [(0, .ref (aR 0)), (1, .int p0), (2, .int p1), (3, .int p2), (4, .int v4)] → W p l e (headSpec wsX5_addPiece ({ frames := 0, cells := 0, slots := 0, locals := 0 })).room s m args below meth c H locs 0 0 GQ (F0 m 51 ls []) := by
    intro v4 rQ rFi rLa rOn H locs ls h hP hD hS hl
    unfold wp_X5_addPiece_L51 at h
    refine lv_iload hx hb dX5_addPiece_51 (lv_at hl 4 rfl) ?_
    refine lv_aload_n hx hb dX5_addPiece_53 rfl (lv_at hl 0 rfl) ?_
    refine va_get (D := D) (ci := 5) (v := .int rQ) (C := RX5) (T := TX5) (N := 27) hx hb hts hiX5 hown hK hP 0 rfl rfl 15 (by decide) f116 (fun _ h9 => h9) rfl dX5_addPiece_54 ?_
    refine lv_icmp_eq (tgt := 82) hx hb dX5_addPiece_57 (by decide) (fun cq => ?_) (fun cq => ?_)
    · have h := h.1 cq
      exact L82 v4 rQ rFi rLa rOn _ _ _ h hP hD hS (lv_sub hl [0, 1, 2, 3, 4] rfl)
    · have h := h.2 cq
      refine lv_aload_n hx hb dX5_addPiece_60 rfl (lv_at hl 0 rfl) ?_
      refine va_get (D := D) (ci := 5) (v := .ref (aR 12)) (C := RX5) (T := TX5) (N := 27) hx hb hts hiX5 hown hK hP 0 rfl rfl 16 (by decide) f43 (fun _ h9 => h9) rfl dX5_addPiece_61 ?_
      refine lv_iload hx hb dX5_addPiece_64 (lv_at hl 4 rfl) ?_
      obtain ⟨hin, h⟩ := h
      refine va_iald hx hb hK hP 12 0 rfl rfl hin dX5_addPiece_66 ?_
      refine lv_iload_n hx hb dX5_addPiece_67 rfl (lv_at hl 1 rfl) ?_
      refine lv_icmp_ne (tgt := 82) hx hb dX5_addPiece_68 (by decide) (fun cq => ?_) (fun cq => ?_)
      · have h := h.1 cq
        exact L82 v4 rQ rFi rLa rOn _ _ _ h hP hD hS (lv_sub hl [0, 1, 2, 3, 4] rfl)
      · have h := h.2 cq
        refine lv_aload_n hx hb dX5_addPiece_71 rfl (lv_at hl 0 rfl) ?_
        refine va_get (D := D) (ci := 5) (v := .ref (aR 13)) (C := RX5) (T := TX5) (N := 27) hx hb hts hiX5 hown hK hP 0 rfl rfl 17 (by decide) f46 (fun _ h9 => h9) rfl dX5_addPiece_72 ?_
        refine lv_iload hx hb dX5_addPiece_75 (lv_at hl 4 rfl) ?_
        obtain ⟨hin, h⟩ := h
        refine va_iald hx hb hK hP 13 0 rfl rfl hin dX5_addPiece_77 ?_
        refine lv_iload_n hx hb dX5_addPiece_78 rfl (lv_at hl 2 rfl) ?_
        refine lv_icmp_eq (tgt := 223) hx hb dX5_addPiece_79 (by decide) (fun cq => ?_) (fun cq => ?_)
        · have h := h.1 cq
          exact L223 v4 rQ rFi rLa rOn _ _ _ h hP hD hS (lv_sub hl [0, 3, 4] rfl)
        · have h := h.2 cq
          exact L82 v4 rQ rFi rLa rOn _ _ _ h hP hD hS (lv_sub hl [0, 1, 2, 3, 4] rfl)
  have L3 : ∀ (n3 : Nat) (v4 : Int32) (rQ : Int32) (rFi : Nat → Int32) (rLa : Nat → Int32) (rOn : Nat → Int32) (H : Heap) (locs : List Loc) (ls : Array Slot), wp_X5_addPiece_L3 p0 p1 p2 Q (fun v4 rQ rFi rLa rOn => (wp_X5_addPiece_L51 p0 p1 p2 Q  v4 rQ rFi rLa rOn)) n3 v4 rQ rFi rLa rOn → va_P D vwCl (wR k aR rF rS rVx rVy rMd rE rAx rAy rBx rBy rO rP rPx rPy rPd rQ rFi rLa rOn rLe rRi rHx rHy rHd rKx rKy rKd) H → va_D A (wR k aR rF rS rVx rVy rMd rE rAx rAy rBx rBy rO rP rPx rPy rPd rQ rFi rLa rOn rLe rRi rHx rHy rHd rKx rKy rKd) → va_S A s.heap H locs → lv_has ls 6 [(0, .ref (aR 0)), (1, .int p0), (2, .int p1), (3, .int p2), (4, .int v4)] → W p l e (headSpec wsX5_addPiece ({ frames := 0, cells := 0, slots := 0, locals := 0 })).room s m args below meth c H locs 0 0 GQ (F0 m 3 ls []) := by
    intro n3
    induction n3 with
    | zero => intro v4 rQ rFi rLa rOn H locs ls h hP hD hS hl; exact False.elim h
    | succ n3 ih3 =>
      have L45 : ∀ (v4 : Int32) (rQ : Int32) (rFi : Nat → Int32) (rLa : Nat → Int32) (rOn : Nat → Int32) (H : Heap) (locs : List Loc) (ls : Array Slot), wp_X5_addPiece_L45 p0 p1 p2 Q (wp_X5_addPiece_L3 p0 p1 p2 Q (fun v4 rQ rFi rLa rOn => (wp_X5_addPiece_L51 p0 p1 p2 Q  v4 rQ rFi rLa rOn)) n3) v4 rQ rFi rLa rOn → va_P D vwCl (wR k aR rF rS rVx rVy rMd rE rAx rAy rBx rBy rO rP rPx rPy rPd rQ rFi rLa rOn rLe rRi rHx rHy rHd rKx rKy rKd) H → va_D A (wR k aR rF rS rVx rVy rMd rE rAx rAy rBx rBy rO rP rPx rPy rPd rQ rFi rLa rOn rLe rRi rHx rHy rHd rKx rKy rKd) → va_S A s.heap H locs → lv_has ls 6 [(0, .ref (aR 0)), (1, .int p0), (2, .int p1), (3, .int p2), (4, .int v4)] → W p l e (headSpec wsX5_addPiece ({ frames := 0, cells := 0, slots := 0, locals := 0 })).room s m args below meth c H locs 0 0 GQ (F0 m 45 ls []) := by
        intro v4 rQ rFi rLa rOn H locs ls h hP hD hS hl
        unfold wp_X5_addPiece_L45 at h
        refine lv_iinc (v := (v4 + 1)) (lv' := [(4, .int (v4 + 1)), (0, .ref (aR 0)), (1, .int p0), (2, .int p1), (3, .int p2)]) hx hb dX5_addPiece_45 hl (k := 4) rfl rfl (by decide) rfl (fun ls hl => ?_)
        refine lv_goto (tgt := 3) hx hb dX5_addPiece_48 (by decide) ?_
        exact ih3 (v4 + 1) rQ rFi rLa rOn _ _ _ h hP hD hS (lv_sub hl [1, 2, 3, 4, 0] rfl)
      intro v4 rQ rFi rLa rOn H locs ls h hP hD hS hl
      rw [wp_X5_addPiece_L3] at h
      refine lv_iload hx hb dX5_addPiece_3 (lv_at hl 4 rfl) ?_
      refine lv_aload_n hx hb dX5_addPiece_5 rfl (lv_at hl 0 rfl) ?_
      refine va_get (D := D) (ci := 5) (v := .int rQ) (C := RX5) (T := TX5) (N := 27) hx hb hts hiX5 hown hK hP 0 rfl rfl 15 (by decide) f116 (fun _ h9 => h9) rfl dX5_addPiece_6 ?_
      refine lv_icmp_ge (tgt := 51) hx hb dX5_addPiece_9 (by decide) (fun cq => ?_) (fun cq => ?_)
      · have h := h.1 cq
        exact L51 v4 rQ rFi rLa rOn _ _ _ h hP hD hS (lv_sub hl [0, 1, 2, 3, 4] rfl)
      · have h := h.2 cq
        refine lv_aload_n hx hb dX5_addPiece_12 rfl (lv_at hl 0 rfl) ?_
        refine va_get (D := D) (ci := 5) (v := .ref (aR 12)) (C := RX5) (T := TX5) (N := 27) hx hb hts hiX5 hown hK hP 0 rfl rfl 16 (by decide) f43 (fun _ h9 => h9) rfl dX5_addPiece_13 ?_
        refine lv_iload hx hb dX5_addPiece_16 (lv_at hl 4 rfl) ?_
        obtain ⟨hin, h⟩ := h
        refine va_iald hx hb hK hP 12 0 rfl rfl hin dX5_addPiece_18 ?_
        refine lv_iload_n hx hb dX5_addPiece_19 rfl (lv_at hl 1 rfl) ?_
        refine lv_icmp_lt (tgt := 45) hx hb dX5_addPiece_20 (by decide) (fun cq => ?_) (fun cq => ?_)
        · have h := h.1 cq
          exact L45 v4 rQ rFi rLa rOn _ _ _ h hP hD hS (lv_sub hl [0, 1, 2, 3, 4] rfl)
        · have h := h.2 cq
          refine lv_aload_n hx hb dX5_addPiece_23 rfl (lv_at hl 0 rfl) ?_
          refine va_get (D := D) (ci := 5) (v := .ref (aR 12)) (C := RX5) (T := TX5) (N := 27) hx hb hts hiX5 hown hK hP 0 rfl rfl 16 (by decide) f43 (fun _ h9 => h9) rfl dX5_addPiece_24 ?_
          refine lv_iload hx hb dX5_addPiece_27 (lv_at hl 4 rfl) ?_
          obtain ⟨hin, h⟩ := h
          refine va_iald hx hb hK hP 12 0 rfl rfl hin dX5_addPiece_29 ?_
          refine lv_iload_n hx hb dX5_addPiece_30 rfl (lv_at hl 1 rfl) ?_
          refine lv_icmp_ne (tgt := 51) hx hb dX5_addPiece_31 (by decide) (fun cq => ?_) (fun cq => ?_)
          · have h := h.1 cq
            exact L51 v4 rQ rFi rLa rOn _ _ _ h hP hD hS (lv_sub hl [0, 1, 2, 3, 4] rfl)
          · have h := h.2 cq
            refine lv_aload_n hx hb dX5_addPiece_34 rfl (lv_at hl 0 rfl) ?_
            refine va_get (D := D) (ci := 5) (v := .ref (aR 13)) (C := RX5) (T := TX5) (N := 27) hx hb hts hiX5 hown hK hP 0 rfl rfl 17 (by decide) f46 (fun _ h9 => h9) rfl dX5_addPiece_35 ?_
            refine lv_iload hx hb dX5_addPiece_38 (lv_at hl 4 rfl) ?_
            obtain ⟨hin, h⟩ := h
            refine va_iald hx hb hK hP 13 0 rfl rfl hin dX5_addPiece_40 ?_
            refine lv_iload_n hx hb dX5_addPiece_41 rfl (lv_at hl 2 rfl) ?_
            refine lv_icmp_ge (tgt := 51) hx hb dX5_addPiece_42 (by decide) (fun cq => ?_) (fun cq => ?_)
            · have h := h.1 cq
              exact L51 v4 rQ rFi rLa rOn _ _ _ h hP hD hS (lv_sub hl [0, 1, 2, 3, 4] rfl)
            · have h := h.2 cq
              exact L45 v4 rQ rFi rLa rOn _ _ _ h hP hD hS (lv_sub hl [0, 1, 2, 3, 4] rfl)
  unfold wp_X5_addPiece at h
  refine lv_iconst (v := (0 : Int32)) hx hb dX5_addPiece_0 (by decide) ?_
  refine lv_istore (lv' := [(4, .int (0 : Int32)), (0, .ref (aR 0)), (1, .int p0), (2, .int p1), (3, .int p2)]) hx hb dX5_addPiece_1 hl (by decide) rfl (fun ls hl => ?_)
  obtain ⟨n9, h⟩ := h
  exact L3 n9 (0 : Int32) rQ rFi rLa rOn _ _ _ h hP hD hS (lv_sub hl [1, 2, 3, 4, 0] rfl)
set_option maxHeartbeats 4000000 in
set_option maxRecDepth 100000 in
theorem m_X5_cut (l : Launch) (D : va_G) (k : Nat → ClassId) (aR : Nat → Nat) (rF : Int32) (rS : Nat → Int32) (rVx : Nat → Int32) (rVy : Nat → Int32) (rMd : Int32) (rE : Int32) (rAx : Nat → Int32) (rAy : Nat → Int32) (rBx : Nat → Int32) (rBy : Nat → Int32) (rO : Nat → Int32) (rP : Int32) (rPx : Nat → Int32) (rPy : Nat → Int32) (rPd : Nat → Int32) (rQ : Int32) (rFi : Nat → Int32) (rLa : Nat → Int32) (rOn : Nat → Int32) (rLe : Nat → Int32) (rRi : Nat → Int32) (rHx : Int64) (rHy : Int64) (rHd : Int64) (rKx : Int64) (rKy : Int64) (rKd : Int64) (p0 : Int32) (Q : (Int32) → (Nat → Int32) → (Nat → Int32) → (Nat → Int32) → Prop) (sz : Nat) (h : wp_X5_cut p0 rAx rAy rBx rBy rO rP rPx rPy rPd rQ rFi rLa rOn Q) : Met l yX5_cut wsX5_cut ({ frames := 2, cells := 0, slots := 0, locals := 62 }) (Prw D k [.ref (aR 0), .int p0] (wR k aR rF rS rVx rVy rMd rE rAx rAy rBx rBy rO rP rPx rPy rPd rQ rFi rLa rOn rLe rRi rHx rHy rHd rKx rKy rKd) sz) (va_Qv (fun (u : (Int32) × (Nat → Int32) × (Nat → Int32) × (Nat → Int32)) => Q u.1 u.2.1 u.2.2.1 u.2.2.2) (fun (u : (Int32) × (Nat → Int32) × (Nat → Int32) × (Nat → Int32)) t => va_P D vwCl (wR k aR rF rS rVx rVy rMd rE rAx rAy rBx rBy rO rP rPx rPy rPd (u.1) (u.2.1) (u.2.2.1) (u.2.2.2) rLe rRi rHx rHy rHd rKx rKy rKd) t.heap ∧ va_D (va_A (wR k aR rF rS rVx rVy rMd rE rAx rAy rBx rBy rO rP rPx rPy rPd rQ rFi rLa rOn rLe rRi rHx rHy rHd rKx rKy rKd) sz) (wR k aR rF rS rVx rVy rMd rE rAx rAy rBx rBy rO rP rPx rPy rPd (u.1) (u.2.1) (u.2.2.1) (u.2.2.2) rLe rRi rHx rHy rHd rKx rKy rKd)) (va_A (wR k aR rF rS rVx rVy rMd rE rAx rAy rBx rBy rO rP rPx rPy rPd rQ rFi rLa rOn rLe rRi rHx rHy rHd rKx rKy rKd) sz)) 0 0 (va_A (wR k aR rF rS rVx rVy rMd rE rAx rAy rBx rBy rO rP rPx rPy rPd rQ rFi rLa rOn rLe rRi rHx rHy rHd rKx rKy rKd) sz) := by
  refine Met.ofW (cc := cX5_cut) (maxL := 4) (ret := none) (by decide) rfl ?_
  intro p e s m args below meth c s₁ B hml hv
  obtain ⟨hav, hsz, hP, hE, hD0⟩ := hv
  subst hsz
  have hx := B.exec
  have hb := B.bytes
  have hr := B.returns
  have hts := atoms_spec (ws := wsX5_cut) B.pre
  have hown : s.vm.findClass RX5 = some m.cls := findClass_of_methodNamed B.named
  have hlocks := B.notSynchronized
  have hK := hE.1
  have hD := hD0.self (sz := s.heap.size)
  generalize hAe : va_A (wR k aR rF rS rVx rVy rMd rE rAx rAy rBx rBy rO rP rPx rPy rPd rQ rFi rLa rOn rLe rRi rHx rHy rHd rKx rKy rKd) s.heap.size = A at hD ⊢
  have hA : ∀ q : Nat, s.heap.size ≤ q → A q := fun q h => by rw [← hAe]; exact Or.inr h
  have hS : va_S A s.heap s.heap [] := va_S.rf
  have hl := lv_entry ([.ref (aR 0), .int p0]) (n := 4) (Nat.le_of_ble_eq_true rfl)
  rw [show entryFrame m args 4 = entryFrame m ([.ref (aR 0), .int p0] : List Value).toArray 4 by rw [hav]]
  rw [lg_entry_eq]
  refine W.gq (fun GQ hGQ => ?_)
  generalize (lg_sl ([.ref (aR 0), .int p0]) ++ List.replicate (4 - (lg_sl ([.ref (aR 0), .int p0])).length) Slot.unset).toArray = ls at hl ⊢
  have hl : lv_has ls 4 [(0, .ref (aR 0)), (1, .int p0)] := hl
  have hiX5 := (by decide +kernel : ∀ w ∈ wsX50, w ∈ wsX5_cut)
  have f67 := hts (.fieldLink RX5 67 "PlaneOverlayModel" "points" "I") (by decide +kernel)
  have f34 := hts (.fieldLink RX5 34 "PlaneOverlayModel" "px" "[I") (by decide +kernel)
  have f37 := hts (.fieldLink RX5 37 "PlaneOverlayModel" "py" "[I") (by decide +kernel)
  have f40 := hts (.fieldLink RX5 40 "PlaneOverlayModel" "pd" "[I") (by decide +kernel)
  have f31 := hts (.fieldLink RX5 31 "PlaneOverlayModel" "owner" "[I") (by decide +kernel)
  have L4 : ∀ (n4 : Nat) (v2 : Int32) (v3 : Int32) (rQ : Int32) (rFi : Nat → Int32) (rLa : Nat → Int32) (rOn : Nat → Int32) (H : Heap) (locs : List Loc) (ls : Array Slot), wp_X5_cut_L4 p0 rAx rAy rBx rBy rO rP rPx rPy rPd Q  n4 v2 v3 rQ rFi rLa rOn → va_P D vwCl (wR k aR rF rS rVx rVy rMd rE rAx rAy rBx rBy rO rP rPx rPy rPd rQ rFi rLa rOn rLe rRi rHx rHy rHd rKx rKy rKd) H → va_D A (wR k aR rF rS rVx rVy rMd rE rAx rAy rBx rBy rO rP rPx rPy rPd rQ rFi rLa rOn rLe rRi rHx rHy rHd rKx rKy rKd) → va_S A s.heap H locs → lv_has ls 4 [(0, .ref (aR 0)), (1, .int p0), (2, .int v2), (3, .int v3)] → W p l e (headSpec wsX5_cut ({ frames := 2, cells := 0, slots := 0, locals := 62 })).room s m args below meth c H locs 0 0 GQ (F0 m 4 ls []) := by
    intro n4
    induction n4 with
    | zero => intro v2 v3 rQ rFi rLa rOn H locs ls h hP hD hS hl; exact False.elim h
    | succ n4 ih4 =>
      have L59 : ∀ (v2 : Int32) (v3 : Int32) (rQ : Int32) (rFi : Nat → Int32) (rLa : Nat → Int32) (rOn : Nat → Int32) (H : Heap) (locs : List Loc) (ls : Array Slot), wp_X5_cut_L59 p0 rAx rAy rBx rBy rO rP rPx rPy rPd Q (wp_X5_cut_L4 p0 rAx rAy rBx rBy rO rP rPx rPy rPd Q  n4) v2 v3 rQ rFi rLa rOn → va_P D vwCl (wR k aR rF rS rVx rVy rMd rE rAx rAy rBx rBy rO rP rPx rPy rPd rQ rFi rLa rOn rLe rRi rHx rHy rHd rKx rKy rKd) H → va_D A (wR k aR rF rS rVx rVy rMd rE rAx rAy rBx rBy rO rP rPx rPy rPd rQ rFi rLa rOn rLe rRi rHx rHy rHd rKx rKy rKd) → va_S A s.heap H locs → lv_has ls 4 [(0, .ref (aR 0)), (1, .int p0), (2, .int v2), (3, .int v3)] → W p l e (headSpec wsX5_cut ({ frames := 2, cells := 0, slots := 0, locals := 62 })).room s m args below meth c H locs 0 0 GQ (F0 m 59 ls []) := by
        intro v2 v3 rQ rFi rLa rOn H locs ls h hP hD hS hl
        unfold wp_X5_cut_L59 at h
        refine lv_iinc (v := (v3 + 1)) (lv' := [(3, .int (v3 + 1)), (0, .ref (aR 0)), (1, .int p0), (2, .int v2)]) hx hb dX5_cut_59 hl (k := 3) rfl rfl (by decide) rfl (fun ls hl => ?_)
        refine lv_goto (tgt := 4) hx hb dX5_cut_62 (by decide) ?_
        exact ih4 v2 (v3 + 1) rQ rFi rLa rOn _ _ _ h hP hD hS (lv_sub hl [1, 2, 3, 0] rfl)
      have L57 : ∀ (v3 : Int32) (rQ : Int32) (rFi : Nat → Int32) (rLa : Nat → Int32) (rOn : Nat → Int32) (H : Heap) (locs : List Loc) (ls : Array Slot), wp_X5_cut_L57 p0 rAx rAy rBx rBy rO rP rPx rPy rPd Q (wp_X5_cut_L4 p0 rAx rAy rBx rBy rO rP rPx rPy rPd Q  n4) v3 rQ rFi rLa rOn → va_P D vwCl (wR k aR rF rS rVx rVy rMd rE rAx rAy rBx rBy rO rP rPx rPy rPd rQ rFi rLa rOn rLe rRi rHx rHy rHd rKx rKy rKd) H → va_D A (wR k aR rF rS rVx rVy rMd rE rAx rAy rBx rBy rO rP rPx rPy rPd rQ rFi rLa rOn rLe rRi rHx rHy rHd rKx rKy rKd) → va_S A s.heap H locs → lv_has ls 4 [(0, .ref (aR 0)), (1, .int p0), (3, .int v3)] → W p l e (headSpec wsX5_cut ({ frames := 2, cells := 0, slots := 0, locals := 62 })).room s m args below meth c H locs 0 0 GQ (F0 m 57 ls []) := by
        intro v3 rQ rFi rLa rOn H locs ls h hP hD hS hl
        unfold wp_X5_cut_L57 at h
        refine lv_iload_n hx hb dX5_cut_57 rfl (lv_at hl 2 rfl) ?_
        refine lv_istore_n (lv' := [(2, .int v3), (0, .ref (aR 0)), (1, .int p0), (3, .int v3)]) hx hb dX5_cut_58 rfl hl (by decide) rfl (fun ls hl => ?_)
        exact L59 v3 v3 rQ rFi rLa rOn _ _ _ h hP hD hS (lv_sub hl [1, 2, 0, 3] rfl)
      intro v2 v3 rQ rFi rLa rOn H locs ls h hP hD hS hl
      rw [wp_X5_cut_L4] at h
      refine lv_iload_n hx hb dX5_cut_4 rfl (lv_at hl 3 rfl) ?_
      refine lv_aload_n hx hb dX5_cut_5 rfl (lv_at hl 0 rfl) ?_
      refine va_get (D := D) (ci := 5) (v := .int rP) (C := RX5) (T := TX5) (N := 27) hx hb hts hiX5 hown hK hP 0 rfl rfl 11 (by decide) f67 (fun _ h9 => h9) rfl dX5_cut_6 ?_
      refine lv_icmp_ge (tgt := 65) hx hb dX5_cut_9 (by decide) (fun cq => ?_) (fun cq => ?_)
      · have h := h.1 cq
        rw [hGQ]
        exact W.vret hx hb hr (fun t ht hW => ⟨⟨(rQ, rFi, rLa, rOn), rfl, h, by rw [ht]; exact hP, hD⟩, hS.F ht⟩) hS.2.2 dX5_cut_65
      · have h := h.2 cq
        refine lv_aload_n hx hb dX5_cut_12 rfl (lv_at hl 0 rfl) ?_
        refine lv_iload_n hx hb dX5_cut_13 rfl (lv_at hl 1 rfl) ?_
        refine lv_aload_n hx hb dX5_cut_14 rfl (lv_at hl 0 rfl) ?_
        refine va_get (D := D) (ci := 5) (v := .ref (aR 9)) (C := RX5) (T := TX5) (N := 27) hx hb hts hiX5 hown hK hP 0 rfl rfl 12 (by decide) f34 (fun _ h9 => h9) rfl dX5_cut_15 ?_
        refine lv_iload_n hx hb dX5_cut_18 rfl (lv_at hl 3 rfl) ?_
        obtain ⟨hin, h⟩ := h
        refine va_iald hx hb hK hP 9 0 rfl rfl hin dX5_cut_19 ?_
        refine lv_i2l hx hb dX5_cut_20 rfl ?_
        refine lv_aload_n hx hb dX5_cut_21 rfl (lv_at hl 0 rfl) ?_
        refine va_get (D := D) (ci := 5) (v := .ref (aR 10)) (C := RX5) (T := TX5) (N := 27) hx hb hts hiX5 hown hK hP 0 rfl rfl 13 (by decide) f37 (fun _ h9 => h9) rfl dX5_cut_22 ?_
        refine lv_iload_n hx hb dX5_cut_25 rfl (lv_at hl 3 rfl) ?_
        obtain ⟨hin, h⟩ := h
        refine va_iald hx hb hK hP 10 0 rfl rfl hin dX5_cut_26 ?_
        refine lv_i2l hx hb dX5_cut_27 rfl ?_
        refine lv_aload_n hx hb dX5_cut_28 rfl (lv_at hl 0 rfl) ?_
        refine va_get (D := D) (ci := 5) (v := .ref (aR 11)) (C := RX5) (T := TX5) (N := 27) hx hb hts hiX5 hown hK hP 0 rfl rfl 14 (by decide) f40 (fun _ h9 => h9) rfl dX5_cut_29 ?_
        refine lv_iload_n hx hb dX5_cut_32 rfl (lv_at hl 3 rfl) ?_
        obtain ⟨hin, h⟩ := h
        refine va_iald hx hb hK hP 11 0 rfl rfl hin dX5_cut_33 ?_
        refine lv_i2l hx hb dX5_cut_34 rfl ?_
        refine vp_callSi (W.runV (C := RX5) (b := (aR 0)) (As := [.int p0, .long ((rPx v3.toNatClampNeg).toInt64), .long ((rPy v3.toNatClampNeg).toInt64), .long ((rPd v3.toNatClampNeg).toInt64)]) (rest := []) ⟨hx, hb, hml, hown, hts⟩ (m_X5_onEdge l D k aR rF rS rVx rVy rMd rE rAx rAy rBx rBy rO rP rPx rPy rPd rQ rFi rLa rOn rLe rRi rHx rHy rHd rKx rKy rKd p0 ((rPx v3.toNatClampNeg).toInt64) ((rPy v3.toNatClampNeg).toInt64) ((rPd v3.toNatClampNeg).toInt64) _ h) (cwV 4 hts gX5_cut_X5_onEdge rfl rfl rfl (by decide +kernel) ⟨Nat.le_of_ble_eq_true rfl, Nat.le_of_ble_eq_true rfl⟩) (preV_ro (ci := 5) (q0 := 0) (C := RX5) (T := TX5) (N := 27) hE hP rfl rfl) rfl rfl hl.1 rfl (lv_room (Nat.le_of_ble_eq_true rfl)) dX5_cut_35 ⟨Nat.le_of_ble_eq_true rfl, Nat.le_of_ble_eq_true rfl⟩) (fun r35 h => ?_)
        refine lv_if_eq (tgt := 59) hx hb dX5_cut_38 (by decide) (fun cq => ?_) (fun cq => ?_)
        · have h := h.1 cq
          exact L59 v2 v3 rQ rFi rLa rOn _ _ _ h hP hD hS (lv_sub hl [0, 1, 2, 3] rfl)
        · have h := h.2 cq
          refine lv_iload_n hx hb dX5_cut_41 rfl (lv_at hl 2 rfl) ?_
          refine lv_if_lt (tgt := 57) hx hb dX5_cut_42 (by decide) (fun cq => ?_) (fun cq => ?_)
          · have h := h.1 cq
            exact L57 v3 rQ rFi rLa rOn _ _ _ h hP hD hS (lv_sub hl [0, 1, 3] rfl)
          · have h := h.2 cq
            refine lv_aload_n hx hb dX5_cut_45 rfl (lv_at hl 0 rfl) ?_
            refine lv_iload_n hx hb dX5_cut_46 rfl (lv_at hl 2 rfl) ?_
            refine lv_iload_n hx hb dX5_cut_47 rfl (lv_at hl 3 rfl) ?_
            refine lv_aload_n hx hb dX5_cut_48 rfl (lv_at hl 0 rfl) ?_
            refine va_get (D := D) (ci := 5) (v := .ref (aR 8)) (C := RX5) (T := TX5) (N := 27) hx hb hts hiX5 hown hK hP 0 rfl rfl 10 (by decide) f31 (fun _ h9 => h9) rfl dX5_cut_49 ?_
            refine lv_iload_n hx hb dX5_cut_52 rfl (lv_at hl 1 rfl) ?_
            obtain ⟨hin, h⟩ := h
            refine va_iald hx hb hK hP 8 0 rfl rfl hin dX5_cut_53 ?_
            have hFc := va_free (wc := wR k aR rF rS rVx rVy rMd rE rAx rAy rBx rBy rO rP rPx rPy rPd rQ rFi rLa rOn rLe rRi rHx rHy rHd rKx rKy rKd) hD hS hA [0, 1, 2, 3, 4, 5, 6, 7, 8, 9, 10, 11, 12, 13, 14, 15, 16] rfl
            refine va_callv (va_runV (C := RX5) (b := (aR 0)) (As := [.int v2, .int v3, .int (rO p0.toNatClampNeg)]) (rest := []) ⟨hx, hb, hml, hown, hts⟩ (m_X5_addPiece l D k aR rF rS rVx rVy rMd rE rAx rAy rBx rBy rO rP rPx rPy rPd rQ rFi rLa rOn rLe rRi rHx rHy rHd rKx rKy rKd v2 v3 (rO p0.toNatClampNeg) _ _ h) (cwV 3 hts gX5_cut_X5_addPiece rfl rfl rfl (by decide +kernel) ⟨Nat.le_of_ble_eq_true rfl, Nat.le_of_ble_eq_true rfl⟩) (preV_rw (ci := 5) (q0 := 0) (C := RX5) (T := TX5) (N := 27) hE hP hD rfl rfl) rfl rfl hl.1 rfl (lv_room (Nat.le_of_ble_eq_true rfl)) dX5_cut_54 ⟨Nat.le_of_ble_eq_true rfl, Nat.le_of_ble_eq_true rfl⟩) hS (fun q _ h => hFc q h) hFc (fun u t H1 locs ht hvm h hB hz1 hk1 hS => ?_)
            obtain ⟨rQ_54, rFi_54, rLa_54, rOn_54⟩ := u
            obtain ⟨hP1, hD1⟩ := hB
            rw [ht] at hP1
            obtain ⟨hP, hD⟩ := va_join (wr := ([] : va_W)) (w1 := wR k aR rF rS rVx rVy rMd rE rAx rAy rBx rBy rO rP rPx rPy rPd rQ_54 rFi_54 rLa_54 rOn_54 rLe rRi rHx rHy rHd rKx rKy rKd) hP hD [0, 1, 2, 3, 4, 5, 6, 7, 8, 9, 10, 11, 12, 13, 14, 15, 16] [] rfl rfl (by decide) (by decide) hk1 hFc hP1 hD1
            generalize H1 = H at hP hS ⊢
            have hP : va_P D vwCl (wR k aR rF rS rVx rVy rMd rE rAx rAy rBx rBy rO rP rPx rPy rPd rQ_54 rFi_54 rLa_54 rOn_54 rLe rRi rHx rHy rHd rKx rKy rKd) H := hP.sub [0, 1, 2, 3, 4, 5, 6, 7, 8, 9, 10, 11, 12, 13, 14, 15, 16] rfl
            have hD : va_D A (wR k aR rF rS rVx rVy rMd rE rAx rAy rBx rBy rO rP rPx rPy rPd rQ_54 rFi_54 rLa_54 rOn_54 rLe rRi rHx rHy rHd rKx rKy rKd) := hD.sub [0, 1, 2, 3, 4, 5, 6, 7, 8, 9, 10, 11, 12, 13, 14, 15, 16] (by decide) rfl
            exact L57 v3 rQ_54 rFi_54 rLa_54 rOn_54 _ _ _ h hP hD hS (lv_sub hl [0, 1, 3] rfl)
  unfold wp_X5_cut at h
  refine lv_iconst (v := (-1 : Int32)) hx hb dX5_cut_0 (by decide) ?_
  refine lv_istore_n (lv' := [(2, .int (-1 : Int32)), (0, .ref (aR 0)), (1, .int p0)]) hx hb dX5_cut_1 rfl hl (by decide) rfl (fun ls hl => ?_)
  refine lv_iconst (v := (0 : Int32)) hx hb dX5_cut_2 (by decide) ?_
  refine lv_istore_n (lv' := [(3, .int (0 : Int32)), (2, .int (-1 : Int32)), (0, .ref (aR 0)), (1, .int p0)]) hx hb dX5_cut_3 rfl hl (by decide) rfl (fun ls hl => ?_)
  obtain ⟨n9, h⟩ := h
  exact L4 n9 (-1 : Int32) (0 : Int32) rQ rFi rLa rOn _ _ _ h hP hD hS (lv_sub hl [2, 3, 1, 0] rfl)
set_option maxHeartbeats 4000000 in
set_option maxRecDepth 100000 in
theorem m_X5_above (l : Launch) (D : va_G) (k : Nat → ClassId) (aR : Nat → Nat) (rF : Int32) (rS : Nat → Int32) (rVx : Nat → Int32) (rVy : Nat → Int32) (rMd : Int32) (rE : Int32) (rAx : Nat → Int32) (rAy : Nat → Int32) (rBx : Nat → Int32) (rBy : Nat → Int32) (rO : Nat → Int32) (rP : Int32) (rPx : Nat → Int32) (rPy : Nat → Int32) (rPd : Nat → Int32) (rQ : Int32) (rFi : Nat → Int32) (rLa : Nat → Int32) (rOn : Nat → Int32) (rLe : Nat → Int32) (rRi : Nat → Int32) (rHx : Int64) (rHy : Int64) (rHd : Int64) (rKx : Int64) (rKy : Int64) (rKd : Int64) (p0 : Int32) (p1 : Int64) (p2 : Int64) (p3 : Int64) (Q : Int32 → Prop) (h : wp_X5_above p0 p1 p2 p3 rE rAx rAy rBx rBy rO Q) : Met l yX5_above wsX5_above ({ frames := 1, cells := 0, slots := 0, locals := 27 }) (Pro D k [.ref (aR 0), .int p0, .long p1, .long p2, .long p3] (wR k aR rF rS rVx rVy rMd rE rAx rAy rBx rBy rO rP rPx rPy rPd rQ rFi rLa rOn rLe rRi rHx rHy rHd rKx rKy rKd)) (vp_Si Q) 0 0 (fun _ => False) := by
  refine Met.ofW (cc := cX5_above) (maxL := 11) (ret := (some .int)) (by decide) rfl ?_
  intro p e s m args below meth c s₁ B hml hv
  obtain ⟨hav, hP, hE⟩ := hv
  have hx := B.exec
  have hb := B.bytes
  have hr := B.returns
  have hts := atoms_spec (ws := wsX5_above) B.pre
  have hown : s.vm.findClass RX5 = some m.cls := findClass_of_methodNamed B.named
  have hlocks := B.notSynchronized
  have hK := hE.1
  have hl := lv_entry ([.ref (aR 0), .int p0, .long p1, .long p2, .long p3]) (n := 11) (Nat.le_of_ble_eq_true rfl)
  rw [show entryFrame m args 11 = entryFrame m ([.ref (aR 0), .int p0, .long p1, .long p2, .long p3] : List Value).toArray 11 by rw [hav]]
  rw [lg_entry_eq]
  refine W.gq (fun GQ hGQ => ?_)
  generalize (lg_sl ([.ref (aR 0), .int p0, .long p1, .long p2, .long p3]) ++ List.replicate (11 - (lg_sl ([.ref (aR 0), .int p0, .long p1, .long p2, .long p3])).length) Slot.unset).toArray = ls at hl ⊢
  have hl : lv_has ls 11 [(0, .ref (aR 0)), (1, .int p0), (2, .long p1), (4, .long p2), (6, .long p3)] := hl
  have hiX5 := (by decide +kernel : ∀ w ∈ wsX50, w ∈ wsX5_above)
  have f92 := hts (.fieldLink RX5 92 "PlaneOverlayModel" "edges" "I") (by decide +kernel)
  have f31 := hts (.fieldLink RX5 31 "PlaneOverlayModel" "owner" "[I") (by decide +kernel)
  have f19 := hts (.fieldLink RX5 19 "PlaneOverlayModel" "ax" "[I") (by decide +kernel)
  have f25 := hts (.fieldLink RX5 25 "PlaneOverlayModel" "bx" "[I") (by decide +kernel)
  have L6 : ∀ (n6 : Nat) (v8 : Int32) (v9 : Int32) (ls : Array Slot), wp_X5_above_L6 p0 p1 p2 p3 rE rAx rAy rBx rBy rO Q  n6 v8 v9 → lv_has ls 11 [(0, .ref (aR 0)), (1, .int p0), (2, .long p1), (4, .long p2), (6, .long p3), (8, .int v8), (9, .int v9)] → W p l e (headSpec wsX5_above ({ frames := 1, cells := 0, slots := 0, locals := 27 })).room s m args below meth c s.heap [] 0 0 GQ (F0 m 6 ls []) := by
    intro n6
    induction n6 with
    | zero => intro v8 v9 ls h hl; exact False.elim h
    | succ n6 ih6 =>
      have L93 : ∀ (v9 : Int32) (z0 : Int32) (z1 : Int32) (ls : Array Slot), wp_X5_above_L93 p0 p1 p2 p3 rE rAx rAy rBx rBy rO Q (wp_X5_above_L6 p0 p1 p2 p3 rE rAx rAy rBx rBy rO Q  n6) v9 z0 z1 → lv_has ls 11 [(0, .ref (aR 0)), (1, .int p0), (2, .long p1), (4, .long p2), (6, .long p3), (9, .int v9)] → W p l e (headSpec wsX5_above ({ frames := 1, cells := 0, slots := 0, locals := 27 })).room s m args below meth c s.heap [] 0 0 GQ (F0 m 93 ls [.int z0, .int z1]) := by
        intro v9 z0 z1 ls h hl
        unfold wp_X5_above_L93 at h
        refine lv_iadd hx hb dX5_above_93 ?_
        refine lv_topi (fun x94 ex94 => ?_)
        have h := h x94 ex94
        refine lv_istore (lv' := [(8, .int x94), (0, .ref (aR 0)), (1, .int p0), (2, .long p1), (4, .long p2), (6, .long p3), (9, .int v9)]) hx hb dX5_above_94 hl (by decide) rfl (fun ls hl => ?_)
        refine lv_iinc (v := (v9 + 1)) (lv' := [(9, .int (v9 + 1)), (8, .int x94), (0, .ref (aR 0)), (1, .int p0), (2, .long p1), (4, .long p2), (6, .long p3)]) hx hb dX5_above_96 hl (k := 6) rfl rfl (by decide) rfl (fun ls hl => ?_)
        refine lv_goto (tgt := 6) hx hb dX5_above_99 (by decide) ?_
        exact ih6 x94 (v9 + 1) _ h (lv_sub hl [2, 3, 4, 5, 6, 1, 0] rfl)
      have L92 : ∀ (v9 : Int32) (z0 : Int32) (ls : Array Slot), wp_X5_above_L92 p0 p1 p2 p3 rE rAx rAy rBx rBy rO Q (wp_X5_above_L6 p0 p1 p2 p3 rE rAx rAy rBx rBy rO Q  n6) v9 z0 → lv_has ls 11 [(0, .ref (aR 0)), (1, .int p0), (2, .long p1), (4, .long p2), (6, .long p3), (9, .int v9)] → W p l e (headSpec wsX5_above ({ frames := 1, cells := 0, slots := 0, locals := 27 })).room s m args below meth c s.heap [] 0 0 GQ (F0 m 92 ls [.int z0]) := by
        intro v9 z0 ls h hl
        unfold wp_X5_above_L92 at h
        refine lv_iconst (v := (0 : Int32)) hx hb dX5_above_92 (by decide) ?_
        exact L93 v9 (0 : Int32) z0 _ h (lv_sub hl [0, 1, 2, 3, 4, 5] rfl)
      have L63 : ∀ (v8 : Int32) (v9 : Int32) (z0 : Int32) (ls : Array Slot), wp_X5_above_L63 p0 p1 p2 p3 rE rAx rAy rBx rBy rO Q (wp_X5_above_L6 p0 p1 p2 p3 rE rAx rAy rBx rBy rO Q  n6) v8 v9 z0 → lv_has ls 11 [(0, .ref (aR 0)), (1, .int p0), (2, .long p1), (4, .long p2), (6, .long p3), (8, .int v8), (9, .int v9)] → W p l e (headSpec wsX5_above ({ frames := 1, cells := 0, slots := 0, locals := 27 })).room s m args below meth c s.heap [] 0 0 GQ (F0 m 63 ls [.int z0]) := by
        intro v8 v9 z0 ls h hl
        unfold wp_X5_above_L63 at h
        refine lv_istore (lv' := [(10, .int z0), (0, .ref (aR 0)), (1, .int p0), (2, .long p1), (4, .long p2), (6, .long p3), (8, .int v8), (9, .int v9)]) hx hb dX5_above_63 hl (by decide) rfl (fun ls hl => ?_)
        refine lv_iload hx hb dX5_above_65 (lv_at hl 6 rfl) ?_
        refine lv_iload hx hb dX5_above_67 (lv_at hl 0 rfl) ?_
        refine lv_if_eq (tgt := 92) hx hb dX5_above_69 (by decide) (fun cq => ?_) (fun cq => ?_)
        · have h := h.1 cq
          exact L92 v9 v8 _ h (lv_sub hl [1, 2, 3, 4, 5, 7] rfl)
        · have h := h.2 cq
          refine lv_aload_n hx hb dX5_above_72 rfl (lv_at hl 1 rfl) ?_
          refine lv_iload hx hb dX5_above_73 (lv_at hl 7 rfl) ?_
          refine lv_lload_n hx hb dX5_above_75 rfl (lv_at hl 3 rfl) ?_
          refine lv_lload hx hb dX5_above_76 (lv_at hl 4 rfl) ?_
          refine lv_lload hx hb dX5_above_78 (lv_at hl 5 rfl) ?_
          refine vp_callSl (W.runV (C := RX5) (b := (aR 0)) (As := [.int v9, .long p1, .long p2, .long p3]) (rest := [.int v8]) ⟨hx, hb, hml, hown, hts⟩ (m_X5_side l D k aR rF rS rVx rVy rMd rE rAx rAy rBx rBy rO rP rPx rPy rPd rQ rFi rLa rOn rLe rRi rHx rHy rHd rKx rKy rKd v9 p1 p2 p3 _ h) (cwV 4 hts gX5_above_X5_side rfl rfl rfl (by decide +kernel) ⟨Nat.le_of_ble_eq_true rfl, Nat.le_of_ble_eq_true rfl⟩) (preV_ro (ci := 5) (q0 := 0) (C := RX5) (T := TX5) (N := 27) hE hP rfl rfl) rfl rfl hl.1 rfl (lv_room (Nat.le_of_ble_eq_true rfl)) dX5_above_80 ⟨Nat.le_of_ble_eq_true rfl, Nat.le_of_ble_eq_true rfl⟩) (fun r80 h => ?_)
          refine lv_lconst (v := (0 : Int64)) hx hb dX5_above_83 (by decide) ?_
          refine W.lcmp hx hb dX5_above_84 ?_
          refine lv_if_ge (tgt := 92) hx hb dX5_above_85 (by decide) (fun cq => ?_) (fun cq => ?_)
          · have h := h.1 ((lg_cmp_ge _ _).mp cq)
            exact L92 v9 v8 _ h (lv_sub hl [1, 2, 3, 4, 5, 7] rfl)
          · have h := h.2 (fun q => cq ((lg_cmp_ge _ _).mpr q))
            refine lv_iconst (v := (1 : Int32)) hx hb dX5_above_88 (by decide) ?_
            refine lv_goto (tgt := 93) hx hb dX5_above_89 (by decide) ?_
            exact L93 v9 (1 : Int32) v8 _ h (lv_sub hl [1, 2, 3, 4, 5, 7] rfl)
      have L62 : ∀ (v8 : Int32) (v9 : Int32) (ls : Array Slot), wp_X5_above_L62 p0 p1 p2 p3 rE rAx rAy rBx rBy rO Q (wp_X5_above_L6 p0 p1 p2 p3 rE rAx rAy rBx rBy rO Q  n6) v8 v9 → lv_has ls 11 [(0, .ref (aR 0)), (1, .int p0), (2, .long p1), (4, .long p2), (6, .long p3), (8, .int v8), (9, .int v9)] → W p l e (headSpec wsX5_above ({ frames := 1, cells := 0, slots := 0, locals := 27 })).room s m args below meth c s.heap [] 0 0 GQ (F0 m 62 ls []) := by
        intro v8 v9 ls h hl
        unfold wp_X5_above_L62 at h
        refine lv_iconst (v := (0 : Int32)) hx hb dX5_above_62 (by decide) ?_
        exact L63 v8 v9 (0 : Int32) _ h (lv_sub hl [0, 1, 2, 3, 4, 5, 6] rfl)
      intro v8 v9 ls h hl
      rw [wp_X5_above_L6] at h
      refine lv_iload hx hb dX5_above_6 (lv_at hl 6 rfl) ?_
      refine lv_aload_n hx hb dX5_above_8 rfl (lv_at hl 0 rfl) ?_
      refine va_get (D := D) (ci := 5) (v := .int rE) (C := RX5) (T := TX5) (N := 27) hx hb hts hiX5 hown hK hP 0 rfl rfl 5 (by decide) f92 (fun _ h9 => h9) rfl dX5_above_9 ?_
      refine lv_icmp_ge (tgt := 102) hx hb dX5_above_12 (by decide) (fun cq => ?_) (fun cq => ?_)
      · have h := h.1 cq
        refine lv_iload hx hb dX5_above_102 (lv_at hl 5 rfl) ?_
        rw [hGQ]
        exact W.iret (v := v8) hx hb hr (fun t ht hW => ⟨_, rfl, h, ht⟩) (fun _ h => by cases h) dX5_above_104
      · have h := h.2 cq
        refine lv_aload_n hx hb dX5_above_15 rfl (lv_at hl 0 rfl) ?_
        refine va_get (D := D) (ci := 5) (v := .ref (aR 8)) (C := RX5) (T := TX5) (N := 27) hx hb hts hiX5 hown hK hP 0 rfl rfl 10 (by decide) f31 (fun _ h9 => h9) rfl dX5_above_16 ?_
        refine lv_iload hx hb dX5_above_19 (lv_at hl 6 rfl) ?_
        obtain ⟨hin, h⟩ := h
        refine va_iald hx hb hK hP 8 0 rfl rfl hin dX5_above_21 ?_
        refine lv_iload_n hx hb dX5_above_22 rfl (lv_at hl 1 rfl) ?_
        refine lv_icmp_ne (tgt := 62) hx hb dX5_above_23 (by decide) (fun cq => ?_) (fun cq => ?_)
        · have h := h.1 cq
          exact L62 v8 v9 _ h (lv_sub hl [0, 1, 2, 3, 4, 5, 6] rfl)
        · have h := h.2 cq
          refine lv_aload_n hx hb dX5_above_26 rfl (lv_at hl 0 rfl) ?_
          refine va_get (D := D) (ci := 5) (v := .ref (aR 4)) (C := RX5) (T := TX5) (N := 27) hx hb hts hiX5 hown hK hP 0 rfl rfl 6 (by decide) f19 (fun _ h9 => h9) rfl dX5_above_27 ?_
          refine lv_iload hx hb dX5_above_30 (lv_at hl 6 rfl) ?_
          obtain ⟨hin, h⟩ := h
          refine va_iald hx hb hK hP 4 0 rfl rfl hin dX5_above_32 ?_
          refine lv_i2l hx hb dX5_above_33 rfl ?_
          refine lv_lload hx hb dX5_above_34 (lv_at hl 4 rfl) ?_
          refine lv_lmul hx hb dX5_above_36 ?_
          refine lv_lload_n hx hb dX5_above_37 rfl (lv_at hl 2 rfl) ?_
          refine W.lcmp hx hb dX5_above_38 ?_
          refine lv_if_gt (tgt := 62) hx hb dX5_above_39 (by decide) (fun cq => ?_) (fun cq => ?_)
          · have h := h.1 ((lg_cmp_gt _ _).mp cq)
            exact L62 v8 v9 _ h (lv_sub hl [0, 1, 2, 3, 4, 5, 6] rfl)
          · have h := h.2 (fun q => cq ((lg_cmp_gt _ _).mpr q))
            refine lv_lload_n hx hb dX5_above_42 rfl (lv_at hl 2 rfl) ?_
            refine lv_aload_n hx hb dX5_above_43 rfl (lv_at hl 0 rfl) ?_
            refine va_get (D := D) (ci := 5) (v := .ref (aR 6)) (C := RX5) (T := TX5) (N := 27) hx hb hts hiX5 hown hK hP 0 rfl rfl 8 (by decide) f25 (fun _ h9 => h9) rfl dX5_above_44 ?_
            refine lv_iload hx hb dX5_above_47 (lv_at hl 6 rfl) ?_
            obtain ⟨hin, h⟩ := h
            refine va_iald hx hb hK hP 6 0 rfl rfl hin dX5_above_49 ?_
            refine lv_i2l hx hb dX5_above_50 rfl ?_
            refine lv_lload hx hb dX5_above_51 (lv_at hl 4 rfl) ?_
            refine lv_lmul hx hb dX5_above_53 ?_
            refine W.lcmp hx hb dX5_above_54 ?_
            refine lv_if_ge (tgt := 62) hx hb dX5_above_55 (by decide) (fun cq => ?_) (fun cq => ?_)
            · have h := h.1 ((lg_cmp_ge _ _).mp cq)
              exact L62 v8 v9 _ h (lv_sub hl [0, 1, 2, 3, 4, 5, 6] rfl)
            · have h := h.2 (fun q => cq ((lg_cmp_ge _ _).mpr q))
              refine lv_iconst (v := (1 : Int32)) hx hb dX5_above_58 (by decide) ?_
              refine lv_goto (tgt := 63) hx hb dX5_above_59 (by decide) ?_
              exact L63 v8 v9 (1 : Int32) _ h (lv_sub hl [0, 1, 2, 3, 4, 5, 6] rfl)
  unfold wp_X5_above at h
  refine lv_iconst (v := (0 : Int32)) hx hb dX5_above_0 (by decide) ?_
  refine lv_istore (lv' := [(8, .int (0 : Int32)), (0, .ref (aR 0)), (1, .int p0), (2, .long p1), (4, .long p2), (6, .long p3)]) hx hb dX5_above_1 hl (by decide) rfl (fun ls hl => ?_)
  refine lv_iconst (v := (0 : Int32)) hx hb dX5_above_3 (by decide) ?_
  refine lv_istore (lv' := [(9, .int (0 : Int32)), (8, .int (0 : Int32)), (0, .ref (aR 0)), (1, .int p0), (2, .long p1), (4, .long p2), (6, .long p3)]) hx hb dX5_above_4 hl (by decide) rfl (fun ls hl => ?_)
  obtain ⟨n9, h⟩ := h
  exact L6 n9 (0 : Int32) (0 : Int32) _ h (lv_sub hl [2, 3, 4, 5, 6, 1, 0] rfl)
set_option maxHeartbeats 4000000 in
set_option maxRecDepth 100000 in
theorem m_X5_beside (l : Launch) (D : va_G) (k : Nat → ClassId) (aR : Nat → Nat) (rF : Int32) (rS : Nat → Int32) (rVx : Nat → Int32) (rVy : Nat → Int32) (rMd : Int32) (rE : Int32) (rAx : Nat → Int32) (rAy : Nat → Int32) (rBx : Nat → Int32) (rBy : Nat → Int32) (rO : Nat → Int32) (rP : Int32) (rPx : Nat → Int32) (rPy : Nat → Int32) (rPd : Nat → Int32) (rQ : Int32) (rFi : Nat → Int32) (rLa : Nat → Int32) (rOn : Nat → Int32) (rLe : Nat → Int32) (rRi : Nat → Int32) (rHx : Int64) (rHy : Int64) (rHd : Int64) (rKx : Int64) (rKy : Int64) (rKd : Int64) (p0 : Int32) (p1 : Int64) (p2 : Int64) (p3 : Int64) (Q : Int32 → Prop) (h : wp_X5_beside p0 p1 p2 p3 rE rAx rAy rBx rBy rO Q) : Met l yX5_beside wsX5_beside ({ frames := 1, cells := 0, slots := 0, locals := 27 }) (Pro D k [.ref (aR 0), .int p0, .long p1, .long p2, .long p3] (wR k aR rF rS rVx rVy rMd rE rAx rAy rBx rBy rO rP rPx rPy rPd rQ rFi rLa rOn rLe rRi rHx rHy rHd rKx rKy rKd)) (vp_Si Q) 0 0 (fun _ => False) := by
  refine Met.ofW (cc := cX5_beside) (maxL := 15) (ret := (some .int)) (by decide) rfl ?_
  intro p e s m args below meth c s₁ B hml hv
  obtain ⟨hav, hP, hE⟩ := hv
  have hx := B.exec
  have hb := B.bytes
  have hr := B.returns
  have hts := atoms_spec (ws := wsX5_beside) B.pre
  have hown : s.vm.findClass RX5 = some m.cls := findClass_of_methodNamed B.named
  have hlocks := B.notSynchronized
  have hK := hE.1
  have hl := lv_entry ([.ref (aR 0), .int p0, .long p1, .long p2, .long p3]) (n := 15) (Nat.le_of_ble_eq_true rfl)
  rw [show entryFrame m args 15 = entryFrame m ([.ref (aR 0), .int p0, .long p1, .long p2, .long p3] : List Value).toArray 15 by rw [hav]]
  rw [lg_entry_eq]
  refine W.gq (fun GQ hGQ => ?_)
  generalize (lg_sl ([.ref (aR 0), .int p0, .long p1, .long p2, .long p3]) ++ List.replicate (15 - (lg_sl ([.ref (aR 0), .int p0, .long p1, .long p2, .long p3])).length) Slot.unset).toArray = ls at hl ⊢
  have hl : lv_has ls 15 [(0, .ref (aR 0)), (1, .int p0), (2, .long p1), (4, .long p2), (6, .long p3)] := hl
  have hiX5 := (by decide +kernel : ∀ w ∈ wsX50, w ∈ wsX5_beside)
  have f22 := hts (.fieldLink RX5 22 "PlaneOverlayModel" "ay" "[I") (by decide +kernel)
  have f28 := hts (.fieldLink RX5 28 "PlaneOverlayModel" "by" "[I") (by decide +kernel)
  have f31 := hts (.fieldLink RX5 31 "PlaneOverlayModel" "owner" "[I") (by decide +kernel)
  have f92 := hts (.fieldLink RX5 92 "PlaneOverlayModel" "edges" "I") (by decide +kernel)
  have L6 : ∀ (n6 : Nat) (v8 : Int32) (v9 : Int32) (ls : Array Slot), wp_X5_beside_L6 p0 p1 p2 p3 rE rAx rAy rBx rBy rO Q  n6 v8 v9 → lv_has ls 15 [(0, .ref (aR 0)), (1, .int p0), (2, .long p1), (4, .long p2), (6, .long p3), (8, .int v8), (9, .int v9)] → W p l e (headSpec wsX5_beside ({ frames := 1, cells := 0, slots := 0, locals := 27 })).room s m args below meth c s.heap [] 0 0 GQ (F0 m 6 ls []) := by
    intro n6
    induction n6 with
    | zero => intro v8 v9 ls h hl; exact False.elim h
    | succ n6 ih6 =>
      have L197 : ∀ (v9 : Int32) (z0 : Int32) (z1 : Int32) (ls : Array Slot), wp_X5_beside_L197 p0 p1 p2 p3 rE rAx rAy rBx rBy rO Q (wp_X5_beside_L6 p0 p1 p2 p3 rE rAx rAy rBx rBy rO Q  n6) v9 z0 z1 → lv_has ls 15 [(0, .ref (aR 0)), (1, .int p0), (2, .long p1), (4, .long p2), (6, .long p3), (9, .int v9)] → W p l e (headSpec wsX5_beside ({ frames := 1, cells := 0, slots := 0, locals := 27 })).room s m args below meth c s.heap [] 0 0 GQ (F0 m 197 ls [.int z0, .int z1]) := by
        intro v9 z0 z1 ls h hl
        unfold wp_X5_beside_L197 at h
        refine lv_iadd hx hb dX5_beside_197 ?_
        refine lv_topi (fun x198 ex198 => ?_)
        have h := h x198 ex198
        refine lv_istore (lv' := [(8, .int x198), (0, .ref (aR 0)), (1, .int p0), (2, .long p1), (4, .long p2), (6, .long p3), (9, .int v9)]) hx hb dX5_beside_198 hl (by decide) rfl (fun ls hl => ?_)
        refine lv_iinc (v := (v9 + 1)) (lv' := [(9, .int (v9 + 1)), (8, .int x198), (0, .ref (aR 0)), (1, .int p0), (2, .long p1), (4, .long p2), (6, .long p3)]) hx hb dX5_beside_200 hl (k := 6) rfl rfl (by decide) rfl (fun ls hl => ?_)
        refine lv_goto (tgt := 6) hx hb dX5_beside_203 (by decide) ?_
        exact ih6 x198 (v9 + 1) _ h (lv_sub hl [2, 3, 4, 5, 6, 1, 0] rfl)
      have L192 : ∀ (v9 : Int32) (z0 : Int32) (ls : Array Slot), wp_X5_beside_L192 p0 p1 p2 p3 rE rAx rAy rBx rBy rO Q (wp_X5_beside_L6 p0 p1 p2 p3 rE rAx rAy rBx rBy rO Q  n6) v9 z0 → lv_has ls 15 [(0, .ref (aR 0)), (1, .int p0), (2, .long p1), (4, .long p2), (6, .long p3), (9, .int v9)] → W p l e (headSpec wsX5_beside ({ frames := 1, cells := 0, slots := 0, locals := 27 })).room s m args below meth c s.heap [] 0 0 GQ (F0 m 192 ls [.int z0]) := by
        intro v9 z0 ls h hl
        unfold wp_X5_beside_L192 at h
        refine lv_iconst (v := (1 : Int32)) hx hb dX5_beside_192 (by decide) ?_
        refine lv_goto (tgt := 197) hx hb dX5_beside_193 (by decide) ?_
        exact L197 v9 (1 : Int32) z0 _ h (lv_sub hl [0, 1, 2, 3, 4, 5] rfl)
      have L196 : ∀ (v9 : Int32) (z0 : Int32) (ls : Array Slot), wp_X5_beside_L196 p0 p1 p2 p3 rE rAx rAy rBx rBy rO Q (wp_X5_beside_L6 p0 p1 p2 p3 rE rAx rAy rBx rBy rO Q  n6) v9 z0 → lv_has ls 15 [(0, .ref (aR 0)), (1, .int p0), (2, .long p1), (4, .long p2), (6, .long p3), (9, .int v9)] → W p l e (headSpec wsX5_beside ({ frames := 1, cells := 0, slots := 0, locals := 27 })).room s m args below meth c s.heap [] 0 0 GQ (F0 m 196 ls [.int z0]) := by
        intro v9 z0 ls h hl
        unfold wp_X5_beside_L196 at h
        refine lv_iconst (v := (0 : Int32)) hx hb dX5_beside_196 (by decide) ?_
        exact L197 v9 (0 : Int32) z0 _ h (lv_sub hl [0, 1, 2, 3, 4, 5] rfl)
      have L149 : ∀ (v8 : Int32) (v9 : Int32) (v12 : Int32) (z0 : Int64) (ls : Array Slot), wp_X5_beside_L149 p0 p1 p2 p3 rE rAx rAy rBx rBy rO Q (wp_X5_beside_L6 p0 p1 p2 p3 rE rAx rAy rBx rBy rO Q  n6) v8 v9 v12 z0 → lv_has ls 15 [(0, .ref (aR 0)), (1, .int p0), (2, .long p1), (4, .long p2), (6, .long p3), (8, .int v8), (9, .int v9), (12, .int v12)] → W p l e (headSpec wsX5_beside ({ frames := 1, cells := 0, slots := 0, locals := 27 })).room s m args below meth c s.heap [] 0 0 GQ (F0 m 149 ls [.long z0]) := by
        intro v8 v9 v12 z0 ls h hl
        unfold wp_X5_beside_L149 at h
        refine lv_lstore (lv' := [(13, .long z0), (0, .ref (aR 0)), (1, .int p0), (2, .long p1), (4, .long p2), (6, .long p3), (8, .int v8), (9, .int v9), (12, .int v12)]) hx hb dX5_beside_149 hl (by decide) rfl (fun ls hl => ?_)
        refine lv_iload hx hb dX5_beside_151 (lv_at hl 6 rfl) ?_
        refine lv_iload hx hb dX5_beside_153 (lv_at hl 8 rfl) ?_
        refine lv_if_eq (tgt := 196) hx hb dX5_beside_155 (by decide) (fun cq => ?_) (fun cq => ?_)
        · have h := h.1 cq
          exact L196 v9 v8 _ h (lv_sub hl [1, 2, 3, 4, 5, 7] rfl)
        · have h := h.2 cq
          refine lv_aload_n hx hb dX5_beside_158 rfl (lv_at hl 1 rfl) ?_
          refine va_get (D := D) (ci := 5) (v := .ref (aR 5)) (C := RX5) (T := TX5) (N := 27) hx hb hts hiX5 hown hK hP 0 rfl rfl 7 (by decide) f22 (fun _ h9 => h9) rfl dX5_beside_159 ?_
          refine lv_iload hx hb dX5_beside_162 (lv_at hl 7 rfl) ?_
          obtain ⟨hin, h⟩ := h
          refine va_iald hx hb hK hP 5 0 rfl rfl hin dX5_beside_164 ?_
          refine lv_aload_n hx hb dX5_beside_165 rfl (lv_at hl 1 rfl) ?_
          refine va_get (D := D) (ci := 5) (v := .ref (aR 7)) (C := RX5) (T := TX5) (N := 27) hx hb hts hiX5 hown hK hP 0 rfl rfl 9 (by decide) f28 (fun _ h9 => h9) rfl dX5_beside_166 ?_
          refine lv_iload hx hb dX5_beside_169 (lv_at hl 7 rfl) ?_
          obtain ⟨hin, h⟩ := h
          refine va_iald hx hb hK hP 7 0 rfl rfl hin dX5_beside_171 ?_
          refine lv_icmp_ge (tgt := 185) hx hb dX5_beside_172 (by decide) (fun cq => ?_) (fun cq => ?_)
          · have h := h.1 cq
            refine lv_lload hx hb dX5_beside_185 (lv_at hl 0 rfl) ?_
            refine lv_lconst (v := (0 : Int64)) hx hb dX5_beside_187 (by decide) ?_
            refine W.lcmp hx hb dX5_beside_188 ?_
            refine lv_if_ge (tgt := 196) hx hb dX5_beside_189 (by decide) (fun cq => ?_) (fun cq => ?_)
            · have h := h.1 ((lg_cmp_ge _ _).mp cq)
              exact L196 v9 v8 _ h (lv_sub hl [1, 2, 3, 4, 5, 7] rfl)
            · have h := h.2 (fun q => cq ((lg_cmp_ge _ _).mpr q))
              exact L192 v9 v8 _ h (lv_sub hl [1, 2, 3, 4, 5, 7] rfl)
          · have h := h.2 cq
            refine lv_lload hx hb dX5_beside_175 (lv_at hl 0 rfl) ?_
            refine lv_lconst (v := (0 : Int64)) hx hb dX5_beside_177 (by decide) ?_
            refine W.lcmp hx hb dX5_beside_178 ?_
            refine lv_if_le (tgt := 196) hx hb dX5_beside_179 (by decide) (fun cq => ?_) (fun cq => ?_)
            · have h := h.1 ((lg_cmp_le _ _).mp cq)
              exact L196 v9 v8 _ h (lv_sub hl [1, 2, 3, 4, 5, 7] rfl)
            · have h := h.2 (fun q => cq ((lg_cmp_le _ _).mpr q))
              refine lv_goto (tgt := 192) hx hb dX5_beside_182 (by decide) ?_
              exact L192 v9 v8 _ h (lv_sub hl [1, 2, 3, 4, 5, 7] rfl)
      have L127 : ∀ (v8 : Int32) (v9 : Int32) (z0 : Int32) (ls : Array Slot), wp_X5_beside_L127 p0 p1 p2 p3 rE rAx rAy rBx rBy rO Q (wp_X5_beside_L6 p0 p1 p2 p3 rE rAx rAy rBx rBy rO Q  n6) v8 v9 z0 → lv_has ls 15 [(0, .ref (aR 0)), (1, .int p0), (2, .long p1), (4, .long p2), (6, .long p3), (8, .int v8), (9, .int v9)] → W p l e (headSpec wsX5_beside ({ frames := 1, cells := 0, slots := 0, locals := 27 })).room s m args below meth c s.heap [] 0 0 GQ (F0 m 127 ls [.int z0]) := by
        intro v8 v9 z0 ls h hl
        unfold wp_X5_beside_L127 at h
        refine lv_istore (lv' := [(12, .int z0), (0, .ref (aR 0)), (1, .int p0), (2, .long p1), (4, .long p2), (6, .long p3), (8, .int v8), (9, .int v9)]) hx hb dX5_beside_127 hl (by decide) rfl (fun ls hl => ?_)
        refine lv_iload hx hb dX5_beside_129 (lv_at hl 0 rfl) ?_
        refine lv_if_eq (tgt := 148) hx hb dX5_beside_131 (by decide) (fun cq => ?_) (fun cq => ?_)
        · have h := h.1 cq
          refine lv_lconst (v := (0 : Int64)) hx hb dX5_beside_148 (by decide) ?_
          exact L149 v8 v9 z0 (0 : Int64) _ h (lv_sub hl [1, 2, 3, 4, 5, 6, 7, 0] rfl)
        · have h := h.2 cq
          refine lv_aload_n hx hb dX5_beside_134 rfl (lv_at hl 1 rfl) ?_
          refine lv_iload hx hb dX5_beside_135 (lv_at hl 7 rfl) ?_
          refine lv_lload_n hx hb dX5_beside_137 rfl (lv_at hl 3 rfl) ?_
          refine lv_lload hx hb dX5_beside_138 (lv_at hl 4 rfl) ?_
          refine lv_lload hx hb dX5_beside_140 (lv_at hl 5 rfl) ?_
          refine vp_callSl (W.runV (C := RX5) (b := (aR 0)) (As := [.int v9, .long p1, .long p2, .long p3]) (rest := []) ⟨hx, hb, hml, hown, hts⟩ (m_X5_side l D k aR rF rS rVx rVy rMd rE rAx rAy rBx rBy rO rP rPx rPy rPd rQ rFi rLa rOn rLe rRi rHx rHy rHd rKx rKy rKd v9 p1 p2 p3 _ h) (cwV 4 hts gX5_beside_X5_side rfl rfl rfl (by decide +kernel) ⟨Nat.le_of_ble_eq_true rfl, Nat.le_of_ble_eq_true rfl⟩) (preV_ro (ci := 5) (q0 := 0) (C := RX5) (T := TX5) (N := 27) hE hP rfl rfl) rfl rfl hl.1 rfl (lv_room (Nat.le_of_ble_eq_true rfl)) dX5_beside_142 ⟨Nat.le_of_ble_eq_true rfl, Nat.le_of_ble_eq_true rfl⟩) (fun r142 h => ?_)
          refine lv_goto (tgt := 149) hx hb dX5_beside_145 (by decide) ?_
          exact L149 v8 v9 z0 r142 _ h (lv_sub hl [1, 2, 3, 4, 5, 6, 7, 0] rfl)
      have L126 : ∀ (v8 : Int32) (v9 : Int32) (ls : Array Slot), wp_X5_beside_L126 p0 p1 p2 p3 rE rAx rAy rBx rBy rO Q (wp_X5_beside_L6 p0 p1 p2 p3 rE rAx rAy rBx rBy rO Q  n6) v8 v9 → lv_has ls 15 [(0, .ref (aR 0)), (1, .int p0), (2, .long p1), (4, .long p2), (6, .long p3), (8, .int v8), (9, .int v9)] → W p l e (headSpec wsX5_beside ({ frames := 1, cells := 0, slots := 0, locals := 27 })).room s m args below meth c s.heap [] 0 0 GQ (F0 m 126 ls []) := by
        intro v8 v9 ls h hl
        unfold wp_X5_beside_L126 at h
        refine lv_iconst (v := (0 : Int32)) hx hb dX5_beside_126 (by decide) ?_
        exact L127 v8 v9 (0 : Int32) _ h (lv_sub hl [0, 1, 2, 3, 4, 5, 6] rfl)
      have L85 : ∀ (v8 : Int32) (v9 : Int32) (v10 : Int32) (z0 : Int32) (ls : Array Slot), wp_X5_beside_L85 p0 p1 p2 p3 rE rAx rAy rBx rBy rO Q (wp_X5_beside_L6 p0 p1 p2 p3 rE rAx rAy rBx rBy rO Q  n6) v8 v9 v10 z0 → lv_has ls 15 [(0, .ref (aR 0)), (1, .int p0), (2, .long p1), (4, .long p2), (6, .long p3), (8, .int v8), (9, .int v9), (10, .int v10)] → W p l e (headSpec wsX5_beside ({ frames := 1, cells := 0, slots := 0, locals := 27 })).room s m args below meth c s.heap [] 0 0 GQ (F0 m 85 ls [.int z0]) := by
        intro v8 v9 v10 z0 ls h hl
        unfold wp_X5_beside_L85 at h
        refine lv_istore (lv' := [(11, .int z0), (0, .ref (aR 0)), (1, .int p0), (2, .long p1), (4, .long p2), (6, .long p3), (8, .int v8), (9, .int v9), (10, .int v10)]) hx hb dX5_beside_85 hl (by decide) rfl (fun ls hl => ?_)
        refine lv_aload_n hx hb dX5_beside_87 rfl (lv_at hl 1 rfl) ?_
        refine va_get (D := D) (ci := 5) (v := .ref (aR 8)) (C := RX5) (T := TX5) (N := 27) hx hb hts hiX5 hown hK hP 0 rfl rfl 10 (by decide) f31 (fun _ h9 => h9) rfl dX5_beside_88 ?_
        refine lv_iload hx hb dX5_beside_91 (lv_at hl 7 rfl) ?_
        obtain ⟨hin, h⟩ := h
        refine va_iald hx hb hK hP 8 0 rfl rfl hin dX5_beside_93 ?_
        refine lv_iload_n hx hb dX5_beside_94 rfl (lv_at hl 2 rfl) ?_
        refine lv_icmp_ne (tgt := 126) hx hb dX5_beside_95 (by decide) (fun cq => ?_) (fun cq => ?_)
        · have h := h.1 cq
          exact L126 v8 v9 _ h (lv_sub hl [1, 2, 3, 4, 5, 6, 7] rfl)
        · have h := h.2 cq
          refine lv_iload hx hb dX5_beside_98 (lv_at hl 8 rfl) ?_
          refine lv_i2l hx hb dX5_beside_100 rfl ?_
          refine lv_lload hx hb dX5_beside_101 (lv_at hl 5 rfl) ?_
          refine lv_lmul hx hb dX5_beside_103 ?_
          refine lv_lload hx hb dX5_beside_104 (lv_at hl 4 rfl) ?_
          refine W.lcmp hx hb dX5_beside_106 ?_
          refine lv_if_gt (tgt := 126) hx hb dX5_beside_107 (by decide) (fun cq => ?_) (fun cq => ?_)
          · have h := h.1 ((lg_cmp_gt _ _).mp cq)
            exact L126 v8 v9 _ h (lv_sub hl [1, 2, 3, 4, 5, 6, 7] rfl)
          · have h := h.2 (fun q => cq ((lg_cmp_gt _ _).mpr q))
            refine lv_lload hx hb dX5_beside_110 (lv_at hl 4 rfl) ?_
            refine lv_iload hx hb dX5_beside_112 (lv_at hl 0 rfl) ?_
            refine lv_i2l hx hb dX5_beside_114 rfl ?_
            refine lv_lload hx hb dX5_beside_115 (lv_at hl 5 rfl) ?_
            refine lv_lmul hx hb dX5_beside_117 ?_
            refine W.lcmp hx hb dX5_beside_118 ?_
            refine lv_if_ge (tgt := 126) hx hb dX5_beside_119 (by decide) (fun cq => ?_) (fun cq => ?_)
            · have h := h.1 ((lg_cmp_ge _ _).mp cq)
              exact L126 v8 v9 _ h (lv_sub hl [1, 2, 3, 4, 5, 6, 7] rfl)
            · have h := h.2 (fun q => cq ((lg_cmp_ge _ _).mpr q))
              refine lv_iconst (v := (1 : Int32)) hx hb dX5_beside_122 (by decide) ?_
              refine lv_goto (tgt := 127) hx hb dX5_beside_123 (by decide) ?_
              exact L127 v8 v9 (1 : Int32) _ h (lv_sub hl [1, 2, 3, 4, 5, 6, 7] rfl)
      have L49 : ∀ (v8 : Int32) (v9 : Int32) (z0 : Int32) (ls : Array Slot), wp_X5_beside_L49 p0 p1 p2 p3 rE rAx rAy rBx rBy rO Q (wp_X5_beside_L6 p0 p1 p2 p3 rE rAx rAy rBx rBy rO Q  n6) v8 v9 z0 → lv_has ls 15 [(0, .ref (aR 0)), (1, .int p0), (2, .long p1), (4, .long p2), (6, .long p3), (8, .int v8), (9, .int v9)] → W p l e (headSpec wsX5_beside ({ frames := 1, cells := 0, slots := 0, locals := 27 })).room s m args below meth c s.heap [] 0 0 GQ (F0 m 49 ls [.int z0]) := by
        intro v8 v9 z0 ls h hl
        unfold wp_X5_beside_L49 at h
        refine lv_istore (lv' := [(10, .int z0), (0, .ref (aR 0)), (1, .int p0), (2, .long p1), (4, .long p2), (6, .long p3), (8, .int v8), (9, .int v9)]) hx hb dX5_beside_49 hl (by decide) rfl (fun ls hl => ?_)
        refine lv_aload_n hx hb dX5_beside_51 rfl (lv_at hl 1 rfl) ?_
        refine va_get (D := D) (ci := 5) (v := .ref (aR 5)) (C := RX5) (T := TX5) (N := 27) hx hb hts hiX5 hown hK hP 0 rfl rfl 7 (by decide) f22 (fun _ h9 => h9) rfl dX5_beside_52 ?_
        refine lv_iload hx hb dX5_beside_55 (lv_at hl 7 rfl) ?_
        obtain ⟨hin, h⟩ := h
        refine va_iald hx hb hK hP 5 0 rfl rfl hin dX5_beside_57 ?_
        refine lv_aload_n hx hb dX5_beside_58 rfl (lv_at hl 1 rfl) ?_
        refine va_get (D := D) (ci := 5) (v := .ref (aR 7)) (C := RX5) (T := TX5) (N := 27) hx hb hts hiX5 hown hK hP 0 rfl rfl 9 (by decide) f28 (fun _ h9 => h9) rfl dX5_beside_59 ?_
        refine lv_iload hx hb dX5_beside_62 (lv_at hl 7 rfl) ?_
        obtain ⟨hin, h⟩ := h
        refine va_iald hx hb hK hP 7 0 rfl rfl hin dX5_beside_64 ?_
        refine lv_icmp_ge (tgt := 78) hx hb dX5_beside_65 (by decide) (fun cq => ?_) (fun cq => ?_)
        · have h := h.1 cq
          refine lv_aload_n hx hb dX5_beside_78 rfl (lv_at hl 1 rfl) ?_
          refine va_get (D := D) (ci := 5) (v := .ref (aR 5)) (C := RX5) (T := TX5) (N := 27) hx hb hts hiX5 hown hK hP 0 rfl rfl 7 (by decide) f22 (fun _ h9 => h9) rfl dX5_beside_79 ?_
          refine lv_iload hx hb dX5_beside_82 (lv_at hl 7 rfl) ?_
          obtain ⟨hin, h⟩ := h
          refine va_iald hx hb hK hP 5 0 rfl rfl hin dX5_beside_84 ?_
          exact L85 v8 v9 z0 (rAy v9.toNatClampNeg) _ h (lv_sub hl [1, 2, 3, 4, 5, 6, 7, 0] rfl)
        · have h := h.2 cq
          refine lv_aload_n hx hb dX5_beside_68 rfl (lv_at hl 1 rfl) ?_
          refine va_get (D := D) (ci := 5) (v := .ref (aR 7)) (C := RX5) (T := TX5) (N := 27) hx hb hts hiX5 hown hK hP 0 rfl rfl 9 (by decide) f28 (fun _ h9 => h9) rfl dX5_beside_69 ?_
          refine lv_iload hx hb dX5_beside_72 (lv_at hl 7 rfl) ?_
          obtain ⟨hin, h⟩ := h
          refine va_iald hx hb hK hP 7 0 rfl rfl hin dX5_beside_74 ?_
          refine lv_goto (tgt := 85) hx hb dX5_beside_75 (by decide) ?_
          exact L85 v8 v9 z0 (rBy v9.toNatClampNeg) _ h (lv_sub hl [1, 2, 3, 4, 5, 6, 7, 0] rfl)
      intro v8 v9 ls h hl
      rw [wp_X5_beside_L6] at h
      refine lv_iload hx hb dX5_beside_6 (lv_at hl 6 rfl) ?_
      refine lv_aload_n hx hb dX5_beside_8 rfl (lv_at hl 0 rfl) ?_
      refine va_get (D := D) (ci := 5) (v := .int rE) (C := RX5) (T := TX5) (N := 27) hx hb hts hiX5 hown hK hP 0 rfl rfl 5 (by decide) f92 (fun _ h9 => h9) rfl dX5_beside_9 ?_
      refine lv_icmp_ge (tgt := 206) hx hb dX5_beside_12 (by decide) (fun cq => ?_) (fun cq => ?_)
      · have h := h.1 cq
        refine lv_iload hx hb dX5_beside_206 (lv_at hl 5 rfl) ?_
        rw [hGQ]
        exact W.iret (v := v8) hx hb hr (fun t ht hW => ⟨_, rfl, h, ht⟩) (fun _ h => by cases h) dX5_beside_208
      · have h := h.2 cq
        refine lv_aload_n hx hb dX5_beside_15 rfl (lv_at hl 0 rfl) ?_
        refine va_get (D := D) (ci := 5) (v := .ref (aR 5)) (C := RX5) (T := TX5) (N := 27) hx hb hts hiX5 hown hK hP 0 rfl rfl 7 (by decide) f22 (fun _ h9 => h9) rfl dX5_beside_16 ?_
        refine lv_iload hx hb dX5_beside_19 (lv_at hl 6 rfl) ?_
        obtain ⟨hin, h⟩ := h
        refine va_iald hx hb hK hP 5 0 rfl rfl hin dX5_beside_21 ?_
        refine lv_aload_n hx hb dX5_beside_22 rfl (lv_at hl 0 rfl) ?_
        refine va_get (D := D) (ci := 5) (v := .ref (aR 7)) (C := RX5) (T := TX5) (N := 27) hx hb hts hiX5 hown hK hP 0 rfl rfl 9 (by decide) f28 (fun _ h9 => h9) rfl dX5_beside_23 ?_
        refine lv_iload hx hb dX5_beside_26 (lv_at hl 6 rfl) ?_
        obtain ⟨hin, h⟩ := h
        refine va_iald hx hb hK hP 7 0 rfl rfl hin dX5_beside_28 ?_
        refine lv_icmp_ge (tgt := 42) hx hb dX5_beside_29 (by decide) (fun cq => ?_) (fun cq => ?_)
        · have h := h.1 cq
          refine lv_aload_n hx hb dX5_beside_42 rfl (lv_at hl 0 rfl) ?_
          refine va_get (D := D) (ci := 5) (v := .ref (aR 7)) (C := RX5) (T := TX5) (N := 27) hx hb hts hiX5 hown hK hP 0 rfl rfl 9 (by decide) f28 (fun _ h9 => h9) rfl dX5_beside_43 ?_
          refine lv_iload hx hb dX5_beside_46 (lv_at hl 6 rfl) ?_
          obtain ⟨hin, h⟩ := h
          refine va_iald hx hb hK hP 7 0 rfl rfl hin dX5_beside_48 ?_
          exact L49 v8 v9 (rBy v9.toNatClampNeg) _ h (lv_sub hl [0, 1, 2, 3, 4, 5, 6] rfl)
        · have h := h.2 cq
          refine lv_aload_n hx hb dX5_beside_32 rfl (lv_at hl 0 rfl) ?_
          refine va_get (D := D) (ci := 5) (v := .ref (aR 5)) (C := RX5) (T := TX5) (N := 27) hx hb hts hiX5 hown hK hP 0 rfl rfl 7 (by decide) f22 (fun _ h9 => h9) rfl dX5_beside_33 ?_
          refine lv_iload hx hb dX5_beside_36 (lv_at hl 6 rfl) ?_
          obtain ⟨hin, h⟩ := h
          refine va_iald hx hb hK hP 5 0 rfl rfl hin dX5_beside_38 ?_
          refine lv_goto (tgt := 49) hx hb dX5_beside_39 (by decide) ?_
          exact L49 v8 v9 (rAy v9.toNatClampNeg) _ h (lv_sub hl [0, 1, 2, 3, 4, 5, 6] rfl)
  unfold wp_X5_beside at h
  refine lv_iconst (v := (0 : Int32)) hx hb dX5_beside_0 (by decide) ?_
  refine lv_istore (lv' := [(8, .int (0 : Int32)), (0, .ref (aR 0)), (1, .int p0), (2, .long p1), (4, .long p2), (6, .long p3)]) hx hb dX5_beside_1 hl (by decide) rfl (fun ls hl => ?_)
  refine lv_iconst (v := (0 : Int32)) hx hb dX5_beside_3 (by decide) ?_
  refine lv_istore (lv' := [(9, .int (0 : Int32)), (8, .int (0 : Int32)), (0, .ref (aR 0)), (1, .int p0), (2, .long p1), (4, .long p2), (6, .long p3)]) hx hb dX5_beside_4 hl (by decide) rfl (fun ls hl => ?_)
  obtain ⟨n9, h⟩ := h
  exact L6 n9 (0 : Int32) (0 : Int32) _ h (lv_sub hl [2, 3, 4, 5, 6, 1, 0] rfl)
set_option maxHeartbeats 4000000 in
set_option maxRecDepth 100000 in
theorem m_X5_tell (l : Launch) (D : va_G) (k : Nat → ClassId) (aR : Nat → Nat) (rF : Int32) (rS : Nat → Int32) (rVx : Nat → Int32) (rVy : Nat → Int32) (rMd : Int32) (rE : Int32) (rAx : Nat → Int32) (rAy : Nat → Int32) (rBx : Nat → Int32) (rBy : Nat → Int32) (rO : Nat → Int32) (rP : Int32) (rPx : Nat → Int32) (rPy : Nat → Int32) (rPd : Nat → Int32) (rQ : Int32) (rFi : Nat → Int32) (rLa : Nat → Int32) (rOn : Nat → Int32) (rLe : Nat → Int32) (rRi : Nat → Int32) (rHx : Int64) (rHy : Int64) (rHd : Int64) (rKx : Int64) (rKy : Int64) (rKd : Int64) (p0 : Int32) (Q : (Nat → Int32) → (Nat → Int32) → Prop) (sz : Nat) (h : wp_X5_tell p0 rE rAx rAy rBx rBy rO rPx rPy rPd rFi rLa rOn rLe rRi Q) : Met l yX5_tell wsX5_tell ({ frames := 2, cells := 0, slots := 0, locals := 61 }) (Prw D k [.ref (aR 0), .int p0] (wR k aR rF rS rVx rVy rMd rE rAx rAy rBx rBy rO rP rPx rPy rPd rQ rFi rLa rOn rLe rRi rHx rHy rHd rKx rKy rKd) sz) (va_Qv (fun (u : (Nat → Int32) × (Nat → Int32)) => Q u.1 u.2) (fun (u : (Nat → Int32) × (Nat → Int32)) t => va_P D vwCl (wR k aR rF rS rVx rVy rMd rE rAx rAy rBx rBy rO rP rPx rPy rPd rQ rFi rLa rOn (u.1) (u.2) rHx rHy rHd rKx rKy rKd) t.heap ∧ va_D (va_A (wR k aR rF rS rVx rVy rMd rE rAx rAy rBx rBy rO rP rPx rPy rPd rQ rFi rLa rOn rLe rRi rHx rHy rHd rKx rKy rKd) sz) (wR k aR rF rS rVx rVy rMd rE rAx rAy rBx rBy rO rP rPx rPy rPd rQ rFi rLa rOn (u.1) (u.2) rHx rHy rHd rKx rKy rKd)) (va_A (wR k aR rF rS rVx rVy rMd rE rAx rAy rBx rBy rO rP rPx rPy rPd rQ rFi rLa rOn rLe rRi rHx rHy rHd rKx rKy rKd) sz)) 0 0 (va_A (wR k aR rF rS rVx rVy rMd rE rAx rAy rBx rBy rO rP rPx rPy rPd rQ rFi rLa rOn rLe rRi rHx rHy rHd rKx rKy rKd) sz) := by
  refine Met.ofW (cc := cX5_tell) (maxL := 15) (ret := none) (by decide) rfl ?_
  intro p e s m args below meth c s₁ B hml hv
  obtain ⟨hav, hsz, hP, hE, hD0⟩ := hv
  subst hsz
  have hx := B.exec
  have hb := B.bytes
  have hr := B.returns
  have hts := atoms_spec (ws := wsX5_tell) B.pre
  have hown : s.vm.findClass RX5 = some m.cls := findClass_of_methodNamed B.named
  have hlocks := B.notSynchronized
  have hK := hE.1
  have hD := hD0.self (sz := s.heap.size)
  generalize hAe : va_A (wR k aR rF rS rVx rVy rMd rE rAx rAy rBx rBy rO rP rPx rPy rPd rQ rFi rLa rOn rLe rRi rHx rHy rHd rKx rKy rKd) s.heap.size = A at hD ⊢
  have hA : ∀ q : Nat, s.heap.size ≤ q → A q := fun q h => by rw [← hAe]; exact Or.inr h
  have hS : va_S A s.heap s.heap [] := va_S.rf
  have hl := lv_entry ([.ref (aR 0), .int p0]) (n := 15) (Nat.le_of_ble_eq_true rfl)
  rw [show entryFrame m args 15 = entryFrame m ([.ref (aR 0), .int p0] : List Value).toArray 15 by rw [hav]]
  rw [lg_entry_eq]
  refine W.gq (fun GQ hGQ => ?_)
  generalize (lg_sl ([.ref (aR 0), .int p0]) ++ List.replicate (15 - (lg_sl ([.ref (aR 0), .int p0])).length) Slot.unset).toArray = ls at hl ⊢
  have hl : lv_has ls 15 [(0, .ref (aR 0)), (1, .int p0)] := hl
  have hiX5 := (by decide +kernel : ∀ w ∈ wsX50, w ∈ wsX5_tell)
  have f56 := hts (.fieldLink RX5 56 "PlaneOverlayModel" "right" "[Z") (by decide +kernel)
  have f52 := hts (.fieldLink RX5 52 "PlaneOverlayModel" "left" "[Z") (by decide +kernel)
  have f49 := hts (.fieldLink RX5 49 "PlaneOverlayModel" "on" "[I") (by decide +kernel)
  have f43 := hts (.fieldLink RX5 43 "PlaneOverlayModel" "first" "[I") (by decide +kernel)
  have f46 := hts (.fieldLink RX5 46 "PlaneOverlayModel" "last" "[I") (by decide +kernel)
  have k123 := hts (.constantLong RX5 123 (2)) (by decide +kernel)
  have f40 := hts (.fieldLink RX5 40 "PlaneOverlayModel" "pd" "[I") (by decide +kernel)
  have f34 := hts (.fieldLink RX5 34 "PlaneOverlayModel" "px" "[I") (by decide +kernel)
  have f37 := hts (.fieldLink RX5 37 "PlaneOverlayModel" "py" "[I") (by decide +kernel)
  have L145 : ∀ (n145 : Nat) (v4 : Int64) (v6 : Int64) (v8 : Int64) (v10 : Int32) (v11 : Int32) (rLe : Nat → Int32) (rRi : Nat → Int32) (H : Heap) (locs : List Loc) (ls : Array Slot), wp_X5_tell_L145 p0 rE rAx rAy rBx rBy rO rPx rPy rPd rFi rLa rOn Q  n145 v4 v6 v8 v10 v11 rLe rRi → va_P D vwCl (wR k aR rF rS rVx rVy rMd rE rAx rAy rBx rBy rO rP rPx rPy rPd rQ rFi rLa rOn rLe rRi rHx rHy rHd rKx rKy rKd) H → va_D A (wR k aR rF rS rVx rVy rMd rE rAx rAy rBx rBy rO rP rPx rPy rPd rQ rFi rLa rOn rLe rRi rHx rHy rHd rKx rKy rKd) → va_S A s.heap H locs → lv_has ls 15 [(0, .ref (aR 0)), (1, .int p0), (4, .long v4), (6, .long v6), (8, .long v8), (10, .int v10), (11, .int v11)] → W p l e (headSpec wsX5_tell ({ frames := 2, cells := 0, slots := 0, locals := 61 })).room s m args below meth c H locs 0 0 GQ (F0 m 145 ls []) := by
    intro n145
    induction n145 with
    | zero => intro v4 v6 v8 v10 v11 rLe rRi H locs ls h hP hD hS hl; exact False.elim h
    | succ n145 ih145 =>
      have L272 : ∀ (v4 : Int64) (v6 : Int64) (v8 : Int64) (v10 : Int32) (v11 : Int32) (z0 : Int32) (z1 : Int32) (rLe : Nat → Int32) (rRi : Nat → Int32) (H : Heap) (locs : List Loc) (ls : Array Slot), wp_X5_tell_L272 p0 rE rAx rAy rBx rBy rO rPx rPy rPd rFi rLa rOn Q (wp_X5_tell_L145 p0 rE rAx rAy rBx rBy rO rPx rPy rPd rFi rLa rOn Q  n145) v4 v6 v8 v10 v11 z0 z1 rLe rRi → va_P D vwCl (wR k aR rF rS rVx rVy rMd rE rAx rAy rBx rBy rO rP rPx rPy rPd rQ rFi rLa rOn rLe rRi rHx rHy rHd rKx rKy rKd) H → va_D A (wR k aR rF rS rVx rVy rMd rE rAx rAy rBx rBy rO rP rPx rPy rPd rQ rFi rLa rOn rLe rRi rHx rHy rHd rKx rKy rKd) → va_S A s.heap H locs → lv_has ls 15 [(0, .ref (aR 0)), (1, .int p0), (4, .long v4), (6, .long v6), (8, .long v8), (10, .int v10), (11, .int v11)] → W p l e (headSpec wsX5_tell ({ frames := 2, cells := 0, slots := 0, locals := 61 })).room s m args below meth c H locs 0 0 GQ (F0 m 272 ls [.int z0, .int z1, .ref (aR 16)]) := by
        intro v4 v6 v8 v10 v11 z0 z1 rLe rRi H locs ls h hP hD hS hl
        unfold wp_X5_tell_L272 at h
        obtain ⟨hin, h⟩ := h
        obtain ⟨y272, ey272⟩ : ∃ z : Nat → Int32, z = upd rRi z1.toNatClampNeg (vp_nar .boolean z0) := ⟨_, rfl⟩
        have h := h y272 ey272
        refine va_zast hx hb hK hP hD hS 16 1 rfl rfl hin dX5_tell_272 (fun H locs hP hD hS => ?_)
        rw [← ey272] at hP hD
        have hP : va_P D vwCl (wR k aR rF rS rVx rVy rMd rE rAx rAy rBx rBy rO rP rPx rPy rPd rQ rFi rLa rOn rLe y272 rHx rHy rHd rKx rKy rKd) H := hP
        have hD : va_D A (wR k aR rF rS rVx rVy rMd rE rAx rAy rBx rBy rO rP rPx rPy rPd rQ rFi rLa rOn rLe y272 rHx rHy rHd rKx rKy rKd) := hD
        refine lv_iinc (v := (v11 + 1)) (lv' := [(11, .int (v11 + 1)), (0, .ref (aR 0)), (1, .int p0), (4, .long v4), (6, .long v6), (8, .long v8), (10, .int v10)]) hx hb dX5_tell_273 hl (k := 6) rfl rfl (by decide) rfl (fun ls hl => ?_)
        refine lv_goto (tgt := 145) hx hb dX5_tell_276 (by decide) ?_
        exact ih145 v4 v6 v8 v10 (v11 + 1) rLe y272 _ _ _ h hP hD hS (lv_sub hl [1, 2, 3, 4, 5, 6, 0] rfl)
      have L249 : ∀ (v4 : Int64) (v6 : Int64) (v8 : Int64) (v10 : Int32) (v11 : Int32) (v13 : Int32) (v14 : Int32) (z0 : Int32) (z1 : Int32) (rLe : Nat → Int32) (rRi : Nat → Int32) (H : Heap) (locs : List Loc) (ls : Array Slot), wp_X5_tell_L249 p0 rE rAx rAy rBx rBy rO rPx rPy rPd rFi rLa rOn Q (wp_X5_tell_L145 p0 rE rAx rAy rBx rBy rO rPx rPy rPd rFi rLa rOn Q  n145) v4 v6 v8 v10 v11 v13 v14 z0 z1 rLe rRi → va_P D vwCl (wR k aR rF rS rVx rVy rMd rE rAx rAy rBx rBy rO rP rPx rPy rPd rQ rFi rLa rOn rLe rRi rHx rHy rHd rKx rKy rKd) H → va_D A (wR k aR rF rS rVx rVy rMd rE rAx rAy rBx rBy rO rP rPx rPy rPd rQ rFi rLa rOn rLe rRi rHx rHy rHd rKx rKy rKd) → va_S A s.heap H locs → lv_has ls 15 [(0, .ref (aR 0)), (1, .int p0), (4, .long v4), (6, .long v6), (8, .long v8), (10, .int v10), (11, .int v11), (13, .int v13), (14, .int v14)] → W p l e (headSpec wsX5_tell ({ frames := 2, cells := 0, slots := 0, locals := 61 })).room s m args below meth c H locs 0 0 GQ (F0 m 249 ls [.int z0, .int z1, .ref (aR 15)]) := by
        intro v4 v6 v8 v10 v11 v13 v14 z0 z1 rLe rRi H locs ls h hP hD hS hl
        unfold wp_X5_tell_L249 at h
        obtain ⟨hin, h⟩ := h
        obtain ⟨y249, ey249⟩ : ∃ z : Nat → Int32, z = upd rLe z1.toNatClampNeg (vp_nar .boolean z0) := ⟨_, rfl⟩
        have h := h y249 ey249
        refine va_zast hx hb hK hP hD hS 15 1 rfl rfl hin dX5_tell_249 (fun H locs hP hD hS => ?_)
        rw [← ey249] at hP hD
        have hP : va_P D vwCl (wR k aR rF rS rVx rVy rMd rE rAx rAy rBx rBy rO rP rPx rPy rPd rQ rFi rLa rOn y249 rRi rHx rHy rHd rKx rKy rKd) H := hP
        have hD : va_D A (wR k aR rF rS rVx rVy rMd rE rAx rAy rBx rBy rO rP rPx rPy rPd rQ rFi rLa rOn y249 rRi rHx rHy rHd rKx rKy rKd) := hD
        refine lv_aload_n hx hb dX5_tell_250 rfl (lv_at hl 0 rfl) ?_
        refine va_get (D := D) (ci := 5) (v := .ref (aR 16)) (C := RX5) (T := TX5) (N := 27) hx hb hts hiX5 hown hK hP 0 rfl rfl 20 (by decide) f56 (fun _ h9 => h9) rfl dX5_tell_251 ?_
        refine lv_iconst (v := (2 : Int32)) hx hb dX5_tell_254 (by decide) ?_
        refine lv_iload_n hx hb dX5_tell_255 rfl (lv_at hl 1 rfl) ?_
        refine lv_imul hx hb dX5_tell_256 ?_
        refine lv_iload hx hb dX5_tell_257 (lv_at hl 6 rfl) ?_
        refine lv_iadd hx hb dX5_tell_259 ?_
        refine lv_iload hx hb dX5_tell_260 (lv_at hl 5 rfl) ?_
        refine lv_if_eq (tgt := 270) hx hb dX5_tell_262 (by decide) (fun cq => ?_) (fun cq => ?_)
        · have h := h.1 cq
          refine lv_iload hx hb dX5_tell_270 (lv_at hl 8 rfl) ?_
          exact L272 v4 v6 v8 v10 v11 v14 (((2 : Int32) * p0) + v11) y249 rRi _ _ _ h hP hD hS (lv_sub hl [0, 1, 2, 3, 4, 5, 6] rfl)
        · have h := h.2 cq
          refine lv_iload hx hb dX5_tell_265 (lv_at hl 7 rfl) ?_
          refine lv_goto (tgt := 272) hx hb dX5_tell_267 (by decide) ?_
          exact L272 v4 v6 v8 v10 v11 v13 (((2 : Int32) * p0) + v11) y249 rRi _ _ _ h hP hD hS (lv_sub hl [0, 1, 2, 3, 4, 5, 6] rfl)
      have L225 : ∀ (v4 : Int64) (v6 : Int64) (v8 : Int64) (v10 : Int32) (v11 : Int32) (v13 : Int32) (z0 : Int32) (rLe : Nat → Int32) (rRi : Nat → Int32) (H : Heap) (locs : List Loc) (ls : Array Slot), wp_X5_tell_L225 p0 rE rAx rAy rBx rBy rO rPx rPy rPd rFi rLa rOn Q (wp_X5_tell_L145 p0 rE rAx rAy rBx rBy rO rPx rPy rPd rFi rLa rOn Q  n145) v4 v6 v8 v10 v11 v13 z0 rLe rRi → va_P D vwCl (wR k aR rF rS rVx rVy rMd rE rAx rAy rBx rBy rO rP rPx rPy rPd rQ rFi rLa rOn rLe rRi rHx rHy rHd rKx rKy rKd) H → va_D A (wR k aR rF rS rVx rVy rMd rE rAx rAy rBx rBy rO rP rPx rPy rPd rQ rFi rLa rOn rLe rRi rHx rHy rHd rKx rKy rKd) → va_S A s.heap H locs → lv_has ls 15 [(0, .ref (aR 0)), (1, .int p0), (4, .long v4), (6, .long v6), (8, .long v8), (10, .int v10), (11, .int v11), (13, .int v13)] → W p l e (headSpec wsX5_tell ({ frames := 2, cells := 0, slots := 0, locals := 61 })).room s m args below meth c H locs 0 0 GQ (F0 m 225 ls [.int z0]) := by
        intro v4 v6 v8 v10 v11 v13 z0 rLe rRi H locs ls h hP hD hS hl
        unfold wp_X5_tell_L225 at h
        refine lv_istore (lv' := [(14, .int z0), (0, .ref (aR 0)), (1, .int p0), (4, .long v4), (6, .long v6), (8, .long v8), (10, .int v10), (11, .int v11), (13, .int v13)]) hx hb dX5_tell_225 hl (by decide) rfl (fun ls hl => ?_)
        refine lv_aload_n hx hb dX5_tell_227 rfl (lv_at hl 1 rfl) ?_
        refine va_get (D := D) (ci := 5) (v := .ref (aR 15)) (C := RX5) (T := TX5) (N := 27) hx hb hts hiX5 hown hK hP 0 rfl rfl 19 (by decide) f52 (fun _ h9 => h9) rfl dX5_tell_228 ?_
        refine lv_iconst (v := (2 : Int32)) hx hb dX5_tell_231 (by decide) ?_
        refine lv_iload_n hx hb dX5_tell_232 rfl (lv_at hl 2 rfl) ?_
        refine lv_imul hx hb dX5_tell_233 ?_
        refine lv_iload hx hb dX5_tell_234 (lv_at hl 7 rfl) ?_
        refine lv_iadd hx hb dX5_tell_236 ?_
        refine lv_iload hx hb dX5_tell_237 (lv_at hl 6 rfl) ?_
        refine lv_if_eq (tgt := 247) hx hb dX5_tell_239 (by decide) (fun cq => ?_) (fun cq => ?_)
        · have h := h.1 cq
          refine lv_iload hx hb dX5_tell_247 (lv_at hl 8 rfl) ?_
          exact L249 v4 v6 v8 v10 v11 v13 z0 v13 (((2 : Int32) * p0) + v11) rLe rRi _ _ _ h hP hD hS (lv_sub hl [1, 2, 3, 4, 5, 6, 7, 8, 0] rfl)
        · have h := h.2 cq
          refine lv_iload hx hb dX5_tell_242 (lv_at hl 0 rfl) ?_
          refine lv_goto (tgt := 249) hx hb dX5_tell_244 (by decide) ?_
          exact L249 v4 v6 v8 v10 v11 v13 z0 z0 (((2 : Int32) * p0) + v11) rLe rRi _ _ _ h hP hD hS (lv_sub hl [1, 2, 3, 4, 5, 6, 7, 8, 0] rfl)
      have L198 : ∀ (v4 : Int64) (v6 : Int64) (v8 : Int64) (v10 : Int32) (v11 : Int32) (v12 : Int32) (z0 : Int32) (rLe : Nat → Int32) (rRi : Nat → Int32) (H : Heap) (locs : List Loc) (ls : Array Slot), wp_X5_tell_L198 p0 rE rAx rAy rBx rBy rO rPx rPy rPd rFi rLa rOn Q (wp_X5_tell_L145 p0 rE rAx rAy rBx rBy rO rPx rPy rPd rFi rLa rOn Q  n145) v4 v6 v8 v10 v11 v12 z0 rLe rRi → va_P D vwCl (wR k aR rF rS rVx rVy rMd rE rAx rAy rBx rBy rO rP rPx rPy rPd rQ rFi rLa rOn rLe rRi rHx rHy rHd rKx rKy rKd) H → va_D A (wR k aR rF rS rVx rVy rMd rE rAx rAy rBx rBy rO rP rPx rPy rPd rQ rFi rLa rOn rLe rRi rHx rHy rHd rKx rKy rKd) → va_S A s.heap H locs → lv_has ls 15 [(0, .ref (aR 0)), (1, .int p0), (4, .long v4), (6, .long v6), (8, .long v8), (10, .int v10), (11, .int v11), (12, .int v12)] → W p l e (headSpec wsX5_tell ({ frames := 2, cells := 0, slots := 0, locals := 61 })).room s m args below meth c H locs 0 0 GQ (F0 m 198 ls [.int z0]) := by
        intro v4 v6 v8 v10 v11 v12 z0 rLe rRi H locs ls h hP hD hS hl
        unfold wp_X5_tell_L198 at h
        refine lv_istore (lv' := [(13, .int z0), (0, .ref (aR 0)), (1, .int p0), (4, .long v4), (6, .long v6), (8, .long v8), (10, .int v10), (11, .int v11), (12, .int v12)]) hx hb dX5_tell_198 hl (by decide) rfl (fun ls hl => ?_)
        refine lv_iload hx hb dX5_tell_200 (lv_at hl 8 rfl) ?_
        refine lv_aload_n hx hb dX5_tell_202 rfl (lv_at hl 1 rfl) ?_
        refine va_get (D := D) (ci := 5) (v := .ref (aR 14)) (C := RX5) (T := TX5) (N := 27) hx hb hts hiX5 hown hK hP 0 rfl rfl 18 (by decide) f49 (fun _ h9 => h9) rfl dX5_tell_203 ?_
        refine lv_iconst (v := (2 : Int32)) hx hb dX5_tell_206 (by decide) ?_
        refine lv_iload_n hx hb dX5_tell_207 rfl (lv_at hl 2 rfl) ?_
        refine lv_imul hx hb dX5_tell_208 ?_
        refine lv_iload hx hb dX5_tell_209 (lv_at hl 7 rfl) ?_
        refine lv_iadd hx hb dX5_tell_211 ?_
        obtain ⟨hin, h⟩ := h
        refine va_iald hx hb hK hP 14 0 rfl rfl hin dX5_tell_212 ?_
        refine lv_iadd hx hb dX5_tell_213 ?_
        refine lv_iconst (v := (2 : Int32)) hx hb dX5_tell_214 (by decide) ?_
        obtain ⟨hne, h⟩ := h
        refine lv_irem hx hb dX5_tell_215 hne ?_
        refine lv_iconst (v := (1 : Int32)) hx hb dX5_tell_216 (by decide) ?_
        refine lv_icmp_ne (tgt := 224) hx hb dX5_tell_217 (by decide) (fun cq => ?_) (fun cq => ?_)
        · have h := h.1 cq
          refine lv_iconst (v := (0 : Int32)) hx hb dX5_tell_224 (by decide) ?_
          exact L225 v4 v6 v8 v10 v11 z0 (0 : Int32) rLe rRi _ _ _ h hP hD hS (lv_sub hl [1, 2, 3, 4, 5, 6, 7, 0] rfl)
        · have h := h.2 cq
          refine lv_iconst (v := (1 : Int32)) hx hb dX5_tell_220 (by decide) ?_
          refine lv_goto (tgt := 225) hx hb dX5_tell_221 (by decide) ?_
          exact L225 v4 v6 v8 v10 v11 z0 (1 : Int32) rLe rRi _ _ _ h hP hD hS (lv_sub hl [1, 2, 3, 4, 5, 6, 7, 0] rfl)
      have L183 : ∀ (v4 : Int64) (v6 : Int64) (v8 : Int64) (v10 : Int32) (v11 : Int32) (z0 : Int32) (rLe : Nat → Int32) (rRi : Nat → Int32) (H : Heap) (locs : List Loc) (ls : Array Slot), wp_X5_tell_L183 p0 rE rAx rAy rBx rBy rO rPx rPy rPd rFi rLa rOn Q (wp_X5_tell_L145 p0 rE rAx rAy rBx rBy rO rPx rPy rPd rFi rLa rOn Q  n145) v4 v6 v8 v10 v11 z0 rLe rRi → va_P D vwCl (wR k aR rF rS rVx rVy rMd rE rAx rAy rBx rBy rO rP rPx rPy rPd rQ rFi rLa rOn rLe rRi rHx rHy rHd rKx rKy rKd) H → va_D A (wR k aR rF rS rVx rVy rMd rE rAx rAy rBx rBy rO rP rPx rPy rPd rQ rFi rLa rOn rLe rRi rHx rHy rHd rKx rKy rKd) → va_S A s.heap H locs → lv_has ls 15 [(0, .ref (aR 0)), (1, .int p0), (4, .long v4), (6, .long v6), (8, .long v8), (10, .int v10), (11, .int v11)] → W p l e (headSpec wsX5_tell ({ frames := 2, cells := 0, slots := 0, locals := 61 })).room s m args below meth c H locs 0 0 GQ (F0 m 183 ls [.int z0]) := by
        intro v4 v6 v8 v10 v11 z0 rLe rRi H locs ls h hP hD hS hl
        unfold wp_X5_tell_L183 at h
        refine lv_istore (lv' := [(12, .int z0), (0, .ref (aR 0)), (1, .int p0), (4, .long v4), (6, .long v6), (8, .long v8), (10, .int v10), (11, .int v11)]) hx hb dX5_tell_183 hl (by decide) rfl (fun ls hl => ?_)
        refine lv_iload hx hb dX5_tell_185 (lv_at hl 0 rfl) ?_
        refine lv_iconst (v := (2 : Int32)) hx hb dX5_tell_187 (by decide) ?_
        obtain ⟨hne, h⟩ := h
        refine lv_irem hx hb dX5_tell_188 hne ?_
        refine lv_iconst (v := (1 : Int32)) hx hb dX5_tell_189 (by decide) ?_
        refine lv_icmp_ne (tgt := 197) hx hb dX5_tell_190 (by decide) (fun cq => ?_) (fun cq => ?_)
        · have h := h.1 cq
          refine lv_iconst (v := (0 : Int32)) hx hb dX5_tell_197 (by decide) ?_
          exact L198 v4 v6 v8 v10 v11 z0 (0 : Int32) rLe rRi _ _ _ h hP hD hS (lv_sub hl [1, 2, 3, 4, 5, 6, 7, 0] rfl)
        · have h := h.2 cq
          refine lv_iconst (v := (1 : Int32)) hx hb dX5_tell_193 (by decide) ?_
          refine lv_goto (tgt := 198) hx hb dX5_tell_194 (by decide) ?_
          exact L198 v4 v6 v8 v10 v11 z0 (1 : Int32) rLe rRi _ _ _ h hP hD hS (lv_sub hl [1, 2, 3, 4, 5, 6, 7, 0] rfl)
      intro v4 v6 v8 v10 v11 rLe rRi H locs ls h hP hD hS hl
      rw [wp_X5_tell_L145] at h
      refine lv_iload hx hb dX5_tell_145 (lv_at hl 6 rfl) ?_
      refine lv_iconst (v := (2 : Int32)) hx hb dX5_tell_147 (by decide) ?_
      refine lv_icmp_ge (tgt := 279) hx hb dX5_tell_148 (by decide) (fun cq => ?_) (fun cq => ?_)
      · have h := h.1 cq
        rw [hGQ]
        exact W.vret hx hb hr (fun t ht hW => ⟨⟨(rLe, rRi), rfl, h, by rw [ht]; exact hP, hD⟩, hS.F ht⟩) hS.2.2 dX5_tell_279
      · have h := h.2 cq
        refine lv_iload hx hb dX5_tell_151 (lv_at hl 5 rfl) ?_
        refine lv_if_eq (tgt := 171) hx hb dX5_tell_153 (by decide) (fun cq => ?_) (fun cq => ?_)
        · have h := h.1 cq
          refine lv_aload_n hx hb dX5_tell_171 rfl (lv_at hl 0 rfl) ?_
          refine lv_iload hx hb dX5_tell_172 (lv_at hl 6 rfl) ?_
          refine lv_lload hx hb dX5_tell_174 (lv_at hl 3 rfl) ?_
          refine lv_lload hx hb dX5_tell_176 (lv_at hl 4 rfl) ?_
          refine lv_lload hx hb dX5_tell_178 (lv_at hl 2 rfl) ?_
          refine vp_callSi (W.runV (C := RX5) (b := (aR 0)) (As := [.int v11, .long v6, .long v8, .long v4]) (rest := []) ⟨hx, hb, hml, hown, hts⟩ (m_X5_above l D k aR rF rS rVx rVy rMd rE rAx rAy rBx rBy rO rP rPx rPy rPd rQ rFi rLa rOn rLe rRi rHx rHy rHd rKx rKy rKd v11 v6 v8 v4 _ h) (cwV 4 hts gX5_tell_X5_above rfl rfl rfl (by decide +kernel) ⟨Nat.le_of_ble_eq_true rfl, Nat.le_of_ble_eq_true rfl⟩) (preV_ro (ci := 5) (q0 := 0) (C := RX5) (T := TX5) (N := 27) hE hP rfl rfl) rfl rfl hl.1 rfl (lv_room (Nat.le_of_ble_eq_true rfl)) dX5_tell_180 ⟨Nat.le_of_ble_eq_true rfl, Nat.le_of_ble_eq_true rfl⟩) (fun r180 h => ?_)
          exact L183 v4 v6 v8 v10 v11 r180 rLe rRi _ _ _ h hP hD hS (lv_sub hl [0, 1, 2, 3, 4, 5, 6] rfl)
        · have h := h.2 cq
          refine lv_aload_n hx hb dX5_tell_156 rfl (lv_at hl 0 rfl) ?_
          refine lv_iload hx hb dX5_tell_157 (lv_at hl 6 rfl) ?_
          refine lv_lload hx hb dX5_tell_159 (lv_at hl 3 rfl) ?_
          refine lv_lload hx hb dX5_tell_161 (lv_at hl 4 rfl) ?_
          refine lv_lload hx hb dX5_tell_163 (lv_at hl 2 rfl) ?_
          refine vp_callSi (W.runV (C := RX5) (b := (aR 0)) (As := [.int v11, .long v6, .long v8, .long v4]) (rest := []) ⟨hx, hb, hml, hown, hts⟩ (m_X5_beside l D k aR rF rS rVx rVy rMd rE rAx rAy rBx rBy rO rP rPx rPy rPd rQ rFi rLa rOn rLe rRi rHx rHy rHd rKx rKy rKd v11 v6 v8 v4 _ h) (cwV 4 hts gX5_tell_X5_beside rfl rfl rfl (by decide +kernel) ⟨Nat.le_of_ble_eq_true rfl, Nat.le_of_ble_eq_true rfl⟩) (preV_ro (ci := 5) (q0 := 0) (C := RX5) (T := TX5) (N := 27) hE hP rfl rfl) rfl rfl hl.1 rfl (lv_room (Nat.le_of_ble_eq_true rfl)) dX5_tell_165 ⟨Nat.le_of_ble_eq_true rfl, Nat.le_of_ble_eq_true rfl⟩) (fun r165 h => ?_)
          refine lv_goto (tgt := 183) hx hb dX5_tell_168 (by decide) ?_
          exact L183 v4 v6 v8 v10 v11 r165 rLe rRi _ _ _ h hP hD hS (lv_sub hl [0, 1, 2, 3, 4, 5, 6] rfl)
  have L140 : ∀ (v4 : Int64) (v6 : Int64) (v8 : Int64) (z0 : Int32) (rLe : Nat → Int32) (rRi : Nat → Int32) (H : Heap) (locs : List Loc) (ls : Array Slot), wp_X5_tell_L140 p0 rE rAx rAy rBx rBy rO rPx rPy rPd rFi rLa rOn Q  v4 v6 v8 z0 rLe rRi → va_P D vwCl (wR k aR rF rS rVx rVy rMd rE rAx rAy rBx rBy rO rP rPx rPy rPd rQ rFi rLa rOn rLe rRi rHx rHy rHd rKx rKy rKd) H → va_D A (wR k aR rF rS rVx rVy rMd rE rAx rAy rBx rBy rO rP rPx rPy rPd rQ rFi rLa rOn rLe rRi rHx rHy rHd rKx rKy rKd) → va_S A s.heap H locs → lv_has ls 15 [(0, .ref (aR 0)), (1, .int p0), (4, .long v4), (6, .long v6), (8, .long v8)] → W p l e (headSpec wsX5_tell ({ frames := 2, cells := 0, slots := 0, locals := 61 })).room s m args below meth c H locs 0 0 GQ (F0 m 140 ls [.int z0]) := by
    intro v4 v6 v8 z0 rLe rRi H locs ls h hP hD hS hl
    unfold wp_X5_tell_L140 at h
    refine lv_istore (lv' := [(10, .int z0), (0, .ref (aR 0)), (1, .int p0), (4, .long v4), (6, .long v6), (8, .long v8)]) hx hb dX5_tell_140 hl (by decide) rfl (fun ls hl => ?_)
    refine lv_iconst (v := (0 : Int32)) hx hb dX5_tell_142 (by decide) ?_
    refine lv_istore (lv' := [(11, .int (0 : Int32)), (10, .int z0), (0, .ref (aR 0)), (1, .int p0), (4, .long v4), (6, .long v6), (8, .long v8)]) hx hb dX5_tell_143 hl (by decide) rfl (fun ls hl => ?_)
    obtain ⟨n9, h⟩ := h
    exact L145 n9 v4 v6 v8 z0 (0 : Int32) rLe rRi _ _ _ h hP hD hS (lv_sub hl [2, 3, 4, 5, 6, 1, 0] rfl)
  unfold wp_X5_tell at h
  refine lv_aload_n hx hb dX5_tell_0 rfl (lv_at hl 0 rfl) ?_
  refine va_get (D := D) (ci := 5) (v := .ref (aR 12)) (C := RX5) (T := TX5) (N := 27) hx hb hts hiX5 hown hK hP 0 rfl rfl 16 (by decide) f43 (fun _ h9 => h9) rfl dX5_tell_1 ?_
  refine lv_iload_n hx hb dX5_tell_4 rfl (lv_at hl 1 rfl) ?_
  obtain ⟨hin, h⟩ := h
  refine va_iald hx hb hK hP 12 0 rfl rfl hin dX5_tell_5 ?_
  refine lv_topi (fun x6 ex6 => ?_)
  have h := h x6 ex6
  refine lv_istore_n (lv' := [(2, .int x6), (0, .ref (aR 0)), (1, .int p0)]) hx hb dX5_tell_6 rfl hl (by decide) rfl (fun ls hl => ?_)
  refine lv_aload_n hx hb dX5_tell_7 rfl (lv_at hl 1 rfl) ?_
  refine va_get (D := D) (ci := 5) (v := .ref (aR 13)) (C := RX5) (T := TX5) (N := 27) hx hb hts hiX5 hown hK hP 0 rfl rfl 17 (by decide) f46 (fun _ h9 => h9) rfl dX5_tell_8 ?_
  refine lv_iload_n hx hb dX5_tell_11 rfl (lv_at hl 2 rfl) ?_
  obtain ⟨hin, h⟩ := h
  refine va_iald hx hb hK hP 13 0 rfl rfl hin dX5_tell_12 ?_
  refine lv_topi (fun x13 ex13 => ?_)
  have h := h x13 ex13
  refine lv_istore_n (lv' := [(3, .int x13), (2, .int x6), (0, .ref (aR 0)), (1, .int p0)]) hx hb dX5_tell_13 rfl hl (by decide) rfl (fun ls hl => ?_)
  refine lv_ldc2 (v := (2 : Int64)) hx hb hown k123 dX5_tell_14 ?_
  refine lv_aload_n hx hb dX5_tell_17 rfl (lv_at hl 2 rfl) ?_
  refine va_get (D := D) (ci := 5) (v := .ref (aR 11)) (C := RX5) (T := TX5) (N := 27) hx hb hts hiX5 hown hK hP 0 rfl rfl 14 (by decide) f40 (fun _ h9 => h9) rfl dX5_tell_18 ?_
  refine lv_iload_n hx hb dX5_tell_21 rfl (lv_at hl 1 rfl) ?_
  obtain ⟨hin, h⟩ := h
  refine va_iald hx hb hK hP 11 0 rfl rfl hin dX5_tell_22 ?_
  refine lv_i2l hx hb dX5_tell_23 rfl ?_
  refine lv_lmul hx hb dX5_tell_24 ?_
  refine lv_aload_n hx hb dX5_tell_25 rfl (lv_at hl 2 rfl) ?_
  refine va_get (D := D) (ci := 5) (v := .ref (aR 11)) (C := RX5) (T := TX5) (N := 27) hx hb hts hiX5 hown hK hP 0 rfl rfl 14 (by decide) f40 (fun _ h9 => h9) rfl dX5_tell_26 ?_
  refine lv_iload_n hx hb dX5_tell_29 rfl (lv_at hl 0 rfl) ?_
  obtain ⟨hin, h⟩ := h
  refine va_iald hx hb hK hP 11 0 rfl rfl hin dX5_tell_30 ?_
  refine lv_i2l hx hb dX5_tell_31 rfl ?_
  refine lv_lmul hx hb dX5_tell_32 ?_
  refine lv_topl (fun x33 ex33 => ?_)
  have h := h x33 ex33
  refine lv_lstore (lv' := [(4, .long x33), (3, .int x13), (2, .int x6), (0, .ref (aR 0)), (1, .int p0)]) hx hb dX5_tell_33 hl (by decide) rfl (fun ls hl => ?_)
  refine lv_aload_n hx hb dX5_tell_35 rfl (lv_at hl 3 rfl) ?_
  refine va_get (D := D) (ci := 5) (v := .ref (aR 9)) (C := RX5) (T := TX5) (N := 27) hx hb hts hiX5 hown hK hP 0 rfl rfl 12 (by decide) f34 (fun _ h9 => h9) rfl dX5_tell_36 ?_
  refine lv_iload_n hx hb dX5_tell_39 rfl (lv_at hl 2 rfl) ?_
  obtain ⟨hin, h⟩ := h
  refine va_iald hx hb hK hP 9 0 rfl rfl hin dX5_tell_40 ?_
  refine lv_i2l hx hb dX5_tell_41 rfl ?_
  refine lv_aload_n hx hb dX5_tell_42 rfl (lv_at hl 3 rfl) ?_
  refine va_get (D := D) (ci := 5) (v := .ref (aR 11)) (C := RX5) (T := TX5) (N := 27) hx hb hts hiX5 hown hK hP 0 rfl rfl 14 (by decide) f40 (fun _ h9 => h9) rfl dX5_tell_43 ?_
  refine lv_iload_n hx hb dX5_tell_46 rfl (lv_at hl 1 rfl) ?_
  obtain ⟨hin, h⟩ := h
  refine va_iald hx hb hK hP 11 0 rfl rfl hin dX5_tell_47 ?_
  refine lv_i2l hx hb dX5_tell_48 rfl ?_
  refine lv_lmul hx hb dX5_tell_49 ?_
  refine lv_aload_n hx hb dX5_tell_50 rfl (lv_at hl 3 rfl) ?_
  refine va_get (D := D) (ci := 5) (v := .ref (aR 9)) (C := RX5) (T := TX5) (N := 27) hx hb hts hiX5 hown hK hP 0 rfl rfl 12 (by decide) f34 (fun _ h9 => h9) rfl dX5_tell_51 ?_
  refine lv_iload_n hx hb dX5_tell_54 rfl (lv_at hl 1 rfl) ?_
  obtain ⟨hin, h⟩ := h
  refine va_iald hx hb hK hP 9 0 rfl rfl hin dX5_tell_55 ?_
  refine lv_i2l hx hb dX5_tell_56 rfl ?_
  refine lv_aload_n hx hb dX5_tell_57 rfl (lv_at hl 3 rfl) ?_
  refine va_get (D := D) (ci := 5) (v := .ref (aR 11)) (C := RX5) (T := TX5) (N := 27) hx hb hts hiX5 hown hK hP 0 rfl rfl 14 (by decide) f40 (fun _ h9 => h9) rfl dX5_tell_58 ?_
  refine lv_iload_n hx hb dX5_tell_61 rfl (lv_at hl 2 rfl) ?_
  obtain ⟨hin, h⟩ := h
  refine va_iald hx hb hK hP 11 0 rfl rfl hin dX5_tell_62 ?_
  refine lv_i2l hx hb dX5_tell_63 rfl ?_
  refine lv_lmul hx hb dX5_tell_64 ?_
  refine lv_ladd hx hb dX5_tell_65 ?_
  refine lv_topl (fun x66 ex66 => ?_)
  have h := h x66 ex66
  refine lv_lstore (lv' := [(6, .long x66), (4, .long x33), (3, .int x13), (2, .int x6), (0, .ref (aR 0)), (1, .int p0)]) hx hb dX5_tell_66 hl (by decide) rfl (fun ls hl => ?_)
  refine lv_aload_n hx hb dX5_tell_68 rfl (lv_at hl 4 rfl) ?_
  refine va_get (D := D) (ci := 5) (v := .ref (aR 10)) (C := RX5) (T := TX5) (N := 27) hx hb hts hiX5 hown hK hP 0 rfl rfl 13 (by decide) f37 (fun _ h9 => h9) rfl dX5_tell_69 ?_
  refine lv_iload_n hx hb dX5_tell_72 rfl (lv_at hl 3 rfl) ?_
  obtain ⟨hin, h⟩ := h
  refine va_iald hx hb hK hP 10 0 rfl rfl hin dX5_tell_73 ?_
  refine lv_i2l hx hb dX5_tell_74 rfl ?_
  refine lv_aload_n hx hb dX5_tell_75 rfl (lv_at hl 4 rfl) ?_
  refine va_get (D := D) (ci := 5) (v := .ref (aR 11)) (C := RX5) (T := TX5) (N := 27) hx hb hts hiX5 hown hK hP 0 rfl rfl 14 (by decide) f40 (fun _ h9 => h9) rfl dX5_tell_76 ?_
  refine lv_iload_n hx hb dX5_tell_79 rfl (lv_at hl 2 rfl) ?_
  obtain ⟨hin, h⟩ := h
  refine va_iald hx hb hK hP 11 0 rfl rfl hin dX5_tell_80 ?_
  refine lv_i2l hx hb dX5_tell_81 rfl ?_
  refine lv_lmul hx hb dX5_tell_82 ?_
  refine lv_aload_n hx hb dX5_tell_83 rfl (lv_at hl 4 rfl) ?_
  refine va_get (D := D) (ci := 5) (v := .ref (aR 10)) (C := RX5) (T := TX5) (N := 27) hx hb hts hiX5 hown hK hP 0 rfl rfl 13 (by decide) f37 (fun _ h9 => h9) rfl dX5_tell_84 ?_
  refine lv_iload_n hx hb dX5_tell_87 rfl (lv_at hl 2 rfl) ?_
  obtain ⟨hin, h⟩ := h
  refine va_iald hx hb hK hP 10 0 rfl rfl hin dX5_tell_88 ?_
  refine lv_i2l hx hb dX5_tell_89 rfl ?_
  refine lv_aload_n hx hb dX5_tell_90 rfl (lv_at hl 4 rfl) ?_
  refine va_get (D := D) (ci := 5) (v := .ref (aR 11)) (C := RX5) (T := TX5) (N := 27) hx hb hts hiX5 hown hK hP 0 rfl rfl 14 (by decide) f40 (fun _ h9 => h9) rfl dX5_tell_91 ?_
  refine lv_iload_n hx hb dX5_tell_94 rfl (lv_at hl 3 rfl) ?_
  obtain ⟨hin, h⟩ := h
  refine va_iald hx hb hK hP 11 0 rfl rfl hin dX5_tell_95 ?_
  refine lv_i2l hx hb dX5_tell_96 rfl ?_
  refine lv_lmul hx hb dX5_tell_97 ?_
  refine lv_ladd hx hb dX5_tell_98 ?_
  refine lv_topl (fun x99 ex99 => ?_)
  have h := h x99 ex99
  refine lv_lstore (lv' := [(8, .long x99), (6, .long x66), (4, .long x33), (3, .int x13), (2, .int x6), (0, .ref (aR 0)), (1, .int p0)]) hx hb dX5_tell_99 hl (by decide) rfl (fun ls hl => ?_)
  refine lv_aload_n hx hb dX5_tell_101 rfl (lv_at hl 5 rfl) ?_
  refine va_get (D := D) (ci := 5) (v := .ref (aR 9)) (C := RX5) (T := TX5) (N := 27) hx hb hts hiX5 hown hK hP 0 rfl rfl 12 (by decide) f34 (fun _ h9 => h9) rfl dX5_tell_102 ?_
  refine lv_iload_n hx hb dX5_tell_105 rfl (lv_at hl 4 rfl) ?_
  obtain ⟨hin, h⟩ := h
  refine va_iald hx hb hK hP 9 0 rfl rfl hin dX5_tell_106 ?_
  refine lv_i2l hx hb dX5_tell_107 rfl ?_
  refine lv_aload_n hx hb dX5_tell_108 rfl (lv_at hl 5 rfl) ?_
  refine va_get (D := D) (ci := 5) (v := .ref (aR 11)) (C := RX5) (T := TX5) (N := 27) hx hb hts hiX5 hown hK hP 0 rfl rfl 14 (by decide) f40 (fun _ h9 => h9) rfl dX5_tell_109 ?_
  refine lv_iload_n hx hb dX5_tell_112 rfl (lv_at hl 3 rfl) ?_
  obtain ⟨hin, h⟩ := h
  refine va_iald hx hb hK hP 11 0 rfl rfl hin dX5_tell_113 ?_
  refine lv_i2l hx hb dX5_tell_114 rfl ?_
  refine lv_lmul hx hb dX5_tell_115 ?_
  refine lv_aload_n hx hb dX5_tell_116 rfl (lv_at hl 5 rfl) ?_
  refine va_get (D := D) (ci := 5) (v := .ref (aR 9)) (C := RX5) (T := TX5) (N := 27) hx hb hts hiX5 hown hK hP 0 rfl rfl 12 (by decide) f34 (fun _ h9 => h9) rfl dX5_tell_117 ?_
  refine lv_iload_n hx hb dX5_tell_120 rfl (lv_at hl 3 rfl) ?_
  obtain ⟨hin, h⟩ := h
  refine va_iald hx hb hK hP 9 0 rfl rfl hin dX5_tell_121 ?_
  refine lv_i2l hx hb dX5_tell_122 rfl ?_
  refine lv_aload_n hx hb dX5_tell_123 rfl (lv_at hl 5 rfl) ?_
  refine va_get (D := D) (ci := 5) (v := .ref (aR 11)) (C := RX5) (T := TX5) (N := 27) hx hb hts hiX5 hown hK hP 0 rfl rfl 14 (by decide) f40 (fun _ h9 => h9) rfl dX5_tell_124 ?_
  refine lv_iload_n hx hb dX5_tell_127 rfl (lv_at hl 4 rfl) ?_
  obtain ⟨hin, h⟩ := h
  refine va_iald hx hb hK hP 11 0 rfl rfl hin dX5_tell_128 ?_
  refine lv_i2l hx hb dX5_tell_129 rfl ?_
  refine lv_lmul hx hb dX5_tell_130 ?_
  refine W.lcmp hx hb dX5_tell_131 ?_
  refine lv_if_ne (tgt := 139) hx hb dX5_tell_132 (by decide) (fun cq => ?_) (fun cq => ?_)
  · have h := h.1 (fun q => cq ((lg_cmp_eq _ _).mpr q))
    refine lv_iconst (v := (0 : Int32)) hx hb dX5_tell_139 (by decide) ?_
    exact L140 x33 x66 x99 (0 : Int32) rLe rRi _ _ _ h hP hD hS (lv_sub hl [5, 6, 2, 1, 0] rfl)
  · have h := h.2 ((lg_cmp_eq _ _).mp cq)
    refine lv_iconst (v := (1 : Int32)) hx hb dX5_tell_135 (by decide) ?_
    refine lv_goto (tgt := 140) hx hb dX5_tell_136 (by decide) ?_
    exact L140 x33 x66 x99 (1 : Int32) rLe rRi _ _ _ h hP hD hS (lv_sub hl [5, 6, 2, 1, 0] rfl)
set_option maxHeartbeats 4000000 in
set_option maxRecDepth 100000 in
theorem m_X5_overlay (l : Launch) (D : va_G) (k : Nat → ClassId) (aR : Nat → Nat) (rF : Int32) (rS : Nat → Int32) (rVx : Nat → Int32) (rVy : Nat → Int32) (rMd : Int32) (rE : Int32) (rAx : Nat → Int32) (rAy : Nat → Int32) (rBx : Nat → Int32) (rBy : Nat → Int32) (rO : Nat → Int32) (rP : Int32) (rPx : Nat → Int32) (rPy : Nat → Int32) (rPd : Nat → Int32) (rQ : Int32) (rFi : Nat → Int32) (rLa : Nat → Int32) (rOn : Nat → Int32) (rLe : Nat → Int32) (rRi : Nat → Int32) (rHx : Int64) (rHy : Int64) (rHd : Int64) (rKx : Int64) (rKy : Int64) (rKd : Int64)  (Q : Int32 → (Int32) → (Int32) → (Int32) → (Nat → Int32) → (Nat → Int32) → (Nat → Int32) → (Nat → Int32) → (Nat → Int32) → (Int32) → (Nat → Int32) → (Nat → Int32) → (Nat → Int32) → (Int32) → (Nat → Int32) → (Nat → Int32) → (Nat → Int32) → (Nat → Int32) → (Nat → Int32) → (Int64) → (Int64) → (Int64) → (Int64) → (Int64) → (Int64) → Prop) (sz : Nat) (h : wp_X5_overlay rF rS rVx rVy rMd rE rAx rAy rBx rBy rO rP rPx rPy rPd rQ rFi rLa rOn rLe rRi rHx rHy rHd rKx rKy rKd Q) : Met l yX5_overlay wsX5_overlay ({ frames := 3, cells := 0, slots := 0, locals := 98 }) (Prw D k [.ref (aR 0)] (wR k aR rF rS rVx rVy rMd rE rAx rAy rBx rBy rO rP rPx rPy rPd rQ rFi rLa rOn rLe rRi rHx rHy rHd rKx rKy rKd) sz) (va_Qi (fun (r : Int32) (u : (Int32) × (Int32) × (Int32) × (Nat → Int32) × (Nat → Int32) × (Nat → Int32) × (Nat → Int32) × (Nat → Int32) × (Int32) × (Nat → Int32) × (Nat → Int32) × (Nat → Int32) × (Int32) × (Nat → Int32) × (Nat → Int32) × (Nat → Int32) × (Nat → Int32) × (Nat → Int32) × (Int64) × (Int64) × (Int64) × (Int64) × (Int64) × (Int64)) => Q r u.1 u.2.1 u.2.2.1 u.2.2.2.1 u.2.2.2.2.1 u.2.2.2.2.2.1 u.2.2.2.2.2.2.1 u.2.2.2.2.2.2.2.1 u.2.2.2.2.2.2.2.2.1 u.2.2.2.2.2.2.2.2.2.1 u.2.2.2.2.2.2.2.2.2.2.1 u.2.2.2.2.2.2.2.2.2.2.2.1 u.2.2.2.2.2.2.2.2.2.2.2.2.1 u.2.2.2.2.2.2.2.2.2.2.2.2.2.1 u.2.2.2.2.2.2.2.2.2.2.2.2.2.2.1 u.2.2.2.2.2.2.2.2.2.2.2.2.2.2.2.1 u.2.2.2.2.2.2.2.2.2.2.2.2.2.2.2.2.1 u.2.2.2.2.2.2.2.2.2.2.2.2.2.2.2.2.2.1 u.2.2.2.2.2.2.2.2.2.2.2.2.2.2.2.2.2.2.1 u.2.2.2.2.2.2.2.2.2.2.2.2.2.2.2.2.2.2.2.1 u.2.2.2.2.2.2.2.2.2.2.2.2.2.2.2.2.2.2.2.2.1 u.2.2.2.2.2.2.2.2.2.2.2.2.2.2.2.2.2.2.2.2.2.1 u.2.2.2.2.2.2.2.2.2.2.2.2.2.2.2.2.2.2.2.2.2.2.1 u.2.2.2.2.2.2.2.2.2.2.2.2.2.2.2.2.2.2.2.2.2.2.2) (fun (u : (Int32) × (Int32) × (Int32) × (Nat → Int32) × (Nat → Int32) × (Nat → Int32) × (Nat → Int32) × (Nat → Int32) × (Int32) × (Nat → Int32) × (Nat → Int32) × (Nat → Int32) × (Int32) × (Nat → Int32) × (Nat → Int32) × (Nat → Int32) × (Nat → Int32) × (Nat → Int32) × (Int64) × (Int64) × (Int64) × (Int64) × (Int64) × (Int64)) t => va_P D vwCl (wR k aR (u.1) rS rVx rVy (u.2.1) (u.2.2.1) (u.2.2.2.1) (u.2.2.2.2.1) (u.2.2.2.2.2.1) (u.2.2.2.2.2.2.1) (u.2.2.2.2.2.2.2.1) (u.2.2.2.2.2.2.2.2.1) (u.2.2.2.2.2.2.2.2.2.1) (u.2.2.2.2.2.2.2.2.2.2.1) (u.2.2.2.2.2.2.2.2.2.2.2.1) (u.2.2.2.2.2.2.2.2.2.2.2.2.1) (u.2.2.2.2.2.2.2.2.2.2.2.2.2.1) (u.2.2.2.2.2.2.2.2.2.2.2.2.2.2.1) (u.2.2.2.2.2.2.2.2.2.2.2.2.2.2.2.1) (u.2.2.2.2.2.2.2.2.2.2.2.2.2.2.2.2.1) (u.2.2.2.2.2.2.2.2.2.2.2.2.2.2.2.2.2.1) (u.2.2.2.2.2.2.2.2.2.2.2.2.2.2.2.2.2.2.1) (u.2.2.2.2.2.2.2.2.2.2.2.2.2.2.2.2.2.2.2.1) (u.2.2.2.2.2.2.2.2.2.2.2.2.2.2.2.2.2.2.2.2.1) (u.2.2.2.2.2.2.2.2.2.2.2.2.2.2.2.2.2.2.2.2.2.1) (u.2.2.2.2.2.2.2.2.2.2.2.2.2.2.2.2.2.2.2.2.2.2.1) (u.2.2.2.2.2.2.2.2.2.2.2.2.2.2.2.2.2.2.2.2.2.2.2)) t.heap ∧ va_D (va_A (wR k aR rF rS rVx rVy rMd rE rAx rAy rBx rBy rO rP rPx rPy rPd rQ rFi rLa rOn rLe rRi rHx rHy rHd rKx rKy rKd) sz) (wR k aR (u.1) rS rVx rVy (u.2.1) (u.2.2.1) (u.2.2.2.1) (u.2.2.2.2.1) (u.2.2.2.2.2.1) (u.2.2.2.2.2.2.1) (u.2.2.2.2.2.2.2.1) (u.2.2.2.2.2.2.2.2.1) (u.2.2.2.2.2.2.2.2.2.1) (u.2.2.2.2.2.2.2.2.2.2.1) (u.2.2.2.2.2.2.2.2.2.2.2.1) (u.2.2.2.2.2.2.2.2.2.2.2.2.1) (u.2.2.2.2.2.2.2.2.2.2.2.2.2.1) (u.2.2.2.2.2.2.2.2.2.2.2.2.2.2.1) (u.2.2.2.2.2.2.2.2.2.2.2.2.2.2.2.1) (u.2.2.2.2.2.2.2.2.2.2.2.2.2.2.2.2.1) (u.2.2.2.2.2.2.2.2.2.2.2.2.2.2.2.2.2.1) (u.2.2.2.2.2.2.2.2.2.2.2.2.2.2.2.2.2.2.1) (u.2.2.2.2.2.2.2.2.2.2.2.2.2.2.2.2.2.2.2.1) (u.2.2.2.2.2.2.2.2.2.2.2.2.2.2.2.2.2.2.2.2.1) (u.2.2.2.2.2.2.2.2.2.2.2.2.2.2.2.2.2.2.2.2.2.1) (u.2.2.2.2.2.2.2.2.2.2.2.2.2.2.2.2.2.2.2.2.2.2.1) (u.2.2.2.2.2.2.2.2.2.2.2.2.2.2.2.2.2.2.2.2.2.2.2))) (va_A (wR k aR rF rS rVx rVy rMd rE rAx rAy rBx rBy rO rP rPx rPy rPd rQ rFi rLa rOn rLe rRi rHx rHy rHd rKx rKy rKd) sz)) 0 0 (va_A (wR k aR rF rS rVx rVy rMd rE rAx rAy rBx rBy rO rP rPx rPy rPd rQ rFi rLa rOn rLe rRi rHx rHy rHd rKx rKy rKd) sz) := by
  refine Met.ofW (cc := cX5_overlay) (maxL := 3) (ret := (some .int)) (by decide) rfl ?_
  intro p e s m args below meth c s₁ B hml hv
  obtain ⟨hav, hsz, hP, hE, hD0⟩ := hv
  subst hsz
  have hx := B.exec
  have hb := B.bytes
  have hr := B.returns
  have hts := atoms_spec (ws := wsX5_overlay) B.pre
  have hown : s.vm.findClass RX5 = some m.cls := findClass_of_methodNamed B.named
  have hlocks := B.notSynchronized
  have hK := hE.1
  have hD := hD0.self (sz := s.heap.size)
  generalize hAe : va_A (wR k aR rF rS rVx rVy rMd rE rAx rAy rBx rBy rO rP rPx rPy rPd rQ rFi rLa rOn rLe rRi rHx rHy rHd rKx rKy rKd) s.heap.size = A at hD ⊢
  have hA : ∀ q : Nat, s.heap.size ≤ q → A q := fun q h => by rw [← hAe]; exact Or.inr h
  have hS : va_S A s.heap s.heap [] := va_S.rf
  have hl := lv_entry ([.ref (aR 0)]) (n := 3) (Nat.le_of_ble_eq_true rfl)
  rw [show entryFrame m args 3 = entryFrame m ([.ref (aR 0)] : List Value).toArray 3 by rw [hav]]
  rw [lg_entry_eq]
  refine W.gq (fun GQ hGQ => ?_)
  generalize (lg_sl ([.ref (aR 0)]) ++ List.replicate (3 - (lg_sl ([.ref (aR 0)])).length) Slot.unset).toArray = ls at hl ⊢
  have hl : lv_has ls 3 [(0, .ref (aR 0))] := hl
  have hiX5 := (by decide +kernel : ∀ w ∈ wsX50, w ∈ wsX5_overlay)
  have f116 := hts (.fieldLink RX5 116 "PlaneOverlayModel" "pieces" "I") (by decide +kernel)
  have f92 := hts (.fieldLink RX5 92 "PlaneOverlayModel" "edges" "I") (by decide +kernel)
  have f19 := hts (.fieldLink RX5 19 "PlaneOverlayModel" "ax" "[I") (by decide +kernel)
  have f70 := hts (.fieldLink RX5 70 "PlaneOverlayModel" "hx" "J") (by decide +kernel)
  have f22 := hts (.fieldLink RX5 22 "PlaneOverlayModel" "ay" "[I") (by decide +kernel)
  have f74 := hts (.fieldLink RX5 74 "PlaneOverlayModel" "hy" "J") (by decide +kernel)
  have f77 := hts (.fieldLink RX5 77 "PlaneOverlayModel" "hd" "J") (by decide +kernel)
  have f25 := hts (.fieldLink RX5 25 "PlaneOverlayModel" "bx" "[I") (by decide +kernel)
  have f28 := hts (.fieldLink RX5 28 "PlaneOverlayModel" "by" "[I") (by decide +kernel)
  have f7 := hts (.fieldLink RX5 7 "PlaneOverlayModel" "size" "[I") (by decide +kernel)
  have f59 := hts (.fieldLink RX5 59 "PlaneOverlayModel" "fault" "I") (by decide +kernel)
  have f132 := hts (.fieldLink RX5 132 "PlaneOverlayModel" "made" "Z") (by decide +kernel)
  have f67 := hts (.fieldLink RX5 67 "PlaneOverlayModel" "points" "I") (by decide +kernel)
  have L210 : ∀ (n210 : Nat) (v1 : Int32) (rF : Int32) (rMd : Int32) (rE : Int32) (rAx : Nat → Int32) (rAy : Nat → Int32) (rBx : Nat → Int32) (rBy : Nat → Int32) (rO : Nat → Int32) (rP : Int32) (rPx : Nat → Int32) (rPy : Nat → Int32) (rPd : Nat → Int32) (rQ : Int32) (rFi : Nat → Int32) (rLa : Nat → Int32) (rOn : Nat → Int32) (rLe : Nat → Int32) (rRi : Nat → Int32) (rHx : Int64) (rHy : Int64) (rHd : Int64) (rKx : Int64) (rKy : Int64) (rKd : Int64) (H : Heap) (locs : List Loc) (ls : Array Slot), wp_X5_overlay_L210 rS rVx rVy Q  n210 v1 rF rMd rE rAx rAy rBx rBy rO rP rPx rPy rPd rQ rFi rLa rOn rLe rRi rHx rHy rHd rKx rKy rKd → va_P D vwCl (wR k aR rF rS rVx rVy rMd rE rAx rAy rBx rBy rO rP rPx rPy rPd rQ rFi rLa rOn rLe rRi rHx rHy rHd rKx rKy rKd) H → va_D A (wR k aR rF rS rVx rVy rMd rE rAx rAy rBx rBy rO rP rPx rPy rPd rQ rFi rLa rOn rLe rRi rHx rHy rHd rKx rKy rKd) → va_S A s.heap H locs → lv_has ls 3 [(0, .ref (aR 0)), (1, .int v1)] → W p l e (headSpec wsX5_overlay ({ frames := 3, cells := 0, slots := 0, locals := 98 })).room s m args below meth c H locs 0 0 GQ (F0 m 210 ls []) := by
    intro n210
    induction n210 with
    | zero => intro v1 rF rMd rE rAx rAy rBx rBy rO rP rPx rPy rPd rQ rFi rLa rOn rLe rRi rHx rHy rHd rKx rKy rKd H locs ls h hP hD hS hl; exact False.elim h
    | succ n210 ih210 =>
      intro v1 rF rMd rE rAx rAy rBx rBy rO rP rPx rPy rPd rQ rFi rLa rOn rLe rRi rHx rHy rHd rKx rKy rKd H locs ls h hP hD hS hl
      rw [wp_X5_overlay_L210] at h
      refine lv_iload_n hx hb dX5_overlay_210 rfl (lv_at hl 1 rfl) ?_
      refine lv_aload_n hx hb dX5_overlay_211 rfl (lv_at hl 0 rfl) ?_
      refine va_get (D := D) (ci := 5) (v := .int rQ) (C := RX5) (T := TX5) (N := 27) hx hb hts hiX5 hown hK hP 0 rfl rfl 15 (by decide) f116 (fun _ h9 => h9) rfl dX5_overlay_212 ?_
      refine lv_icmp_ge (tgt := 229) hx hb dX5_overlay_215 (by decide) (fun cq => ?_) (fun cq => ?_)
      · have h := h.1 cq
        refine lv_aload_n hx hb dX5_overlay_229 rfl (lv_at hl 0 rfl) ?_
        refine va_get (D := D) (ci := 5) (v := .int rQ) (C := RX5) (T := TX5) (N := 27) hx hb hts hiX5 hown hK hP 0 rfl rfl 15 (by decide) f116 (fun _ h9 => h9) rfl dX5_overlay_230 ?_
        rw [hGQ]
        exact W.iret (v := rQ) hx hb hr (fun t ht hW => ⟨⟨_, (rF, rMd, rE, rAx, rAy, rBx, rBy, rO, rP, rPx, rPy, rPd, rQ, rFi, rLa, rOn, rLe, rRi, rHx, rHy, rHd, rKx, rKy, rKd), rfl, h, by rw [ht]; exact hP, hD⟩, hS.F ht⟩) hS.2.2 dX5_overlay_233
      · have h := h.2 cq
        refine lv_aload_n hx hb dX5_overlay_218 rfl (lv_at hl 0 rfl) ?_
        refine lv_iload_n hx hb dX5_overlay_219 rfl (lv_at hl 1 rfl) ?_
        have hFc := va_free (wc := wR k aR rF rS rVx rVy rMd rE rAx rAy rBx rBy rO rP rPx rPy rPd rQ rFi rLa rOn rLe rRi rHx rHy rHd rKx rKy rKd) hD hS hA [0, 1, 2, 3, 4, 5, 6, 7, 8, 9, 10, 11, 12, 13, 14, 15, 16] rfl
        refine va_callv (va_runV (C := RX5) (b := (aR 0)) (As := [.int v1]) (rest := []) ⟨hx, hb, hml, hown, hts⟩ (m_X5_tell l D k aR rF rS rVx rVy rMd rE rAx rAy rBx rBy rO rP rPx rPy rPd rQ rFi rLa rOn rLe rRi rHx rHy rHd rKx rKy rKd v1 _ _ h) (cwV 1 hts gX5_overlay_X5_tell rfl rfl rfl (by decide +kernel) ⟨Nat.le_of_ble_eq_true rfl, Nat.le_of_ble_eq_true rfl⟩) (preV_rw (ci := 5) (q0 := 0) (C := RX5) (T := TX5) (N := 27) hE hP hD rfl rfl) rfl rfl hl.1 rfl (lv_room (Nat.le_of_ble_eq_true rfl)) dX5_overlay_220 ⟨Nat.le_of_ble_eq_true rfl, Nat.le_of_ble_eq_true rfl⟩) hS (fun q _ h => hFc q h) hFc (fun u t H1 locs ht hvm h hB hz1 hk1 hS => ?_)
        obtain ⟨rLe_220, rRi_220⟩ := u
        obtain ⟨hP1, hD1⟩ := hB
        rw [ht] at hP1
        obtain ⟨hP, hD⟩ := va_join (wr := ([] : va_W)) (w1 := wR k aR rF rS rVx rVy rMd rE rAx rAy rBx rBy rO rP rPx rPy rPd rQ rFi rLa rOn rLe_220 rRi_220 rHx rHy rHd rKx rKy rKd) hP hD [0, 1, 2, 3, 4, 5, 6, 7, 8, 9, 10, 11, 12, 13, 14, 15, 16] [] rfl rfl (by decide) (by decide) hk1 hFc hP1 hD1
        generalize H1 = H at hP hS ⊢
        have hP : va_P D vwCl (wR k aR rF rS rVx rVy rMd rE rAx rAy rBx rBy rO rP rPx rPy rPd rQ rFi rLa rOn rLe_220 rRi_220 rHx rHy rHd rKx rKy rKd) H := hP.sub [0, 1, 2, 3, 4, 5, 6, 7, 8, 9, 10, 11, 12, 13, 14, 15, 16] rfl
        have hD : va_D A (wR k aR rF rS rVx rVy rMd rE rAx rAy rBx rBy rO rP rPx rPy rPd rQ rFi rLa rOn rLe_220 rRi_220 rHx rHy rHd rKx rKy rKd) := hD.sub [0, 1, 2, 3, 4, 5, 6, 7, 8, 9, 10, 11, 12, 13, 14, 15, 16] (by decide) rfl
        refine lv_iinc (v := (v1 + 1)) (lv' := [(1, .int (v1 + 1)), (0, .ref (aR 0))]) hx hb dX5_overlay_223 hl (k := 1) rfl rfl (by decide) rfl (fun ls hl => ?_)
        refine lv_goto (tgt := 210) hx hb dX5_overlay_226 (by decide) ?_
        exact ih210 (v1 + 1) rF rMd rE rAx rAy rBx rBy rO rP rPx rPy rPd rQ rFi rLa rOn rLe_220 rRi_220 rHx rHy rHd rKx rKy rKd _ _ _ h hP hD hS (lv_sub hl [1, 0] rfl)
  have L208 : ∀ (rF : Int32) (rMd : Int32) (rE : Int32) (rAx : Nat → Int32) (rAy : Nat → Int32) (rBx : Nat → Int32) (rBy : Nat → Int32) (rO : Nat → Int32) (rP : Int32) (rPx : Nat → Int32) (rPy : Nat → Int32) (rPd : Nat → Int32) (rQ : Int32) (rFi : Nat → Int32) (rLa : Nat → Int32) (rOn : Nat → Int32) (rLe : Nat → Int32) (rRi : Nat → Int32) (rHx : Int64) (rHy : Int64) (rHd : Int64) (rKx : Int64) (rKy : Int64) (rKd : Int64) (H : Heap) (locs : List Loc) (ls : Array Slot), wp_X5_overlay_L208 rS rVx rVy Q  rF rMd rE rAx rAy rBx rBy rO rP rPx rPy rPd rQ rFi rLa rOn rLe rRi rHx rHy rHd rKx rKy rKd → va_P D vwCl (wR k aR rF rS rVx rVy rMd rE rAx rAy rBx rBy rO rP rPx rPy rPd rQ rFi rLa rOn rLe rRi rHx rHy rHd rKx rKy rKd) H → va_D A (wR k aR rF rS rVx rVy rMd rE rAx rAy rBx rBy rO rP rPx rPy rPd rQ rFi rLa rOn rLe rRi rHx rHy rHd rKx rKy rKd) → va_S A s.heap H locs → lv_has ls 3 [(0, .ref (aR 0))] → W p l e (headSpec wsX5_overlay ({ frames := 3, cells := 0, slots := 0, locals := 98 })).room s m args below meth c H locs 0 0 GQ (F0 m 208 ls []) := by
    intro rF rMd rE rAx rAy rBx rBy rO rP rPx rPy rPd rQ rFi rLa rOn rLe rRi rHx rHy rHd rKx rKy rKd H locs ls h hP hD hS hl
    unfold wp_X5_overlay_L208 at h
    refine lv_iconst (v := (0 : Int32)) hx hb dX5_overlay_208 (by decide) ?_
    refine lv_istore_n (lv' := [(1, .int (0 : Int32)), (0, .ref (aR 0))]) hx hb dX5_overlay_209 rfl hl (by decide) rfl (fun ls hl => ?_)
    obtain ⟨n9, h⟩ := h
    exact L210 n9 (0 : Int32) rF rMd rE rAx rAy rBx rBy rO rP rPx rPy rPd rQ rFi rLa rOn rLe rRi rHx rHy rHd rKx rKy rKd _ _ _ h hP hD hS (lv_sub hl [1, 0] rfl)
  have L189 : ∀ (n189 : Nat) (v1 : Int32) (rF : Int32) (rMd : Int32) (rE : Int32) (rAx : Nat → Int32) (rAy : Nat → Int32) (rBx : Nat → Int32) (rBy : Nat → Int32) (rO : Nat → Int32) (rP : Int32) (rPx : Nat → Int32) (rPy : Nat → Int32) (rPd : Nat → Int32) (rQ : Int32) (rFi : Nat → Int32) (rLa : Nat → Int32) (rOn : Nat → Int32) (rLe : Nat → Int32) (rRi : Nat → Int32) (rHx : Int64) (rHy : Int64) (rHd : Int64) (rKx : Int64) (rKy : Int64) (rKd : Int64) (H : Heap) (locs : List Loc) (ls : Array Slot), wp_X5_overlay_L189 rS rVx rVy Q (fun rF rMd rE rAx rAy rBx rBy rO rP rPx rPy rPd rQ rFi rLa rOn rLe rRi rHx rHy rHd rKx rKy rKd => (wp_X5_overlay_L208 rS rVx rVy Q  rF rMd rE rAx rAy rBx rBy rO rP rPx rPy rPd rQ rFi rLa rOn rLe rRi rHx rHy rHd rKx rKy rKd)) n189 v1 rF rMd rE rAx rAy rBx rBy rO rP rPx rPy rPd rQ rFi rLa rOn rLe rRi rHx rHy rHd rKx rKy rKd → va_P D vwCl (wR k aR rF rS rVx rVy rMd rE rAx rAy rBx rBy rO rP rPx rPy rPd rQ rFi rLa rOn rLe rRi rHx rHy rHd rKx rKy rKd) H → va_D A (wR k aR rF rS rVx rVy rMd rE rAx rAy rBx rBy rO rP rPx rPy rPd rQ rFi rLa rOn rLe rRi rHx rHy rHd rKx rKy rKd) → va_S A s.heap H locs → lv_has ls 3 [(0, .ref (aR 0)), (1, .int v1)] → W p l e (headSpec wsX5_overlay ({ frames := 3, cells := 0, slots := 0, locals := 98 })).room s m args below meth c H locs 0 0 GQ (F0 m 189 ls []) := by
    intro n189
    induction n189 with
    | zero => intro v1 rF rMd rE rAx rAy rBx rBy rO rP rPx rPy rPd rQ rFi rLa rOn rLe rRi rHx rHy rHd rKx rKy rKd H locs ls h hP hD hS hl; exact False.elim h
    | succ n189 ih189 =>
      intro v1 rF rMd rE rAx rAy rBx rBy rO rP rPx rPy rPd rQ rFi rLa rOn rLe rRi rHx rHy rHd rKx rKy rKd H locs ls h hP hD hS hl
      rw [wp_X5_overlay_L189] at h
      refine lv_iload_n hx hb dX5_overlay_189 rfl (lv_at hl 1 rfl) ?_
      refine lv_aload_n hx hb dX5_overlay_190 rfl (lv_at hl 0 rfl) ?_
      refine va_get (D := D) (ci := 5) (v := .int rE) (C := RX5) (T := TX5) (N := 27) hx hb hts hiX5 hown hK hP 0 rfl rfl 5 (by decide) f92 (fun _ h9 => h9) rfl dX5_overlay_191 ?_
      refine lv_icmp_ge (tgt := 208) hx hb dX5_overlay_194 (by decide) (fun cq => ?_) (fun cq => ?_)
      · have h := h.1 cq
        exact L208 rF rMd rE rAx rAy rBx rBy rO rP rPx rPy rPd rQ rFi rLa rOn rLe rRi rHx rHy rHd rKx rKy rKd _ _ _ h hP hD hS (lv_sub hl [0] rfl)
      · have h := h.2 cq
        refine lv_aload_n hx hb dX5_overlay_197 rfl (lv_at hl 0 rfl) ?_
        refine lv_iload_n hx hb dX5_overlay_198 rfl (lv_at hl 1 rfl) ?_
        have hFc := va_free (wc := wR k aR rF rS rVx rVy rMd rE rAx rAy rBx rBy rO rP rPx rPy rPd rQ rFi rLa rOn rLe rRi rHx rHy rHd rKx rKy rKd) hD hS hA [0, 1, 2, 3, 4, 5, 6, 7, 8, 9, 10, 11, 12, 13, 14, 15, 16] rfl
        refine va_callv (va_runV (C := RX5) (b := (aR 0)) (As := [.int v1]) (rest := []) ⟨hx, hb, hml, hown, hts⟩ (m_X5_cut l D k aR rF rS rVx rVy rMd rE rAx rAy rBx rBy rO rP rPx rPy rPd rQ rFi rLa rOn rLe rRi rHx rHy rHd rKx rKy rKd v1 _ _ h) (cwV 1 hts gX5_overlay_X5_cut rfl rfl rfl (by decide +kernel) ⟨Nat.le_of_ble_eq_true rfl, Nat.le_of_ble_eq_true rfl⟩) (preV_rw (ci := 5) (q0 := 0) (C := RX5) (T := TX5) (N := 27) hE hP hD rfl rfl) rfl rfl hl.1 rfl (lv_room (Nat.le_of_ble_eq_true rfl)) dX5_overlay_199 ⟨Nat.le_of_ble_eq_true rfl, Nat.le_of_ble_eq_true rfl⟩) hS (fun q _ h => hFc q h) hFc (fun u t H1 locs ht hvm h hB hz1 hk1 hS => ?_)
        obtain ⟨rQ_199, rFi_199, rLa_199, rOn_199⟩ := u
        obtain ⟨hP1, hD1⟩ := hB
        rw [ht] at hP1
        obtain ⟨hP, hD⟩ := va_join (wr := ([] : va_W)) (w1 := wR k aR rF rS rVx rVy rMd rE rAx rAy rBx rBy rO rP rPx rPy rPd rQ_199 rFi_199 rLa_199 rOn_199 rLe rRi rHx rHy rHd rKx rKy rKd) hP hD [0, 1, 2, 3, 4, 5, 6, 7, 8, 9, 10, 11, 12, 13, 14, 15, 16] [] rfl rfl (by decide) (by decide) hk1 hFc hP1 hD1
        generalize H1 = H at hP hS ⊢
        have hP : va_P D vwCl (wR k aR rF rS rVx rVy rMd rE rAx rAy rBx rBy rO rP rPx rPy rPd rQ_199 rFi_199 rLa_199 rOn_199 rLe rRi rHx rHy rHd rKx rKy rKd) H := hP.sub [0, 1, 2, 3, 4, 5, 6, 7, 8, 9, 10, 11, 12, 13, 14, 15, 16] rfl
        have hD : va_D A (wR k aR rF rS rVx rVy rMd rE rAx rAy rBx rBy rO rP rPx rPy rPd rQ_199 rFi_199 rLa_199 rOn_199 rLe rRi rHx rHy rHd rKx rKy rKd) := hD.sub [0, 1, 2, 3, 4, 5, 6, 7, 8, 9, 10, 11, 12, 13, 14, 15, 16] (by decide) rfl
        refine lv_iinc (v := (v1 + 1)) (lv' := [(1, .int (v1 + 1)), (0, .ref (aR 0))]) hx hb dX5_overlay_202 hl (k := 1) rfl rfl (by decide) rfl (fun ls hl => ?_)
        refine lv_goto (tgt := 189) hx hb dX5_overlay_205 (by decide) ?_
        exact ih189 (v1 + 1) rF rMd rE rAx rAy rBx rBy rO rP rPx rPy rPd rQ_199 rFi_199 rLa_199 rOn_199 rLe rRi rHx rHy rHd rKx rKy rKd _ _ _ h hP hD hS (lv_sub hl [1, 0] rfl)
  have L187 : ∀ (rF : Int32) (rMd : Int32) (rE : Int32) (rAx : Nat → Int32) (rAy : Nat → Int32) (rBx : Nat → Int32) (rBy : Nat → Int32) (rO : Nat → Int32) (rP : Int32) (rPx : Nat → Int32) (rPy : Nat → Int32) (rPd : Nat → Int32) (rQ : Int32) (rFi : Nat → Int32) (rLa : Nat → Int32) (rOn : Nat → Int32) (rLe : Nat → Int32) (rRi : Nat → Int32) (rHx : Int64) (rHy : Int64) (rHd : Int64) (rKx : Int64) (rKy : Int64) (rKd : Int64) (H : Heap) (locs : List Loc) (ls : Array Slot), wp_X5_overlay_L187 rS rVx rVy Q  rF rMd rE rAx rAy rBx rBy rO rP rPx rPy rPd rQ rFi rLa rOn rLe rRi rHx rHy rHd rKx rKy rKd → va_P D vwCl (wR k aR rF rS rVx rVy rMd rE rAx rAy rBx rBy rO rP rPx rPy rPd rQ rFi rLa rOn rLe rRi rHx rHy rHd rKx rKy rKd) H → va_D A (wR k aR rF rS rVx rVy rMd rE rAx rAy rBx rBy rO rP rPx rPy rPd rQ rFi rLa rOn rLe rRi rHx rHy rHd rKx rKy rKd) → va_S A s.heap H locs → lv_has ls 3 [(0, .ref (aR 0))] → W p l e (headSpec wsX5_overlay ({ frames := 3, cells := 0, slots := 0, locals := 98 })).room s m args below meth c H locs 0 0 GQ (F0 m 187 ls []) := by
    intro rF rMd rE rAx rAy rBx rBy rO rP rPx rPy rPd rQ rFi rLa rOn rLe rRi rHx rHy rHd rKx rKy rKd H locs ls h hP hD hS hl
    unfold wp_X5_overlay_L187 at h
    refine lv_iconst (v := (0 : Int32)) hx hb dX5_overlay_187 (by decide) ?_
    refine lv_istore_n (lv' := [(1, .int (0 : Int32)), (0, .ref (aR 0))]) hx hb dX5_overlay_188 rfl hl (by decide) rfl (fun ls hl => ?_)
    obtain ⟨n9, h⟩ := h
    exact L189 n9 (0 : Int32) rF rMd rE rAx rAy rBx rBy rO rP rPx rPy rPd rQ rFi rLa rOn rLe rRi rHx rHy rHd rKx rKy rKd _ _ _ h hP hD hS (lv_sub hl [1, 0] rfl)
  have L84 : ∀ (n84 : Nat) (v1 : Int32) (rF : Int32) (rMd : Int32) (rE : Int32) (rAx : Nat → Int32) (rAy : Nat → Int32) (rBx : Nat → Int32) (rBy : Nat → Int32) (rO : Nat → Int32) (rP : Int32) (rPx : Nat → Int32) (rPy : Nat → Int32) (rPd : Nat → Int32) (rQ : Int32) (rFi : Nat → Int32) (rLa : Nat → Int32) (rOn : Nat → Int32) (rLe : Nat → Int32) (rRi : Nat → Int32) (rHx : Int64) (rHy : Int64) (rHd : Int64) (rKx : Int64) (rKy : Int64) (rKd : Int64) (H : Heap) (locs : List Loc) (ls : Array Slot), wp_X5_overlay_L84 rS rVx rVy Q (fun rF rMd rE rAx rAy rBx rBy rO rP rPx rPy rPd rQ rFi rLa rOn rLe rRi rHx rHy rHd rKx rKy rKd => (wp_X5_overlay_L187 rS rVx rVy Q  rF rMd rE rAx rAy rBx rBy rO rP rPx rPy rPd rQ rFi rLa rOn rLe rRi rHx rHy rHd rKx rKy rKd)) n84 v1 rF rMd rE rAx rAy rBx rBy rO rP rPx rPy rPd rQ rFi rLa rOn rLe rRi rHx rHy rHd rKx rKy rKd → va_P D vwCl (wR k aR rF rS rVx rVy rMd rE rAx rAy rBx rBy rO rP rPx rPy rPd rQ rFi rLa rOn rLe rRi rHx rHy rHd rKx rKy rKd) H → va_D A (wR k aR rF rS rVx rVy rMd rE rAx rAy rBx rBy rO rP rPx rPy rPd rQ rFi rLa rOn rLe rRi rHx rHy rHd rKx rKy rKd) → va_S A s.heap H locs → lv_has ls 3 [(0, .ref (aR 0)), (1, .int v1)] → W p l e (headSpec wsX5_overlay ({ frames := 3, cells := 0, slots := 0, locals := 98 })).room s m args below meth c H locs 0 0 GQ (F0 m 84 ls []) := by
    intro n84
    induction n84 with
    | zero => intro v1 rF rMd rE rAx rAy rBx rBy rO rP rPx rPy rPd rQ rFi rLa rOn rLe rRi rHx rHy rHd rKx rKy rKd H locs ls h hP hD hS hl; exact False.elim h
    | succ n84 ih84 =>
      have L181 : ∀ (v1 : Int32) (rF : Int32) (rMd : Int32) (rE : Int32) (rAx : Nat → Int32) (rAy : Nat → Int32) (rBx : Nat → Int32) (rBy : Nat → Int32) (rO : Nat → Int32) (rP : Int32) (rPx : Nat → Int32) (rPy : Nat → Int32) (rPd : Nat → Int32) (rQ : Int32) (rFi : Nat → Int32) (rLa : Nat → Int32) (rOn : Nat → Int32) (rLe : Nat → Int32) (rRi : Nat → Int32) (rHx : Int64) (rHy : Int64) (rHd : Int64) (rKx : Int64) (rKy : Int64) (rKd : Int64) (H : Heap) (locs : List Loc) (ls : Array Slot), wp_X5_overlay_L181 rS rVx rVy Q (wp_X5_overlay_L84 rS rVx rVy Q (fun rF rMd rE rAx rAy rBx rBy rO rP rPx rPy rPd rQ rFi rLa rOn rLe rRi rHx rHy rHd rKx rKy rKd => (wp_X5_overlay_L187 rS rVx rVy Q  rF rMd rE rAx rAy rBx rBy rO rP rPx rPy rPd rQ rFi rLa rOn rLe rRi rHx rHy rHd rKx rKy rKd)) n84) v1 rF rMd rE rAx rAy rBx rBy rO rP rPx rPy rPd rQ rFi rLa rOn rLe rRi rHx rHy rHd rKx rKy rKd → va_P D vwCl (wR k aR rF rS rVx rVy rMd rE rAx rAy rBx rBy rO rP rPx rPy rPd rQ rFi rLa rOn rLe rRi rHx rHy rHd rKx rKy rKd) H → va_D A (wR k aR rF rS rVx rVy rMd rE rAx rAy rBx rBy rO rP rPx rPy rPd rQ rFi rLa rOn rLe rRi rHx rHy rHd rKx rKy rKd) → va_S A s.heap H locs → lv_has ls 3 [(0, .ref (aR 0)), (1, .int v1)] → W p l e (headSpec wsX5_overlay ({ frames := 3, cells := 0, slots := 0, locals := 98 })).room s m args below meth c H locs 0 0 GQ (F0 m 181 ls []) := by
        intro v1 rF rMd rE rAx rAy rBx rBy rO rP rPx rPy rPd rQ rFi rLa rOn rLe rRi rHx rHy rHd rKx rKy rKd H locs ls h hP hD hS hl
        unfold wp_X5_overlay_L181 at h
        refine lv_iinc (v := (v1 + 1)) (lv' := [(1, .int (v1 + 1)), (0, .ref (aR 0))]) hx hb dX5_overlay_181 hl (k := 1) rfl rfl (by decide) rfl (fun ls hl => ?_)
        refine lv_goto (tgt := 84) hx hb dX5_overlay_184 (by decide) ?_
        exact ih84 (v1 + 1) rF rMd rE rAx rAy rBx rBy rO rP rPx rPy rPd rQ rFi rLa rOn rLe rRi rHx rHy rHd rKx rKy rKd _ _ _ h hP hD hS (lv_sub hl [1, 0] rfl)
      have L156 : ∀ (n156 : Nat) (v1 : Int32) (v2 : Int32) (rF : Int32) (rMd : Int32) (rE : Int32) (rAx : Nat → Int32) (rAy : Nat → Int32) (rBx : Nat → Int32) (rBy : Nat → Int32) (rO : Nat → Int32) (rP : Int32) (rPx : Nat → Int32) (rPy : Nat → Int32) (rPd : Nat → Int32) (rQ : Int32) (rFi : Nat → Int32) (rLa : Nat → Int32) (rOn : Nat → Int32) (rLe : Nat → Int32) (rRi : Nat → Int32) (rHx : Int64) (rHy : Int64) (rHd : Int64) (rKx : Int64) (rKy : Int64) (rKd : Int64) (H : Heap) (locs : List Loc) (ls : Array Slot), wp_X5_overlay_L156 rS rVx rVy Q (fun v1 rF rMd rE rAx rAy rBx rBy rO rP rPx rPy rPd rQ rFi rLa rOn rLe rRi rHx rHy rHd rKx rKy rKd => (wp_X5_overlay_L181 rS rVx rVy Q (wp_X5_overlay_L84 rS rVx rVy Q (fun rF rMd rE rAx rAy rBx rBy rO rP rPx rPy rPd rQ rFi rLa rOn rLe rRi rHx rHy rHd rKx rKy rKd => (wp_X5_overlay_L187 rS rVx rVy Q  rF rMd rE rAx rAy rBx rBy rO rP rPx rPy rPd rQ rFi rLa rOn rLe rRi rHx rHy rHd rKx rKy rKd)) n84) v1 rF rMd rE rAx rAy rBx rBy rO rP rPx rPy rPd rQ rFi rLa rOn rLe rRi rHx rHy rHd rKx rKy rKd)) n156 v1 v2 rF rMd rE rAx rAy rBx rBy rO rP rPx rPy rPd rQ rFi rLa rOn rLe rRi rHx rHy rHd rKx rKy rKd → va_P D vwCl (wR k aR rF rS rVx rVy rMd rE rAx rAy rBx rBy rO rP rPx rPy rPd rQ rFi rLa rOn rLe rRi rHx rHy rHd rKx rKy rKd) H → va_D A (wR k aR rF rS rVx rVy rMd rE rAx rAy rBx rBy rO rP rPx rPy rPd rQ rFi rLa rOn rLe rRi rHx rHy rHd rKx rKy rKd) → va_S A s.heap H locs → lv_has ls 3 [(0, .ref (aR 0)), (1, .int v1), (2, .int v2)] → W p l e (headSpec wsX5_overlay ({ frames := 3, cells := 0, slots := 0, locals := 98 })).room s m args below meth c H locs 0 0 GQ (F0 m 156 ls []) := by
        intro n156
        induction n156 with
        | zero => intro v1 v2 rF rMd rE rAx rAy rBx rBy rO rP rPx rPy rPd rQ rFi rLa rOn rLe rRi rHx rHy rHd rKx rKy rKd H locs ls h hP hD hS hl; exact False.elim h
        | succ n156 ih156 =>
          have L175 : ∀ (v1 : Int32) (v2 : Int32) (rF : Int32) (rMd : Int32) (rE : Int32) (rAx : Nat → Int32) (rAy : Nat → Int32) (rBx : Nat → Int32) (rBy : Nat → Int32) (rO : Nat → Int32) (rP : Int32) (rPx : Nat → Int32) (rPy : Nat → Int32) (rPd : Nat → Int32) (rQ : Int32) (rFi : Nat → Int32) (rLa : Nat → Int32) (rOn : Nat → Int32) (rLe : Nat → Int32) (rRi : Nat → Int32) (rHx : Int64) (rHy : Int64) (rHd : Int64) (rKx : Int64) (rKy : Int64) (rKd : Int64) (H : Heap) (locs : List Loc) (ls : Array Slot), wp_X5_overlay_L175 rS rVx rVy Q (wp_X5_overlay_L156 rS rVx rVy Q (fun v1 rF rMd rE rAx rAy rBx rBy rO rP rPx rPy rPd rQ rFi rLa rOn rLe rRi rHx rHy rHd rKx rKy rKd => (wp_X5_overlay_L181 rS rVx rVy Q (wp_X5_overlay_L84 rS rVx rVy Q (fun rF rMd rE rAx rAy rBx rBy rO rP rPx rPy rPd rQ rFi rLa rOn rLe rRi rHx rHy rHd rKx rKy rKd => (wp_X5_overlay_L187 rS rVx rVy Q  rF rMd rE rAx rAy rBx rBy rO rP rPx rPy rPd rQ rFi rLa rOn rLe rRi rHx rHy rHd rKx rKy rKd)) n84) v1 rF rMd rE rAx rAy rBx rBy rO rP rPx rPy rPd rQ rFi rLa rOn rLe rRi rHx rHy rHd rKx rKy rKd)) n156) v1 v2 rF rMd rE rAx rAy rBx rBy rO rP rPx rPy rPd rQ rFi rLa rOn rLe rRi rHx rHy rHd rKx rKy rKd → va_P D vwCl (wR k aR rF rS rVx rVy rMd rE rAx rAy rBx rBy rO rP rPx rPy rPd rQ rFi rLa rOn rLe rRi rHx rHy rHd rKx rKy rKd) H → va_D A (wR k aR rF rS rVx rVy rMd rE rAx rAy rBx rBy rO rP rPx rPy rPd rQ rFi rLa rOn rLe rRi rHx rHy rHd rKx rKy rKd) → va_S A s.heap H locs → lv_has ls 3 [(0, .ref (aR 0)), (1, .int v1), (2, .int v2)] → W p l e (headSpec wsX5_overlay ({ frames := 3, cells := 0, slots := 0, locals := 98 })).room s m args below meth c H locs 0 0 GQ (F0 m 175 ls []) := by
            intro v1 v2 rF rMd rE rAx rAy rBx rBy rO rP rPx rPy rPd rQ rFi rLa rOn rLe rRi rHx rHy rHd rKx rKy rKd H locs ls h hP hD hS hl
            unfold wp_X5_overlay_L175 at h
            refine lv_iinc (v := (v2 + 1)) (lv' := [(2, .int (v2 + 1)), (0, .ref (aR 0)), (1, .int v1)]) hx hb dX5_overlay_175 hl (k := 2) rfl rfl (by decide) rfl (fun ls hl => ?_)
            refine lv_goto (tgt := 156) hx hb dX5_overlay_178 (by decide) ?_
            exact ih156 v1 (v2 + 1) rF rMd rE rAx rAy rBx rBy rO rP rPx rPy rPd rQ rFi rLa rOn rLe rRi rHx rHy rHd rKx rKy rKd _ _ _ h hP hD hS (lv_sub hl [1, 2, 0] rfl)
          intro v1 v2 rF rMd rE rAx rAy rBx rBy rO rP rPx rPy rPd rQ rFi rLa rOn rLe rRi rHx rHy rHd rKx rKy rKd H locs ls h hP hD hS hl
          rw [wp_X5_overlay_L156] at h
          refine lv_iload_n hx hb dX5_overlay_156 rfl (lv_at hl 2 rfl) ?_
          refine lv_iload_n hx hb dX5_overlay_157 rfl (lv_at hl 1 rfl) ?_
          refine lv_icmp_ge (tgt := 181) hx hb dX5_overlay_158 (by decide) (fun cq => ?_) (fun cq => ?_)
          · have h := h.1 cq
            exact L181 v1 rF rMd rE rAx rAy rBx rBy rO rP rPx rPy rPd rQ rFi rLa rOn rLe rRi rHx rHy rHd rKx rKy rKd _ _ _ h hP hD hS (lv_sub hl [0, 1] rfl)
          · have h := h.2 cq
            refine lv_aload_n hx hb dX5_overlay_161 rfl (lv_at hl 0 rfl) ?_
            refine lv_iload_n hx hb dX5_overlay_162 rfl (lv_at hl 1 rfl) ?_
            refine lv_iload_n hx hb dX5_overlay_163 rfl (lv_at hl 2 rfl) ?_
            have hFc := va_free (wc := wR k aR rF rS rVx rVy rMd rE rAx rAy rBx rBy rO rP rPx rPy rPd rQ rFi rLa rOn rLe rRi rHx rHy rHd rKx rKy rKd) hD hS hA [0, 1, 2, 3, 4, 5, 6, 7, 8, 9, 10, 11, 12, 13, 14, 15, 16] rfl
            refine va_calli (va_runV (C := RX5) (b := (aR 0)) (As := [.int v1, .int v2]) (rest := []) ⟨hx, hb, hml, hown, hts⟩ (m_X5_meet l D k aR rF rS rVx rVy rMd rE rAx rAy rBx rBy rO rP rPx rPy rPd rQ rFi rLa rOn rLe rRi rHx rHy rHd rKx rKy rKd v1 v2 _ _ h) (cwV 2 hts gX5_overlay_X5_meet rfl rfl rfl (by decide +kernel) ⟨Nat.le_of_ble_eq_true rfl, Nat.le_of_ble_eq_true rfl⟩) (preV_rw (ci := 5) (q0 := 0) (C := RX5) (T := TX5) (N := 27) hE hP hD rfl rfl) rfl rfl hl.1 rfl (lv_room (Nat.le_of_ble_eq_true rfl)) dX5_overlay_164 ⟨Nat.le_of_ble_eq_true rfl, Nat.le_of_ble_eq_true rfl⟩) hS (fun q _ h => hFc q h) hFc (fun r164 u t H1 locs ht hvm h hB hz1 hk1 hS => ?_)
            obtain ⟨rHx_164, rHy_164, rHd_164, rKx_164, rKy_164, rKd_164⟩ := u
            obtain ⟨hP1, hD1⟩ := hB
            rw [ht] at hP1
            obtain ⟨hP, hD⟩ := va_join (wr := ([] : va_W)) (w1 := wR k aR rF rS rVx rVy rMd rE rAx rAy rBx rBy rO rP rPx rPy rPd rQ rFi rLa rOn rLe rRi rHx_164 rHy_164 rHd_164 rKx_164 rKy_164 rKd_164) hP hD [0, 1, 2, 3, 4, 5, 6, 7, 8, 9, 10, 11, 12, 13, 14, 15, 16] [] rfl rfl (by decide) (by decide) hk1 hFc hP1 hD1
            generalize H1 = H at hP hS ⊢
            have hP : va_P D vwCl (wR k aR rF rS rVx rVy rMd rE rAx rAy rBx rBy rO rP rPx rPy rPd rQ rFi rLa rOn rLe rRi rHx_164 rHy_164 rHd_164 rKx_164 rKy_164 rKd_164) H := hP.sub [0, 1, 2, 3, 4, 5, 6, 7, 8, 9, 10, 11, 12, 13, 14, 15, 16] rfl
            have hD : va_D A (wR k aR rF rS rVx rVy rMd rE rAx rAy rBx rBy rO rP rPx rPy rPd rQ rFi rLa rOn rLe rRi rHx_164 rHy_164 rHd_164 rKx_164 rKy_164 rKd_164) := hD.sub [0, 1, 2, 3, 4, 5, 6, 7, 8, 9, 10, 11, 12, 13, 14, 15, 16] (by decide) rfl
            refine lv_iconst (v := (1 : Int32)) hx hb dX5_overlay_167 (by decide) ?_
            refine lv_icmp_ne (tgt := 175) hx hb dX5_overlay_168 (by decide) (fun cq => ?_) (fun cq => ?_)
            · have h := h.1 cq
              exact L175 v1 v2 rF rMd rE rAx rAy rBx rBy rO rP rPx rPy rPd rQ rFi rLa rOn rLe rRi rHx_164 rHy_164 rHd_164 rKx_164 rKy_164 rKd_164 _ _ _ h hP hD hS (lv_sub hl [0, 1, 2] rfl)
            · have h := h.2 cq
              refine lv_aload_n hx hb dX5_overlay_171 rfl (lv_at hl 0 rfl) ?_
              have hFc := va_free (wc := wR k aR rF rS rVx rVy rMd rE rAx rAy rBx rBy rO rP rPx rPy rPd rQ rFi rLa rOn rLe rRi rHx_164 rHy_164 rHd_164 rKx_164 rKy_164 rKd_164) hD hS hA [0, 1, 2, 3, 4, 5, 6, 7, 8, 9, 10, 11, 12, 13, 14, 15, 16] rfl
              refine va_callv (va_runV (C := RX5) (b := (aR 0)) (As := []) (rest := []) ⟨hx, hb, hml, hown, hts⟩ (m_X5_addPoint l D k aR rF rS rVx rVy rMd rE rAx rAy rBx rBy rO rP rPx rPy rPd rQ rFi rLa rOn rLe rRi rHx_164 rHy_164 rHd_164 rKx_164 rKy_164 rKd_164  _ _ h) (cwV 0 hts gX5_overlay_X5_addPoint rfl rfl rfl (by decide +kernel) ⟨Nat.le_of_ble_eq_true rfl, Nat.le_of_ble_eq_true rfl⟩) (preV_rw (ci := 5) (q0 := 0) (C := RX5) (T := TX5) (N := 27) hE hP hD rfl rfl) rfl rfl hl.1 rfl (lv_room (Nat.le_of_ble_eq_true rfl)) dX5_overlay_172 ⟨Nat.le_of_ble_eq_true rfl, Nat.le_of_ble_eq_true rfl⟩) hS (fun q _ h => hFc q h) hFc (fun u t H1 locs ht hvm h hB hz1 hk1 hS => ?_)
              obtain ⟨rP_172, rPx_172, rPy_172, rPd_172, rHx_172, rHy_172, rHd_172⟩ := u
              obtain ⟨hP1, hD1⟩ := hB
              rw [ht] at hP1
              obtain ⟨hP, hD⟩ := va_join (wr := ([] : va_W)) (w1 := wR k aR rF rS rVx rVy rMd rE rAx rAy rBx rBy rO rP_172 rPx_172 rPy_172 rPd_172 rQ rFi rLa rOn rLe rRi rHx_172 rHy_172 rHd_172 rKx_164 rKy_164 rKd_164) hP hD [0, 1, 2, 3, 4, 5, 6, 7, 8, 9, 10, 11, 12, 13, 14, 15, 16] [] rfl rfl (by decide) (by decide) hk1 hFc hP1 hD1
              generalize H1 = H at hP hS ⊢
              have hP : va_P D vwCl (wR k aR rF rS rVx rVy rMd rE rAx rAy rBx rBy rO rP_172 rPx_172 rPy_172 rPd_172 rQ rFi rLa rOn rLe rRi rHx_172 rHy_172 rHd_172 rKx_164 rKy_164 rKd_164) H := hP.sub [0, 1, 2, 3, 4, 5, 6, 7, 8, 9, 10, 11, 12, 13, 14, 15, 16] rfl
              have hD : va_D A (wR k aR rF rS rVx rVy rMd rE rAx rAy rBx rBy rO rP_172 rPx_172 rPy_172 rPd_172 rQ rFi rLa rOn rLe rRi rHx_172 rHy_172 rHd_172 rKx_164 rKy_164 rKd_164) := hD.sub [0, 1, 2, 3, 4, 5, 6, 7, 8, 9, 10, 11, 12, 13, 14, 15, 16] (by decide) rfl
              exact L175 v1 v2 rF rMd rE rAx rAy rBx rBy rO rP_172 rPx_172 rPy_172 rPd_172 rQ rFi rLa rOn rLe rRi rHx_172 rHy_172 rHd_172 rKx_164 rKy_164 rKd_164 _ _ _ h hP hD hS (lv_sub hl [0, 1, 2] rfl)
      intro v1 rF rMd rE rAx rAy rBx rBy rO rP rPx rPy rPd rQ rFi rLa rOn rLe rRi rHx rHy rHd rKx rKy rKd H locs ls h hP hD hS hl
      rw [wp_X5_overlay_L84] at h
      refine lv_iload_n hx hb dX5_overlay_84 rfl (lv_at hl 1 rfl) ?_
      refine lv_aload_n hx hb dX5_overlay_85 rfl (lv_at hl 0 rfl) ?_
      refine va_get (D := D) (ci := 5) (v := .int rE) (C := RX5) (T := TX5) (N := 27) hx hb hts hiX5 hown hK hP 0 rfl rfl 5 (by decide) f92 (fun _ h9 => h9) rfl dX5_overlay_86 ?_
      refine lv_icmp_ge (tgt := 187) hx hb dX5_overlay_89 (by decide) (fun cq => ?_) (fun cq => ?_)
      · have h := h.1 cq
        exact L187 rF rMd rE rAx rAy rBx rBy rO rP rPx rPy rPd rQ rFi rLa rOn rLe rRi rHx rHy rHd rKx rKy rKd _ _ _ h hP hD hS (lv_sub hl [0] rfl)
      · have h := h.2 cq
        refine lv_aload_n hx hb dX5_overlay_92 rfl (lv_at hl 0 rfl) ?_
        refine lv_aload_n hx hb dX5_overlay_93 rfl (lv_at hl 0 rfl) ?_
        refine va_get (D := D) (ci := 5) (v := .ref (aR 4)) (C := RX5) (T := TX5) (N := 27) hx hb hts hiX5 hown hK hP 0 rfl rfl 6 (by decide) f19 (fun _ h9 => h9) rfl dX5_overlay_94 ?_
        refine lv_iload_n hx hb dX5_overlay_97 rfl (lv_at hl 1 rfl) ?_
        obtain ⟨hin, h⟩ := h
        refine va_iald hx hb hK hP 4 0 rfl rfl hin dX5_overlay_98 ?_
        refine lv_i2l hx hb dX5_overlay_99 rfl ?_
        refine lv_topl (fun x100 ex100 => ?_)
        have h := h x100 ex100
        refine va_put (D := D) (ci := 5) (v := .long x100) (ty := .long) (C := RX5) (T := TX5) (N := 27) hx hb hts hiX5 tyX5 tyX5_ok nmX5 hown hK hP hD hS 0 rfl rfl 21 (by decide) f70 (fun _ h9 => h9) rfl (by decide +kernel) rfl rfl (Nat.le_of_ble_eq_true rfl) dX5_overlay_100 (fun H locs hP hD hS => ?_)
        have hP : va_P D vwCl (wR k aR rF rS rVx rVy rMd rE rAx rAy rBx rBy rO rP rPx rPy rPd rQ rFi rLa rOn rLe rRi x100 rHy rHd rKx rKy rKd) H := hP
        have hD : va_D A (wR k aR rF rS rVx rVy rMd rE rAx rAy rBx rBy rO rP rPx rPy rPd rQ rFi rLa rOn rLe rRi x100 rHy rHd rKx rKy rKd) := hD
        refine lv_aload_n hx hb dX5_overlay_103 rfl (lv_at hl 0 rfl) ?_
        refine lv_aload_n hx hb dX5_overlay_104 rfl (lv_at hl 0 rfl) ?_
        refine va_get (D := D) (ci := 5) (v := .ref (aR 5)) (C := RX5) (T := TX5) (N := 27) hx hb hts hiX5 hown hK hP 0 rfl rfl 7 (by decide) f22 (fun _ h9 => h9) rfl dX5_overlay_105 ?_
        refine lv_iload_n hx hb dX5_overlay_108 rfl (lv_at hl 1 rfl) ?_
        obtain ⟨hin, h⟩ := h
        refine va_iald hx hb hK hP 5 0 rfl rfl hin dX5_overlay_109 ?_
        refine lv_i2l hx hb dX5_overlay_110 rfl ?_
        refine lv_topl (fun x111 ex111 => ?_)
        have h := h x111 ex111
        refine va_put (D := D) (ci := 5) (v := .long x111) (ty := .long) (C := RX5) (T := TX5) (N := 27) hx hb hts hiX5 tyX5 tyX5_ok nmX5 hown hK hP hD hS 0 rfl rfl 22 (by decide) f74 (fun _ h9 => h9) rfl (by decide +kernel) rfl rfl (Nat.le_of_ble_eq_true rfl) dX5_overlay_111 (fun H locs hP hD hS => ?_)
        have hP : va_P D vwCl (wR k aR rF rS rVx rVy rMd rE rAx rAy rBx rBy rO rP rPx rPy rPd rQ rFi rLa rOn rLe rRi x100 x111 rHd rKx rKy rKd) H := hP
        have hD : va_D A (wR k aR rF rS rVx rVy rMd rE rAx rAy rBx rBy rO rP rPx rPy rPd rQ rFi rLa rOn rLe rRi x100 x111 rHd rKx rKy rKd) := hD
        refine lv_aload_n hx hb dX5_overlay_114 rfl (lv_at hl 0 rfl) ?_
        refine lv_lconst (v := (1 : Int64)) hx hb dX5_overlay_115 (by decide) ?_
        refine va_put (D := D) (ci := 5) (v := .long (1 : Int64)) (ty := .long) (C := RX5) (T := TX5) (N := 27) hx hb hts hiX5 tyX5 tyX5_ok nmX5 hown hK hP hD hS 0 rfl rfl 23 (by decide) f77 (fun _ h9 => h9) rfl (by decide +kernel) rfl rfl (Nat.le_of_ble_eq_true rfl) dX5_overlay_116 (fun H locs hP hD hS => ?_)
        have hP : va_P D vwCl (wR k aR rF rS rVx rVy rMd rE rAx rAy rBx rBy rO rP rPx rPy rPd rQ rFi rLa rOn rLe rRi x100 x111 (1 : Int64) rKx rKy rKd) H := hP
        have hD : va_D A (wR k aR rF rS rVx rVy rMd rE rAx rAy rBx rBy rO rP rPx rPy rPd rQ rFi rLa rOn rLe rRi x100 x111 (1 : Int64) rKx rKy rKd) := hD
        refine lv_aload_n hx hb dX5_overlay_119 rfl (lv_at hl 0 rfl) ?_
        have hFc := va_free (wc := wR k aR rF rS rVx rVy rMd rE rAx rAy rBx rBy rO rP rPx rPy rPd rQ rFi rLa rOn rLe rRi x100 x111 (1 : Int64) rKx rKy rKd) hD hS hA [0, 1, 2, 3, 4, 5, 6, 7, 8, 9, 10, 11, 12, 13, 14, 15, 16] rfl
        refine va_callv (va_runV (C := RX5) (b := (aR 0)) (As := []) (rest := []) ⟨hx, hb, hml, hown, hts⟩ (m_X5_addPoint l D k aR rF rS rVx rVy rMd rE rAx rAy rBx rBy rO rP rPx rPy rPd rQ rFi rLa rOn rLe rRi x100 x111 (1 : Int64) rKx rKy rKd  _ _ h) (cwV 0 hts gX5_overlay_X5_addPoint rfl rfl rfl (by decide +kernel) ⟨Nat.le_of_ble_eq_true rfl, Nat.le_of_ble_eq_true rfl⟩) (preV_rw (ci := 5) (q0 := 0) (C := RX5) (T := TX5) (N := 27) hE hP hD rfl rfl) rfl rfl hl.1 rfl (lv_room (Nat.le_of_ble_eq_true rfl)) dX5_overlay_120 ⟨Nat.le_of_ble_eq_true rfl, Nat.le_of_ble_eq_true rfl⟩) hS (fun q _ h => hFc q h) hFc (fun u t H1 locs ht hvm h hB hz1 hk1 hS => ?_)
        obtain ⟨rP_120, rPx_120, rPy_120, rPd_120, rHx_120, rHy_120, rHd_120⟩ := u
        obtain ⟨hP1, hD1⟩ := hB
        rw [ht] at hP1
        obtain ⟨hP, hD⟩ := va_join (wr := ([] : va_W)) (w1 := wR k aR rF rS rVx rVy rMd rE rAx rAy rBx rBy rO rP_120 rPx_120 rPy_120 rPd_120 rQ rFi rLa rOn rLe rRi rHx_120 rHy_120 rHd_120 rKx rKy rKd) hP hD [0, 1, 2, 3, 4, 5, 6, 7, 8, 9, 10, 11, 12, 13, 14, 15, 16] [] rfl rfl (by decide) (by decide) hk1 hFc hP1 hD1
        generalize H1 = H at hP hS ⊢
        have hP : va_P D vwCl (wR k aR rF rS rVx rVy rMd rE rAx rAy rBx rBy rO rP_120 rPx_120 rPy_120 rPd_120 rQ rFi rLa rOn rLe rRi rHx_120 rHy_120 rHd_120 rKx rKy rKd) H := hP.sub [0, 1, 2, 3, 4, 5, 6, 7, 8, 9, 10, 11, 12, 13, 14, 15, 16] rfl
        have hD : va_D A (wR k aR rF rS rVx rVy rMd rE rAx rAy rBx rBy rO rP_120 rPx_120 rPy_120 rPd_120 rQ rFi rLa rOn rLe rRi rHx_120 rHy_120 rHd_120 rKx rKy rKd) := hD.sub [0, 1, 2, 3, 4, 5, 6, 7, 8, 9, 10, 11, 12, 13, 14, 15, 16] (by decide) rfl
        refine lv_aload_n hx hb dX5_overlay_123 rfl (lv_at hl 0 rfl) ?_
        refine lv_aload_n hx hb dX5_overlay_124 rfl (lv_at hl 0 rfl) ?_
        refine va_get (D := D) (ci := 5) (v := .ref (aR 6)) (C := RX5) (T := TX5) (N := 27) hx hb hts hiX5 hown hK hP 0 rfl rfl 8 (by decide) f25 (fun _ h9 => h9) rfl dX5_overlay_125 ?_
        refine lv_iload_n hx hb dX5_overlay_128 rfl (lv_at hl 1 rfl) ?_
        obtain ⟨hin, h⟩ := h
        refine va_iald hx hb hK hP 6 0 rfl rfl hin dX5_overlay_129 ?_
        refine lv_i2l hx hb dX5_overlay_130 rfl ?_
        refine lv_topl (fun x131 ex131 => ?_)
        have h := h x131 ex131
        refine va_put (D := D) (ci := 5) (v := .long x131) (ty := .long) (C := RX5) (T := TX5) (N := 27) hx hb hts hiX5 tyX5 tyX5_ok nmX5 hown hK hP hD hS 0 rfl rfl 21 (by decide) f70 (fun _ h9 => h9) rfl (by decide +kernel) rfl rfl (Nat.le_of_ble_eq_true rfl) dX5_overlay_131 (fun H locs hP hD hS => ?_)
        have hP : va_P D vwCl (wR k aR rF rS rVx rVy rMd rE rAx rAy rBx rBy rO rP_120 rPx_120 rPy_120 rPd_120 rQ rFi rLa rOn rLe rRi x131 rHy_120 rHd_120 rKx rKy rKd) H := hP
        have hD : va_D A (wR k aR rF rS rVx rVy rMd rE rAx rAy rBx rBy rO rP_120 rPx_120 rPy_120 rPd_120 rQ rFi rLa rOn rLe rRi x131 rHy_120 rHd_120 rKx rKy rKd) := hD
        refine lv_aload_n hx hb dX5_overlay_134 rfl (lv_at hl 0 rfl) ?_
        refine lv_aload_n hx hb dX5_overlay_135 rfl (lv_at hl 0 rfl) ?_
        refine va_get (D := D) (ci := 5) (v := .ref (aR 7)) (C := RX5) (T := TX5) (N := 27) hx hb hts hiX5 hown hK hP 0 rfl rfl 9 (by decide) f28 (fun _ h9 => h9) rfl dX5_overlay_136 ?_
        refine lv_iload_n hx hb dX5_overlay_139 rfl (lv_at hl 1 rfl) ?_
        obtain ⟨hin, h⟩ := h
        refine va_iald hx hb hK hP 7 0 rfl rfl hin dX5_overlay_140 ?_
        refine lv_i2l hx hb dX5_overlay_141 rfl ?_
        refine lv_topl (fun x142 ex142 => ?_)
        have h := h x142 ex142
        refine va_put (D := D) (ci := 5) (v := .long x142) (ty := .long) (C := RX5) (T := TX5) (N := 27) hx hb hts hiX5 tyX5 tyX5_ok nmX5 hown hK hP hD hS 0 rfl rfl 22 (by decide) f74 (fun _ h9 => h9) rfl (by decide +kernel) rfl rfl (Nat.le_of_ble_eq_true rfl) dX5_overlay_142 (fun H locs hP hD hS => ?_)
        have hP : va_P D vwCl (wR k aR rF rS rVx rVy rMd rE rAx rAy rBx rBy rO rP_120 rPx_120 rPy_120 rPd_120 rQ rFi rLa rOn rLe rRi x131 x142 rHd_120 rKx rKy rKd) H := hP
        have hD : va_D A (wR k aR rF rS rVx rVy rMd rE rAx rAy rBx rBy rO rP_120 rPx_120 rPy_120 rPd_120 rQ rFi rLa rOn rLe rRi x131 x142 rHd_120 rKx rKy rKd) := hD
        refine lv_aload_n hx hb dX5_overlay_145 rfl (lv_at hl 0 rfl) ?_
        refine lv_lconst (v := (1 : Int64)) hx hb dX5_overlay_146 (by decide) ?_
        refine va_put (D := D) (ci := 5) (v := .long (1 : Int64)) (ty := .long) (C := RX5) (T := TX5) (N := 27) hx hb hts hiX5 tyX5 tyX5_ok nmX5 hown hK hP hD hS 0 rfl rfl 23 (by decide) f77 (fun _ h9 => h9) rfl (by decide +kernel) rfl rfl (Nat.le_of_ble_eq_true rfl) dX5_overlay_147 (fun H locs hP hD hS => ?_)
        have hP : va_P D vwCl (wR k aR rF rS rVx rVy rMd rE rAx rAy rBx rBy rO rP_120 rPx_120 rPy_120 rPd_120 rQ rFi rLa rOn rLe rRi x131 x142 (1 : Int64) rKx rKy rKd) H := hP
        have hD : va_D A (wR k aR rF rS rVx rVy rMd rE rAx rAy rBx rBy rO rP_120 rPx_120 rPy_120 rPd_120 rQ rFi rLa rOn rLe rRi x131 x142 (1 : Int64) rKx rKy rKd) := hD
        refine lv_aload_n hx hb dX5_overlay_150 rfl (lv_at hl 0 rfl) ?_
        have hFc := va_free (wc := wR k aR rF rS rVx rVy rMd rE rAx rAy rBx rBy rO rP_120 rPx_120 rPy_120 rPd_120 rQ rFi rLa rOn rLe rRi x131 x142 (1 : Int64) rKx rKy rKd) hD hS hA [0, 1, 2, 3, 4, 5, 6, 7, 8, 9, 10, 11, 12, 13, 14, 15, 16] rfl
        refine va_callv (va_runV (C := RX5) (b := (aR 0)) (As := []) (rest := []) ⟨hx, hb, hml, hown, hts⟩ (m_X5_addPoint l D k aR rF rS rVx rVy rMd rE rAx rAy rBx rBy rO rP_120 rPx_120 rPy_120 rPd_120 rQ rFi rLa rOn rLe rRi x131 x142 (1 : Int64) rKx rKy rKd  _ _ h) (cwV 0 hts gX5_overlay_X5_addPoint rfl rfl rfl (by decide +kernel) ⟨Nat.le_of_ble_eq_true rfl, Nat.le_of_ble_eq_true rfl⟩) (preV_rw (ci := 5) (q0 := 0) (C := RX5) (T := TX5) (N := 27) hE hP hD rfl rfl) rfl rfl hl.1 rfl (lv_room (Nat.le_of_ble_eq_true rfl)) dX5_overlay_151 ⟨Nat.le_of_ble_eq_true rfl, Nat.le_of_ble_eq_true rfl⟩) hS (fun q _ h => hFc q h) hFc (fun u t H1 locs ht hvm h hB hz1 hk1 hS => ?_)
        obtain ⟨rP_151, rPx_151, rPy_151, rPd_151, rHx_151, rHy_151, rHd_151⟩ := u
        obtain ⟨hP1, hD1⟩ := hB
        rw [ht] at hP1
        obtain ⟨hP, hD⟩ := va_join (wr := ([] : va_W)) (w1 := wR k aR rF rS rVx rVy rMd rE rAx rAy rBx rBy rO rP_151 rPx_151 rPy_151 rPd_151 rQ rFi rLa rOn rLe rRi rHx_151 rHy_151 rHd_151 rKx rKy rKd) hP hD [0, 1, 2, 3, 4, 5, 6, 7, 8, 9, 10, 11, 12, 13, 14, 15, 16] [] rfl rfl (by decide) (by decide) hk1 hFc hP1 hD1
        generalize H1 = H at hP hS ⊢
        have hP : va_P D vwCl (wR k aR rF rS rVx rVy rMd rE rAx rAy rBx rBy rO rP_151 rPx_151 rPy_151 rPd_151 rQ rFi rLa rOn rLe rRi rHx_151 rHy_151 rHd_151 rKx rKy rKd) H := hP.sub [0, 1, 2, 3, 4, 5, 6, 7, 8, 9, 10, 11, 12, 13, 14, 15, 16] rfl
        have hD : va_D A (wR k aR rF rS rVx rVy rMd rE rAx rAy rBx rBy rO rP_151 rPx_151 rPy_151 rPd_151 rQ rFi rLa rOn rLe rRi rHx_151 rHy_151 rHd_151 rKx rKy rKd) := hD.sub [0, 1, 2, 3, 4, 5, 6, 7, 8, 9, 10, 11, 12, 13, 14, 15, 16] (by decide) rfl
        refine lv_iconst (v := (0 : Int32)) hx hb dX5_overlay_154 (by decide) ?_
        refine lv_istore_n (lv' := [(2, .int (0 : Int32)), (0, .ref (aR 0)), (1, .int v1)]) hx hb dX5_overlay_155 rfl hl (by decide) rfl (fun ls hl => ?_)
        obtain ⟨n9, h⟩ := h
        exact L156 n9 v1 (0 : Int32) rF rMd rE rAx rAy rBx rBy rO rP_151 rPx_151 rPy_151 rPd_151 rQ rFi rLa rOn rLe rRi rHx_151 rHy_151 rHd_151 rKx rKy rKd _ _ _ h hP hD hS (lv_sub hl [1, 2, 0] rfl)
  have L82 : ∀ (rF : Int32) (rMd : Int32) (rE : Int32) (rAx : Nat → Int32) (rAy : Nat → Int32) (rBx : Nat → Int32) (rBy : Nat → Int32) (rO : Nat → Int32) (rP : Int32) (rPx : Nat → Int32) (rPy : Nat → Int32) (rPd : Nat → Int32) (rQ : Int32) (rFi : Nat → Int32) (rLa : Nat → Int32) (rOn : Nat → Int32) (rLe : Nat → Int32) (rRi : Nat → Int32) (rHx : Int64) (rHy : Int64) (rHd : Int64) (rKx : Int64) (rKy : Int64) (rKd : Int64) (H : Heap) (locs : List Loc) (ls : Array Slot), wp_X5_overlay_L82 rS rVx rVy Q  rF rMd rE rAx rAy rBx rBy rO rP rPx rPy rPd rQ rFi rLa rOn rLe rRi rHx rHy rHd rKx rKy rKd → va_P D vwCl (wR k aR rF rS rVx rVy rMd rE rAx rAy rBx rBy rO rP rPx rPy rPd rQ rFi rLa rOn rLe rRi rHx rHy rHd rKx rKy rKd) H → va_D A (wR k aR rF rS rVx rVy rMd rE rAx rAy rBx rBy rO rP rPx rPy rPd rQ rFi rLa rOn rLe rRi rHx rHy rHd rKx rKy rKd) → va_S A s.heap H locs → lv_has ls 3 [(0, .ref (aR 0))] → W p l e (headSpec wsX5_overlay ({ frames := 3, cells := 0, slots := 0, locals := 98 })).room s m args below meth c H locs 0 0 GQ (F0 m 82 ls []) := by
    intro rF rMd rE rAx rAy rBx rBy rO rP rPx rPy rPd rQ rFi rLa rOn rLe rRi rHx rHy rHd rKx rKy rKd H locs ls h hP hD hS hl
    unfold wp_X5_overlay_L82 at h
    refine lv_iconst (v := (0 : Int32)) hx hb dX5_overlay_82 (by decide) ?_
    refine lv_istore_n (lv' := [(1, .int (0 : Int32)), (0, .ref (aR 0))]) hx hb dX5_overlay_83 rfl hl (by decide) rfl (fun ls hl => ?_)
    obtain ⟨n9, h⟩ := h
    exact L84 n9 (0 : Int32) rF rMd rE rAx rAy rBx rBy rO rP rPx rPy rPd rQ rFi rLa rOn rLe rRi rHx rHy rHd rKx rKy rKd _ _ _ h hP hD hS (lv_sub hl [1, 0] rfl)
  have L27 : ∀ (n27 : Nat) (v1 : Int32) (rF : Int32) (rMd : Int32) (rE : Int32) (rAx : Nat → Int32) (rAy : Nat → Int32) (rBx : Nat → Int32) (rBy : Nat → Int32) (rO : Nat → Int32) (rP : Int32) (rPx : Nat → Int32) (rPy : Nat → Int32) (rPd : Nat → Int32) (rQ : Int32) (rFi : Nat → Int32) (rLa : Nat → Int32) (rOn : Nat → Int32) (rLe : Nat → Int32) (rRi : Nat → Int32) (rHx : Int64) (rHy : Int64) (rHd : Int64) (rKx : Int64) (rKy : Int64) (rKd : Int64) (H : Heap) (locs : List Loc) (ls : Array Slot), wp_X5_overlay_L27 rS rVx rVy Q (fun rF rMd rE rAx rAy rBx rBy rO rP rPx rPy rPd rQ rFi rLa rOn rLe rRi rHx rHy rHd rKx rKy rKd => (wp_X5_overlay_L82 rS rVx rVy Q  rF rMd rE rAx rAy rBx rBy rO rP rPx rPy rPd rQ rFi rLa rOn rLe rRi rHx rHy rHd rKx rKy rKd)) n27 v1 rF rMd rE rAx rAy rBx rBy rO rP rPx rPy rPd rQ rFi rLa rOn rLe rRi rHx rHy rHd rKx rKy rKd → va_P D vwCl (wR k aR rF rS rVx rVy rMd rE rAx rAy rBx rBy rO rP rPx rPy rPd rQ rFi rLa rOn rLe rRi rHx rHy rHd rKx rKy rKd) H → va_D A (wR k aR rF rS rVx rVy rMd rE rAx rAy rBx rBy rO rP rPx rPy rPd rQ rFi rLa rOn rLe rRi rHx rHy rHd rKx rKy rKd) → va_S A s.heap H locs → lv_has ls 3 [(0, .ref (aR 0)), (1, .int v1)] → W p l e (headSpec wsX5_overlay ({ frames := 3, cells := 0, slots := 0, locals := 98 })).room s m args below meth c H locs 0 0 GQ (F0 m 27 ls []) := by
    intro n27
    induction n27 with
    | zero => intro v1 rF rMd rE rAx rAy rBx rBy rO rP rPx rPy rPd rQ rFi rLa rOn rLe rRi rHx rHy rHd rKx rKy rKd H locs ls h hP hD hS hl; exact False.elim h
    | succ n27 ih27 =>
      have L76 : ∀ (v1 : Int32) (rF : Int32) (rMd : Int32) (rE : Int32) (rAx : Nat → Int32) (rAy : Nat → Int32) (rBx : Nat → Int32) (rBy : Nat → Int32) (rO : Nat → Int32) (rP : Int32) (rPx : Nat → Int32) (rPy : Nat → Int32) (rPd : Nat → Int32) (rQ : Int32) (rFi : Nat → Int32) (rLa : Nat → Int32) (rOn : Nat → Int32) (rLe : Nat → Int32) (rRi : Nat → Int32) (rHx : Int64) (rHy : Int64) (rHd : Int64) (rKx : Int64) (rKy : Int64) (rKd : Int64) (H : Heap) (locs : List Loc) (ls : Array Slot), wp_X5_overlay_L76 rS rVx rVy Q (wp_X5_overlay_L27 rS rVx rVy Q (fun rF rMd rE rAx rAy rBx rBy rO rP rPx rPy rPd rQ rFi rLa rOn rLe rRi rHx rHy rHd rKx rKy rKd => (wp_X5_overlay_L82 rS rVx rVy Q  rF rMd rE rAx rAy rBx rBy rO rP rPx rPy rPd rQ rFi rLa rOn rLe rRi rHx rHy rHd rKx rKy rKd)) n27) v1 rF rMd rE rAx rAy rBx rBy rO rP rPx rPy rPd rQ rFi rLa rOn rLe rRi rHx rHy rHd rKx rKy rKd → va_P D vwCl (wR k aR rF rS rVx rVy rMd rE rAx rAy rBx rBy rO rP rPx rPy rPd rQ rFi rLa rOn rLe rRi rHx rHy rHd rKx rKy rKd) H → va_D A (wR k aR rF rS rVx rVy rMd rE rAx rAy rBx rBy rO rP rPx rPy rPd rQ rFi rLa rOn rLe rRi rHx rHy rHd rKx rKy rKd) → va_S A s.heap H locs → lv_has ls 3 [(0, .ref (aR 0)), (1, .int v1)] → W p l e (headSpec wsX5_overlay ({ frames := 3, cells := 0, slots := 0, locals := 98 })).room s m args below meth c H locs 0 0 GQ (F0 m 76 ls []) := by
        intro v1 rF rMd rE rAx rAy rBx rBy rO rP rPx rPy rPd rQ rFi rLa rOn rLe rRi rHx rHy rHd rKx rKy rKd H locs ls h hP hD hS hl
        unfold wp_X5_overlay_L76 at h
        refine lv_iinc (v := (v1 + 1)) (lv' := [(1, .int (v1 + 1)), (0, .ref (aR 0))]) hx hb dX5_overlay_76 hl (k := 1) rfl rfl (by decide) rfl (fun ls hl => ?_)
        refine lv_goto (tgt := 27) hx hb dX5_overlay_79 (by decide) ?_
        exact ih27 (v1 + 1) rF rMd rE rAx rAy rBx rBy rO rP rPx rPy rPd rQ rFi rLa rOn rLe rRi rHx rHy rHd rKx rKy rKd _ _ _ h hP hD hS (lv_sub hl [1, 0] rfl)
      have L34 : ∀ (n34 : Nat) (v1 : Int32) (v2 : Int32) (rF : Int32) (rMd : Int32) (rE : Int32) (rAx : Nat → Int32) (rAy : Nat → Int32) (rBx : Nat → Int32) (rBy : Nat → Int32) (rO : Nat → Int32) (rP : Int32) (rPx : Nat → Int32) (rPy : Nat → Int32) (rPd : Nat → Int32) (rQ : Int32) (rFi : Nat → Int32) (rLa : Nat → Int32) (rOn : Nat → Int32) (rLe : Nat → Int32) (rRi : Nat → Int32) (rHx : Int64) (rHy : Int64) (rHd : Int64) (rKx : Int64) (rKy : Int64) (rKd : Int64) (H : Heap) (locs : List Loc) (ls : Array Slot), wp_X5_overlay_L34 rS rVx rVy Q (fun v1 rF rMd rE rAx rAy rBx rBy rO rP rPx rPy rPd rQ rFi rLa rOn rLe rRi rHx rHy rHd rKx rKy rKd => (wp_X5_overlay_L76 rS rVx rVy Q (wp_X5_overlay_L27 rS rVx rVy Q (fun rF rMd rE rAx rAy rBx rBy rO rP rPx rPy rPd rQ rFi rLa rOn rLe rRi rHx rHy rHd rKx rKy rKd => (wp_X5_overlay_L82 rS rVx rVy Q  rF rMd rE rAx rAy rBx rBy rO rP rPx rPy rPd rQ rFi rLa rOn rLe rRi rHx rHy rHd rKx rKy rKd)) n27) v1 rF rMd rE rAx rAy rBx rBy rO rP rPx rPy rPd rQ rFi rLa rOn rLe rRi rHx rHy rHd rKx rKy rKd)) n34 v1 v2 rF rMd rE rAx rAy rBx rBy rO rP rPx rPy rPd rQ rFi rLa rOn rLe rRi rHx rHy rHd rKx rKy rKd → va_P D vwCl (wR k aR rF rS rVx rVy rMd rE rAx rAy rBx rBy rO rP rPx rPy rPd rQ rFi rLa rOn rLe rRi rHx rHy rHd rKx rKy rKd) H → va_D A (wR k aR rF rS rVx rVy rMd rE rAx rAy rBx rBy rO rP rPx rPy rPd rQ rFi rLa rOn rLe rRi rHx rHy rHd rKx rKy rKd) → va_S A s.heap H locs → lv_has ls 3 [(0, .ref (aR 0)), (1, .int v1), (2, .int v2)] → W p l e (headSpec wsX5_overlay ({ frames := 3, cells := 0, slots := 0, locals := 98 })).room s m args below meth c H locs 0 0 GQ (F0 m 34 ls []) := by
        intro n34
        induction n34 with
        | zero => intro v1 v2 rF rMd rE rAx rAy rBx rBy rO rP rPx rPy rPd rQ rFi rLa rOn rLe rRi rHx rHy rHd rKx rKy rKd H locs ls h hP hD hS hl; exact False.elim h
        | succ n34 ih34 =>
          intro v1 v2 rF rMd rE rAx rAy rBx rBy rO rP rPx rPy rPd rQ rFi rLa rOn rLe rRi rHx rHy rHd rKx rKy rKd H locs ls h hP hD hS hl
          rw [wp_X5_overlay_L34] at h
          refine lv_iload_n hx hb dX5_overlay_34 rfl (lv_at hl 2 rfl) ?_
          refine lv_aload_n hx hb dX5_overlay_35 rfl (lv_at hl 0 rfl) ?_
          refine va_get (D := D) (ci := 5) (v := .ref (aR 1)) (C := RX5) (T := TX5) (N := 27) hx hb hts hiX5 hown hK hP 0 rfl rfl 1 (by decide) f7 (fun _ h9 => h9) rfl dX5_overlay_36 ?_
          refine lv_iload_n hx hb dX5_overlay_39 rfl (lv_at hl 1 rfl) ?_
          obtain ⟨hin, h⟩ := h
          refine va_iald hx hb hK hP 1 0 rfl rfl hin dX5_overlay_40 ?_
          refine lv_icmp_ge (tgt := 76) hx hb dX5_overlay_41 (by decide) (fun cq => ?_) (fun cq => ?_)
          · have h := h.1 cq
            exact L76 v1 rF rMd rE rAx rAy rBx rBy rO rP rPx rPy rPd rQ rFi rLa rOn rLe rRi rHx rHy rHd rKx rKy rKd _ _ _ h hP hD hS (lv_sub hl [0, 1] rfl)
          · have h := h.2 cq
            refine lv_aload_n hx hb dX5_overlay_44 rfl (lv_at hl 0 rfl) ?_
            refine lv_iload_n hx hb dX5_overlay_45 rfl (lv_at hl 1 rfl) ?_
            refine lv_bipush (v := (6 : Int32)) hx hb dX5_overlay_46 (by decide) ?_
            refine lv_iload_n hx hb dX5_overlay_48 rfl (lv_at hl 1 rfl) ?_
            refine lv_imul hx hb dX5_overlay_49 ?_
            refine lv_iload_n hx hb dX5_overlay_50 rfl (lv_at hl 2 rfl) ?_
            refine lv_iadd hx hb dX5_overlay_51 ?_
            refine lv_bipush (v := (6 : Int32)) hx hb dX5_overlay_52 (by decide) ?_
            refine lv_iload_n hx hb dX5_overlay_54 rfl (lv_at hl 1 rfl) ?_
            refine lv_imul hx hb dX5_overlay_55 ?_
            refine lv_iload_n hx hb dX5_overlay_56 rfl (lv_at hl 2 rfl) ?_
            refine lv_iconst (v := (1 : Int32)) hx hb dX5_overlay_57 (by decide) ?_
            refine lv_iadd hx hb dX5_overlay_58 ?_
            refine lv_aload_n hx hb dX5_overlay_59 rfl (lv_at hl 0 rfl) ?_
            refine va_get (D := D) (ci := 5) (v := .ref (aR 1)) (C := RX5) (T := TX5) (N := 27) hx hb hts hiX5 hown hK hP 0 rfl rfl 1 (by decide) f7 (fun _ h9 => h9) rfl dX5_overlay_60 ?_
            refine lv_iload_n hx hb dX5_overlay_63 rfl (lv_at hl 1 rfl) ?_
            obtain ⟨hin, h⟩ := h
            refine va_iald hx hb hK hP 1 0 rfl rfl hin dX5_overlay_64 ?_
            obtain ⟨hne, h⟩ := h
            refine lv_irem hx hb dX5_overlay_65 hne ?_
            refine lv_iadd hx hb dX5_overlay_66 ?_
            have hFc := va_free (wc := wR k aR rF rS rVx rVy rMd rE rAx rAy rBx rBy rO rP rPx rPy rPd rQ rFi rLa rOn rLe rRi rHx rHy rHd rKx rKy rKd) hD hS hA [0, 1, 2, 3, 4, 5, 6, 7, 8, 9, 10, 11, 12, 13, 14, 15, 16] rfl
            refine va_callv (va_runV (C := RX5) (b := (aR 0)) (As := [.int v1, .int (((6 : Int32) * v1) + v2), .int (((6 : Int32) * v1) + ((v2 + (1 : Int32)) - (v2 + (1 : Int32)) / (rS v1.toNatClampNeg) * (rS v1.toNatClampNeg)))]) (rest := []) ⟨hx, hb, hml, hown, hts⟩ (m_X5_addEdge l D k aR rF rS rVx rVy rMd rE rAx rAy rBx rBy rO rP rPx rPy rPd rQ rFi rLa rOn rLe rRi rHx rHy rHd rKx rKy rKd v1 (((6 : Int32) * v1) + v2) (((6 : Int32) * v1) + ((v2 + (1 : Int32)) - (v2 + (1 : Int32)) / (rS v1.toNatClampNeg) * (rS v1.toNatClampNeg))) _ _ h) (cwV 3 hts gX5_overlay_X5_addEdge rfl rfl rfl (by decide +kernel) ⟨Nat.le_of_ble_eq_true rfl, Nat.le_of_ble_eq_true rfl⟩) (preV_rw (ci := 5) (q0 := 0) (C := RX5) (T := TX5) (N := 27) hE hP hD rfl rfl) rfl rfl hl.1 rfl (lv_room (Nat.le_of_ble_eq_true rfl)) dX5_overlay_67 ⟨Nat.le_of_ble_eq_true rfl, Nat.le_of_ble_eq_true rfl⟩) hS (fun q _ h => hFc q h) hFc (fun u t H1 locs ht hvm h hB hz1 hk1 hS => ?_)
            obtain ⟨rE_67, rAx_67, rAy_67, rBx_67, rBy_67, rO_67⟩ := u
            obtain ⟨hP1, hD1⟩ := hB
            rw [ht] at hP1
            obtain ⟨hP, hD⟩ := va_join (wr := ([] : va_W)) (w1 := wR k aR rF rS rVx rVy rMd rE_67 rAx_67 rAy_67 rBx_67 rBy_67 rO_67 rP rPx rPy rPd rQ rFi rLa rOn rLe rRi rHx rHy rHd rKx rKy rKd) hP hD [0, 1, 2, 3, 4, 5, 6, 7, 8, 9, 10, 11, 12, 13, 14, 15, 16] [] rfl rfl (by decide) (by decide) hk1 hFc hP1 hD1
            generalize H1 = H at hP hS ⊢
            have hP : va_P D vwCl (wR k aR rF rS rVx rVy rMd rE_67 rAx_67 rAy_67 rBx_67 rBy_67 rO_67 rP rPx rPy rPd rQ rFi rLa rOn rLe rRi rHx rHy rHd rKx rKy rKd) H := hP.sub [0, 1, 2, 3, 4, 5, 6, 7, 8, 9, 10, 11, 12, 13, 14, 15, 16] rfl
            have hD : va_D A (wR k aR rF rS rVx rVy rMd rE_67 rAx_67 rAy_67 rBx_67 rBy_67 rO_67 rP rPx rPy rPd rQ rFi rLa rOn rLe rRi rHx rHy rHd rKx rKy rKd) := hD.sub [0, 1, 2, 3, 4, 5, 6, 7, 8, 9, 10, 11, 12, 13, 14, 15, 16] (by decide) rfl
            refine lv_iinc (v := (v2 + 1)) (lv' := [(2, .int (v2 + 1)), (0, .ref (aR 0)), (1, .int v1)]) hx hb dX5_overlay_70 hl (k := 2) rfl rfl (by decide) rfl (fun ls hl => ?_)
            refine lv_goto (tgt := 34) hx hb dX5_overlay_73 (by decide) ?_
            exact ih34 v1 (v2 + 1) rF rMd rE_67 rAx_67 rAy_67 rBx_67 rBy_67 rO_67 rP rPx rPy rPd rQ rFi rLa rOn rLe rRi rHx rHy rHd rKx rKy rKd _ _ _ h hP hD hS (lv_sub hl [1, 2, 0] rfl)
      intro v1 rF rMd rE rAx rAy rBx rBy rO rP rPx rPy rPd rQ rFi rLa rOn rLe rRi rHx rHy rHd rKx rKy rKd H locs ls h hP hD hS hl
      rw [wp_X5_overlay_L27] at h
      refine lv_iload_n hx hb dX5_overlay_27 rfl (lv_at hl 1 rfl) ?_
      refine lv_iconst (v := (2 : Int32)) hx hb dX5_overlay_28 (by decide) ?_
      refine lv_icmp_ge (tgt := 82) hx hb dX5_overlay_29 (by decide) (fun cq => ?_) (fun cq => ?_)
      · have h := h.1 cq
        exact L82 rF rMd rE rAx rAy rBx rBy rO rP rPx rPy rPd rQ rFi rLa rOn rLe rRi rHx rHy rHd rKx rKy rKd _ _ _ h hP hD hS (lv_sub hl [0] rfl)
      · have h := h.2 cq
        refine lv_iconst (v := (0 : Int32)) hx hb dX5_overlay_32 (by decide) ?_
        refine lv_istore_n (lv' := [(2, .int (0 : Int32)), (0, .ref (aR 0)), (1, .int v1)]) hx hb dX5_overlay_33 rfl hl (by decide) rfl (fun ls hl => ?_)
        obtain ⟨n9, h⟩ := h
        exact L34 n9 v1 (0 : Int32) rF rMd rE rAx rAy rBx rBy rO rP rPx rPy rPd rQ rFi rLa rOn rLe rRi rHx rHy rHd rKx rKy rKd _ _ _ h hP hD hS (lv_sub hl [1, 2, 0] rfl)
  unfold wp_X5_overlay at h
  refine lv_aload_n hx hb dX5_overlay_0 rfl (lv_at hl 0 rfl) ?_
  refine lv_iconst (v := (0 : Int32)) hx hb dX5_overlay_1 (by decide) ?_
  refine va_put (D := D) (ci := 5) (v := .int (0 : Int32)) (ty := .int) (C := RX5) (T := TX5) (N := 27) hx hb hts hiX5 tyX5 tyX5_ok nmX5 hown hK hP hD hS 0 rfl rfl 0 (by decide) f59 (fun _ h9 => h9) rfl (by decide +kernel) rfl rfl (Nat.le_of_ble_eq_true rfl) dX5_overlay_2 (fun H locs hP hD hS => ?_)
  have hP : va_P D vwCl (wR k aR (0 : Int32) rS rVx rVy rMd rE rAx rAy rBx rBy rO rP rPx rPy rPd rQ rFi rLa rOn rLe rRi rHx rHy rHd rKx rKy rKd) H := hP
  have hD : va_D A (wR k aR (0 : Int32) rS rVx rVy rMd rE rAx rAy rBx rBy rO rP rPx rPy rPd rQ rFi rLa rOn rLe rRi rHx rHy rHd rKx rKy rKd) := hD
  refine lv_aload_n hx hb dX5_overlay_5 rfl (lv_at hl 0 rfl) ?_
  refine lv_iconst (v := (1 : Int32)) hx hb dX5_overlay_6 (by decide) ?_
  refine va_put (D := D) (ci := 5) (v := .int (1 : Int32)) (ty := .boolean) (C := RX5) (T := TX5) (N := 27) hx hb hts hiX5 tyX5 tyX5_ok nmX5 hown hK hP hD hS 0 rfl rfl 4 (by decide) f132 (fun _ h9 => h9) rfl (by decide +kernel) rfl rfl (Nat.le_of_ble_eq_true rfl) dX5_overlay_7 (fun H locs hP hD hS => ?_)
  have hP : va_P D vwCl (wR k aR (0 : Int32) rS rVx rVy (1 : Int32) rE rAx rAy rBx rBy rO rP rPx rPy rPd rQ rFi rLa rOn rLe rRi rHx rHy rHd rKx rKy rKd) H := hP
  have hD : va_D A (wR k aR (0 : Int32) rS rVx rVy (1 : Int32) rE rAx rAy rBx rBy rO rP rPx rPy rPd rQ rFi rLa rOn rLe rRi rHx rHy rHd rKx rKy rKd) := hD
  refine lv_aload_n hx hb dX5_overlay_10 rfl (lv_at hl 0 rfl) ?_
  refine lv_iconst (v := (0 : Int32)) hx hb dX5_overlay_11 (by decide) ?_
  refine va_put (D := D) (ci := 5) (v := .int (0 : Int32)) (ty := .int) (C := RX5) (T := TX5) (N := 27) hx hb hts hiX5 tyX5 tyX5_ok nmX5 hown hK hP hD hS 0 rfl rfl 5 (by decide) f92 (fun _ h9 => h9) rfl (by decide +kernel) rfl rfl (Nat.le_of_ble_eq_true rfl) dX5_overlay_12 (fun H locs hP hD hS => ?_)
  have hP : va_P D vwCl (wR k aR (0 : Int32) rS rVx rVy (1 : Int32) (0 : Int32) rAx rAy rBx rBy rO rP rPx rPy rPd rQ rFi rLa rOn rLe rRi rHx rHy rHd rKx rKy rKd) H := hP
  have hD : va_D A (wR k aR (0 : Int32) rS rVx rVy (1 : Int32) (0 : Int32) rAx rAy rBx rBy rO rP rPx rPy rPd rQ rFi rLa rOn rLe rRi rHx rHy rHd rKx rKy rKd) := hD
  refine lv_aload_n hx hb dX5_overlay_15 rfl (lv_at hl 0 rfl) ?_
  refine lv_iconst (v := (0 : Int32)) hx hb dX5_overlay_16 (by decide) ?_
  refine va_put (D := D) (ci := 5) (v := .int (0 : Int32)) (ty := .int) (C := RX5) (T := TX5) (N := 27) hx hb hts hiX5 tyX5 tyX5_ok nmX5 hown hK hP hD hS 0 rfl rfl 11 (by decide) f67 (fun _ h9 => h9) rfl (by decide +kernel) rfl rfl (Nat.le_of_ble_eq_true rfl) dX5_overlay_17 (fun H locs hP hD hS => ?_)
  have hP : va_P D vwCl (wR k aR (0 : Int32) rS rVx rVy (1 : Int32) (0 : Int32) rAx rAy rBx rBy rO (0 : Int32) rPx rPy rPd rQ rFi rLa rOn rLe rRi rHx rHy rHd rKx rKy rKd) H := hP
  have hD : va_D A (wR k aR (0 : Int32) rS rVx rVy (1 : Int32) (0 : Int32) rAx rAy rBx rBy rO (0 : Int32) rPx rPy rPd rQ rFi rLa rOn rLe rRi rHx rHy rHd rKx rKy rKd) := hD
  refine lv_aload_n hx hb dX5_overlay_20 rfl (lv_at hl 0 rfl) ?_
  refine lv_iconst (v := (0 : Int32)) hx hb dX5_overlay_21 (by decide) ?_
  refine va_put (D := D) (ci := 5) (v := .int (0 : Int32)) (ty := .int) (C := RX5) (T := TX5) (N := 27) hx hb hts hiX5 tyX5 tyX5_ok nmX5 hown hK hP hD hS 0 rfl rfl 15 (by decide) f116 (fun _ h9 => h9) rfl (by decide +kernel) rfl rfl (Nat.le_of_ble_eq_true rfl) dX5_overlay_22 (fun H locs hP hD hS => ?_)
  have hP : va_P D vwCl (wR k aR (0 : Int32) rS rVx rVy (1 : Int32) (0 : Int32) rAx rAy rBx rBy rO (0 : Int32) rPx rPy rPd (0 : Int32) rFi rLa rOn rLe rRi rHx rHy rHd rKx rKy rKd) H := hP
  have hD : va_D A (wR k aR (0 : Int32) rS rVx rVy (1 : Int32) (0 : Int32) rAx rAy rBx rBy rO (0 : Int32) rPx rPy rPd (0 : Int32) rFi rLa rOn rLe rRi rHx rHy rHd rKx rKy rKd) := hD
  refine lv_iconst (v := (0 : Int32)) hx hb dX5_overlay_25 (by decide) ?_
  refine lv_istore_n (lv' := [(1, .int (0 : Int32)), (0, .ref (aR 0))]) hx hb dX5_overlay_26 rfl hl (by decide) rfl (fun ls hl => ?_)
  obtain ⟨n9, h⟩ := h
  exact L27 n9 (0 : Int32) (0 : Int32) (1 : Int32) (0 : Int32) rAx rAy rBx rBy rO (0 : Int32) rPx rPy rPd (0 : Int32) rFi rLa rOn rLe rRi rHx rHy rHd rKx rKy rKd _ _ _ h hP hD hS (lv_sub hl [1, 0] rfl)
