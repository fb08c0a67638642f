set_option maxHeartbeats 4000000 in
set_option maxRecDepth 100000 in
theorem m_X4_size (l : Launch) (D : va_G) (k : Nat → ClassId) (aC : Nat → Nat) (aE : Nat → Nat) (aP : Nat → Nat) (aQ : Nat → Nat) (aM : Nat → Nat) (cX : Nat → Nat → Int32) (cY : Nat → Nat → Int32) (cN : Nat → Int32) (cM : Int32) (fX : Nat → Int32) (fY : Nat → Int32) (lX : Nat → Int32) (lY : Nat → Int32) (oP : Nat → Int32) (nE : Int32) (pX : Nat → Int32) (pY : Nat → Int32) (pD : Nat → Int32) (pO : Nat → Int32) (nP : Int32) (qF : Nat → Nat → Int32) (nQ : Int32) (mR : Nat → Int32) (mQ : Int32) (mN : Int32) (p0 : Int32) (Q : Int32 → Prop) (X : String → Prop) (sz : Nat) (hlt : l.stackTraces = false) (h : wp_X4_size p0 cM nE nP nQ mQ mN Q X) : vx_Met l yX4_size wsX4_size ({ frames := 7, cells := 2, slots := 12, locals := 110 }) (Pth D k [.ref (aC 0), .int p0] (wC k aC aE aP aQ aM cX cY cN cM ++ wE k aE fX fY lX lY oP nE ++ wP k aP pX pY pD pO nP ++ wQ k aQ qF nQ ++ wM k aM mR mQ mN) sz) (va_Qi (fun (r : Int32) (u : Unit) => Q r ) (fun (u : Unit) t => va_P D vwCl (wC k aC aE aP aQ aM cX cY cN cM ++ wE k aE fX fY lX lY oP nE ++ wP k aP pX pY pD pO nP ++ wQ k aQ qF nQ ++ wM k aM mR mQ mN) t.heap ∧ va_D (va_A (wC k aC aE aP aQ aM cX cY cN cM ++ wE k aE fX fY lX lY oP nE ++ wP k aP pX pY pD pO nP ++ wQ k aQ qF nQ ++ wM k aM mR mQ mN) sz) (wC k aC aE aP aQ aM cX cY cN cM ++ wE k aE fX fY lX lY oP nE ++ wP k aP pX pY pD pO nP ++ wQ k aQ qF nQ ++ wM k aM mR mQ mN)) (va_A (wC k aC aE aP aQ aM cX cY cN cM ++ wE k aE fX fY lX lY oP nE ++ wP k aP pX pY pD pO nP ++ wQ k aQ qF nQ ++ wM k aM mR mQ mN) sz)) (vx_X (fun (_ : Unit) => True) (fun E9 u t => X E9  ∧ va_P D vwCl (wC k aC aE aP aQ aM cX cY cN cM ++ wE k aE fX fY lX lY oP nE ++ wP k aP pX pY pD pO nP ++ wQ k aQ qF nQ ++ wM k aM mR mQ mN) t.heap ∧ va_D (va_A (wC k aC aE aP aQ aM cX cY cN cM ++ wE k aE fX fY lX lY oP nE ++ wP k aP pX pY pD pO nP ++ wQ k aQ qF nQ ++ wM k aM mR mQ mN) sz) (wC k aC aE aP aQ aM cX cY cN cM ++ wE k aE fX fY lX lY oP nE ++ wP k aP pX pY pD pO nP ++ wQ k aQ qF nQ ++ wM k aM mR mQ mN)) (va_A (wC k aC aE aP aQ aM cX cY cN cM ++ wE k aE fX fY lX lY oP nE ++ wP k aP pX pY pD pO nP ++ wQ k aQ qF nQ ++ wM k aM mR mQ mN) sz)) 2 12 (va_A (wC k aC aE aP aQ aM cX cY cN cM ++ wE k aE fX fY lX lY oP nE ++ wP k aP pX pY pD pO nP ++ wQ k aQ qF nQ ++ wM k aM mR mQ mN) sz) := by
  refine vx_ofW (cc := cX4_size) (maxL := 2) (ret := (some .int)) (by decide) rfl ?_
  intro p e s m args below meth c s₁ B hml hxt hv
  obtain ⟨hav, hsz, hP, hE, hD0, hT⟩ := hv
  subst hsz
  have hx := B.exec
  have hb := B.bytes
  have hr := B.returns
  have hts := atoms_spec (ws := wsX4_size) B.pre
  have hown : s.vm.findClass RX4 = some m.cls := findClass_of_methodNamed B.named
  have hlocks := B.notSynchronized
  have hK := hE.1
  have hD := hD0.self (sz := s.heap.size)
  generalize hAe : va_A (wC k aC aE aP aQ aM cX cY cN cM ++ wE k aE fX fY lX lY oP nE ++ wP k aP pX pY pD pO nP ++ wQ k aQ qF nQ ++ wM k aM mR mQ mN) s.heap.size = A at hD hT ⊢
  have hA : ∀ q : Nat, s.heap.size ≤ q → A q := fun q h => by rw [← hAe]; exact Or.inr h
  have hS : va_S A s.heap s.heap [] := va_S.rf
  have hl := lv_entry ([.ref (aC 0), .int p0]) (n := 2) (Nat.le_of_ble_eq_true rfl)
  rw [show entryFrame m args 2 = entryFrame m ([.ref (aC 0), .int p0] : List Value).toArray 2 by rw [hav]]
  rw [lg_entry_eq]
  refine W.gq (fun GQ hGQ => ?_)
  generalize (lg_sl ([.ref (aC 0), .int p0]) ++ List.replicate (2 - (lg_sl ([.ref (aC 0), .int p0])).length) Slot.unset).toArray = ls at hl ⊢
  have hl : lv_has ls 2 [(0, .ref (aC 0)), (1, .int p0)] := hl
  have hiX4 := (by decide +kernel : ∀ w ∈ wsX40, w ∈ wsX4_size)
  have f24 := hts (.fieldLink RX4 24 "PlaneOverlay" "edges" "LPlaneOverlay$Edges;") (by decide +kernel)
  have hiX0 := (by decide +kernel : ∀ w ∈ wsX00, w ∈ wsX4_size)
  have f87 := fun A => hE.nf (A := A) (RX4, 87, "PlaneOverlay$Edges", "count", "I") (by decide +kernel)
  have f31 := hts (.fieldLink RX4 31 "PlaneOverlay" "points" "LPlaneOverlay$Points;") (by decide +kernel)
  have hiX3 := (by decide +kernel : ∀ w ∈ wsX30, w ∈ wsX4_size)
  have f99 := fun A => hE.nf (A := A) (RX4, 99, "PlaneOverlay$Points", "count", "I") (by decide +kernel)
  have f38 := hts (.fieldLink RX4 38 "PlaneOverlay" "pieces" "LPlaneOverlay$Pieces;") (by decide +kernel)
  have hiX2 := (by decide +kernel : ∀ w ∈ wsX20, w ∈ wsX4_size)
  have f95 := fun A => hE.nf (A := A) (RX4, 95, "PlaneOverlay$Pieces", "count", "I") (by decide +kernel)
  have f45 := hts (.fieldLink RX4 45 "PlaneOverlay" "meetings" "LPlaneOverlay$Meetings;") (by decide +kernel)
  have hiX1 := (by decide +kernel : ∀ w ∈ wsX10, w ∈ wsX4_size)
  have f100 := fun A => hE.nf (A := A) (RX4, 100, "PlaneOverlay$Meetings", "parts", "I") (by decide +kernel)
  have f103 := fun A => hE.nf (A := A) (RX4, 103, "PlaneOverlay$Meetings", "pairs", "I") (by decide +kernel)
  have hatxIA := (fun w hw => hts w (by simp only [wsX4_size, List.mem_cons, List.mem_append, hw, true_or, or_true]) : ∀ w ∈ (vx_atS RX4 65 "java/lang/IllegalArgumentException" ["java/lang/RuntimeException", "java/lang/Exception"]).filter goodWord, w.before args s = true)
  have cl61 := hts (.classLink RX4 61 "java/lang/IllegalArgumentException") (by decide +kernel)
  have inxIA := hts (.initialized "java/lang/IllegalArgumentException") (by decide +kernel)
  unfold wp_X4_size at h
  refine lv_aload_n hx hb dX4_size_0 rfl (lv_at hl 0 rfl) ?_
  have hPc := hP.sub (ws' := wC k aC aE aP aQ aM cX cY cN cM) [0, 1, 2, 3, 4, 5, 6, 7] rfl
  have hDc := hD.sub (ws' := wC k aC aE aP aQ aM cX cY cN cM) [0, 1, 2, 3, 4, 5, 6, 7] (by decide) rfl
  have hFc := va_free (wc := wC k aC aE aP aQ aM cX cY cN cM) hD hS hA [0, 1, 2, 3, 4, 5, 6, 7] rfl
  refine vx_callv (vx_runV (C := RX4) (b := (aC 0)) (As := []) (rest := []) ⟨hx, hb, hml, hown, hts⟩ (m_X4_needOverlay l D k aC aE aP aQ aM cX cY cN cM  _ _ _ hlt h) (cwV 0 hts gX4_size_X4_needOverlay rfl rfl rfl (by decide +kernel) ⟨Nat.le_of_ble_eq_true rfl, Nat.le_of_ble_eq_true rfl⟩) (preV_th (ci := 4) (q0 := 0) (C := RX4) (T := TX4) (N := 8) hE hT hS hFc hPc hDc rfl rfl) rfl rfl hl.1 rfl (lv_room (Nat.le_of_ble_eq_true rfl)) dX4_size_1 ⟨Nat.le_of_ble_eq_true rfl, Nat.le_of_ble_eq_true rfl⟩) hS (fun q _ h => hFc q h) hFc (fun q _ h => hFc q h) (fun E9 ce q9 u t H1 locs ht hvm hpx hB hz1 hk1 hS hce hcv hcl => ?_) (fun u t H1 locs ht hvm h hB hz1 hk1 hS => ?_)
  · obtain ⟨h, hP1, hD1⟩ := hB
    rw [ht] at hP1
    obtain ⟨hP, hD⟩ := va_join (wr := wE k aE fX fY lX lY oP nE ++ wP k aP pX pY pD pO nP ++ wQ k aQ qF nQ ++ wM k aM mR mQ mN) (w1 := wC k aC aE aP aQ aM cX cY cN cM) hP hD [0, 1, 2, 3, 4, 5, 6, 7] [8, 9, 10, 11, 12, 13, 14, 15, 16, 17, 18, 19, 20, 21, 22, 23, 24, 25, 26, 27, 28, 29, 30] rfl rfl (by decide) (by decide) hk1 hFc hP1 hD1
    generalize H1 = H at hP hS hce ⊢
    have hP : va_P D vwCl (wC k aC aE aP aQ aM cX cY cN cM ++ wE k aE fX fY lX lY oP nE ++ wP k aP pX pY pD pO nP ++ wQ k aQ qF nQ ++ wM k aM mR mQ mN) H := hP.sub [23, 24, 25, 26, 27, 28, 29, 30, 0, 1, 2, 3, 4, 5, 6, 7, 8, 9, 10, 11, 12, 13, 14, 15, 16, 17, 18, 19, 20, 21, 22] rfl
    have hD : va_D A (wC k aC aE aP aQ aM cX cY cN cM ++ wE k aE fX fY lX lY oP nE ++ wP k aP pX pY pD pO nP ++ wQ k aQ qF nQ ++ wM k aM mR mQ mN) := hD.sub [23, 24, 25, 26, 27, 28, 29, 30, 0, 1, 2, 3, 4, 5, 6, 7, 8, 9, 10, 11, 12, 13, 14, 15, 16, 17, 18, 19, 20, 21, 22] (by decide) rfl
    rw [hGQ]
    exact vx_out (fun x hx => (hxt x hx).elim) hlocks hce hcv hcl (fun t9 ht9 hvm9 => ⟨(), trivial, ⟨h, by rw [ht9]; exact hP, hD⟩, hS.F ht9⟩) hS.2.2 (Nat.le_of_ble_eq_true rfl) (Nat.le_of_ble_eq_true rfl)
  obtain ⟨hP1, hD1⟩ := hB
  rw [ht] at hP1
  obtain ⟨hP, hD⟩ := va_join (wr := wE k aE fX fY lX lY oP nE ++ wP k aP pX pY pD pO nP ++ wQ k aQ qF nQ ++ wM k aM mR mQ mN) (w1 := wC k aC aE aP aQ aM cX cY cN cM) hP hD [0, 1, 2, 3, 4, 5, 6, 7] [8, 9, 10, 11, 12, 13, 14, 15, 16, 17, 18, 19, 20, 21, 22, 23, 24, 25, 26, 27, 28, 29, 30] rfl rfl (by decide) (by decide) hk1 hFc hP1 hD1
  generalize H1 = H at hP hS ⊢
  have hP : va_P D vwCl (wC k aC aE aP aQ aM cX cY cN cM ++ wE k aE fX fY lX lY oP nE ++ wP k aP pX pY pD pO nP ++ wQ k aQ qF nQ ++ wM k aM mR mQ mN) H := hP.sub [23, 24, 25, 26, 27, 28, 29, 30, 0, 1, 2, 3, 4, 5, 6, 7, 8, 9, 10, 11, 12, 13, 14, 15, 16, 17, 18, 19, 20, 21, 22] rfl
  have hD : va_D A (wC k aC aE aP aQ aM cX cY cN cM ++ wE k aE fX fY lX lY oP nE ++ wP k aP pX pY pD pO nP ++ wQ k aQ qF nQ ++ wM k aM mR mQ mN) := hD.sub [23, 24, 25, 26, 27, 28, 29, 30, 0, 1, 2, 3, 4, 5, 6, 7, 8, 9, 10, 11, 12, 13, 14, 15, 16, 17, 18, 19, 20, 21, 22] (by decide) rfl
  refine lv_iload_n hx hb dX4_size_4 rfl (lv_at hl 1 rfl) ?_
  by_cases c0 : p0 = 0
  · have h := h.1 c0
    refine lv_tableIn (tgt := 40) hx hb dX4_size_5 (by rw [c0]; decide) (by rw [c0]; decide) (by rw [c0]; rfl) (by decide) ?_
    refine lv_aload_n hx hb dX4_size_40 rfl (lv_at hl 0 rfl) ?_
    refine va_get (D := D) (ci := 4) (v := .ref (aE 0)) (C := RX4) (T := TX4) (N := 8) hx hb hts hiX4 hown hK hP 0 rfl rfl 3 (by decide) f24 (fun _ h9 => h9) rfl dX4_size_41 ?_
    refine va_getN (D := D) (ci := 0) (v := .int nE) (C := RX0) (T := TX0) (N := 6) (host := "PlaneOverlay") hx hb hts hiX0 hown hK hP 8 rfl rfl 5 (by decide) (f87 _) (fun _ h9 => h9) rfl dX4_size_44 ?_
    refine W.widen (k := 2) (n := 12) (by decide) (by decide) ?_
    rw [hGQ]
    refine vx_ret ?_
    exact W.iret (v := nE) hx hb hr (fun t ht hW => ⟨⟨_, (), rfl, h, by rw [ht]; exact hP, hD⟩, hS.F ht⟩) hS.2.2 dX4_size_47
  by_cases c1 : p0 = 1
  · have h := h.2.1 c1
    refine lv_tableIn (tgt := 48) hx hb dX4_size_5 (by rw [c1]; decide) (by rw [c1]; decide) (by rw [c1]; rfl) (by decide) ?_
    refine lv_aload_n hx hb dX4_size_48 rfl (lv_at hl 0 rfl) ?_
    refine va_get (D := D) (ci := 4) (v := .ref (aP 0)) (C := RX4) (T := TX4) (N := 8) hx hb hts hiX4 hown hK hP 0 rfl rfl 4 (by decide) f31 (fun _ h9 => h9) rfl dX4_size_49 ?_
    refine va_getN (D := D) (ci := 3) (v := .int nP) (C := RX3) (T := TX3) (N := 5) (host := "PlaneOverlay") hx hb hts hiX3 hown hK hP 14 rfl rfl 4 (by decide) (f99 _) (fun _ h9 => h9) rfl dX4_size_52 ?_
    refine W.widen (k := 2) (n := 12) (by decide) (by decide) ?_
    rw [hGQ]
    refine vx_ret ?_
    exact W.iret (v := nP) hx hb hr (fun t ht hW => ⟨⟨_, (), rfl, h, by rw [ht]; exact hP, hD⟩, hS.F ht⟩) hS.2.2 dX4_size_55
  by_cases c2 : p0 = 2
  · have h := h.2.2.1 c2
    refine lv_tableIn (tgt := 56) hx hb dX4_size_5 (by rw [c2]; decide) (by rw [c2]; decide) (by rw [c2]; rfl) (by decide) ?_
    refine lv_aload_n hx hb dX4_size_56 rfl (lv_at hl 0 rfl) ?_
    refine va_get (D := D) (ci := 4) (v := .ref (aQ 0)) (C := RX4) (T := TX4) (N := 8) hx hb hts hiX4 hown hK hP 0 rfl rfl 5 (by decide) f38 (fun _ h9 => h9) rfl dX4_size_57 ?_
    refine va_getN (D := D) (ci := 2) (v := .int nQ) (C := RX2) (T := TX2) (N := 2) (host := "PlaneOverlay") hx hb hts hiX2 hown hK hP 19 rfl rfl 1 (by decide) (f95 _) (fun _ h9 => h9) rfl dX4_size_60 ?_
    refine W.widen (k := 2) (n := 12) (by decide) (by decide) ?_
    rw [hGQ]
    refine vx_ret ?_
    exact W.iret (v := nQ) hx hb hr (fun t ht hW => ⟨⟨_, (), rfl, h, by rw [ht]; exact hP, hD⟩, hS.F ht⟩) hS.2.2 dX4_size_63
  by_cases c3 : p0 = 3
  · have h := h.2.2.2.1 c3
    refine lv_tableIn (tgt := 64) hx hb dX4_size_5 (by rw [c3]; decide) (by rw [c3]; decide) (by rw [c3]; rfl) (by decide) ?_
    refine lv_iconst (v := (1 : Int32)) hx hb dX4_size_64 (by decide) ?_
    refine lv_aload_n hx hb dX4_size_65 rfl (lv_at hl 0 rfl) ?_
    refine va_get (D := D) (ci := 4) (v := .ref (aM 0)) (C := RX4) (T := TX4) (N := 8) hx hb hts hiX4 hown hK hP 0 rfl rfl 6 (by decide) f45 (fun _ h9 => h9) rfl dX4_size_66 ?_
    refine va_getN (D := D) (ci := 1) (v := .int mN) (C := RX1) (T := TX1) (N := 3) (host := "PlaneOverlay") hx hb hts hiX1 hown hK hP 29 rfl rfl 2 (by decide) (f100 _) (fun _ h9 => h9) rfl dX4_size_69 ?_
    refine lv_iadd hx hb dX4_size_72 ?_
    refine lv_aload_n hx hb dX4_size_73 rfl (lv_at hl 0 rfl) ?_
    refine va_get (D := D) (ci := 4) (v := .ref (aQ 0)) (C := RX4) (T := TX4) (N := 8) hx hb hts hiX4 hown hK hP 0 rfl rfl 5 (by decide) f38 (fun _ h9 => h9) rfl dX4_size_74 ?_
    refine va_getN (D := D) (ci := 2) (v := .int nQ) (C := RX2) (T := TX2) (N := 2) (host := "PlaneOverlay") hx hb hts hiX2 hown hK hP 19 rfl rfl 1 (by decide) (f95 _) (fun _ h9 => h9) rfl dX4_size_77 ?_
    refine lv_iadd hx hb dX4_size_80 ?_
    refine lv_aload_n hx hb dX4_size_81 rfl (lv_at hl 0 rfl) ?_
    refine va_get (D := D) (ci := 4) (v := .ref (aP 0)) (C := RX4) (T := TX4) (N := 8) hx hb hts hiX4 hown hK hP 0 rfl rfl 4 (by decide) f31 (fun _ h9 => h9) rfl dX4_size_82 ?_
    refine va_getN (D := D) (ci := 3) (v := .int nP) (C := RX3) (T := TX3) (N := 5) (host := "PlaneOverlay") hx hb hts hiX3 hown hK hP 14 rfl rfl 4 (by decide) (f99 _) (fun _ h9 => h9) rfl dX4_size_85 ?_
    refine lv_isub hx hb dX4_size_88 ?_
    refine W.widen (k := 2) (n := 12) (by decide) (by decide) ?_
    rw [hGQ]
    refine vx_ret ?_
    exact W.iret (v := ((((1 : Int32) + mN) + nQ) - nP)) hx hb hr (fun t ht hW => ⟨⟨_, (), rfl, h, by rw [ht]; exact hP, hD⟩, hS.F ht⟩) hS.2.2 dX4_size_89
  by_cases c4 : p0 = 4
  · have h := h.2.2.2.2.1 c4
    refine lv_tableIn (tgt := 90) hx hb dX4_size_5 (by rw [c4]; decide) (by rw [c4]; decide) (by rw [c4]; rfl) (by decide) ?_
    refine lv_aload_n hx hb dX4_size_90 rfl (lv_at hl 0 rfl) ?_
    refine va_get (D := D) (ci := 4) (v := .ref (aM 0)) (C := RX4) (T := TX4) (N := 8) hx hb hts hiX4 hown hK hP 0 rfl rfl 6 (by decide) f45 (fun _ h9 => h9) rfl dX4_size_91 ?_
    refine va_getN (D := D) (ci := 1) (v := .int mQ) (C := RX1) (T := TX1) (N := 3) (host := "PlaneOverlay") hx hb hts hiX1 hown hK hP 29 rfl rfl 1 (by decide) (f103 _) (fun _ h9 => h9) rfl dX4_size_94 ?_
    refine W.widen (k := 2) (n := 12) (by decide) (by decide) ?_
    rw [hGQ]
    refine vx_ret ?_
    exact W.iret (v := mQ) hx hb hr (fun t ht hW => ⟨⟨_, (), rfl, h, by rw [ht]; exact hP, hD⟩, hS.F ht⟩) hS.2.2 dX4_size_97
  have h := h.2.2.2.2.2 c0 c1 c2 c3 c4
  refine lv_tableOut (tgt := 98) hx hb dX4_size_5 (sw_out4 c0 c1 c2 c3 c4) (by decide) ?_
  rw [hGQ]
  obtain ⟨sa, hstr⟩ := hT.2.2.1 (106, "there is no such size") (by decide)
  exact vx_throwS (own := RX4) (cls := "java/lang/IllegalArgumentException") (names := ["java/lang/RuntimeException", "java/lang/Exception"]) (A := A) hx hb hlt hown (by decide) (by decide) cl61 inxIA hstr (vx_hat hatxIA (th_bad "java/lang/IllegalArgumentException" 65 (by decide) (by decide)) (th_b3 hT (by decide))) (by decide +kernel) hT.1 hT.2.1 hS (hl.1.trans hml.symm) dX4_size_98 dX4_size_101 dX4_size_102 dX4_size_104 dX4_size_107 (fun x hx => (hxt x hx).elim) (Nat.le_of_ble_eq_true rfl) (Nat.le_of_ble_eq_true rfl) (Nat.le_of_ble_eq_true rfl) (Nat.le_of_ble_eq_true rfl) hlocks (fun t hvm hz hq => ⟨(), trivial, ⟨h, P_ext hP hq, hD⟩, F_ext hS hz hq⟩) hS.2.2 (Nat.le_of_ble_eq_true rfl) (Nat.le_of_ble_eq_true rfl)
set_option maxHeartbeats 4000000 in
set_option maxRecDepth 100000 in
theorem m_X4_point (l : Launch) (D : va_G) (k : Nat → ClassId) (aC : Nat → Nat) (aE : Nat → Nat) (aP : Nat → Nat) (aQ : Nat → Nat) (aM : Nat → Nat) (cX : Nat → Nat → Int32) (cY : Nat → Nat → Int32) (cN : Nat → Int32) (cM : Int32) (fX : Nat → Int32) (fY : Nat → Int32) (lX : Nat → Int32) (lY : Nat → Int32) (oP : Nat → Int32) (nE : Int32) (pX : Nat → Int32) (pY : Nat → Int32) (pD : Nat → Int32) (pO : Nat → Int32) (nP : Int32) (qF : Nat → Nat → Int32) (nQ : Int32) (mR : Nat → Int32) (mQ : Int32) (mN : Int32) (p0 : Int32) (p1 : Int32) (Q : Int32 → Prop) (X : String → Prop) (sz : Nat) (hlt : l.stackTraces = false) (h : wp_X4_point p0 p1 cM pX pY pD nP Q X) : vx_Met l yX4_point wsX4_point ({ frames := 7, cells := 2, slots := 12, locals := 110 }) (Pth D k [.ref (aC 0), .int p0, .int p1] (wC k aC aE aP aQ aM cX cY cN cM ++ wE k aE fX fY lX lY oP nE ++ wP k aP pX pY pD pO nP ++ wQ k aQ qF nQ ++ wM k aM mR mQ mN) sz) (va_Qi (fun (r : Int32) (u : Unit) => Q r ) (fun (u : Unit) t => va_P D vwCl (wC k aC aE aP aQ aM cX cY cN cM ++ wE k aE fX fY lX lY oP nE ++ wP k aP pX pY pD pO nP ++ wQ k aQ qF nQ ++ wM k aM mR mQ mN) t.heap ∧ va_D (va_A (wC k aC aE aP aQ aM cX cY cN cM ++ wE k aE fX fY lX lY oP nE ++ wP k aP pX pY pD pO nP ++ wQ k aQ qF nQ ++ wM k aM mR mQ mN) sz) (wC k aC aE aP aQ aM cX cY cN cM ++ wE k aE fX fY lX lY oP nE ++ wP k aP pX pY pD pO nP ++ wQ k aQ qF nQ ++ wM k aM mR mQ mN)) (va_A (wC k aC aE aP aQ aM cX cY cN cM ++ wE k aE fX fY lX lY oP nE ++ wP k aP pX pY pD pO nP ++ wQ k aQ qF nQ ++ wM k aM mR mQ mN) sz)) (vx_X (fun (_ : Unit) => True) (fun E9 u t => X E9  ∧ va_P D vwCl (wC k aC aE aP aQ aM cX cY cN cM ++ wE k aE fX fY lX lY oP nE ++ wP k aP pX pY pD pO nP ++ wQ k aQ qF nQ ++ wM k aM mR mQ mN) t.heap ∧ va_D (va_A (wC k aC aE aP aQ aM cX cY cN cM ++ wE k aE fX fY lX lY oP nE ++ wP k aP pX pY pD pO nP ++ wQ k aQ qF nQ ++ wM k aM mR mQ mN) sz) (wC k aC aE aP aQ aM cX cY cN cM ++ wE k aE fX fY lX lY oP nE ++ wP k aP pX pY pD pO nP ++ wQ k aQ qF nQ ++ wM k aM mR mQ mN)) (va_A (wC k aC aE aP aQ aM cX cY cN cM ++ wE k aE fX fY lX lY oP nE ++ wP k aP pX pY pD pO nP ++ wQ k aQ qF nQ ++ wM k aM mR mQ mN) sz)) 2 12 (va_A (wC k aC aE aP aQ aM cX cY cN cM ++ wE k aE fX fY lX lY oP nE ++ wP k aP pX pY pD pO nP ++ wQ k aQ qF nQ ++ wM k aM mR mQ mN) sz) := by
  refine vx_ofW (cc := cX4_point) (maxL := 3) (ret := (some .int)) (by decide) rfl ?_
  intro p e s m args below meth c s₁ B hml hxt hv
  obtain ⟨hav, hsz, hP, hE, hD0, hT⟩ := hv
  subst hsz
  have hx := B.exec
  have hb := B.bytes
  have hr := B.returns
  have hts := atoms_spec (ws := wsX4_point) B.pre
  have hown : s.vm.findClass RX4 = some m.cls := findClass_of_methodNamed B.named
  have hlocks := B.notSynchronized
  have hK := hE.1
  have hD := hD0.self (sz := s.heap.size)
  generalize hAe : va_A (wC k aC aE aP aQ aM cX cY cN cM ++ wE k aE fX fY lX lY oP nE ++ wP k aP pX pY pD pO nP ++ wQ k aQ qF nQ ++ wM k aM mR mQ mN) s.heap.size = A at hD hT ⊢
  have hA : ∀ q : Nat, s.heap.size ≤ q → A q := fun q h => by rw [← hAe]; exact Or.inr h
  have hS : va_S A s.heap s.heap [] := va_S.rf
  have hl := lv_entry ([.ref (aC 0), .int p0, .int p1]) (n := 3) (Nat.le_of_ble_eq_true rfl)
  rw [show entryFrame m args 3 = entryFrame m ([.ref (aC 0), .int p0, .int p1] : List Value).toArray 3 by rw [hav]]
  rw [lg_entry_eq]
  refine W.gq (fun GQ hGQ => ?_)
  generalize (lg_sl ([.ref (aC 0), .int p0, .int p1]) ++ List.replicate (3 - (lg_sl ([.ref (aC 0), .int p0, .int p1])).length) Slot.unset).toArray = ls at hl ⊢
  have hl : lv_has ls 3 [(0, .ref (aC 0)), (1, .int p0), (2, .int p1)] := hl
  have hatxIO := (fun w hw => hts w (by simp only [wsX4_point, List.mem_cons, List.mem_append, hw, true_or, or_true]) : ∀ w ∈ (vx_atS RX4 112 "java/lang/IndexOutOfBoundsException" ["java/lang/RuntimeException", "java/lang/Exception"]).filter goodWord, w.before args s = true)
  have cl108 := hts (.classLink RX4 108 "java/lang/IndexOutOfBoundsException") (by decide +kernel)
  have inxIO := hts (.initialized "java/lang/IndexOutOfBoundsException") (by decide +kernel)
  have hiX4 := (by decide +kernel : ∀ w ∈ wsX40, w ∈ wsX4_point)
  have f31 := hts (.fieldLink RX4 31 "PlaneOverlay" "points" "LPlaneOverlay$Points;") (by decide +kernel)
  have hiX3 := (by decide +kernel : ∀ w ∈ wsX30, w ∈ wsX4_point)
  have f99 := fun A => hE.nf (A := A) (RX4, 99, "PlaneOverlay$Points", "count", "I") (by decide +kernel)
  have f113 := fun A => hE.nf (A := A) (RX4, 113, "PlaneOverlay$Points", "x", "[I") (by decide +kernel)
  have f116 := fun A => hE.nf (A := A) (RX4, 116, "PlaneOverlay$Points", "y", "[I") (by decide +kernel)
  have f119 := fun A => hE.nf (A := A) (RX4, 119, "PlaneOverlay$Points", "d", "[I") (by decide +kernel)
  have hatxIA := (fun w hw => hts w (by simp only [wsX4_point, List.mem_cons, List.mem_append, hw, true_or, or_true]) : ∀ w ∈ (vx_atS RX4 65 "java/lang/IllegalArgumentException" ["java/lang/RuntimeException", "java/lang/Exception"]).filter goodWord, w.before args s = true)
  have cl61 := hts (.classLink RX4 61 "java/lang/IllegalArgumentException") (by decide +kernel)
  have inxIA := hts (.initialized "java/lang/IllegalArgumentException") (by decide +kernel)
  have L19 : ∀  (H : Heap) (locs : List Loc) (ls : Array Slot), wp_X4_point_L19 p0 p1 cM pX pY pD nP Q X   → va_P D vwCl (wC k aC aE aP aQ aM cX cY cN cM ++ wE k aE fX fY lX lY oP nE ++ wP k aP pX pY pD pO nP ++ wQ k aQ qF nQ ++ wM k aM mR mQ mN) H → va_D A (wC k aC aE aP aQ aM cX cY cN cM ++ wE k aE fX fY lX lY oP nE ++ wP k aP pX pY pD pO nP ++ wQ k aQ qF nQ ++ wM k aM mR mQ mN) → va_S A s.heap H locs → lv_has ls 3 [] → W p l e (headSpec wsX4_point ({ frames := 7, cells := 2, slots := 12, locals := 110 })).room s m args below meth c H locs 1 6 GQ (F0 m 19 ls []) := by
    intro  H locs ls h hP hD hS hl
    unfold wp_X4_point_L19 at h
    rw [hGQ]
    obtain ⟨sa, hstr⟩ := hT.2.2.1 (110, "there is no such point") (by decide)
    exact vx_throwS (own := RX4) (cls := "java/lang/IndexOutOfBoundsException") (names := ["java/lang/RuntimeException", "java/lang/Exception"]) (A := A) hx hb hlt hown (by decide) (by decide) cl108 inxIO hstr (vx_hat hatxIO (th_bad "java/lang/IndexOutOfBoundsException" 112 (by decide) (by decide)) (th_b3 hT (by decide))) (by decide +kernel) hT.1 hT.2.1 hS (hl.1.trans hml.symm) dX4_point_19 dX4_point_22 dX4_point_23 dX4_point_25 dX4_point_28 (fun x hx => (hxt x hx).elim) (Nat.le_of_ble_eq_true rfl) (Nat.le_of_ble_eq_true rfl) (Nat.le_of_ble_eq_true rfl) (Nat.le_of_ble_eq_true rfl) hlocks (fun t hvm hz hq => ⟨(), trivial, ⟨h, P_ext hP hq, hD⟩, F_ext hS hz hq⟩) hS.2.2 (Nat.le_of_ble_eq_true rfl) (Nat.le_of_ble_eq_true rfl)
  unfold wp_X4_point at h
  refine lv_aload_n hx hb dX4_point_0 rfl (lv_at hl 0 rfl) ?_
  have hPc := hP.sub (ws' := wC k aC aE aP aQ aM cX cY cN cM) [0, 1, 2, 3, 4, 5, 6, 7] rfl
  have hDc := hD.sub (ws' := wC k aC aE aP aQ aM cX cY cN cM) [0, 1, 2, 3, 4, 5, 6, 7] (by decide) rfl
  have hFc := va_free (wc := wC k aC aE aP aQ aM cX cY cN cM) hD hS hA [0, 1, 2, 3, 4, 5, 6, 7] rfl
  refine vx_callv (vx_runV (C := RX4) (b := (aC 0)) (As := []) (rest := []) ⟨hx, hb, hml, hown, hts⟩ (m_X4_needOverlay l D k aC aE aP aQ aM cX cY cN cM  _ _ _ hlt h) (cwV 0 hts gX4_point_X4_needOverlay rfl rfl rfl (by decide +kernel) ⟨Nat.le_of_ble_eq_true rfl, Nat.le_of_ble_eq_true rfl⟩) (preV_th (ci := 4) (q0 := 0) (C := RX4) (T := TX4) (N := 8) hE hT hS hFc hPc hDc rfl rfl) rfl rfl hl.1 rfl (lv_room (Nat.le_of_ble_eq_true rfl)) dX4_point_1 ⟨Nat.le_of_ble_eq_true rfl, Nat.le_of_ble_eq_true rfl⟩) hS (fun q _ h => hFc q h) hFc (fun q _ h => hFc q h) (fun E9 ce q9 u t H1 locs ht hvm hpx hB hz1 hk1 hS hce hcv hcl => ?_) (fun u t H1 locs ht hvm h hB hz1 hk1 hS => ?_)
  · obtain ⟨h, hP1, hD1⟩ := hB
    rw [ht] at hP1
    obtain ⟨hP, hD⟩ := va_join (wr := wE k aE fX fY lX lY oP nE ++ wP k aP pX pY pD pO nP ++ wQ k aQ qF nQ ++ wM k aM mR mQ mN) (w1 := wC k aC aE aP aQ aM cX cY cN cM) hP hD [0, 1, 2, 3, 4, 5, 6, 7] [8, 9, 10, 11, 12, 13, 14, 15, 16, 17, 18, 19, 20, 21, 22, 23, 24, 25, 26, 27, 28, 29, 30] rfl rfl (by decide) (by decide) hk1 hFc hP1 hD1
    generalize H1 = H at hP hS hce ⊢
    have hP : va_P D vwCl (wC k aC aE aP aQ aM cX cY cN cM ++ wE k aE fX fY lX lY oP nE ++ wP k aP pX pY pD pO nP ++ wQ k aQ qF nQ ++ wM k aM mR mQ mN) H := hP.sub [23, 24, 25, 26, 27, 28, 29, 30, 0, 1, 2, 3, 4, 5, 6, 7, 8, 9, 10, 11, 12, 13, 14, 15, 16, 17, 18, 19, 20, 21, 22] rfl
    have hD : va_D A (wC k aC aE aP aQ aM cX cY cN cM ++ wE k aE fX fY lX lY oP nE ++ wP k aP pX pY pD pO nP ++ wQ k aQ qF nQ ++ wM k aM mR mQ mN) := hD.sub [23, 24, 25, 26, 27, 28, 29, 30, 0, 1, 2, 3, 4, 5, 6, 7, 8, 9, 10, 11, 12, 13, 14, 15, 16, 17, 18, 19, 20, 21, 22] (by decide) rfl
    rw [hGQ]
    exact vx_out (fun x hx => (hxt x hx).elim) hlocks hce hcv hcl (fun t9 ht9 hvm9 => ⟨(), trivial, ⟨h, by rw [ht9]; exact hP, hD⟩, hS.F ht9⟩) hS.2.2 (Nat.le_of_ble_eq_true rfl) (Nat.le_of_ble_eq_true rfl)
  obtain ⟨hP1, hD1⟩ := hB
  rw [ht] at hP1
  obtain ⟨hP, hD⟩ := va_join (wr := wE k aE fX fY lX lY oP nE ++ wP k aP pX pY pD pO nP ++ wQ k aQ qF nQ ++ wM k aM mR mQ mN) (w1 := wC k aC aE aP aQ aM cX cY cN cM) hP hD [0, 1, 2, 3, 4, 5, 6, 7] [8, 9, 10, 11, 12, 13, 14, 15, 16, 17, 18, 19, 20, 21, 22, 23, 24, 25, 26, 27, 28, 29, 30] rfl rfl (by decide) (by decide) hk1 hFc hP1 hD1
  generalize H1 = H at hP hS ⊢
  have hP : va_P D vwCl (wC k aC aE aP aQ aM cX cY cN cM ++ wE k aE fX fY lX lY oP nE ++ wP k aP pX pY pD pO nP ++ wQ k aQ qF nQ ++ wM k aM mR mQ mN) H := hP.sub [23, 24, 25, 26, 27, 28, 29, 30, 0, 1, 2, 3, 4, 5, 6, 7, 8, 9, 10, 11, 12, 13, 14, 15, 16, 17, 18, 19, 20, 21, 22] rfl
  have hD : va_D A (wC k aC aE aP aQ aM cX cY cN cM ++ wE k aE fX fY lX lY oP nE ++ wP k aP pX pY pD pO nP ++ wQ k aQ qF nQ ++ wM k aM mR mQ mN) := hD.sub [23, 24, 25, 26, 27, 28, 29, 30, 0, 1, 2, 3, 4, 5, 6, 7, 8, 9, 10, 11, 12, 13, 14, 15, 16, 17, 18, 19, 20, 21, 22] (by decide) rfl
  refine lv_iload_n hx hb dX4_point_4 rfl (lv_at hl 1 rfl) ?_
  refine lv_if_lt (tgt := 19) hx hb dX4_point_5 (by decide) (fun cq => ?_) (fun cq => ?_)
  · have h := h.1 cq
    exact L19  _ _ _ h hP hD hS (lv_sub hl [] rfl)
  · have h := h.2 cq
    refine lv_iload_n hx hb dX4_point_8 rfl (lv_at hl 1 rfl) ?_
    refine lv_aload_n hx hb dX4_point_9 rfl (lv_at hl 0 rfl) ?_
    refine va_get (D := D) (ci := 4) (v := .ref (aP 0)) (C := RX4) (T := TX4) (N := 8) hx hb hts hiX4 hown hK hP 0 rfl rfl 4 (by decide) f31 (fun _ h9 => h9) rfl dX4_point_10 ?_
    refine va_getN (D := D) (ci := 3) (v := .int nP) (C := RX3) (T := TX3) (N := 5) (host := "PlaneOverlay") hx hb hts hiX3 hown hK hP 14 rfl rfl 4 (by decide) (f99 _) (fun _ h9 => h9) rfl dX4_point_13 ?_
    refine lv_icmp_lt (tgt := 29) hx hb dX4_point_16 (by decide) (fun cq => ?_) (fun cq => ?_)
    · have h := h.1 cq
      refine lv_iload_n hx hb dX4_point_29 rfl (lv_at hl 2 rfl) ?_
      by_cases c0 : p1 = 0
      · have h := h.1 c0
        refine lv_tableIn (tgt := 56) hx hb dX4_point_30 (by rw [c0]; decide) (by rw [c0]; decide) (by rw [c0]; rfl) (by decide) ?_
        refine lv_aload_n hx hb dX4_point_56 rfl (lv_at hl 0 rfl) ?_
        refine va_get (D := D) (ci := 4) (v := .ref (aP 0)) (C := RX4) (T := TX4) (N := 8) hx hb hts hiX4 hown hK hP 0 rfl rfl 4 (by decide) f31 (fun _ h9 => h9) rfl dX4_point_57 ?_
        refine va_getN (D := D) (ci := 3) (v := .ref (aP 1)) (C := RX3) (T := TX3) (N := 5) (host := "PlaneOverlay") hx hb hts hiX3 hown hK hP 14 rfl rfl 0 (by decide) (f113 _) (fun _ h9 => h9) rfl dX4_point_60 ?_
        refine lv_iload_n hx hb dX4_point_63 rfl (lv_at hl 1 rfl) ?_
        obtain ⟨hin, h⟩ := h
        refine va_iald hx hb hK hP 15 0 rfl rfl hin dX4_point_64 ?_
        refine W.widen (k := 2) (n := 12) (by decide) (by decide) ?_
        rw [hGQ]
        refine vx_ret ?_
        exact W.iret (v := (pX p0.toNatClampNeg)) hx hb hr (fun t ht hW => ⟨⟨_, (), rfl, h, by rw [ht]; exact hP, hD⟩, hS.F ht⟩) hS.2.2 dX4_point_65
      by_cases c1 : p1 = 1
      · have h := h.2.1 c1
        refine lv_tableIn (tgt := 66) hx hb dX4_point_30 (by rw [c1]; decide) (by rw [c1]; decide) (by rw [c1]; rfl) (by decide) ?_
        refine lv_aload_n hx hb dX4_point_66 rfl (lv_at hl 0 rfl) ?_
        refine va_get (D := D) (ci := 4) (v := .ref (aP 0)) (C := RX4) (T := TX4) (N := 8) hx hb hts hiX4 hown hK hP 0 rfl rfl 4 (by decide) f31 (fun _ h9 => h9) rfl dX4_point_67 ?_
        refine va_getN (D := D) (ci := 3) (v := .ref (aP 2)) (C := RX3) (T := TX3) (N := 5) (host := "PlaneOverlay") hx hb hts hiX3 hown hK hP 14 rfl rfl 1 (by decide) (f116 _) (fun _ h9 => h9) rfl dX4_point_70 ?_
        refine lv_iload_n hx hb dX4_point_73 rfl (lv_at hl 1 rfl) ?_
        obtain ⟨hin, h⟩ := h
        refine va_iald hx hb hK hP 16 0 rfl rfl hin dX4_point_74 ?_
        refine W.widen (k := 2) (n := 12) (by decide) (by decide) ?_
        rw [hGQ]
        refine vx_ret ?_
        exact W.iret (v := (pY p0.toNatClampNeg)) hx hb hr (fun t ht hW => ⟨⟨_, (), rfl, h, by rw [ht]; exact hP, hD⟩, hS.F ht⟩) hS.2.2 dX4_point_75
      by_cases c2 : p1 = 2
      · have h := h.2.2.1 c2
        refine lv_tableIn (tgt := 76) hx hb dX4_point_30 (by rw [c2]; decide) (by rw [c2]; decide) (by rw [c2]; rfl) (by decide) ?_
        refine lv_aload_n hx hb dX4_point_76 rfl (lv_at hl 0 rfl) ?_
        refine va_get (D := D) (ci := 4) (v := .ref (aP 0)) (C := RX4) (T := TX4) (N := 8) hx hb hts hiX4 hown hK hP 0 rfl rfl 4 (by decide) f31 (fun _ h9 => h9) rfl dX4_point_77 ?_
        refine va_getN (D := D) (ci := 3) (v := .ref (aP 3)) (C := RX3) (T := TX3) (N := 5) (host := "PlaneOverlay") hx hb hts hiX3 hown hK hP 14 rfl rfl 2 (by decide) (f119 _) (fun _ h9 => h9) rfl dX4_point_80 ?_
        refine lv_iload_n hx hb dX4_point_83 rfl (lv_at hl 1 rfl) ?_
        obtain ⟨hin, h⟩ := h
        refine va_iald hx hb hK hP 17 0 rfl rfl hin dX4_point_84 ?_
        refine W.widen (k := 2) (n := 12) (by decide) (by decide) ?_
        rw [hGQ]
        refine vx_ret ?_
        exact W.iret (v := (pD p0.toNatClampNeg)) hx hb hr (fun t ht hW => ⟨⟨_, (), rfl, h, by rw [ht]; exact hP, hD⟩, hS.F ht⟩) hS.2.2 dX4_point_85
      have h := h.2.2.2 c0 c1 c2
      refine lv_tableOut (tgt := 86) hx hb dX4_point_30 (sw_out2 c0 c1 c2) (by decide) ?_
      rw [hGQ]
      obtain ⟨sa, hstr⟩ := hT.2.2.1 (122, "a point has no such number") (by decide)
      exact vx_throwS (own := RX4) (cls := "java/lang/IllegalArgumentException") (names := ["java/lang/RuntimeException", "java/lang/Exception"]) (A := A) hx hb hlt hown (by decide) (by decide) cl61 inxIA hstr (vx_hat hatxIA (th_bad "java/lang/IllegalArgumentException" 65 (by decide) (by decide)) (th_b3 hT (by decide))) (by decide +kernel) hT.1 hT.2.1 hS (hl.1.trans hml.symm) dX4_point_86 dX4_point_89 dX4_point_90 dX4_point_92 dX4_point_95 (fun x hx => (hxt x hx).elim) (Nat.le_of_ble_eq_true rfl) (Nat.le_of_ble_eq_true rfl) (Nat.le_of_ble_eq_true rfl) (Nat.le_of_ble_eq_true rfl) hlocks (fun t hvm hz hq => ⟨(), trivial, ⟨h, P_ext hP hq, hD⟩, F_ext hS hz hq⟩) hS.2.2 (Nat.le_of_ble_eq_true rfl) (Nat.le_of_ble_eq_true rfl)
    · have h := h.2 cq
      exact L19  _ _ _ h hP hD hS (lv_sub hl [] rfl)
set_option maxHeartbeats 4000000 in
set_option maxRecDepth 100000 in
theorem m_X4_piece (l : Launch) (D : va_G) (k : Nat → ClassId) (aC : Nat → Nat) (aE : Nat → Nat) (aP : Nat → Nat) (aQ : Nat → Nat) (aM : Nat → Nat) (cX : Nat → Nat → Int32) (cY : Nat → Nat → Int32) (cN : Nat → Int32) (cM : Int32) (fX : Nat → Int32) (fY : Nat → Int32) (lX : Nat → Int32) (lY : Nat → Int32) (oP : Nat → Int32) (nE : Int32) (pX : Nat → Int32) (pY : Nat → Int32) (pD : Nat → Int32) (pO : Nat → Int32) (nP : Int32) (qF : Nat → Nat → Int32) (nQ : Int32) (mR : Nat → Int32) (mQ : Int32) (mN : Int32) (p0 : Int32) (p1 : Int32) (Q : Int32 → Prop) (X : String → Prop) (sz : Nat) (hlt : l.stackTraces = false) (h : wp_X4_piece p0 p1 cM qF nQ Q X) : vx_Met l yX4_piece wsX4_piece ({ frames := 7, cells := 2, slots := 12, locals := 110 }) (Pth D k [.ref (aC 0), .int p0, .int p1] (wC k aC aE aP aQ aM cX cY cN cM ++ wE k aE fX fY lX lY oP nE ++ wP k aP pX pY pD pO nP ++ wQ k aQ qF nQ ++ wM k aM mR mQ mN) sz) (va_Qi (fun (r : Int32) (u : Unit) => Q r ) (fun (u : Unit) t => va_P D vwCl (wC k aC aE aP aQ aM cX cY cN cM ++ wE k aE fX fY lX lY oP nE ++ wP k aP pX pY pD pO nP ++ wQ k aQ qF nQ ++ wM k aM mR mQ mN) t.heap ∧ va_D (va_A (wC k aC aE aP aQ aM cX cY cN cM ++ wE k aE fX fY lX lY oP nE ++ wP k aP pX pY pD pO nP ++ wQ k aQ qF nQ ++ wM k aM mR mQ mN) sz) (wC k aC aE aP aQ aM cX cY cN cM ++ wE k aE fX fY lX lY oP nE ++ wP k aP pX pY pD pO nP ++ wQ k aQ qF nQ ++ wM k aM mR mQ mN)) (va_A (wC k aC aE aP aQ aM cX cY cN cM ++ wE k aE fX fY lX lY oP nE ++ wP k aP pX pY pD pO nP ++ wQ k aQ qF nQ ++ wM k aM mR mQ mN) sz)) (vx_X (fun (_ : Unit) => True) (fun E9 u t => X E9  ∧ va_P D vwCl (wC k aC aE aP aQ aM cX cY cN cM ++ wE k aE fX fY lX lY oP nE ++ wP k aP pX pY pD pO nP ++ wQ k aQ qF nQ ++ wM k aM mR mQ mN) t.heap ∧ va_D (va_A (wC k aC aE aP aQ aM cX cY cN cM ++ wE k aE fX fY lX lY oP nE ++ wP k aP pX pY pD pO nP ++ wQ k aQ qF nQ ++ wM k aM mR mQ mN) sz) (wC k aC aE aP aQ aM cX cY cN cM ++ wE k aE fX fY lX lY oP nE ++ wP k aP pX pY pD pO nP ++ wQ k aQ qF nQ ++ wM k aM mR mQ mN)) (va_A (wC k aC aE aP aQ aM cX cY cN cM ++ wE k aE fX fY lX lY oP nE ++ wP k aP pX pY pD pO nP ++ wQ k aQ qF nQ ++ wM k aM mR mQ mN) sz)) 2 12 (va_A (wC k aC aE aP aQ aM cX cY cN cM ++ wE k aE fX fY lX lY oP nE ++ wP k aP pX pY pD pO nP ++ wQ k aQ qF nQ ++ wM k aM mR mQ mN) sz) := by
  refine vx_ofW (cc := cX4_piece) (maxL := 3) (ret := (some .int)) (by decide) rfl ?_
  intro p e s m args below meth c s₁ B hml hxt hv
  obtain ⟨hav, hsz, hP, hE, hD0, hT⟩ := hv
  subst hsz
  have hx := B.exec
  have hb := B.bytes
  have hr := B.returns
  have hts := atoms_spec (ws := wsX4_piece) B.pre
  have hown : s.vm.findClass RX4 = some m.cls := findClass_of_methodNamed B.named
  have hlocks := B.notSynchronized
  have hK := hE.1
  have hD := hD0.self (sz := s.heap.size)
  generalize hAe : va_A (wC k aC aE aP aQ aM cX cY cN cM ++ wE k aE fX fY lX lY oP nE ++ wP k aP pX pY pD pO nP ++ wQ k aQ qF nQ ++ wM k aM mR mQ mN) s.heap.size = A at hD hT ⊢
  have hA : ∀ q : Nat, s.heap.size ≤ q → A q := fun q h => by rw [← hAe]; exact Or.inr h
  have hS : va_S A s.heap s.heap [] := va_S.rf
  have hl := lv_entry ([.ref (aC 0), .int p0, .int p1]) (n := 3) (Nat.le_of_ble_eq_true rfl)
  rw [show entryFrame m args 3 = entryFrame m ([.ref (aC 0), .int p0, .int p1] : List Value).toArray 3 by rw [hav]]
  rw [lg_entry_eq]
  refine W.gq (fun GQ hGQ => ?_)
  generalize (lg_sl ([.ref (aC 0), .int p0, .int p1]) ++ List.replicate (3 - (lg_sl ([.ref (aC 0), .int p0, .int p1])).length) Slot.unset).toArray = ls at hl ⊢
  have hl : lv_has ls 3 [(0, .ref (aC 0)), (1, .int p0), (2, .int p1)] := hl
  have hatxIO := (fun w hw => hts w (by simp only [wsX4_piece, List.mem_cons, List.mem_append, hw, true_or, or_true]) : ∀ w ∈ (vx_atS RX4 112 "java/lang/IndexOutOfBoundsException" ["java/lang/RuntimeException", "java/lang/Exception"]).filter goodWord, w.before args s = true)
  have cl108 := hts (.classLink RX4 108 "java/lang/IndexOutOfBoundsException") (by decide +kernel)
  have inxIO := hts (.initialized "java/lang/IndexOutOfBoundsException") (by decide +kernel)
  have hatxIA := (fun w hw => hts w (by simp only [wsX4_piece, List.mem_cons, List.mem_append, hw, true_or, or_true]) : ∀ w ∈ (vx_atS RX4 65 "java/lang/IllegalArgumentException" ["java/lang/RuntimeException", "java/lang/Exception"]).filter goodWord, w.before args s = true)
  have cl61 := hts (.classLink RX4 61 "java/lang/IllegalArgumentException") (by decide +kernel)
  have inxIA := hts (.initialized "java/lang/IllegalArgumentException") (by decide +kernel)
  have hiX4 := (by decide +kernel : ∀ w ∈ wsX40, w ∈ wsX4_piece)
  have f38 := hts (.fieldLink RX4 38 "PlaneOverlay" "pieces" "LPlaneOverlay$Pieces;") (by decide +kernel)
  have hiX2 := (by decide +kernel : ∀ w ∈ wsX20, w ∈ wsX4_piece)
  have f95 := fun A => hE.nf (A := A) (RX4, 95, "PlaneOverlay$Pieces", "count", "I") (by decide +kernel)
  have f128 := fun A => hE.nf (A := A) (RX4, 128, "PlaneOverlay$Pieces", "facts", "[[I") (by decide +kernel)
  have L19 : ∀  (H : Heap) (locs : List Loc) (ls : Array Slot), wp_X4_piece_L19 p0 p1 cM qF nQ Q X   → va_P D vwCl (wC k aC aE aP aQ aM cX cY cN cM ++ wE k aE fX fY lX lY oP nE ++ wP k aP pX pY pD pO nP ++ wQ k aQ qF nQ ++ wM k aM mR mQ mN) H → va_D A (wC k aC aE aP aQ aM cX cY cN cM ++ wE k aE fX fY lX lY oP nE ++ wP k aP pX pY pD pO nP ++ wQ k aQ qF nQ ++ wM k aM mR mQ mN) → va_S A s.heap H locs → lv_has ls 3 [] → W p l e (headSpec wsX4_piece ({ frames := 7, cells := 2, slots := 12, locals := 110 })).room s m args below meth c H locs 1 6 GQ (F0 m 19 ls []) := by
    intro  H locs ls h hP hD hS hl
    unfold wp_X4_piece_L19 at h
    rw [hGQ]
    obtain ⟨sa, hstr⟩ := hT.2.2.1 (124, "there is no such piece") (by decide)
    exact vx_throwS (own := RX4) (cls := "java/lang/IndexOutOfBoundsException") (names := ["java/lang/RuntimeException", "java/lang/Exception"]) (A := A) hx hb hlt hown (by decide) (by decide) cl108 inxIO hstr (vx_hat hatxIO (th_bad "java/lang/IndexOutOfBoundsException" 112 (by decide) (by decide)) (th_b3 hT (by decide))) (by decide +kernel) hT.1 hT.2.1 hS (hl.1.trans hml.symm) dX4_piece_19 dX4_piece_22 dX4_piece_23 dX4_piece_25 dX4_piece_28 (fun x hx => (hxt x hx).elim) (Nat.le_of_ble_eq_true rfl) (Nat.le_of_ble_eq_true rfl) (Nat.le_of_ble_eq_true rfl) (Nat.le_of_ble_eq_true rfl) hlocks (fun t hvm hz hq => ⟨(), trivial, ⟨h, P_ext hP hq, hD⟩, F_ext hS hz hq⟩) hS.2.2 (Nat.le_of_ble_eq_true rfl) (Nat.le_of_ble_eq_true rfl)
  have L39 : ∀  (H : Heap) (locs : List Loc) (ls : Array Slot), wp_X4_piece_L39 p0 p1 cM qF nQ Q X   → va_P D vwCl (wC k aC aE aP aQ aM cX cY cN cM ++ wE k aE fX fY lX lY oP nE ++ wP k aP pX pY pD pO nP ++ wQ k aQ qF nQ ++ wM k aM mR mQ mN) H → va_D A (wC k aC aE aP aQ aM cX cY cN cM ++ wE k aE fX fY lX lY oP nE ++ wP k aP pX pY pD pO nP ++ wQ k aQ qF nQ ++ wM k aM mR mQ mN) → va_S A s.heap H locs → lv_has ls 3 [] → W p l e (headSpec wsX4_piece ({ frames := 7, cells := 2, slots := 12, locals := 110 })).room s m args below meth c H locs 1 6 GQ (F0 m 39 ls []) := by
    intro  H locs ls h hP hD hS hl
    unfold wp_X4_piece_L39 at h
    rw [hGQ]
    obtain ⟨sa, hstr⟩ := hT.2.2.1 (126, "a piece has no such number") (by decide)
    exact vx_throwS (own := RX4) (cls := "java/lang/IllegalArgumentException") (names := ["java/lang/RuntimeException", "java/lang/Exception"]) (A := A) hx hb hlt hown (by decide) (by decide) cl61 inxIA hstr (vx_hat hatxIA (th_bad "java/lang/IllegalArgumentException" 65 (by decide) (by decide)) (th_b3 hT (by decide))) (by decide +kernel) hT.1 hT.2.1 hS (hl.1.trans hml.symm) dX4_piece_39 dX4_piece_42 dX4_piece_43 dX4_piece_45 dX4_piece_48 (fun x hx => (hxt x hx).elim) (Nat.le_of_ble_eq_true rfl) (Nat.le_of_ble_eq_true rfl) (Nat.le_of_ble_eq_true rfl) (Nat.le_of_ble_eq_true rfl) hlocks (fun t hvm hz hq => ⟨(), trivial, ⟨h, P_ext hP hq, hD⟩, F_ext hS hz hq⟩) hS.2.2 (Nat.le_of_ble_eq_true rfl) (Nat.le_of_ble_eq_true rfl)
  unfold wp_X4_piece at h
  refine lv_aload_n hx hb dX4_piece_0 rfl (lv_at hl 0 rfl) ?_
  have hPc := hP.sub (ws' := wC k aC aE aP aQ aM cX cY cN cM) [0, 1, 2, 3, 4, 5, 6, 7] rfl
  have hDc := hD.sub (ws' := wC k aC aE aP aQ aM cX cY cN cM) [0, 1, 2, 3, 4, 5, 6, 7] (by decide) rfl
  have hFc := va_free (wc := wC k aC aE aP aQ aM cX cY cN cM) hD hS hA [0, 1, 2, 3, 4, 5, 6, 7] rfl
  refine vx_callv (vx_runV (C := RX4) (b := (aC 0)) (As := []) (rest := []) ⟨hx, hb, hml, hown, hts⟩ (m_X4_needOverlay l D k aC aE aP aQ aM cX cY cN cM  _ _ _ hlt h) (cwV 0 hts gX4_piece_X4_needOverlay rfl rfl rfl (by decide +kernel) ⟨Nat.le_of_ble_eq_true rfl, Nat.le_of_ble_eq_true rfl⟩) (preV_th (ci := 4) (q0 := 0) (C := RX4) (T := TX4) (N := 8) hE hT hS hFc hPc hDc rfl rfl) rfl rfl hl.1 rfl (lv_room (Nat.le_of_ble_eq_true rfl)) dX4_piece_1 ⟨Nat.le_of_ble_eq_true rfl, Nat.le_of_ble_eq_true rfl⟩) hS (fun q _ h => hFc q h) hFc (fun q _ h => hFc q h) (fun E9 ce q9 u t H1 locs ht hvm hpx hB hz1 hk1 hS hce hcv hcl => ?_) (fun u t H1 locs ht hvm h hB hz1 hk1 hS => ?_)
  · obtain ⟨h, hP1, hD1⟩ := hB
    rw [ht] at hP1
    obtain ⟨hP, hD⟩ := va_join (wr := wE k aE fX fY lX lY oP nE ++ wP k aP pX pY pD pO nP ++ wQ k aQ qF nQ ++ wM k aM mR mQ mN) (w1 := wC k aC aE aP aQ aM cX cY cN cM) hP hD [0, 1, 2, 3, 4, 5, 6, 7] [8, 9, 10, 11, 12, 13, 14, 15, 16, 17, 18, 19, 20, 21, 22, 23, 24, 25, 26, 27, 28, 29, 30] rfl rfl (by decide) (by decide) hk1 hFc hP1 hD1
    generalize H1 = H at hP hS hce ⊢
    have hP : va_P D vwCl (wC k aC aE aP aQ aM cX cY cN cM ++ wE k aE fX fY lX lY oP nE ++ wP k aP pX pY pD pO nP ++ wQ k aQ qF nQ ++ wM k aM mR mQ mN) H := hP.sub [23, 24, 25, 26, 27, 28, 29, 30, 0, 1, 2, 3, 4, 5, 6, 7, 8, 9, 10, 11, 12, 13, 14, 15, 16, 17, 18, 19, 20, 21, 22] rfl
    have hD : va_D A (wC k aC aE aP aQ aM cX cY cN cM ++ wE k aE fX fY lX lY oP nE ++ wP k aP pX pY pD pO nP ++ wQ k aQ qF nQ ++ wM k aM mR mQ mN) := hD.sub [23, 24, 25, 26, 27, 28, 29, 30, 0, 1, 2, 3, 4, 5, 6, 7, 8, 9, 10, 11, 12, 13, 14, 15, 16, 17, 18, 19, 20, 21, 22] (by decide) rfl
    rw [hGQ]
    exact vx_out (fun x hx => (hxt x hx).elim) hlocks hce hcv hcl (fun t9 ht9 hvm9 => ⟨(), trivial, ⟨h, by rw [ht9]; exact hP, hD⟩, hS.F ht9⟩) hS.2.2 (Nat.le_of_ble_eq_true rfl) (Nat.le_of_ble_eq_true rfl)
  obtain ⟨hP1, hD1⟩ := hB
  rw [ht] at hP1
  obtain ⟨hP, hD⟩ := va_join (wr := wE k aE fX fY lX lY oP nE ++ wP k aP pX pY pD pO nP ++ wQ k aQ qF nQ ++ wM k aM mR mQ mN) (w1 := wC k aC aE aP aQ aM cX cY cN cM) hP hD [0, 1, 2, 3, 4, 5, 6, 7] [8, 9, 10, 11, 12, 13, 14, 15, 16, 17, 18, 19, 20, 21, 22, 23, 24, 25, 26, 27, 28, 29, 30] rfl rfl (by decide) (by decide) hk1 hFc hP1 hD1
  generalize H1 = H at hP hS ⊢
  have hP : va_P D vwCl (wC k aC aE aP aQ aM cX cY cN cM ++ wE k aE fX fY lX lY oP nE ++ wP k aP pX pY pD pO nP ++ wQ k aQ qF nQ ++ wM k aM mR mQ mN) H := hP.sub [23, 24, 25, 26, 27, 28, 29, 30, 0, 1, 2, 3, 4, 5, 6, 7, 8, 9, 10, 11, 12, 13, 14, 15, 16, 17, 18, 19, 20, 21, 22] rfl
  have hD : va_D A (wC k aC aE aP aQ aM cX cY cN cM ++ wE k aE fX fY lX lY oP nE ++ wP k aP pX pY pD pO nP ++ wQ k aQ qF nQ ++ wM k aM mR mQ mN) := hD.sub [23, 24, 25, 26, 27, 28, 29, 30, 0, 1, 2, 3, 4, 5, 6, 7, 8, 9, 10, 11, 12, 13, 14, 15, 16, 17, 18, 19, 20, 21, 22] (by decide) rfl
  refine lv_iload_n hx hb dX4_piece_4 rfl (lv_at hl 1 rfl) ?_
  refine lv_if_lt (tgt := 19) hx hb dX4_piece_5 (by decide) (fun cq => ?_) (fun cq => ?_)
  · have h := h.1 cq
    exact L19  _ _ _ h hP hD hS (lv_sub hl [] rfl)
  · have h := h.2 cq
    refine lv_iload_n hx hb dX4_piece_8 rfl (lv_at hl 1 rfl) ?_
    refine lv_aload_n hx hb dX4_piece_9 rfl (lv_at hl 0 rfl) ?_
    refine va_get (D := D) (ci := 4) (v := .ref (aQ 0)) (C := RX4) (T := TX4) (N := 8) hx hb hts hiX4 hown hK hP 0 rfl rfl 5 (by decide) f38 (fun _ h9 => h9) rfl dX4_piece_10 ?_
    refine va_getN (D := D) (ci := 2) (v := .int nQ) (C := RX2) (T := TX2) (N := 2) (host := "PlaneOverlay") hx hb hts hiX2 hown hK hP 19 rfl rfl 1 (by decide) (f95 _) (fun _ h9 => h9) rfl dX4_piece_13 ?_
    refine lv_icmp_lt (tgt := 29) hx hb dX4_piece_16 (by decide) (fun cq => ?_) (fun cq => ?_)
    · have h := h.1 cq
      refine lv_iload_n hx hb dX4_piece_29 rfl (lv_at hl 2 rfl) ?_
      refine lv_if_lt (tgt := 39) hx hb dX4_piece_30 (by decide) (fun cq => ?_) (fun cq => ?_)
      · have h := h.1 cq
        exact L39  _ _ _ h hP hD hS (lv_sub hl [] rfl)
      · have h := h.2 cq
        refine lv_iload_n hx hb dX4_piece_33 rfl (lv_at hl 2 rfl) ?_
        refine lv_bipush (v := (8 : Int32)) hx hb dX4_piece_34 (by decide) ?_
        refine lv_icmp_lt (tgt := 49) hx hb dX4_piece_36 (by decide) (fun cq => ?_) (fun cq => ?_)
        · have h := h.1 cq
          refine lv_aload_n hx hb dX4_piece_49 rfl (lv_at hl 0 rfl) ?_
          refine va_get (D := D) (ci := 4) (v := .ref (aQ 0)) (C := RX4) (T := TX4) (N := 8) hx hb hts hiX4 hown hK hP 0 rfl rfl 5 (by decide) f38 (fun _ h9 => h9) rfl dX4_piece_50 ?_
          refine va_getN (D := D) (ci := 2) (v := .ref (aQ 1)) (C := RX2) (T := TX2) (N := 2) (host := "PlaneOverlay") hx hb hts hiX2 hown hK hP 19 rfl rfl 0 (by decide) (f128 _) (fun _ h9 => h9) rfl dX4_piece_53 ?_
          refine lv_iload_n hx hb dX4_piece_56 rfl (lv_at hl 2 rfl) ?_
          obtain ⟨hj57, h⟩ := h
          refine ra_ald (a := aQ) (b := 2) hx hb hK hP 20 4 rfl rfl hj57 dX4_piece_57 ?_
          refine lv_iload_n hx hb dX4_piece_58 rfl (lv_at hl 1 rfl) ?_
          obtain ⟨hin, h⟩ := h
          refine va_iald hx hb hK hP (21 + p1.toNatClampNeg) 0 (co_8 (P := fun j => (wC k aC aE aP aQ aM cX cY cN cM ++ wE k aE fX fY lX lY oP nE ++ wP k aP pX pY pD pO nP ++ wQ k aQ qF nQ ++ wM k aM mR mQ mN)[21 + j]? = some (aQ (2 + j), .inl (k 0, 276, .inl (qF j)))) rfl rfl rfl rfl rfl rfl rfl rfl (vp_lt hj57)) rfl hin dX4_piece_59 ?_
          refine W.widen (k := 2) (n := 12) (by decide) (by decide) ?_
          rw [hGQ]
          refine vx_ret ?_
          exact W.iret (v := (qF p1.toNatClampNeg p0.toNatClampNeg)) hx hb hr (fun t ht hW => ⟨⟨_, (), rfl, h, by rw [ht]; exact hP, hD⟩, hS.F ht⟩) hS.2.2 dX4_piece_60
        · have h := h.2 cq
          exact L39  _ _ _ h hP hD hS (lv_sub hl [] rfl)
    · have h := h.2 cq
      exact L19  _ _ _ h hP hD hS (lv_sub hl [] rfl)
set_option maxHeartbeats 4000000 in
set_option maxRecDepth 100000 in
theorem m_X4_common (l : Launch) (D : va_G) (k : Nat → ClassId) (aC : Nat → Nat) (aE : Nat → Nat) (aP : Nat → Nat) (aQ : Nat → Nat) (aM : Nat → Nat) (cX : Nat → Nat → Int32) (cY : Nat → Nat → Int32) (cN : Nat → Int32) (cM : Int32) (fX : Nat → Int32) (fY : Nat → Int32) (lX : Nat → Int32) (lY : Nat → Int32) (oP : Nat → Int32) (nE : Int32) (pX : Nat → Int32) (pY : Nat → Int32) (pD : Nat → Int32) (pO : Nat → Int32) (nP : Int32) (qF : Nat → Nat → Int32) (nQ : Int32) (mR : Nat → Int32) (mQ : Int32) (mN : Int32) (p0 : Int32) (p1 : Int32) (Q : Int32 → Prop) (X : String → Prop) (sz : Nat) (hlt : l.stackTraces = false) (h : wp_X4_common p0 p1 cM nE pO nP Q X) : vx_Met l yX4_common wsX4_common ({ frames := 7, cells := 2, slots := 12, locals := 112 }) (Pth D k [.ref (aC 0), .int p0, .int p1] (wC k aC aE aP aQ aM cX cY cN cM ++ wE k aE fX fY lX lY oP nE ++ wP k aP pX pY pD pO nP ++ wQ k aQ qF nQ ++ wM k aM mR mQ mN) sz) (va_Qi (fun (r : Int32) (u : Unit) => Q r ) (fun (u : Unit) t => va_P D vwCl (wC k aC aE aP aQ aM cX cY cN cM ++ wE k aE fX fY lX lY oP nE ++ wP k aP pX pY pD pO nP ++ wQ k aQ qF nQ ++ wM k aM mR mQ mN) t.heap ∧ va_D (va_A (wC k aC aE aP aQ aM cX cY cN cM ++ wE k aE fX fY lX lY oP nE ++ wP k aP pX pY pD pO nP ++ wQ k aQ qF nQ ++ wM k aM mR mQ mN) sz) (wC k aC aE aP aQ aM cX cY cN cM ++ wE k aE fX fY lX lY oP nE ++ wP k aP pX pY pD pO nP ++ wQ k aQ qF nQ ++ wM k aM mR mQ mN)) (va_A (wC k aC aE aP aQ aM cX cY cN cM ++ wE k aE fX fY lX lY oP nE ++ wP k aP pX pY pD pO nP ++ wQ k aQ qF nQ ++ wM k aM mR mQ mN) sz)) (vx_X (fun (_ : Unit) => True) (fun E9 u t => X E9  ∧ va_P D vwCl (wC k aC aE aP aQ aM cX cY cN cM ++ wE k aE fX fY lX lY oP nE ++ wP k aP pX pY pD pO nP ++ wQ k aQ qF nQ ++ wM k aM mR mQ mN) t.heap ∧ va_D (va_A (wC k aC aE aP aQ aM cX cY cN cM ++ wE k aE fX fY lX lY oP nE ++ wP k aP pX pY pD pO nP ++ wQ k aQ qF nQ ++ wM k aM mR mQ mN) sz) (wC k aC aE aP aQ aM cX cY cN cM ++ wE k aE fX fY lX lY oP nE ++ wP k aP pX pY pD pO nP ++ wQ k aQ qF nQ ++ wM k aM mR mQ mN)) (va_A (wC k aC aE aP aQ aM cX cY cN cM ++ wE k aE fX fY lX lY oP nE ++ wP k aP pX pY pD pO nP ++ wQ k aQ qF nQ ++ wM k aM mR mQ mN) sz)) 2 12 (va_A (wC k aC aE aP aQ aM cX cY cN cM ++ wE k aE fX fY lX lY oP nE ++ wP k aP pX pY pD pO nP ++ wQ k aQ qF nQ ++ wM k aM mR mQ mN) sz) := by
  refine vx_ofW (cc := cX4_common) (maxL := 4) (ret := (some .int)) (by decide) rfl ?_
  intro p e s m args below meth c s₁ B hml hxt hv
  obtain ⟨hav, hsz, hP, hE, hD0, hT⟩ := hv
  subst hsz
  have hx := B.exec
  have hb := B.bytes
  have hr := B.returns
  have hts := atoms_spec (ws := wsX4_common) B.pre
  have hown : s.vm.findClass RX4 = some m.cls := findClass_of_methodNamed B.named
  have hlocks := B.notSynchronized
  have hK := hE.1
  have hD := hD0.self (sz := s.heap.size)
  generalize hAe : va_A (wC k aC aE aP aQ aM cX cY cN cM ++ wE k aE fX fY lX lY oP nE ++ wP k aP pX pY pD pO nP ++ wQ k aQ qF nQ ++ wM k aM mR mQ mN) s.heap.size = A at hD hT ⊢
  have hA : ∀ q : Nat, s.heap.size ≤ q → A q := fun q h => by rw [← hAe]; exact Or.inr h
  have hS : va_S A s.heap s.heap [] := va_S.rf
  have hl := lv_entry ([.ref (aC 0), .int p0, .int p1]) (n := 4) (Nat.le_of_ble_eq_true rfl)
  rw [show entryFrame m args 4 = entryFrame m ([.ref (aC 0), .int p0, .int p1] : List Value).toArray 4 by rw [hav]]
  rw [lg_entry_eq]
  refine W.gq (fun GQ hGQ => ?_)
  generalize (lg_sl ([.ref (aC 0), .int p0, .int p1]) ++ List.replicate (4 - (lg_sl ([.ref (aC 0), .int p0, .int p1])).length) Slot.unset).toArray = ls at hl ⊢
  have hl : lv_has ls 4 [(0, .ref (aC 0)), (1, .int p0), (2, .int p1)] := hl
  have hiX4 := (by decide +kernel : ∀ w ∈ wsX40, w ∈ wsX4_common)
  have f31 := hts (.fieldLink RX4 31 "PlaneOverlay" "points" "LPlaneOverlay$Points;") (by decide +kernel)
  have L54 : ∀ (z0 : Int32) (H : Heap) (locs : List Loc) (ls : Array Slot), wp_X4_common_L54 p0 p1 cM nE pO nP Q X  z0 → va_P D vwCl (wC k aC aE aP aQ aM cX cY cN cM ++ wE k aE fX fY lX lY oP nE ++ wP k aP pX pY pD pO nP ++ wQ k aQ qF nQ ++ wM k aM mR mQ mN) H → va_D A (wC k aC aE aP aQ aM cX cY cN cM ++ wE k aE fX fY lX lY oP nE ++ wP k aP pX pY pD pO nP ++ wQ k aQ qF nQ ++ wM k aM mR mQ mN) → va_S A s.heap H locs → lv_has ls 4 [] → W p l e (headSpec wsX4_common ({ frames := 7, cells := 2, slots := 12, locals := 112 })).room s m args below meth c H locs 2 12 GQ (F0 m 54 ls [.int z0]) := by
    intro z0 H locs ls h hP hD hS hl
    unfold wp_X4_common_L54 at h
    rw [hGQ]
    refine vx_ret ?_
    exact W.iret (v := z0) hx hb hr (fun t ht hW => ⟨⟨_, (), rfl, h, by rw [ht]; exact hP, hD⟩, hS.F ht⟩) hS.2.2 dX4_common_54
  have L28 : ∀ (z0 : Int32) (H : Heap) (locs : List Loc) (ls : Array Slot), wp_X4_common_L28 p0 p1 cM nE pO nP Q X  z0 → va_P D vwCl (wC k aC aE aP aQ aM cX cY cN cM ++ wE k aE fX fY lX lY oP nE ++ wP k aP pX pY pD pO nP ++ wQ k aQ qF nQ ++ wM k aM mR mQ mN) H → va_D A (wC k aC aE aP aQ aM cX cY cN cM ++ wE k aE fX fY lX lY oP nE ++ wP k aP pX pY pD pO nP ++ wQ k aQ qF nQ ++ wM k aM mR mQ mN) → va_S A s.heap H locs → lv_has ls 4 [(0, .ref (aC 0)), (1, .int p0), (2, .int p1)] → W p l e (headSpec wsX4_common ({ frames := 7, cells := 2, slots := 12, locals := 112 })).room s m args below meth c H locs 2 12 GQ (F0 m 28 ls [.int z0]) := by
    intro z0 H locs ls h hP hD hS hl
    unfold wp_X4_common_L28 at h
    refine lv_istore_n (lv' := [(3, .int z0), (0, .ref (aC 0)), (1, .int p0), (2, .int p1)]) hx hb dX4_common_28 rfl hl (by decide) rfl (fun ls hl => ?_)
    refine lv_iload_n hx hb dX4_common_29 rfl (lv_at hl 0 rfl) ?_
    refine lv_iconst (v := (-1 : Int32)) hx hb dX4_common_30 (by decide) ?_
    refine lv_icmp_ne (tgt := 36) hx hb dX4_common_31 (by decide) (fun cq => ?_) (fun cq => ?_)
    · have h := h.1 cq
      refine lv_iload_n hx hb dX4_common_36 rfl (lv_at hl 0 rfl) ?_
      refine lv_aload_n hx hb dX4_common_37 rfl (lv_at hl 1 rfl) ?_
      refine va_get (D := D) (ci := 4) (v := .ref (aP 0)) (C := RX4) (T := TX4) (N := 8) hx hb hts hiX4 hown hK hP 0 rfl rfl 4 (by decide) f31 (fun _ h9 => h9) rfl dX4_common_38 ?_
      refine lv_iload_n hx hb dX4_common_41 rfl (lv_at hl 2 rfl) ?_
      refine lv_iload_n hx hb dX4_common_42 rfl (lv_at hl 3 rfl) ?_
      have hPc := hP.sub (ws' := wP k aP pX pY pD pO nP) [14, 15, 16, 17, 18] rfl
      refine vp_callSi (W.runV (C := RX3) (b := (aP 0)) (As := [.int p0, .int p1]) (rest := [.int z0]) ⟨hx, hb, hml, hown, hts⟩ (m_X3_lastOnBoth l D k aP pX pY pD pO nP p0 p1 _ h) (cwV 2 hts gX4_common_X3_lastOnBoth rfl rfl rfl (by decide +kernel) ⟨Nat.le_of_ble_eq_true rfl, Nat.le_of_ble_eq_true rfl⟩) (preV_ro (ci := 3) (q0 := 0) (C := RX3) (T := TX3) (N := 5) hE hPc rfl rfl) rfl rfl hl.1 rfl (lv_room (Nat.le_of_ble_eq_true rfl)) dX4_common_43 ⟨Nat.le_of_ble_eq_true rfl, Nat.le_of_ble_eq_true rfl⟩) (fun r43 h => ?_)
      refine lv_icmp_ne (tgt := 53) hx hb dX4_common_46 (by decide) (fun cq => ?_) (fun cq => ?_)
      · have h := h.1 cq
        refine lv_iconst (v := (2 : Int32)) hx hb dX4_common_53 (by decide) ?_
        exact L54 (2 : Int32) _ _ _ h hP hD hS (lv_sub hl [] rfl)
      · have h := h.2 cq
        refine lv_iconst (v := (1 : Int32)) hx hb dX4_common_49 (by decide) ?_
        refine lv_goto (tgt := 54) hx hb dX4_common_50 (by decide) ?_
        exact L54 (1 : Int32) _ _ _ h hP hD hS (lv_sub hl [] rfl)
    · have h := h.2 cq
      refine lv_iconst (v := (0 : Int32)) hx hb dX4_common_34 (by decide) ?_
      rw [hGQ]
      refine vx_ret ?_
      exact W.iret (v := (0 : Int32)) hx hb hr (fun t ht hW => ⟨⟨_, (), rfl, h, by rw [ht]; exact hP, hD⟩, hS.F ht⟩) hS.2.2 dX4_common_35
  unfold wp_X4_common at h
  refine lv_aload_n hx hb dX4_common_0 rfl (lv_at hl 0 rfl) ?_
  have hPc := hP.sub (ws' := wC k aC aE aP aQ aM cX cY cN cM) [0, 1, 2, 3, 4, 5, 6, 7] rfl
  have hDc := hD.sub (ws' := wC k aC aE aP aQ aM cX cY cN cM) [0, 1, 2, 3, 4, 5, 6, 7] (by decide) rfl
  have hFc := va_free (wc := wC k aC aE aP aQ aM cX cY cN cM) hD hS hA [0, 1, 2, 3, 4, 5, 6, 7] rfl
  refine vx_callv (vx_runV (C := RX4) (b := (aC 0)) (As := []) (rest := []) ⟨hx, hb, hml, hown, hts⟩ (m_X4_needOverlay l D k aC aE aP aQ aM cX cY cN cM  _ _ _ hlt h) (cwV 0 hts gX4_common_X4_needOverlay rfl rfl rfl (by decide +kernel) ⟨Nat.le_of_ble_eq_true rfl, Nat.le_of_ble_eq_true rfl⟩) (preV_th (ci := 4) (q0 := 0) (C := RX4) (T := TX4) (N := 8) hE hT hS hFc hPc hDc rfl rfl) rfl rfl hl.1 rfl (lv_room (Nat.le_of_ble_eq_true rfl)) dX4_common_1 ⟨Nat.le_of_ble_eq_true rfl, Nat.le_of_ble_eq_true rfl⟩) hS (fun q _ h => hFc q h) hFc (fun q _ h => hFc q h) (fun E9 ce q9 u t H1 locs ht hvm hpx hB hz1 hk1 hS hce hcv hcl => ?_) (fun u t H1 locs ht hvm h hB hz1 hk1 hS => ?_)
  · obtain ⟨h, hP1, hD1⟩ := hB
    rw [ht] at hP1
    obtain ⟨hP, hD⟩ := va_join (wr := wE k aE fX fY lX lY oP nE ++ wP k aP pX pY pD pO nP ++ wQ k aQ qF nQ ++ wM k aM mR mQ mN) (w1 := wC k aC aE aP aQ aM cX cY cN cM) hP hD [0, 1, 2, 3, 4, 5, 6, 7] [8, 9, 10, 11, 12, 13, 14, 15, 16, 17, 18, 19, 20, 21, 22, 23, 24, 25, 26, 27, 28, 29, 30] rfl rfl (by decide) (by decide) hk1 hFc hP1 hD1
    generalize H1 = H at hP hS hce ⊢
    have hP : va_P D vwCl (wC k aC aE aP aQ aM cX cY cN cM ++ wE k aE fX fY lX lY oP nE ++ wP k aP pX pY pD pO nP ++ wQ k aQ qF nQ ++ wM k aM mR mQ mN) H := hP.sub [23, 24, 25, 26, 27, 28, 29, 30, 0, 1, 2, 3, 4, 5, 6, 7, 8, 9, 10, 11, 12, 13, 14, 15, 16, 17, 18, 19, 20, 21, 22] rfl
    have hD : va_D A (wC k aC aE aP aQ aM cX cY cN cM ++ wE k aE fX fY lX lY oP nE ++ wP k aP pX pY pD pO nP ++ wQ k aQ qF nQ ++ wM k aM mR mQ mN) := hD.sub [23, 24, 25, 26, 27, 28, 29, 30, 0, 1, 2, 3, 4, 5, 6, 7, 8, 9, 10, 11, 12, 13, 14, 15, 16, 17, 18, 19, 20, 21, 22] (by decide) rfl
    rw [hGQ]
    exact vx_out (fun x hx => (hxt x hx).elim) hlocks hce hcv hcl (fun t9 ht9 hvm9 => ⟨(), trivial, ⟨h, by rw [ht9]; exact hP, hD⟩, hS.F ht9⟩) hS.2.2 (Nat.le_of_ble_eq_true rfl) (Nat.le_of_ble_eq_true rfl)
  obtain ⟨hP1, hD1⟩ := hB
  rw [ht] at hP1
  obtain ⟨hP, hD⟩ := va_join (wr := wE k aE fX fY lX lY oP nE ++ wP k aP pX pY pD pO nP ++ wQ k aQ qF nQ ++ wM k aM mR mQ mN) (w1 := wC k aC aE aP aQ aM cX cY cN cM) hP hD [0, 1, 2, 3, 4, 5, 6, 7] [8, 9, 10, 11, 12, 13, 14, 15, 16, 17, 18, 19, 20, 21, 22, 23, 24, 25, 26, 27, 28, 29, 30] rfl rfl (by decide) (by decide) hk1 hFc hP1 hD1
  generalize H1 = H at hP hS ⊢
  have hP : va_P D vwCl (wC k aC aE aP aQ aM cX cY cN cM ++ wE k aE fX fY lX lY oP nE ++ wP k aP pX pY pD pO nP ++ wQ k aQ qF nQ ++ wM k aM mR mQ mN) H := hP.sub [23, 24, 25, 26, 27, 28, 29, 30, 0, 1, 2, 3, 4, 5, 6, 7, 8, 9, 10, 11, 12, 13, 14, 15, 16, 17, 18, 19, 20, 21, 22] rfl
  have hD : va_D A (wC k aC aE aP aQ aM cX cY cN cM ++ wE k aE fX fY lX lY oP nE ++ wP k aP pX pY pD pO nP ++ wQ k aQ qF nQ ++ wM k aM mR mQ mN) := hD.sub [23, 24, 25, 26, 27, 28, 29, 30, 0, 1, 2, 3, 4, 5, 6, 7, 8, 9, 10, 11, 12, 13, 14, 15, 16, 17, 18, 19, 20, 21, 22] (by decide) rfl
  refine lv_aload_n hx hb dX4_common_4 rfl (lv_at hl 0 rfl) ?_
  refine lv_iload_n hx hb dX4_common_5 rfl (lv_at hl 1 rfl) ?_
  refine lv_iload_n hx hb dX4_common_6 rfl (lv_at hl 2 rfl) ?_
  have hPc := hP.sub (ws' := wC k aC aE aP aQ aM cX cY cN cM ++ wE k aE fX fY lX lY oP nE) [0, 1, 2, 3, 4, 5, 6, 7, 8, 9, 10, 11, 12, 13] rfl
  have hDc := hD.sub (ws' := wC k aC aE aP aQ aM cX cY cN cM ++ wE k aE fX fY lX lY oP nE) [0, 1, 2, 3, 4, 5, 6, 7, 8, 9, 10, 11, 12, 13] (by decide) rfl
  have hFc := va_free (wc := wC k aC aE aP aQ aM cX cY cN cM ++ wE k aE fX fY lX lY oP nE) hD hS hA [0, 1, 2, 3, 4, 5, 6, 7, 8, 9, 10, 11, 12, 13] rfl
  refine vx_callv (vx_runV (C := RX4) (b := (aC 0)) (As := [.int p0, .int p1]) (rest := []) ⟨hx, hb, hml, hown, hts⟩ (m_X4_needEdges l D k aC aE aP aQ aM cX cY cN cM fX fY lX lY oP nE p0 p1 _ _ _ hlt h) (cwV 2 hts gX4_common_X4_needEdges rfl rfl rfl (by decide +kernel) ⟨Nat.le_of_ble_eq_true rfl, Nat.le_of_ble_eq_true rfl⟩) (preV_th (ci := 4) (q0 := 0) (C := RX4) (T := TX4) (N := 8) hE hT hS hFc hPc hDc rfl rfl) rfl rfl hl.1 rfl (lv_room (Nat.le_of_ble_eq_true rfl)) dX4_common_7 ⟨Nat.le_of_ble_eq_true rfl, Nat.le_of_ble_eq_true rfl⟩) hS (fun q _ h => hFc q h) hFc (fun q _ h => hFc q h) (fun E9 ce q9 u t H1 locs ht hvm hpx hB hz1 hk1 hS hce hcv hcl => ?_) (fun u t H1 locs ht hvm h hB hz1 hk1 hS => ?_)
  · obtain ⟨h, hP1, hD1⟩ := hB
    rw [ht] at hP1
    obtain ⟨hP, hD⟩ := va_join (wr := wP k aP pX pY pD pO nP ++ wQ k aQ qF nQ ++ wM k aM mR mQ mN) (w1 := wC k aC aE aP aQ aM cX cY cN cM ++ wE k aE fX fY lX lY oP nE) hP hD [0, 1, 2, 3, 4, 5, 6, 7, 8, 9, 10, 11, 12, 13] [14, 15, 16, 17, 18, 19, 20, 21, 22, 23, 24, 25, 26, 27, 28, 29, 30] rfl rfl (by decide) (by decide) hk1 hFc hP1 hD1
    generalize H1 = H at hP hS hce ⊢
    have hP : va_P D vwCl (wC k aC aE aP aQ aM cX cY cN cM ++ wE k aE fX fY lX lY oP nE ++ wP k aP pX pY pD pO nP ++ wQ k aQ qF nQ ++ wM k aM mR mQ mN) H := hP.sub [17, 18, 19, 20, 21, 22, 23, 24, 25, 26, 27, 28, 29, 30, 0, 1, 2, 3, 4, 5, 6, 7, 8, 9, 10, 11, 12, 13, 14, 15, 16] rfl
    have hD : va_D A (wC k aC aE aP aQ aM cX cY cN cM ++ wE k aE fX fY lX lY oP nE ++ wP k aP pX pY pD pO nP ++ wQ k aQ qF nQ ++ wM k aM mR mQ mN) := hD.sub [17, 18, 19, 20, 21, 22, 23, 24, 25, 26, 27, 28, 29, 30, 0, 1, 2, 3, 4, 5, 6, 7, 8, 9, 10, 11, 12, 13, 14, 15, 16] (by decide) rfl
    rw [hGQ]
    exact vx_out (fun x hx => (hxt x hx).elim) hlocks hce hcv hcl (fun t9 ht9 hvm9 => ⟨(), trivial, ⟨h, by rw [ht9]; exact hP, hD⟩, hS.F ht9⟩) hS.2.2 (Nat.le_of_ble_eq_true rfl) (Nat.le_of_ble_eq_true rfl)
  obtain ⟨hP1, hD1⟩ := hB
  rw [ht] at hP1
  obtain ⟨hP, hD⟩ := va_join (wr := wP k aP pX pY pD pO nP ++ wQ k aQ qF nQ ++ wM k aM mR mQ mN) (w1 := wC k aC aE aP aQ aM cX cY cN cM ++ wE k aE fX fY lX lY oP nE) hP hD [0, 1, 2, 3, 4, 5, 6, 7, 8, 9, 10, 11, 12, 13] [14, 15, 16, 17, 18, 19, 20, 21, 22, 23, 24, 25, 26, 27, 28, 29, 30] rfl rfl (by decide) (by decide) hk1 hFc hP1 hD1
  generalize H1 = H at hP hS ⊢
  have hP : va_P D vwCl (wC k aC aE aP aQ aM cX cY cN cM ++ wE k aE fX fY lX lY oP nE ++ wP k aP pX pY pD pO nP ++ wQ k aQ qF nQ ++ wM k aM mR mQ mN) H := hP.sub [17, 18, 19, 20, 21, 22, 23, 24, 25, 26, 27, 28, 29, 30, 0, 1, 2, 3, 4, 5, 6, 7, 8, 9, 10, 11, 12, 13, 14, 15, 16] rfl
  have hD : va_D A (wC k aC aE aP aQ aM cX cY cN cM ++ wE k aE fX fY lX lY oP nE ++ wP k aP pX pY pD pO nP ++ wQ k aQ qF nQ ++ wM k aM mR mQ mN) := hD.sub [17, 18, 19, 20, 21, 22, 23, 24, 25, 26, 27, 28, 29, 30, 0, 1, 2, 3, 4, 5, 6, 7, 8, 9, 10, 11, 12, 13, 14, 15, 16] (by decide) rfl
  refine lv_iload_n hx hb dX4_common_10 rfl (lv_at hl 1 rfl) ?_
  refine lv_iload_n hx hb dX4_common_11 rfl (lv_at hl 2 rfl) ?_
  refine lv_icmp_ne (tgt := 19) hx hb dX4_common_12 (by decide) (fun cq => ?_) (fun cq => ?_)
  · have h := h.1 cq
    refine lv_aload_n hx hb dX4_common_19 rfl (lv_at hl 0 rfl) ?_
    refine va_get (D := D) (ci := 4) (v := .ref (aP 0)) (C := RX4) (T := TX4) (N := 8) hx hb hts hiX4 hown hK hP 0 rfl rfl 4 (by decide) f31 (fun _ h9 => h9) rfl dX4_common_20 ?_
    refine lv_iload_n hx hb dX4_common_23 rfl (lv_at hl 1 rfl) ?_
    refine lv_iload_n hx hb dX4_common_24 rfl (lv_at hl 2 rfl) ?_
    have hPc := hP.sub (ws' := wP k aP pX pY pD pO nP) [14, 15, 16, 17, 18] rfl
    refine vp_callSi (W.runV (C := RX3) (b := (aP 0)) (As := [.int p0, .int p1]) (rest := []) ⟨hx, hb, hml, hown, hts⟩ (m_X3_firstOnBoth l D k aP pX pY pD pO nP p0 p1 _ h) (cwV 2 hts gX4_common_X3_firstOnBoth rfl rfl rfl (by decide +kernel) ⟨Nat.le_of_ble_eq_true rfl, Nat.le_of_ble_eq_true rfl⟩) (preV_ro (ci := 3) (q0 := 0) (C := RX3) (T := TX3) (N := 5) hE hPc rfl rfl) rfl rfl hl.1 rfl (lv_room (Nat.le_of_ble_eq_true rfl)) dX4_common_25 ⟨Nat.le_of_ble_eq_true rfl, Nat.le_of_ble_eq_true rfl⟩) (fun r25 h => ?_)
    exact L28 r25 _ _ _ h hP hD hS (lv_sub hl [0, 1, 2] rfl)
  · have h := h.2 cq
    refine lv_iconst (v := (-1 : Int32)) hx hb dX4_common_15 (by decide) ?_
    refine lv_goto (tgt := 28) hx hb dX4_common_16 (by decide) ?_
    exact L28 (-1 : Int32) _ _ _ h hP hD hS (lv_sub hl [0, 1, 2] rfl)
set_option maxHeartbeats 4000000 in
set_option maxRecDepth 100000 in
theorem m_X4_shared (l : Launch) (D : va_G) (k : Nat → ClassId) (aC : Nat → Nat) (aE : Nat → Nat) (aP : Nat → Nat) (aQ : Nat → Nat) (aM : Nat → Nat) (cX : Nat → Nat → Int32) (cY : Nat → Nat → Int32) (cN : Nat → Int32) (cM : Int32) (fX : Nat → Int32) (fY : Nat → Int32) (lX : Nat → Int32) (lY : Nat → Int32) (oP : Nat → Int32) (nE : Int32) (pX : Nat → Int32) (pY : Nat → Int32) (pD : Nat → Int32) (pO : Nat → Int32) (nP : Int32) (qF : Nat → Nat → Int32) (nQ : Int32) (mR : Nat → Int32) (mQ : Int32) (mN : Int32) (p0 : Int32) (p1 : Int32) (p2 : Int32) (Q : Int32 → Prop) (X : String → Prop) (sz : Nat) (hlt : l.stackTraces = false) (h : wp_X4_shared p0 p1 p2 cM nE pO nP Q X) : vx_Met l yX4_shared wsX4_shared ({ frames := 7, cells := 3, slots := 18, locals := 112 }) (Pth D k [.ref (aC 0), .int p0, .int p1, .int p2] (wC k aC aE aP aQ aM cX cY cN cM ++ wE k aE fX fY lX lY oP nE ++ wP k aP pX pY pD pO nP ++ wQ k aQ qF nQ ++ wM k aM mR mQ mN) sz) (va_Qi (fun (r : Int32) (u : Unit) => Q r ) (fun (u : Unit) t => va_P D vwCl (wC k aC aE aP aQ aM cX cY cN cM ++ wE k aE fX fY lX lY oP nE ++ wP k aP pX pY pD pO nP ++ wQ k aQ qF nQ ++ wM k aM mR mQ mN) t.heap ∧ va_D (va_A (wC k aC aE aP aQ aM cX cY cN cM ++ wE k aE fX fY lX lY oP nE ++ wP k aP pX pY pD pO nP ++ wQ k aQ qF nQ ++ wM k aM mR mQ mN) sz) (wC k aC aE aP aQ aM cX cY cN cM ++ wE k aE fX fY lX lY oP nE ++ wP k aP pX pY pD pO nP ++ wQ k aQ qF nQ ++ wM k aM mR mQ mN)) (va_A (wC k aC aE aP aQ aM cX cY cN cM ++ wE k aE fX fY lX lY oP nE ++ wP k aP pX pY pD pO nP ++ wQ k aQ qF nQ ++ wM k aM mR mQ mN) sz)) (vx_X (fun (_ : Unit) => True) (fun E9 u t => X E9  ∧ va_P D vwCl (wC k aC aE aP aQ aM cX cY cN cM ++ wE k aE fX fY lX lY oP nE ++ wP k aP pX pY pD pO nP ++ wQ k aQ qF nQ ++ wM k aM mR mQ mN) t.heap ∧ va_D (va_A (wC k aC aE aP aQ aM cX cY cN cM ++ wE k aE fX fY lX lY oP nE ++ wP k aP pX pY pD pO nP ++ wQ k aQ qF nQ ++ wM k aM mR mQ mN) sz) (wC k aC aE aP aQ aM cX cY cN cM ++ wE k aE fX fY lX lY oP nE ++ wP k aP pX pY pD pO nP ++ wQ k aQ qF nQ ++ wM k aM mR mQ mN)) (va_A (wC k aC aE aP aQ aM cX cY cN cM ++ wE k aE fX fY lX lY oP nE ++ wP k aP pX pY pD pO nP ++ wQ k aQ qF nQ ++ wM k aM mR mQ mN) sz)) 3 18 (va_A (wC k aC aE aP aQ aM cX cY cN cM ++ wE k aE fX fY lX lY oP nE ++ wP k aP pX pY pD pO nP ++ wQ k aQ qF nQ ++ wM k aM mR mQ mN) sz) := by
  refine vx_ofW (cc := cX4_shared) (maxL := 5) (ret := (some .int)) (by decide) rfl ?_
  intro p e s m args below meth c s₁ B hml hxt hv
  obtain ⟨hav, hsz, hP, hE, hD0, hT⟩ := hv
  subst hsz
  have hx := B.exec
  have hb := B.bytes
  have hr := B.returns
  have hts := atoms_spec (ws := wsX4_shared) B.pre
  have hown : s.vm.findClass RX4 = some m.cls := findClass_of_methodNamed B.named
  have hlocks := B.notSynchronized
  have hK := hE.1
  have hD := hD0.self (sz := s.heap.size)
  generalize hAe : va_A (wC k aC aE aP aQ aM cX cY cN cM ++ wE k aE fX fY lX lY oP nE ++ wP k aP pX pY pD pO nP ++ wQ k aQ qF nQ ++ wM k aM mR mQ mN) s.heap.size = A at hD hT ⊢
  have hA : ∀ q : Nat, s.heap.size ≤ q → A q := fun q h => by rw [← hAe]; exact Or.inr h
  have hS : va_S A s.heap s.heap [] := va_S.rf
  have hl := lv_entry ([.ref (aC 0), .int p0, .int p1, .int p2]) (n := 5) (Nat.le_of_ble_eq_true rfl)
  rw [show entryFrame m args 5 = entryFrame m ([.ref (aC 0), .int p0, .int p1, .int p2] : List Value).toArray 5 by rw [hav]]
  rw [lg_entry_eq]
  refine W.gq (fun GQ hGQ => ?_)
  generalize (lg_sl ([.ref (aC 0), .int p0, .int p1, .int p2]) ++ List.replicate (5 - (lg_sl ([.ref (aC 0), .int p0, .int p1, .int p2])).length) Slot.unset).toArray = ls at hl ⊢
  have hl : lv_has ls 5 [(0, .ref (aC 0)), (1, .int p0), (2, .int p1), (3, .int p2)] := hl
  have hatxNS := (fun w hw => hts w (by simp only [wsX4_shared, List.mem_cons, List.mem_append, hw, true_or, or_true]) : ∀ w ∈ (vx_atN RX4 146).filter goodWord, w.before args s = true)
  have cl142 := hts (.classLink RX4 142 "java/util/NoSuchElementException") (by decide +kernel)
  have inxNS := hts (.initialized "java/util/NoSuchElementException") (by decide +kernel)
  have hiX4 := (by decide +kernel : ∀ w ∈ wsX40, w ∈ wsX4_shared)
  have f31 := hts (.fieldLink RX4 31 "PlaneOverlay" "points" "LPlaneOverlay$Points;") (by decide +kernel)
  have L50 : ∀ (z0 : Int32) (H : Heap) (locs : List Loc) (ls : Array Slot), wp_X4_shared_L50 p0 p1 p2 cM nE pO nP Q X  z0 → va_P D vwCl (wC k aC aE aP aQ aM cX cY cN cM ++ wE k aE fX fY lX lY oP nE ++ wP k aP pX pY pD pO nP ++ wQ k aQ qF nQ ++ wM k aM mR mQ mN) H → va_D A (wC k aC aE aP aQ aM cX cY cN cM ++ wE k aE fX fY lX lY oP nE ++ wP k aP pX pY pD pO nP ++ wQ k aQ qF nQ ++ wM k aM mR mQ mN) → va_S A s.heap H locs → lv_has ls 5 [] → W p l e (headSpec wsX4_shared ({ frames := 7, cells := 3, slots := 18, locals := 112 })).room s m args below meth c H locs 2 12 GQ (F0 m 50 ls [.int z0]) := by
    intro z0 H locs ls h hP hD hS hl
    unfold wp_X4_shared_L50 at h
    refine lv_istore (lv' := [(4, .int z0)]) hx hb dX4_shared_50 hl (by decide) rfl (fun ls hl => ?_)
    refine lv_iload hx hb dX4_shared_52 (lv_at hl 0 rfl) ?_
    refine lv_iconst (v := (-1 : Int32)) hx hb dX4_shared_54 (by decide) ?_
    refine lv_icmp_ne (tgt := 68) hx hb dX4_shared_55 (by decide) (fun cq => ?_) (fun cq => ?_)
    · have h := h.1 cq
      refine lv_iload hx hb dX4_shared_68 (lv_at hl 0 rfl) ?_
      refine W.widen (k := 3) (n := 18) (by decide) (by decide) ?_
      rw [hGQ]
      refine vx_ret ?_
      exact W.iret (v := z0) hx hb hr (fun t ht hW => ⟨⟨_, (), rfl, h, by rw [ht]; exact hP, hD⟩, hS.F ht⟩) hS.2.2 dX4_shared_70
    · have h := h.2 cq
      rw [hGQ]
      obtain ⟨sa, hstr⟩ := hT.2.2.1 (147, "the edges have nothing in common") (by decide)
      exact vx_throwN (own := RX4) (A := A) hx hb hlt hown cl142 inxNS hstr (vx_hat hatxNS th_badN (th_b3 hT (by decide))) (by decide +kernel) hT.1 hT.2.1 hS (hl.1.trans hml.symm) dX4_shared_58 dX4_shared_61 dX4_shared_62 dX4_shared_64 dX4_shared_67 (fun x hx => (hxt x hx).elim) (Nat.le_of_ble_eq_true rfl) (Nat.le_of_ble_eq_true rfl) (Nat.le_of_ble_eq_true rfl) (Nat.le_of_ble_eq_true rfl) hlocks (fun t hvm hz hq => ⟨(), trivial, ⟨h, P_ext hP hq, hD⟩, F_ext hS hz hq⟩) hS.2.2 (Nat.le_of_ble_eq_true rfl) (Nat.le_of_ble_eq_true rfl)
  unfold wp_X4_shared at h
  refine lv_aload_n hx hb dX4_shared_0 rfl (lv_at hl 0 rfl) ?_
  have hPc := hP.sub (ws' := wC k aC aE aP aQ aM cX cY cN cM) [0, 1, 2, 3, 4, 5, 6, 7] rfl
  have hDc := hD.sub (ws' := wC k aC aE aP aQ aM cX cY cN cM) [0, 1, 2, 3, 4, 5, 6, 7] (by decide) rfl
  have hFc := va_free (wc := wC k aC aE aP aQ aM cX cY cN cM) hD hS hA [0, 1, 2, 3, 4, 5, 6, 7] rfl
  refine vx_callv (vx_runV (C := RX4) (b := (aC 0)) (As := []) (rest := []) ⟨hx, hb, hml, hown, hts⟩ (m_X4_needOverlay l D k aC aE aP aQ aM cX cY cN cM  _ _ _ hlt h) (cwV 0 hts gX4_shared_X4_needOverlay rfl rfl rfl (by decide +kernel) ⟨Nat.le_of_ble_eq_true rfl, Nat.le_of_ble_eq_true rfl⟩) (preV_th (ci := 4) (q0 := 0) (C := RX4) (T := TX4) (N := 8) hE hT hS hFc hPc hDc rfl rfl) rfl rfl hl.1 rfl (lv_room (Nat.le_of_ble_eq_true rfl)) dX4_shared_1 ⟨Nat.le_of_ble_eq_true rfl, Nat.le_of_ble_eq_true rfl⟩) hS (fun q _ h => hFc q h) hFc (fun q _ h => hFc q h) (fun E9 ce q9 u t H1 locs ht hvm hpx hB hz1 hk1 hS hce hcv hcl => ?_) (fun u t H1 locs ht hvm h hB hz1 hk1 hS => ?_)
  · obtain ⟨h, hP1, hD1⟩ := hB
    rw [ht] at hP1
    obtain ⟨hP, hD⟩ := va_join (wr := wE k aE fX fY lX lY oP nE ++ wP k aP pX pY pD pO nP ++ wQ k aQ qF nQ ++ wM k aM mR mQ mN) (w1 := wC k aC aE aP aQ aM cX cY cN cM) hP hD [0, 1, 2, 3, 4, 5, 6, 7] [8, 9, 10, 11, 12, 13, 14, 15, 16, 17, 18, 19, 20, 21, 22, 23, 24, 25, 26, 27, 28, 29, 30] rfl rfl (by decide) (by decide) hk1 hFc hP1 hD1
    generalize H1 = H at hP hS hce ⊢
    have hP : va_P D vwCl (wC k aC aE aP aQ aM cX cY cN cM ++ wE k aE fX fY lX lY oP nE ++ wP k aP pX pY pD pO nP ++ wQ k aQ qF nQ ++ wM k aM mR mQ mN) H := hP.sub [23, 24, 25, 26, 27, 28, 29, 30, 0, 1, 2, 3, 4, 5, 6, 7, 8, 9, 10, 11, 12, 13, 14, 15, 16, 17, 18, 19, 20, 21, 22] rfl
    have hD : va_D A (wC k aC aE aP aQ aM cX cY cN cM ++ wE k aE fX fY lX lY oP nE ++ wP k aP pX pY pD pO nP ++ wQ k aQ qF nQ ++ wM k aM mR mQ mN) := hD.sub [23, 24, 25, 26, 27, 28, 29, 30, 0, 1, 2, 3, 4, 5, 6, 7, 8, 9, 10, 11, 12, 13, 14, 15, 16, 17, 18, 19, 20, 21, 22] (by decide) rfl
    rw [hGQ]
    exact vx_out (fun x hx => (hxt x hx).elim) hlocks hce hcv hcl (fun t9 ht9 hvm9 => ⟨(), trivial, ⟨h, by rw [ht9]; exact hP, hD⟩, hS.F ht9⟩) hS.2.2 (Nat.le_of_ble_eq_true rfl) (Nat.le_of_ble_eq_true rfl)
  obtain ⟨hP1, hD1⟩ := hB
  rw [ht] at hP1
  obtain ⟨hP, hD⟩ := va_join (wr := wE k aE fX fY lX lY oP nE ++ wP k aP pX pY pD pO nP ++ wQ k aQ qF nQ ++ wM k aM mR mQ mN) (w1 := wC k aC aE aP aQ aM cX cY cN cM) hP hD [0, 1, 2, 3, 4, 5, 6, 7] [8, 9, 10, 11, 12, 13, 14, 15, 16, 17, 18, 19, 20, 21, 22, 23, 24, 25, 26, 27, 28, 29, 30] rfl rfl (by decide) (by decide) hk1 hFc hP1 hD1
  generalize H1 = H at hP hS ⊢
  have hP : va_P D vwCl (wC k aC aE aP aQ aM cX cY cN cM ++ wE k aE fX fY lX lY oP nE ++ wP k aP pX pY pD pO nP ++ wQ k aQ qF nQ ++ wM k aM mR mQ mN) H := hP.sub [23, 24, 25, 26, 27, 28, 29, 30, 0, 1, 2, 3, 4, 5, 6, 7, 8, 9, 10, 11, 12, 13, 14, 15, 16, 17, 18, 19, 20, 21, 22] rfl
  have hD : va_D A (wC k aC aE aP aQ aM cX cY cN cM ++ wE k aE fX fY lX lY oP nE ++ wP k aP pX pY pD pO nP ++ wQ k aQ qF nQ ++ wM k aM mR mQ mN) := hD.sub [23, 24, 25, 26, 27, 28, 29, 30, 0, 1, 2, 3, 4, 5, 6, 7, 8, 9, 10, 11, 12, 13, 14, 15, 16, 17, 18, 19, 20, 21, 22] (by decide) rfl
  refine lv_aload_n hx hb dX4_shared_4 rfl (lv_at hl 0 rfl) ?_
  refine lv_iload_n hx hb dX4_shared_5 rfl (lv_at hl 1 rfl) ?_
  refine lv_iload_n hx hb dX4_shared_6 rfl (lv_at hl 2 rfl) ?_
  have hPc := hP.sub (ws' := wC k aC aE aP aQ aM cX cY cN cM ++ wE k aE fX fY lX lY oP nE) [0, 1, 2, 3, 4, 5, 6, 7, 8, 9, 10, 11, 12, 13] rfl
  have hDc := hD.sub (ws' := wC k aC aE aP aQ aM cX cY cN cM ++ wE k aE fX fY lX lY oP nE) [0, 1, 2, 3, 4, 5, 6, 7, 8, 9, 10, 11, 12, 13] (by decide) rfl
  have hFc := va_free (wc := wC k aC aE aP aQ aM cX cY cN cM ++ wE k aE fX fY lX lY oP nE) hD hS hA [0, 1, 2, 3, 4, 5, 6, 7, 8, 9, 10, 11, 12, 13] rfl
  refine vx_callv (vx_runV (C := RX4) (b := (aC 0)) (As := [.int p0, .int p1]) (rest := []) ⟨hx, hb, hml, hown, hts⟩ (m_X4_needEdges l D k aC aE aP aQ aM cX cY cN cM fX fY lX lY oP nE p0 p1 _ _ _ hlt h) (cwV 2 hts gX4_shared_X4_needEdges rfl rfl rfl (by decide +kernel) ⟨Nat.le_of_ble_eq_true rfl, Nat.le_of_ble_eq_true rfl⟩) (preV_th (ci := 4) (q0 := 0) (C := RX4) (T := TX4) (N := 8) hE hT hS hFc hPc hDc rfl rfl) rfl rfl hl.1 rfl (lv_room (Nat.le_of_ble_eq_true rfl)) dX4_shared_7 ⟨Nat.le_of_ble_eq_true rfl, Nat.le_of_ble_eq_true rfl⟩) hS (fun q _ h => hFc q h) hFc (fun q _ h => hFc q h) (fun E9 ce q9 u t H1 locs ht hvm hpx hB hz1 hk1 hS hce hcv hcl => ?_) (fun u t H1 locs ht hvm h hB hz1 hk1 hS => ?_)
  · obtain ⟨h, hP1, hD1⟩ := hB
    rw [ht] at hP1
    obtain ⟨hP, hD⟩ := va_join (wr := wP k aP pX pY pD pO nP ++ wQ k aQ qF nQ ++ wM k aM mR mQ mN) (w1 := wC k aC aE aP aQ aM cX cY cN cM ++ wE k aE fX fY lX lY oP nE) hP hD [0, 1, 2, 3, 4, 5, 6, 7, 8, 9, 10, 11, 12, 13] [14, 15, 16, 17, 18, 19, 20, 21, 22, 23, 24, 25, 26, 27, 28, 29, 30] rfl rfl (by decide) (by decide) hk1 hFc hP1 hD1
    generalize H1 = H at hP hS hce ⊢
    have hP : va_P D vwCl (wC k aC aE aP aQ aM cX cY cN cM ++ wE k aE fX fY lX lY oP nE ++ wP k aP pX pY pD pO nP ++ wQ k aQ qF nQ ++ wM k aM mR mQ mN) H := hP.sub [17, 18, 19, 20, 21, 22, 23, 24, 25, 26, 27, 28, 29, 30, 0, 1, 2, 3, 4, 5, 6, 7, 8, 9, 10, 11, 12, 13, 14, 15, 16] rfl
    have hD : va_D A (wC k aC aE aP aQ aM cX cY cN cM ++ wE k aE fX fY lX lY oP nE ++ wP k aP pX pY pD pO nP ++ wQ k aQ qF nQ ++ wM k aM mR mQ mN) := hD.sub [17, 18, 19, 20, 21, 22, 23, 24, 25, 26, 27, 28, 29, 30, 0, 1, 2, 3, 4, 5, 6, 7, 8, 9, 10, 11, 12, 13, 14, 15, 16] (by decide) rfl
    rw [hGQ]
    exact vx_out (fun x hx => (hxt x hx).elim) hlocks hce hcv hcl (fun t9 ht9 hvm9 => ⟨(), trivial, ⟨h, by rw [ht9]; exact hP, hD⟩, hS.F ht9⟩) hS.2.2 (Nat.le_of_ble_eq_true rfl) (Nat.le_of_ble_eq_true rfl)
  obtain ⟨hP1, hD1⟩ := hB
  rw [ht] at hP1
  obtain ⟨hP, hD⟩ := va_join (wr := wP k aP pX pY pD pO nP ++ wQ k aQ qF nQ ++ wM k aM mR mQ mN) (w1 := wC k aC aE aP aQ aM cX cY cN cM ++ wE k aE fX fY lX lY oP nE) hP hD [0, 1, 2, 3, 4, 5, 6, 7, 8, 9, 10, 11, 12, 13] [14, 15, 16, 17, 18, 19, 20, 21, 22, 23, 24, 25, 26, 27, 28, 29, 30] rfl rfl (by decide) (by decide) hk1 hFc hP1 hD1
  generalize H1 = H at hP hS ⊢
  have hP : va_P D vwCl (wC k aC aE aP aQ aM cX cY cN cM ++ wE k aE fX fY lX lY oP nE ++ wP k aP pX pY pD pO nP ++ wQ k aQ qF nQ ++ wM k aM mR mQ mN) H := hP.sub [17, 18, 19, 20, 21, 22, 23, 24, 25, 26, 27, 28, 29, 30, 0, 1, 2, 3, 4, 5, 6, 7, 8, 9, 10, 11, 12, 13, 14, 15, 16] rfl
  have hD : va_D A (wC k aC aE aP aQ aM cX cY cN cM ++ wE k aE fX fY lX lY oP nE ++ wP k aP pX pY pD pO nP ++ wQ k aQ qF nQ ++ wM k aM mR mQ mN) := hD.sub [17, 18, 19, 20, 21, 22, 23, 24, 25, 26, 27, 28, 29, 30, 0, 1, 2, 3, 4, 5, 6, 7, 8, 9, 10, 11, 12, 13, 14, 15, 16] (by decide) rfl
  refine lv_iload_n hx hb dX4_shared_10 rfl (lv_at hl 1 rfl) ?_
  refine lv_iload_n hx hb dX4_shared_11 rfl (lv_at hl 2 rfl) ?_
  refine lv_icmp_ne (tgt := 25) hx hb dX4_shared_12 (by decide) (fun cq => ?_) (fun cq => ?_)
  · have h := h.1 cq
    refine lv_iload_n hx hb dX4_shared_25 rfl (lv_at hl 3 rfl) ?_
    refine lv_if_eq (tgt := 41) hx hb dX4_shared_26 (by decide) (fun cq => ?_) (fun cq => ?_)
    · have h := h.1 cq
      refine lv_aload_n hx hb dX4_shared_41 rfl (lv_at hl 0 rfl) ?_
      refine va_get (D := D) (ci := 4) (v := .ref (aP 0)) (C := RX4) (T := TX4) (N := 8) hx hb hts hiX4 hown hK hP 0 rfl rfl 4 (by decide) f31 (fun _ h9 => h9) rfl dX4_shared_42 ?_
      refine lv_iload_n hx hb dX4_shared_45 rfl (lv_at hl 1 rfl) ?_
      refine lv_iload_n hx hb dX4_shared_46 rfl (lv_at hl 2 rfl) ?_
      have hPc := hP.sub (ws' := wP k aP pX pY pD pO nP) [14, 15, 16, 17, 18] rfl
      refine vp_callSi (W.runV (C := RX3) (b := (aP 0)) (As := [.int p0, .int p1]) (rest := []) ⟨hx, hb, hml, hown, hts⟩ (m_X3_firstOnBoth l D k aP pX pY pD pO nP p0 p1 _ h) (cwV 2 hts gX4_shared_X3_firstOnBoth rfl rfl rfl (by decide +kernel) ⟨Nat.le_of_ble_eq_true rfl, Nat.le_of_ble_eq_true rfl⟩) (preV_ro (ci := 3) (q0 := 0) (C := RX3) (T := TX3) (N := 5) hE hPc rfl rfl) rfl rfl hl.1 rfl (lv_room (Nat.le_of_ble_eq_true rfl)) dX4_shared_47 ⟨Nat.le_of_ble_eq_true rfl, Nat.le_of_ble_eq_true rfl⟩) (fun r47 h => ?_)
      exact L50 r47 _ _ _ h hP hD hS (lv_sub hl [] rfl)
    · have h := h.2 cq
      refine lv_aload_n hx hb dX4_shared_29 rfl (lv_at hl 0 rfl) ?_
      refine va_get (D := D) (ci := 4) (v := .ref (aP 0)) (C := RX4) (T := TX4) (N := 8) hx hb hts hiX4 hown hK hP 0 rfl rfl 4 (by decide) f31 (fun _ h9 => h9) rfl dX4_shared_30 ?_
      refine lv_iload_n hx hb dX4_shared_33 rfl (lv_at hl 1 rfl) ?_
      refine lv_iload_n hx hb dX4_shared_34 rfl (lv_at hl 2 rfl) ?_
      have hPc := hP.sub (ws' := wP k aP pX pY pD pO nP) [14, 15, 16, 17, 18] rfl
      refine vp_callSi (W.runV (C := RX3) (b := (aP 0)) (As := [.int p0, .int p1]) (rest := []) ⟨hx, hb, hml, hown, hts⟩ (m_X3_lastOnBoth l D k aP pX pY pD pO nP p0 p1 _ h) (cwV 2 hts gX4_shared_X3_lastOnBoth rfl rfl rfl (by decide +kernel) ⟨Nat.le_of_ble_eq_true rfl, Nat.le_of_ble_eq_true rfl⟩) (preV_ro (ci := 3) (q0 := 0) (C := RX3) (T := TX3) (N := 5) hE hPc rfl rfl) rfl rfl hl.1 rfl (lv_room (Nat.le_of_ble_eq_true rfl)) dX4_shared_35 ⟨Nat.le_of_ble_eq_true rfl, Nat.le_of_ble_eq_true rfl⟩) (fun r35 h => ?_)
      refine lv_goto (tgt := 50) hx hb dX4_shared_38 (by decide) ?_
      exact L50 r35 _ _ _ h hP hD hS (lv_sub hl [] rfl)
  · have h := h.2 cq
    rw [hGQ]
    obtain ⟨sa, hstr⟩ := hT.2.2.1 (144, "the same edge was named twice") (by decide)
    exact vx_throwN (own := RX4) (A := A) hx hb hlt hown cl142 inxNS hstr (vx_hat hatxNS th_badN (th_b3 hT (by decide))) (by decide +kernel) hT.1 hT.2.1 hS (hl.1.trans hml.symm) dX4_shared_15 dX4_shared_18 dX4_shared_19 dX4_shared_21 dX4_shared_24 (fun x hx => (hxt x hx).elim) (Nat.le_of_ble_eq_true rfl) (Nat.le_of_ble_eq_true rfl) (Nat.le_of_ble_eq_true rfl) (Nat.le_of_ble_eq_true rfl) hlocks (fun t hvm hz hq => ⟨(), trivial, ⟨h, P_ext hP hq, hD⟩, F_ext hS hz hq⟩) hS.2.2 (Nat.le_of_ble_eq_true rfl) (Nat.le_of_ble_eq_true rfl)
set_option maxHeartbeats 4000000 in
set_option maxRecDepth 100000 in
theorem m_X4_bounds (l : Launch) (D : va_G) (k : Nat → ClassId) (aC : Nat → Nat) (aE : Nat → Nat) (aP : Nat → Nat) (aQ : Nat → Nat) (aM : Nat → Nat) (cX : Nat → Nat → Int32) (cY : Nat → Nat → Int32) (cN : Nat → Int32) (cM : Int32) (fX : Nat → Int32) (fY : Nat → Int32) (lX : Nat → Int32) (lY : Nat → Int32) (oP : Nat → Int32) (nE : Int32) (pX : Nat → Int32) (pY : Nat → Int32) (pD : Nat → Int32) (pO : Nat → Int32) (nP : Int32) (qF : Nat → Nat → Int32) (nQ : Int32) (mR : Nat → Int32) (mQ : Int32) (mN : Int32) (p0 : Int32) (Q : Int32 → Prop) (X : String → Prop) (sz : Nat) (hlt : l.stackTraces = false) (h : wp_X4_bounds p0 cM qF nQ Q X) : vx_Met l yX4_bounds wsX4_bounds ({ frames := 7, cells := 2, slots := 12, locals := 110 }) (Pth D k [.ref (aC 0), .int p0] (wC k aC aE aP aQ aM cX cY cN cM ++ wE k aE fX fY lX lY oP nE ++ wP k aP pX pY pD pO nP ++ wQ k aQ qF nQ ++ wM k aM mR mQ mN) sz) (va_Qi (fun (r : Int32) (u : Unit) => Q r ) (fun (u : Unit) t => va_P D vwCl (wC k aC aE aP aQ aM cX cY cN cM ++ wE k aE fX fY lX lY oP nE ++ wP k aP pX pY pD pO nP ++ wQ k aQ qF nQ ++ wM k aM mR mQ mN) t.heap ∧ va_D (va_A (wC k aC aE aP aQ aM cX cY cN cM ++ wE k aE fX fY lX lY oP nE ++ wP k aP pX pY pD pO nP ++ wQ k aQ qF nQ ++ wM k aM mR mQ mN) sz) (wC k aC aE aP aQ aM cX cY cN cM ++ wE k aE fX fY lX lY oP nE ++ wP k aP pX pY pD pO nP ++ wQ k aQ qF nQ ++ wM k aM mR mQ mN)) (va_A (wC k aC aE aP aQ aM cX cY cN cM ++ wE k aE fX fY lX lY oP nE ++ wP k aP pX pY pD pO nP ++ wQ k aQ qF nQ ++ wM k aM mR mQ mN) sz)) (vx_X (fun (_ : Unit) => True) (fun E9 u t => X E9  ∧ va_P D vwCl (wC k aC aE aP aQ aM cX cY cN cM ++ wE k aE fX fY lX lY oP nE ++ wP k aP pX pY pD pO nP ++ wQ k aQ qF nQ ++ wM k aM mR mQ mN) t.heap ∧ va_D (va_A (wC k aC aE aP aQ aM cX cY cN cM ++ wE k aE fX fY lX lY oP nE ++ wP k aP pX pY pD pO nP ++ wQ k aQ qF nQ ++ wM k aM mR mQ mN) sz) (wC k aC aE aP aQ aM cX cY cN cM ++ wE k aE fX fY lX lY oP nE ++ wP k aP pX pY pD pO nP ++ wQ k aQ qF nQ ++ wM k aM mR mQ mN)) (va_A (wC k aC aE aP aQ aM cX cY cN cM ++ wE k aE fX fY lX lY oP nE ++ wP k aP pX pY pD pO nP ++ wQ k aQ qF nQ ++ wM k aM mR mQ mN) sz)) 2 12 (va_A (wC k aC aE aP aQ aM cX cY cN cM ++ wE k aE fX fY lX lY oP nE ++ wP k aP pX pY pD pO nP ++ wQ k aQ qF nQ ++ wM k aM mR mQ mN) sz) := by
  refine vx_ofW (cc := cX4_bounds) (maxL := 4) (ret := (some .int)) (by decide) rfl ?_
  intro p e s m args below meth c s₁ B hml hxt hv
  obtain ⟨hav, hsz, hP, hE, hD0, hT⟩ := hv
  subst hsz
  have hx := B.exec
  have hb := B.bytes
  have hr := B.returns
  have hts := atoms_spec (ws := wsX4_bounds) B.pre
  have hown : s.vm.findClass RX4 = some m.cls := findClass_of_methodNamed B.named
  have hlocks := B.notSynchronized
  have hK := hE.1
  have hD := hD0.self (sz := s.heap.size)
  generalize hAe : va_A (wC k aC aE aP aQ aM cX cY cN cM ++ wE k aE fX fY lX lY oP nE ++ wP k aP pX pY pD pO nP ++ wQ k aQ qF nQ ++ wM k aM mR mQ mN) s.heap.size = A at hD hT ⊢
  have hA : ∀ q : Nat, s.heap.size ≤ q → A q := fun q h => by rw [← hAe]; exact Or.inr h
  have hS : va_S A s.heap s.heap [] := va_S.rf
  have hl := lv_entry ([.ref (aC 0), .int p0]) (n := 4) (Nat.le_of_ble_eq_true rfl)
  rw [show entryFrame m args 4 = entryFrame m ([.ref (aC 0), .int p0] : List Value).toArray 4 by rw [hav]]
  rw [lg_entry_eq]
  refine W.gq (fun GQ hGQ => ?_)
  generalize (lg_sl ([.ref (aC 0), .int p0]) ++ List.replicate (4 - (lg_sl ([.ref (aC 0), .int p0])).length) Slot.unset).toArray = ls at hl ⊢
  have hl : lv_has ls 4 [(0, .ref (aC 0)), (1, .int p0)] := hl
  have hiX4 := (by decide +kernel : ∀ w ∈ wsX40, w ∈ wsX4_bounds)
  have f38 := hts (.fieldLink RX4 38 "PlaneOverlay" "pieces" "LPlaneOverlay$Pieces;") (by decide +kernel)
  have hiX2 := (by decide +kernel : ∀ w ∈ wsX20, w ∈ wsX4_bounds)
  have f95 := fun A => hE.nf (A := A) (RX4, 95, "PlaneOverlay$Pieces", "count", "I") (by decide +kernel)
  have L12 : ∀ (n12 : Nat) (v2 : Int32) (v3 : Int32) (H : Heap) (locs : List Loc) (ls : Array Slot), wp_X4_bounds_L12 p0 cM qF nQ Q X  n12 v2 v3 → va_P D vwCl (wC k aC aE aP aQ aM cX cY cN cM ++ wE k aE fX fY lX lY oP nE ++ wP k aP pX pY pD pO nP ++ wQ k aQ qF nQ ++ wM k aM mR mQ mN) H → va_D A (wC k aC aE aP aQ aM cX cY cN cM ++ wE k aE fX fY lX lY oP nE ++ wP k aP pX pY pD pO nP ++ wQ k aQ qF nQ ++ wM k aM mR mQ mN) → va_S A s.heap H locs → lv_has ls 4 [(0, .ref (aC 0)), (1, .int p0), (2, .int v2), (3, .int v3)] → W p l e (headSpec wsX4_bounds ({ frames := 7, cells := 2, slots := 12, locals := 110 })).room s m args below meth c H locs 2 12 GQ (F0 m 12 ls []) := by
    intro n12
    induction n12 with
    | zero => intro v2 v3 H locs ls h hP hD hS hl; exact False.elim h
    | succ n12 ih12 =>
      have L38 : ∀ (v2 : Int32) (v3 : Int32) (H : Heap) (locs : List Loc) (ls : Array Slot), wp_X4_bounds_L38 p0 cM qF nQ Q X (wp_X4_bounds_L12 p0 cM qF nQ Q X  n12) v2 v3 → va_P D vwCl (wC k aC aE aP aQ aM cX cY cN cM ++ wE k aE fX fY lX lY oP nE ++ wP k aP pX pY pD pO nP ++ wQ k aQ qF nQ ++ wM k aM mR mQ mN) H → va_D A (wC k aC aE aP aQ aM cX cY cN cM ++ wE k aE fX fY lX lY oP nE ++ wP k aP pX pY pD pO nP ++ wQ k aQ qF nQ ++ wM k aM mR mQ mN) → va_S A s.heap H locs → lv_has ls 4 [(0, .ref (aC 0)), (1, .int p0), (2, .int v2), (3, .int v3)] → W p l e (headSpec wsX4_bounds ({ frames := 7, cells := 2, slots := 12, locals := 110 })).room s m args below meth c H locs 2 12 GQ (F0 m 38 ls []) := by
        intro v2 v3 H locs ls h hP hD hS hl
        unfold wp_X4_bounds_L38 at h
        refine lv_iinc (v := (v3 + 1)) (lv' := [(3, .int (v3 + 1)), (0, .ref (aC 0)), (1, .int p0), (2, .int v2)]) hx hb dX4_bounds_38 hl (k := 3) rfl rfl (by decide) rfl (fun ls hl => ?_)
        refine lv_goto (tgt := 12) hx hb dX4_bounds_41 (by decide) ?_
        exact ih12 v2 (v3 + 1) _ _ _ h hP hD hS (lv_sub hl [1, 2, 3, 0] rfl)
      intro v2 v3 H locs ls h hP hD hS hl
      rw [wp_X4_bounds_L12] at h
      refine lv_iload_n hx hb dX4_bounds_12 rfl (lv_at hl 3 rfl) ?_
      refine lv_aload_n hx hb dX4_bounds_13 rfl (lv_at hl 0 rfl) ?_
      refine va_get (D := D) (ci := 4) (v := .ref (aQ 0)) (C := RX4) (T := TX4) (N := 8) hx hb hts hiX4 hown hK hP 0 rfl rfl 5 (by decide) f38 (fun _ h9 => h9) rfl dX4_bounds_14 ?_
      refine va_getN (D := D) (ci := 2) (v := .int nQ) (C := RX2) (T := TX2) (N := 2) (host := "PlaneOverlay") hx hb hts hiX2 hown hK hP 19 rfl rfl 1 (by decide) (f95 _) (fun _ h9 => h9) rfl dX4_bounds_17 ?_
      refine lv_icmp_ge (tgt := 44) hx hb dX4_bounds_20 (by decide) (fun cq => ?_) (fun cq => ?_)
      · have h := h.1 cq
        refine lv_iload_n hx hb dX4_bounds_44 rfl (lv_at hl 2 rfl) ?_
        rw [hGQ]
        refine vx_ret ?_
        exact W.iret (v := v2) hx hb hr (fun t ht hW => ⟨⟨_, (), rfl, h, by rw [ht]; exact hP, hD⟩, hS.F ht⟩) hS.2.2 dX4_bounds_45
      · have h := h.2 cq
        refine lv_aload_n hx hb dX4_bounds_23 rfl (lv_at hl 0 rfl) ?_
        refine va_get (D := D) (ci := 4) (v := .ref (aQ 0)) (C := RX4) (T := TX4) (N := 8) hx hb hts hiX4 hown hK hP 0 rfl rfl 5 (by decide) f38 (fun _ h9 => h9) rfl dX4_bounds_24 ?_
        refine lv_iload_n hx hb dX4_bounds_27 rfl (lv_at hl 3 rfl) ?_
        refine lv_iload_n hx hb dX4_bounds_28 rfl (lv_at hl 1 rfl) ?_
        have hPc := hP.sub (ws' := wQ k aQ qF nQ) [19, 20, 21, 22, 23, 24, 25, 26, 27, 28] rfl
        refine vp_callSi (W.runV (C := RX2) (b := (aQ 0)) (As := [.int v3, .int p0]) (rest := []) ⟨hx, hb, hml, hown, hts⟩ (m_X2_divides l D k aQ qF nQ v3 p0 _ h) (cwV 2 hts gX4_bounds_X2_divides rfl rfl rfl (by decide +kernel) ⟨Nat.le_of_ble_eq_true rfl, Nat.le_of_ble_eq_true rfl⟩) (preV_ro (ci := 2) (q0 := 0) (C := RX2) (T := TX2) (N := 2) hE hPc rfl rfl) rfl rfl hl.1 rfl (lv_room (Nat.le_of_ble_eq_true rfl)) dX4_bounds_29 ⟨Nat.le_of_ble_eq_true rfl, Nat.le_of_ble_eq_true rfl⟩) (fun r29 h => ?_)
        refine lv_if_eq (tgt := 38) hx hb dX4_bounds_32 (by decide) (fun cq => ?_) (fun cq => ?_)
        · have h := h.1 cq
          exact L38 v2 v3 _ _ _ h hP hD hS (lv_sub hl [0, 1, 2, 3] rfl)
        · have h := h.2 cq
          refine lv_iinc (v := (v2 + 1)) (lv' := [(2, .int (v2 + 1)), (0, .ref (aC 0)), (1, .int p0), (3, .int v3)]) hx hb dX4_bounds_35 hl (k := 2) rfl rfl (by decide) rfl (fun ls hl => ?_)
          exact L38 (v2 + 1) v3 _ _ _ h hP hD hS (lv_sub hl [1, 2, 0, 3] rfl)
  unfold wp_X4_bounds at h
  refine lv_aload_n hx hb dX4_bounds_0 rfl (lv_at hl 0 rfl) ?_
  have hPc := hP.sub (ws' := wC k aC aE aP aQ aM cX cY cN cM) [0, 1, 2, 3, 4, 5, 6, 7] rfl
  have hDc := hD.sub (ws' := wC k aC aE aP aQ aM cX cY cN cM) [0, 1, 2, 3, 4, 5, 6, 7] (by decide) rfl
  have hFc := va_free (wc := wC k aC aE aP aQ aM cX cY cN cM) hD hS hA [0, 1, 2, 3, 4, 5, 6, 7] rfl
  refine vx_callv (vx_runV (C := RX4) (b := (aC 0)) (As := []) (rest := []) ⟨hx, hb, hml, hown, hts⟩ (m_X4_needOverlay l D k aC aE aP aQ aM cX cY cN cM  _ _ _ hlt h) (cwV 0 hts gX4_bounds_X4_needOverlay rfl rfl rfl (by decide +kernel) ⟨Nat.le_of_ble_eq_true rfl, Nat.le_of_ble_eq_true rfl⟩) (preV_th (ci := 4) (q0 := 0) (C := RX4) (T := TX4) (N := 8) hE hT hS hFc hPc hDc rfl rfl) rfl rfl hl.1 rfl (lv_room (Nat.le_of_ble_eq_true rfl)) dX4_bounds_1 ⟨Nat.le_of_ble_eq_true rfl, Nat.le_of_ble_eq_true rfl⟩) hS (fun q _ h => hFc q h) hFc (fun q _ h => hFc q h) (fun E9 ce q9 u t H1 locs ht hvm hpx hB hz1 hk1 hS hce hcv hcl => ?_) (fun u t H1 locs ht hvm h hB hz1 hk1 hS => ?_)
  · obtain ⟨h, hP1, hD1⟩ := hB
    rw [ht] at hP1
    obtain ⟨hP, hD⟩ := va_join (wr := wE k aE fX fY lX lY oP nE ++ wP k aP pX pY pD pO nP ++ wQ k aQ qF nQ ++ wM k aM mR mQ mN) (w1 := wC k aC aE aP aQ aM cX cY cN cM) hP hD [0, 1, 2, 3, 4, 5, 6, 7] [8, 9, 10, 11, 12, 13, 14, 15, 16, 17, 18, 19, 20, 21, 22, 23, 24, 25, 26, 27, 28, 29, 30] rfl rfl (by decide) (by decide) hk1 hFc hP1 hD1
    generalize H1 = H at hP hS hce ⊢
    have hP : va_P D vwCl (wC k aC aE aP aQ aM cX cY cN cM ++ wE k aE fX fY lX lY oP nE ++ wP k aP pX pY pD pO nP ++ wQ k aQ qF nQ ++ wM k aM mR mQ mN) H := hP.sub [23, 24, 25, 26, 27, 28, 29, 30, 0, 1, 2, 3, 4, 5, 6, 7, 8, 9, 10, 11, 12, 13, 14, 15, 16, 17, 18, 19, 20, 21, 22] rfl
    have hD : va_D A (wC k aC aE aP aQ aM cX cY cN cM ++ wE k aE fX fY lX lY oP nE ++ wP k aP pX pY pD pO nP ++ wQ k aQ qF nQ ++ wM k aM mR mQ mN) := hD.sub [23, 24, 25, 26, 27, 28, 29, 30, 0, 1, 2, 3, 4, 5, 6, 7, 8, 9, 10, 11, 12, 13, 14, 15, 16, 17, 18, 19, 20, 21, 22] (by decide) rfl
    rw [hGQ]
    exact vx_out (fun x hx => (hxt x hx).elim) hlocks hce hcv hcl (fun t9 ht9 hvm9 => ⟨(), trivial, ⟨h, by rw [ht9]; exact hP, hD⟩, hS.F ht9⟩) hS.2.2 (Nat.le_of_ble_eq_true rfl) (Nat.le_of_ble_eq_true rfl)
  obtain ⟨hP1, hD1⟩ := hB
  rw [ht] at hP1
  obtain ⟨hP, hD⟩ := va_join (wr := wE k aE fX fY lX lY oP nE ++ wP k aP pX pY pD pO nP ++ wQ k aQ qF nQ ++ wM k aM mR mQ mN) (w1 := wC k aC aE aP aQ aM cX cY cN cM) hP hD [0, 1, 2, 3, 4, 5, 6, 7] [8, 9, 10, 11, 12, 13, 14, 15, 16, 17, 18, 19, 20, 21, 22, 23, 24, 25, 26, 27, 28, 29, 30] rfl rfl (by decide) (by decide) hk1 hFc hP1 hD1
  generalize H1 = H at hP hS ⊢
  have hP : va_P D vwCl (wC k aC aE aP aQ aM cX cY cN cM ++ wE k aE fX fY lX lY oP nE ++ wP k aP pX pY pD pO nP ++ wQ k aQ qF nQ ++ wM k aM mR mQ mN) H := hP.sub [23, 24, 25, 26, 27, 28, 29, 30, 0, 1, 2, 3, 4, 5, 6, 7, 8, 9, 10, 11, 12, 13, 14, 15, 16, 17, 18, 19, 20, 21, 22] rfl
  have hD : va_D A (wC k aC aE aP aQ aM cX cY cN cM ++ wE k aE fX fY lX lY oP nE ++ wP k aP pX pY pD pO nP ++ wQ k aQ qF nQ ++ wM k aM mR mQ mN) := hD.sub [23, 24, 25, 26, 27, 28, 29, 30, 0, 1, 2, 3, 4, 5, 6, 7, 8, 9, 10, 11, 12, 13, 14, 15, 16, 17, 18, 19, 20, 21, 22] (by decide) rfl
  refine lv_iload_n hx hb dX4_bounds_4 rfl (lv_at hl 1 rfl) ?_
  have hPc := hP.sub (ws' := ([] : va_W)) [] rfl
  have hDc := hD.sub (ws' := ([] : va_W)) [] (by decide) rfl
  have hFc := va_free (wc := ([] : va_W)) hD hS hA [] rfl
  refine vx_callv (vx_runS (As := [.int p0]) (rest := []) ⟨hx, hb, hml, hown, hts⟩ (m_X4_needResult l D k   p0 _ _ _ hlt h) (va_cwS 1 hts gX4_bounds_X4_needResult rfl rfl rfl (by decide +kernel) ⟨Nat.le_of_ble_eq_true rfl, Nat.le_of_ble_eq_true rfl⟩) (preS_th hE hT hS hFc vaP0 vaD0) rfl rfl hl.1 rfl (lv_room (Nat.le_of_ble_eq_true rfl)) dX4_bounds_5 ⟨Nat.le_of_ble_eq_true rfl, Nat.le_of_ble_eq_true rfl⟩) hS (fun q _ h => hFc q h) hFc (fun q _ h => hFc q h) (fun E9 ce q9 u t H1 locs ht hvm hpx hB hz1 hk1 hS hce hcv hcl => ?_) (fun u t H1 locs ht hvm h hB hz1 hk1 hS => ?_)
  · obtain ⟨h, hP1, hD1⟩ := hB
    rw [ht] at hP1
    obtain ⟨hP, hD⟩ := va_join (wr := wC k aC aE aP aQ aM cX cY cN cM ++ wE k aE fX fY lX lY oP nE ++ wP k aP pX pY pD pO nP ++ wQ k aQ qF nQ ++ wM k aM mR mQ mN) (w1 := ([] : va_W)) hP hD [] [0, 1, 2, 3, 4, 5, 6, 7, 8, 9, 10, 11, 12, 13, 14, 15, 16, 17, 18, 19, 20, 21, 22, 23, 24, 25, 26, 27, 28, 29, 30] rfl rfl (by decide) (by decide) hk1 hFc hP1 hD1
    generalize H1 = H at hP hS hce ⊢
    have hP : va_P D vwCl (wC k aC aE aP aQ aM cX cY cN cM ++ wE k aE fX fY lX lY oP nE ++ wP k aP pX pY pD pO nP ++ wQ k aQ qF nQ ++ wM k aM mR mQ mN) H := hP.sub [0, 1, 2, 3, 4, 5, 6, 7, 8, 9, 10, 11, 12, 13, 14, 15, 16, 17, 18, 19, 20, 21, 22, 23, 24, 25, 26, 27, 28, 29, 30] rfl
    have hD : va_D A (wC k aC aE aP aQ aM cX cY cN cM ++ wE k aE fX fY lX lY oP nE ++ wP k aP pX pY pD pO nP ++ wQ k aQ qF nQ ++ wM k aM mR mQ mN) := hD.sub [0, 1, 2, 3, 4, 5, 6, 7, 8, 9, 10, 11, 12, 13, 14, 15, 16, 17, 18, 19, 20, 21, 22, 23, 24, 25, 26, 27, 28, 29, 30] (by decide) rfl
    rw [hGQ]
    exact vx_out (fun x hx => (hxt x hx).elim) hlocks hce hcv hcl (fun t9 ht9 hvm9 => ⟨(), trivial, ⟨h, by rw [ht9]; exact hP, hD⟩, hS.F ht9⟩) hS.2.2 (Nat.le_of_ble_eq_true rfl) (Nat.le_of_ble_eq_true rfl)
  obtain ⟨hP1, hD1⟩ := hB
  rw [ht] at hP1
  obtain ⟨hP, hD⟩ := va_join (wr := wC k aC aE aP aQ aM cX cY cN cM ++ wE k aE fX fY lX lY oP nE ++ wP k aP pX pY pD pO nP ++ wQ k aQ qF nQ ++ wM k aM mR mQ mN) (w1 := ([] : va_W)) hP hD [] [0, 1, 2, 3, 4, 5, 6, 7, 8, 9, 10, 11, 12, 13, 14, 15, 16, 17, 18, 19, 20, 21, 22, 23, 24, 25, 26, 27, 28, 29, 30] rfl rfl (by decide) (by decide) hk1 hFc hP1 hD1
  generalize H1 = H at hP hS ⊢
  have hP : va_P D vwCl (wC k aC aE aP aQ aM cX cY cN cM ++ wE k aE fX fY lX lY oP nE ++ wP k aP pX pY pD pO nP ++ wQ k aQ qF nQ ++ wM k aM mR mQ mN) H := hP.sub [0, 1, 2, 3, 4, 5, 6, 7, 8, 9, 10, 11, 12, 13, 14, 15, 16, 17, 18, 19, 20, 21, 22, 23, 24, 25, 26, 27, 28, 29, 30] rfl
  have hD : va_D A (wC k aC aE aP aQ aM cX cY cN cM ++ wE k aE fX fY lX lY oP nE ++ wP k aP pX pY pD pO nP ++ wQ k aQ qF nQ ++ wM k aM mR mQ mN) := hD.sub [0, 1, 2, 3, 4, 5, 6, 7, 8, 9, 10, 11, 12, 13, 14, 15, 16, 17, 18, 19, 20, 21, 22, 23, 24, 25, 26, 27, 28, 29, 30] (by decide) rfl
  refine lv_iconst (v := (0 : Int32)) hx hb dX4_bounds_8 (by decide) ?_
  refine lv_istore_n (lv' := [(2, .int (0 : Int32)), (0, .ref (aC 0)), (1, .int p0)]) hx hb dX4_bounds_9 rfl hl (by decide) rfl (fun ls hl => ?_)
  refine lv_iconst (v := (0 : Int32)) hx hb dX4_bounds_10 (by decide) ?_
  refine lv_istore_n (lv' := [(3, .int (0 : Int32)), (2, .int (0 : Int32)), (0, .ref (aC 0)), (1, .int p0)]) hx hb dX4_bounds_11 rfl hl (by decide) rfl (fun ls hl => ?_)
  obtain ⟨n9, h⟩ := h
  exact L12 n9 (0 : Int32) (0 : Int32) _ _ _ h hP hD hS (lv_sub hl [2, 3, 1, 0] rfl)
set_option maxHeartbeats 4000000 in
set_option maxRecDepth 100000 in
theorem m_X4_bound (l : Launch) (D : va_G) (k : Nat → ClassId) (aC : Nat → Nat) (aE : Nat → Nat) (aP : Nat → Nat) (aQ : Nat → Nat) (aM : Nat → Nat) (cX : Nat → Nat → Int32) (cY : Nat → Nat → Int32) (cN : Nat → Int32) (cM : Int32) (fX : Nat → Int32) (fY : Nat → Int32) (lX : Nat → Int32) (lY : Nat → Int32) (oP : Nat → Int32) (nE : Int32) (pX : Nat → Int32) (pY : Nat → Int32) (pD : Nat → Int32) (pO : Nat → Int32) (nP : Int32) (qF : Nat → Nat → Int32) (nQ : Int32) (mR : Nat → Int32) (mQ : Int32) (mN : Int32) (p0 : Int32) (p1 : Int32) (Q : Int32 → Prop) (X : String → Prop) (sz : Nat) (hlt : l.stackTraces = false) (h : wp_X4_bound p0 p1 cM qF nQ Q X) : vx_Met l yX4_bound wsX4_bound ({ frames := 7, cells := 3, slots := 18, locals := 110 }) (Pth D k [.ref (aC 0), .int p0, .int p1] (wC k aC aE aP aQ aM cX cY cN cM ++ wE k aE fX fY lX lY oP nE ++ wP k aP pX pY pD pO nP ++ wQ k aQ qF nQ ++ wM k aM mR mQ mN) sz) (va_Qi (fun (r : Int32) (u : Unit) => Q r ) (fun (u : Unit) t => va_P D vwCl (wC k aC aE aP aQ aM cX cY cN cM ++ wE k aE fX fY lX lY oP nE ++ wP k aP pX pY pD pO nP ++ wQ k aQ qF nQ ++ wM k aM mR mQ mN) t.heap ∧ va_D (va_A (wC k aC aE aP aQ aM cX cY cN cM ++ wE k aE fX fY lX lY oP nE ++ wP k aP pX pY pD pO nP ++ wQ k aQ qF nQ ++ wM k aM mR mQ mN) sz) (wC k aC aE aP aQ aM cX cY cN cM ++ wE k aE fX fY lX lY oP nE ++ wP k aP pX pY pD pO nP ++ wQ k aQ qF nQ ++ wM k aM mR mQ mN)) (va_A (wC k aC aE aP aQ aM cX cY cN cM ++ wE k aE fX fY lX lY oP nE ++ wP k aP pX pY pD pO nP ++ wQ k aQ qF nQ ++ wM k aM mR mQ mN) sz)) (vx_X (fun (_ : Unit) => True) (fun E9 u t => X E9  ∧ va_P D vwCl (wC k aC aE aP aQ aM cX cY cN cM ++ wE k aE fX fY lX lY oP nE ++ wP k aP pX pY pD pO nP ++ wQ k aQ qF nQ ++ wM k aM mR mQ mN) t.heap ∧ va_D (va_A (wC k aC aE aP aQ aM cX cY cN cM ++ wE k aE fX fY lX lY oP nE ++ wP k aP pX pY pD pO nP ++ wQ k aQ qF nQ ++ wM k aM mR mQ mN) sz) (wC k aC aE aP aQ aM cX cY cN cM ++ wE k aE fX fY lX lY oP nE ++ wP k aP pX pY pD pO nP ++ wQ k aQ qF nQ ++ wM k aM mR mQ mN)) (va_A (wC k aC aE aP aQ aM cX cY cN cM ++ wE k aE fX fY lX lY oP nE ++ wP k aP pX pY pD pO nP ++ wQ k aQ qF nQ ++ wM k aM mR mQ mN) sz)) 3 18 (va_A (wC k aC aE aP aQ aM cX cY cN cM ++ wE k aE fX fY lX lY oP nE ++ wP k aP pX pY pD pO nP ++ wQ k aQ qF nQ ++ wM k aM mR mQ mN) sz) := by
  refine vx_ofW (cc := cX4_bound) (maxL := 5) (ret := (some .int)) (by decide) rfl ?_
  intro p e s m args below meth c s₁ B hml hxt hv
  obtain ⟨hav, hsz, hP, hE, hD0, hT⟩ := hv
  subst hsz
  have hx := B.exec
  have hb := B.bytes
  have hr := B.returns
  have hts := atoms_spec (ws := wsX4_bound) B.pre
  have hown : s.vm.findClass RX4 = some m.cls := findClass_of_methodNamed B.named
  have hlocks := B.notSynchronized
  have hK := hE.1
  have hD := hD0.self (sz := s.heap.size)
  generalize hAe : va_A (wC k aC aE aP aQ aM cX cY cN cM ++ wE k aE fX fY lX lY oP nE ++ wP k aP pX pY pD pO nP ++ wQ k aQ qF nQ ++ wM k aM mR mQ mN) s.heap.size = A at hD hT ⊢
  have hA : ∀ q : Nat, s.heap.size ≤ q → A q := fun q h => by rw [← hAe]; exact Or.inr h
  have hS : va_S A s.heap s.heap [] := va_S.rf
  have hl := lv_entry ([.ref (aC 0), .int p0, .int p1]) (n := 5) (Nat.le_of_ble_eq_true rfl)
  rw [show entryFrame m args 5 = entryFrame m ([.ref (aC 0), .int p0, .int p1] : List Value).toArray 5 by rw [hav]]
  rw [lg_entry_eq]
  refine W.gq (fun GQ hGQ => ?_)
  generalize (lg_sl ([.ref (aC 0), .int p0, .int p1]) ++ List.replicate (5 - (lg_sl ([.ref (aC 0), .int p0, .int p1])).length) Slot.unset).toArray = ls at hl ⊢
  have hl : lv_has ls 5 [(0, .ref (aC 0)), (1, .int p0), (2, .int p1)] := hl
  have hiX4 := (by decide +kernel : ∀ w ∈ wsX40, w ∈ wsX4_bound)
  have f38 := hts (.fieldLink RX4 38 "PlaneOverlay" "pieces" "LPlaneOverlay$Pieces;") (by decide +kernel)
  have hiX2 := (by decide +kernel : ∀ w ∈ wsX20, w ∈ wsX4_bound)
  have f95 := fun A => hE.nf (A := A) (RX4, 95, "PlaneOverlay$Pieces", "count", "I") (by decide +kernel)
  have hatxNS := (fun w hw => hts w (by simp only [wsX4_bound, List.mem_cons, List.mem_append, hw, true_or, or_true]) : ∀ w ∈ (vx_atN RX4 146).filter goodWord, w.before args s = true)
  have cl142 := hts (.classLink RX4 142 "java/util/NoSuchElementException") (by decide +kernel)
  have inxNS := hts (.initialized "java/util/NoSuchElementException") (by decide +kernel)
  have L13 : ∀ (n13 : Nat) (v3 : Int32) (v4 : Int32) (H : Heap) (locs : List Loc) (ls : Array Slot), wp_X4_bound_L13 p0 p1 cM qF nQ Q X  n13 v3 v4 → va_P D vwCl (wC k aC aE aP aQ aM cX cY cN cM ++ wE k aE fX fY lX lY oP nE ++ wP k aP pX pY pD pO nP ++ wQ k aQ qF nQ ++ wM k aM mR mQ mN) H → va_D A (wC k aC aE aP aQ aM cX cY cN cM ++ wE k aE fX fY lX lY oP nE ++ wP k aP pX pY pD pO nP ++ wQ k aQ qF nQ ++ wM k aM mR mQ mN) → va_S A s.heap H locs → lv_has ls 5 [(0, .ref (aC 0)), (1, .int p0), (2, .int p1), (3, .int v3), (4, .int v4)] → W p l e (headSpec wsX4_bound ({ frames := 7, cells := 3, slots := 18, locals := 110 })).room s m args below meth c H locs 2 12 GQ (F0 m 13 ls []) := by
    intro n13
    induction n13 with
    | zero => intro v3 v4 H locs ls h hP hD hS hl; exact False.elim h
    | succ n13 ih13 =>
      have L49 : ∀ (v3 : Int32) (v4 : Int32) (H : Heap) (locs : List Loc) (ls : Array Slot), wp_X4_bound_L49 p0 p1 cM qF nQ Q X (wp_X4_bound_L13 p0 p1 cM qF nQ Q X  n13) v3 v4 → va_P D vwCl (wC k aC aE aP aQ aM cX cY cN cM ++ wE k aE fX fY lX lY oP nE ++ wP k aP pX pY pD pO nP ++ wQ k aQ qF nQ ++ wM k aM mR mQ mN) H → va_D A (wC k aC aE aP aQ aM cX cY cN cM ++ wE k aE fX fY lX lY oP nE ++ wP k aP pX pY pD pO nP ++ wQ k aQ qF nQ ++ wM k aM mR mQ mN) → va_S A s.heap H locs → lv_has ls 5 [(0, .ref (aC 0)), (1, .int p0), (2, .int p1), (3, .int v3), (4, .int v4)] → W p l e (headSpec wsX4_bound ({ frames := 7, cells := 3, slots := 18, locals := 110 })).room s m args below meth c H locs 2 12 GQ (F0 m 49 ls []) := by
        intro v3 v4 H locs ls h hP hD hS hl
        unfold wp_X4_bound_L49 at h
        refine lv_iinc (v := (v4 + 1)) (lv' := [(4, .int (v4 + 1)), (0, .ref (aC 0)), (1, .int p0), (2, .int p1), (3, .int v3)]) hx hb dX4_bound_49 hl (k := 4) rfl rfl (by decide) rfl (fun ls hl => ?_)
        refine lv_goto (tgt := 13) hx hb dX4_bound_52 (by decide) ?_
        exact ih13 v3 (v4 + 1) _ _ _ h hP hD hS (lv_sub hl [1, 2, 3, 4, 0] rfl)
      intro v3 v4 H locs ls h hP hD hS hl
      rw [wp_X4_bound_L13] at h
      refine lv_iload hx hb dX4_bound_13 (lv_at hl 4 rfl) ?_
      refine lv_aload_n hx hb dX4_bound_15 rfl (lv_at hl 0 rfl) ?_
      refine va_get (D := D) (ci := 4) (v := .ref (aQ 0)) (C := RX4) (T := TX4) (N := 8) hx hb hts hiX4 hown hK hP 0 rfl rfl 5 (by decide) f38 (fun _ h9 => h9) rfl dX4_bound_16 ?_
      refine va_getN (D := D) (ci := 2) (v := .int nQ) (C := RX2) (T := TX2) (N := 2) (host := "PlaneOverlay") hx hb hts hiX2 hown hK hP 19 rfl rfl 1 (by decide) (f95 _) (fun _ h9 => h9) rfl dX4_bound_19 ?_
      refine lv_icmp_ge (tgt := 55) hx hb dX4_bound_22 (by decide) (fun cq => ?_) (fun cq => ?_)
      · have h := h.1 cq
        rw [hGQ]
        obtain ⟨sa, hstr⟩ := hT.2.2.1 (155, "so many pieces do not bound the result") (by decide)
        exact vx_throwN (own := RX4) (A := A) hx hb hlt hown cl142 inxNS hstr (vx_hat hatxNS th_badN (th_b3 hT (by decide))) (by decide +kernel) hT.1 hT.2.1 hS (hl.1.trans hml.symm) dX4_bound_55 dX4_bound_58 dX4_bound_59 dX4_bound_61 dX4_bound_64 (fun x hx => (hxt x hx).elim) (Nat.le_of_ble_eq_true rfl) (Nat.le_of_ble_eq_true rfl) (Nat.le_of_ble_eq_true rfl) (Nat.le_of_ble_eq_true rfl) hlocks (fun t hvm hz hq => ⟨(), trivial, ⟨h, P_ext hP hq, hD⟩, F_ext hS hz hq⟩) hS.2.2 (Nat.le_of_ble_eq_true rfl) (Nat.le_of_ble_eq_true rfl)
      · have h := h.2 cq
        refine lv_aload_n hx hb dX4_bound_25 rfl (lv_at hl 0 rfl) ?_
        refine va_get (D := D) (ci := 4) (v := .ref (aQ 0)) (C := RX4) (T := TX4) (N := 8) hx hb hts hiX4 hown hK hP 0 rfl rfl 5 (by decide) f38 (fun _ h9 => h9) rfl dX4_bound_26 ?_
        refine lv_iload hx hb dX4_bound_29 (lv_at hl 4 rfl) ?_
        refine lv_iload_n hx hb dX4_bound_31 rfl (lv_at hl 1 rfl) ?_
        have hPc := hP.sub (ws' := wQ k aQ qF nQ) [19, 20, 21, 22, 23, 24, 25, 26, 27, 28] rfl
        refine vp_callSi (W.runV (C := RX2) (b := (aQ 0)) (As := [.int v4, .int p0]) (rest := []) ⟨hx, hb, hml, hown, hts⟩ (m_X2_divides l D k aQ qF nQ v4 p0 _ h) (cwV 2 hts gX4_bound_X2_divides rfl rfl rfl (by decide +kernel) ⟨Nat.le_of_ble_eq_true rfl, Nat.le_of_ble_eq_true rfl⟩) (preV_ro (ci := 2) (q0 := 0) (C := RX2) (T := TX2) (N := 2) hE hPc rfl rfl) rfl rfl hl.1 rfl (lv_room (Nat.le_of_ble_eq_true rfl)) dX4_bound_32 ⟨Nat.le_of_ble_eq_true rfl, Nat.le_of_ble_eq_true rfl⟩) (fun r32 h => ?_)
        refine lv_if_eq (tgt := 49) hx hb dX4_bound_35 (by decide) (fun cq => ?_) (fun cq => ?_)
        · have h := h.1 cq
          exact L49 v3 v4 _ _ _ h hP hD hS (lv_sub hl [0, 1, 2, 3, 4] rfl)
        · have h := h.2 cq
          refine lv_iload_n hx hb dX4_bound_38 rfl (lv_at hl 3 rfl) ?_
          refine lv_iload_n hx hb dX4_bound_39 rfl (lv_at hl 2 rfl) ?_
          refine lv_icmp_ne (tgt := 46) hx hb dX4_bound_40 (by decide) (fun cq => ?_) (fun cq => ?_)
          · have h := h.1 cq
            refine lv_iinc (v := (v3 + 1)) (lv' := [(3, .int (v3 + 1)), (0, .ref (aC 0)), (1, .int p0), (2, .int p1), (4, .int v4)]) hx hb dX4_bound_46 hl (k := 3) rfl rfl (by decide) rfl (fun ls hl => ?_)
            exact L49 (v3 + 1) v4 _ _ _ h hP hD hS (lv_sub hl [1, 2, 3, 0, 4] rfl)
          · have h := h.2 cq
            refine lv_iload hx hb dX4_bound_43 (lv_at hl 4 rfl) ?_
            refine W.widen (k := 3) (n := 18) (by decide) (by decide) ?_
            rw [hGQ]
            refine vx_ret ?_
            exact W.iret (v := v4) hx hb hr (fun t ht hW => ⟨⟨_, (), rfl, h, by rw [ht]; exact hP, hD⟩, hS.F ht⟩) hS.2.2 dX4_bound_45
  unfold wp_X4_bound at h
  refine lv_aload_n hx hb dX4_bound_0 rfl (lv_at hl 0 rfl) ?_
  have hPc := hP.sub (ws' := wC k aC aE aP aQ aM cX cY cN cM) [0, 1, 2, 3, 4, 5, 6, 7] rfl
  have hDc := hD.sub (ws' := wC k aC aE aP aQ aM cX cY cN cM) [0, 1, 2, 3, 4, 5, 6, 7] (by decide) rfl
  have hFc := va_free (wc := wC k aC aE aP aQ aM cX cY cN cM) hD hS hA [0, 1, 2, 3, 4, 5, 6, 7] rfl
  refine vx_callv (vx_runV (C := RX4) (b := (aC 0)) (As := []) (rest := []) ⟨hx, hb, hml, hown, hts⟩ (m_X4_needOverlay l D k aC aE aP aQ aM cX cY cN cM  _ _ _ hlt h) (cwV 0 hts gX4_bound_X4_needOverlay rfl rfl rfl (by decide +kernel) ⟨Nat.le_of_ble_eq_true rfl, Nat.le_of_ble_eq_true rfl⟩) (preV_th (ci := 4) (q0 := 0) (C := RX4) (T := TX4) (N := 8) hE hT hS hFc hPc hDc rfl rfl) rfl rfl hl.1 rfl (lv_room (Nat.le_of_ble_eq_true rfl)) dX4_bound_1 ⟨Nat.le_of_ble_eq_true rfl, Nat.le_of_ble_eq_true rfl⟩) hS (fun q _ h => hFc q h) hFc (fun q _ h => hFc q h) (fun E9 ce q9 u t H1 locs ht hvm hpx hB hz1 hk1 hS hce hcv hcl => ?_) (fun u t H1 locs ht hvm h hB hz1 hk1 hS => ?_)
  · obtain ⟨h, hP1, hD1⟩ := hB
    rw [ht] at hP1
    obtain ⟨hP, hD⟩ := va_join (wr := wE k aE fX fY lX lY oP nE ++ wP k aP pX pY pD pO nP ++ wQ k aQ qF nQ ++ wM k aM mR mQ mN) (w1 := wC k aC aE aP aQ aM cX cY cN cM) hP hD [0, 1, 2, 3, 4, 5, 6, 7] [8, 9, 10, 11, 12, 13, 14, 15, 16, 17, 18, 19, 20, 21, 22, 23, 24, 25, 26, 27, 28, 29, 30] rfl rfl (by decide) (by decide) hk1 hFc hP1 hD1
    generalize H1 = H at hP hS hce ⊢
    have hP : va_P D vwCl (wC k aC aE aP aQ aM cX cY cN cM ++ wE k aE fX fY lX lY oP nE ++ wP k aP pX pY pD pO nP ++ wQ k aQ qF nQ ++ wM k aM mR mQ mN) H := hP.sub [23, 24, 25, 26, 27, 28, 29, 30, 0, 1, 2, 3, 4, 5, 6, 7, 8, 9, 10, 11, 12, 13, 14, 15, 16, 17, 18, 19, 20, 21, 22] rfl
    have hD : va_D A (wC k aC aE aP aQ aM cX cY cN cM ++ wE k aE fX fY lX lY oP nE ++ wP k aP pX pY pD pO nP ++ wQ k aQ qF nQ ++ wM k aM mR mQ mN) := hD.sub [23, 24, 25, 26, 27, 28, 29, 30, 0, 1, 2, 3, 4, 5, 6, 7, 8, 9, 10, 11, 12, 13, 14, 15, 16, 17, 18, 19, 20, 21, 22] (by decide) rfl
    rw [hGQ]
    exact vx_out (fun x hx => (hxt x hx).elim) hlocks hce hcv hcl (fun t9 ht9 hvm9 => ⟨(), trivial, ⟨h, by rw [ht9]; exact hP, hD⟩, hS.F ht9⟩) hS.2.2 (Nat.le_of_ble_eq_true rfl) (Nat.le_of_ble_eq_true rfl)
  obtain ⟨hP1, hD1⟩ := hB
  rw [ht] at hP1
  obtain ⟨hP, hD⟩ := va_join (wr := wE k aE fX fY lX lY oP nE ++ wP k aP pX pY pD pO nP ++ wQ k aQ qF nQ ++ wM k aM mR mQ mN) (w1 := wC k aC aE aP aQ aM cX cY cN cM) hP hD [0, 1, 2, 3, 4, 5, 6, 7] [8, 9, 10, 11, 12, 13, 14, 15, 16, 17, 18, 19, 20, 21, 22, 23, 24, 25, 26, 27, 28, 29, 30] rfl rfl (by decide) (by decide) hk1 hFc hP1 hD1
  generalize H1 = H at hP hS ⊢
  have hP : va_P D vwCl (wC k aC aE aP aQ aM cX cY cN cM ++ wE k aE fX fY lX lY oP nE ++ wP k aP pX pY pD pO nP ++ wQ k aQ qF nQ ++ wM k aM mR mQ mN) H := hP.sub [23, 24, 25, 26, 27, 28, 29, 30, 0, 1, 2, 3, 4, 5, 6, 7, 8, 9, 10, 11, 12, 13, 14, 15, 16, 17, 18, 19, 20, 21, 22] rfl
  have hD : va_D A (wC k aC aE aP aQ aM cX cY cN cM ++ wE k aE fX fY lX lY oP nE ++ wP k aP pX pY pD pO nP ++ wQ k aQ qF nQ ++ wM k aM mR mQ mN) := hD.sub [23, 24, 25, 26, 27, 28, 29, 30, 0, 1, 2, 3, 4, 5, 6, 7, 8, 9, 10, 11, 12, 13, 14, 15, 16, 17, 18, 19, 20, 21, 22] (by decide) rfl
  refine lv_iload_n hx hb dX4_bound_4 rfl (lv_at hl 1 rfl) ?_
  have hPc := hP.sub (ws' := ([] : va_W)) [] rfl
  have hDc := hD.sub (ws' := ([] : va_W)) [] (by decide) rfl
  have hFc := va_free (wc := ([] : va_W)) hD hS hA [] rfl
  refine vx_callv (vx_runS (As := [.int p0]) (rest := []) ⟨hx, hb, hml, hown, hts⟩ (m_X4_needResult l D k   p0 _ _ _ hlt h) (va_cwS 1 hts gX4_bound_X4_needResult rfl rfl rfl (by decide +kernel) ⟨Nat.le_of_ble_eq_true rfl, Nat.le_of_ble_eq_true rfl⟩) (preS_th hE hT hS hFc vaP0 vaD0) rfl rfl hl.1 rfl (lv_room (Nat.le_of_ble_eq_true rfl)) dX4_bound_5 ⟨Nat.le_of_ble_eq_true rfl, Nat.le_of_ble_eq_true rfl⟩) hS (fun q _ h => hFc q h) hFc (fun q _ h => hFc q h) (fun E9 ce q9 u t H1 locs ht hvm hpx hB hz1 hk1 hS hce hcv hcl => ?_) (fun u t H1 locs ht hvm h hB hz1 hk1 hS => ?_)
  · obtain ⟨h, hP1, hD1⟩ := hB
    rw [ht] at hP1
    obtain ⟨hP, hD⟩ := va_join (wr := wC k aC aE aP aQ aM cX cY cN cM ++ wE k aE fX fY lX lY oP nE ++ wP k aP pX pY pD pO nP ++ wQ k aQ qF nQ ++ wM k aM mR mQ mN) (w1 := ([] : va_W)) hP hD [] [0, 1, 2, 3, 4, 5, 6, 7, 8, 9, 10, 11, 12, 13, 14, 15, 16, 17, 18, 19, 20, 21, 22, 23, 24, 25, 26, 27, 28, 29, 30] rfl rfl (by decide) (by decide) hk1 hFc hP1 hD1
    generalize H1 = H at hP hS hce ⊢
    have hP : va_P D vwCl (wC k aC aE aP aQ aM cX cY cN cM ++ wE k aE fX fY lX lY oP nE ++ wP k aP pX pY pD pO nP ++ wQ k aQ qF nQ ++ wM k aM mR mQ mN) H := hP.sub [0, 1, 2, 3, 4, 5, 6, 7, 8, 9, 10, 11, 12, 13, 14, 15, 16, 17, 18, 19, 20, 21, 22, 23, 24, 25, 26, 27, 28, 29, 30] rfl
    have hD : va_D A (wC k aC aE aP aQ aM cX cY cN cM ++ wE k aE fX fY lX lY oP nE ++ wP k aP pX pY pD pO nP ++ wQ k aQ qF nQ ++ wM k aM mR mQ mN) := hD.sub [0, 1, 2, 3, 4, 5, 6, 7, 8, 9, 10, 11, 12, 13, 14, 15, 16, 17, 18, 19, 20, 21, 22, 23, 24, 25, 26, 27, 28, 29, 30] (by decide) rfl
    rw [hGQ]
    exact vx_out (fun x hx => (hxt x hx).elim) hlocks hce hcv hcl (fun t9 ht9 hvm9 => ⟨(), trivial, ⟨h, by rw [ht9]; exact hP, hD⟩, hS.F ht9⟩) hS.2.2 (Nat.le_of_ble_eq_true rfl) (Nat.le_of_ble_eq_true rfl)
  obtain ⟨hP1, hD1⟩ := hB
  rw [ht] at hP1
  obtain ⟨hP, hD⟩ := va_join (wr := wC k aC aE aP aQ aM cX cY cN cM ++ wE k aE fX fY lX lY oP nE ++ wP k aP pX pY pD pO nP ++ wQ k aQ qF nQ ++ wM k aM mR mQ mN) (w1 := ([] : va_W)) hP hD [] [0, 1, 2, 3, 4, 5, 6, 7, 8, 9, 10, 11, 12, 13, 14, 15, 16, 17, 18, 19, 20, 21, 22, 23, 24, 25, 26, 27, 28, 29, 30] rfl rfl (by decide) (by decide) hk1 hFc hP1 hD1
  generalize H1 = H at hP hS ⊢
  have hP : va_P D vwCl (wC k aC aE aP aQ aM cX cY cN cM ++ wE k aE fX fY lX lY oP nE ++ wP k aP pX pY pD pO nP ++ wQ k aQ qF nQ ++ wM k aM mR mQ mN) H := hP.sub [0, 1, 2, 3, 4, 5, 6, 7, 8, 9, 10, 11, 12, 13, 14, 15, 16, 17, 18, 19, 20, 21, 22, 23, 24, 25, 26, 27, 28, 29, 30] rfl
  have hD : va_D A (wC k aC aE aP aQ aM cX cY cN cM ++ wE k aE fX fY lX lY oP nE ++ wP k aP pX pY pD pO nP ++ wQ k aQ qF nQ ++ wM k aM mR mQ mN) := hD.sub [0, 1, 2, 3, 4, 5, 6, 7, 8, 9, 10, 11, 12, 13, 14, 15, 16, 17, 18, 19, 20, 21, 22, 23, 24, 25, 26, 27, 28, 29, 30] (by decide) rfl
  refine lv_iconst (v := (0 : Int32)) hx hb dX4_bound_8 (by decide) ?_
  refine lv_istore_n (lv' := [(3, .int (0 : Int32)), (0, .ref (aC 0)), (1, .int p0), (2, .int p1)]) hx hb dX4_bound_9 rfl hl (by decide) rfl (fun ls hl => ?_)
  refine lv_iconst (v := (0 : Int32)) hx hb dX4_bound_10 (by decide) ?_
  refine lv_istore (lv' := [(4, .int (0 : Int32)), (3, .int (0 : Int32)), (0, .ref (aC 0)), (1, .int p0), (2, .int p1)]) hx hb dX4_bound_11 hl (by decide) rfl (fun ls hl => ?_)
  obtain ⟨n9, h⟩ := h
  exact L13 n9 (0 : Int32) (0 : Int32) _ _ _ h hP hD hS (lv_sub hl [2, 3, 4, 1, 0] rfl)
set_option maxHeartbeats 4000000 in
set_option maxRecDepth 100000 in
theorem m_X4_where (l : Launch) (D : va_G) (k : Nat → ClassId) (aC : Nat → Nat) (aE : Nat → Nat) (aP : Nat → Nat) (aQ : Nat → Nat) (aM : Nat → Nat) (cX : Nat → Nat → Int32) (cY : Nat → Nat → Int32) (cN : Nat → Int32) (cM : Int32) (fX : Nat → Int32) (fY : Nat → Int32) (lX : Nat → Int32) (lY : Nat → Int32) (oP : Nat → Int32) (nE : Int32) (pX : Nat → Int32) (pY : Nat → Int32) (pD : Nat → Int32) (pO : Nat → Int32) (nP : Int32) (qF : Nat → Nat → Int32) (nQ : Int32) (mR : Nat → Int32) (mQ : Int32) (mN : Int32) (p0 : Int32) (p1 : Int32) (p2 : Int32) (p3 : Int32) (Q : Int32 → Prop) (X : String → Prop) (sz : Nat) (hlt : l.stackTraces = false) (h : wp_X4_where p0 p1 p2 p3 cM fX fY lX lY oP nE Q X) : vx_Met l yX4_where wsX4_where ({ frames := 7, cells := 3, slots := 18, locals := 110 }) (Pth D k [.ref (aC 0), .int p0, .int p1, .int p2, .int p3] (wC k aC aE aP aQ aM cX cY cN cM ++ wE k aE fX fY lX lY oP nE ++ wP k aP pX pY pD pO nP ++ wQ k aQ qF nQ ++ wM k aM mR mQ mN) sz) (va_Qi (fun (r : Int32) (u : Unit) => Q r ) (fun (u : Unit) t => va_P D vwCl (wC k aC aE aP aQ aM cX cY cN cM ++ wE k aE fX fY lX lY oP nE ++ wP k aP pX pY pD pO nP ++ wQ k aQ qF nQ ++ wM k aM mR mQ mN) t.heap ∧ va_D (va_A (wC k aC aE aP aQ aM cX cY cN cM ++ wE k aE fX fY lX lY oP nE ++ wP k aP pX pY pD pO nP ++ wQ k aQ qF nQ ++ wM k aM mR mQ mN) sz) (wC k aC aE aP aQ aM cX cY cN cM ++ wE k aE fX fY lX lY oP nE ++ wP k aP pX pY pD pO nP ++ wQ k aQ qF nQ ++ wM k aM mR mQ mN)) (va_A (wC k aC aE aP aQ aM cX cY cN cM ++ wE k aE fX fY lX lY oP nE ++ wP k aP pX pY pD pO nP ++ wQ k aQ qF nQ ++ wM k aM mR mQ mN) sz)) (vx_X (fun (_ : Unit) => True) (fun E9 u t => X E9  ∧ va_P D vwCl (wC k aC aE aP aQ aM cX cY cN cM ++ wE k aE fX fY lX lY oP nE ++ wP k aP pX pY pD pO nP ++ wQ k aQ qF nQ ++ wM k aM mR mQ mN) t.heap ∧ va_D (va_A (wC k aC aE aP aQ aM cX cY cN cM ++ wE k aE fX fY lX lY oP nE ++ wP k aP pX pY pD pO nP ++ wQ k aQ qF nQ ++ wM k aM mR mQ mN) sz) (wC k aC aE aP aQ aM cX cY cN cM ++ wE k aE fX fY lX lY oP nE ++ wP k aP pX pY pD pO nP ++ wQ k aQ qF nQ ++ wM k aM mR mQ mN)) (va_A (wC k aC aE aP aQ aM cX cY cN cM ++ wE k aE fX fY lX lY oP nE ++ wP k aP pX pY pD pO nP ++ wQ k aQ qF nQ ++ wM k aM mR mQ mN) sz)) 3 18 (va_A (wC k aC aE aP aQ aM cX cY cN cM ++ wE k aE fX fY lX lY oP nE ++ wP k aP pX pY pD pO nP ++ wQ k aQ qF nQ ++ wM k aM mR mQ mN) sz) := by
  refine vx_ofW (cc := cX4_where) (maxL := 6) (ret := (some .int)) (by decide) rfl ?_
  intro p e s m args below meth c s₁ B hml hxt hv
  obtain ⟨hav, hsz, hP, hE, hD0, hT⟩ := hv
  subst hsz
  have hx := B.exec
  have hb := B.bytes
  have hr := B.returns
  have hts := atoms_spec (ws := wsX4_where) B.pre
  have hown : s.vm.findClass RX4 = some m.cls := findClass_of_methodNamed B.named
  have hlocks := B.notSynchronized
  have hK := hE.1
  have hD := hD0.self (sz := s.heap.size)
  generalize hAe : va_A (wC k aC aE aP aQ aM cX cY cN cM ++ wE k aE fX fY lX lY oP nE ++ wP k aP pX pY pD pO nP ++ wQ k aQ qF nQ ++ wM k aM mR mQ mN) s.heap.size = A at hD hT ⊢
  have hA : ∀ q : Nat, s.heap.size ≤ q → A q := fun q h => by rw [← hAe]; exact Or.inr h
  have hS : va_S A s.heap s.heap [] := va_S.rf
  have hl := lv_entry ([.ref (aC 0), .int p0, .int p1, .int p2, .int p3]) (n := 6) (Nat.le_of_ble_eq_true rfl)
  rw [show entryFrame m args 6 = entryFrame m ([.ref (aC 0), .int p0, .int p1, .int p2, .int p3] : List Value).toArray 6 by rw [hav]]
  rw [lg_entry_eq]
  refine W.gq (fun GQ hGQ => ?_)
  generalize (lg_sl ([.ref (aC 0), .int p0, .int p1, .int p2, .int p3]) ++ List.replicate (6 - (lg_sl ([.ref (aC 0), .int p0, .int p1, .int p2, .int p3])).length) Slot.unset).toArray = ls at hl ⊢
  have hl : lv_has ls 6 [(0, .ref (aC 0)), (1, .int p0), (2, .int p1), (3, .int p2), (4, .int p3)] := hl
  have hatxIA := (fun w hw => hts w (by simp only [wsX4_where, List.mem_cons, List.mem_append, hw, true_or, or_true]) : ∀ w ∈ (vx_atS RX4 65 "java/lang/IllegalArgumentException" ["java/lang/RuntimeException", "java/lang/Exception"]).filter goodWord, w.before args s = true)
  have cl61 := hts (.classLink RX4 61 "java/lang/IllegalArgumentException") (by decide +kernel)
  have inxIA := hts (.initialized "java/lang/IllegalArgumentException") (by decide +kernel)
  have k157 := hts (.constant RX4 157 (100000)) (by decide +kernel)
  have hiX4 := (by decide +kernel : ∀ w ∈ wsX40, w ∈ wsX4_where)
  have f24 := hts (.fieldLink RX4 24 "PlaneOverlay" "edges" "LPlaneOverlay$Edges;") (by decide +kernel)
  have hiX0 := (by decide +kernel : ∀ w ∈ wsX00, w ∈ wsX4_where)
  have f160 := fun A => hE.nf (A := A) (RX4, 160, "PlaneOverlay$Edges", "ofPolygon", "[I") (by decide +kernel)
  have L26 : ∀  (H : Heap) (locs : List Loc) (ls : Array Slot), wp_X4_where_L26 p0 p1 p2 p3 cM fX fY lX lY oP nE Q X   → va_P D vwCl (wC k aC aE aP aQ aM cX cY cN cM ++ wE k aE fX fY lX lY oP nE ++ wP k aP pX pY pD pO nP ++ wQ k aQ qF nQ ++ wM k aM mR mQ mN) H → va_D A (wC k aC aE aP aQ aM cX cY cN cM ++ wE k aE fX fY lX lY oP nE ++ wP k aP pX pY pD pO nP ++ wQ k aQ qF nQ ++ wM k aM mR mQ mN) → va_S A s.heap H locs → lv_has ls 6 [] → W p l e (headSpec wsX4_where ({ frames := 7, cells := 3, slots := 18, locals := 110 })).room s m args below meth c H locs 2 12 GQ (F0 m 26 ls []) := by
    intro  H locs ls h hP hD hS hl
    unfold wp_X4_where_L26 at h
    rw [hGQ]
    obtain ⟨sa, hstr⟩ := hT.2.2.1 (63, "a coordinate is out of range") (by decide)
    exact vx_throwS (own := RX4) (cls := "java/lang/IllegalArgumentException") (names := ["java/lang/RuntimeException", "java/lang/Exception"]) (A := A) hx hb hlt hown (by decide) (by decide) cl61 inxIA hstr (vx_hat hatxIA (th_bad "java/lang/IllegalArgumentException" 65 (by decide) (by decide)) (th_b3 hT (by decide))) (by decide +kernel) hT.1 hT.2.1 hS (hl.1.trans hml.symm) dX4_where_26 dX4_where_29 dX4_where_30 dX4_where_32 dX4_where_35 (fun x hx => (hxt x hx).elim) (Nat.le_of_ble_eq_true rfl) (Nat.le_of_ble_eq_true rfl) (Nat.le_of_ble_eq_true rfl) (Nat.le_of_ble_eq_true rfl) hlocks (fun t hvm hz hq => ⟨(), trivial, ⟨h, P_ext hP hq, hD⟩, F_ext hS hz hq⟩) hS.2.2 (Nat.le_of_ble_eq_true rfl) (Nat.le_of_ble_eq_true rfl)
  have L50 : ∀  (H : Heap) (locs : List Loc) (ls : Array Slot), wp_X4_where_L50 p0 p1 p2 p3 cM fX fY lX lY oP nE Q X   → va_P D vwCl (wC k aC aE aP aQ aM cX cY cN cM ++ wE k aE fX fY lX lY oP nE ++ wP k aP pX pY pD pO nP ++ wQ k aQ qF nQ ++ wM k aM mR mQ mN) H → va_D A (wC k aC aE aP aQ aM cX cY cN cM ++ wE k aE fX fY lX lY oP nE ++ wP k aP pX pY pD pO nP ++ wQ k aQ qF nQ ++ wM k aM mR mQ mN) → va_S A s.heap H locs → lv_has ls 6 [] → W p l e (headSpec wsX4_where ({ frames := 7, cells := 3, slots := 18, locals := 110 })).room s m args below meth c H locs 2 12 GQ (F0 m 50 ls []) := by
    intro  H locs ls h hP hD hS hl
    unfold wp_X4_where_L50 at h
    rw [hGQ]
    obtain ⟨sa, hstr⟩ := hT.2.2.1 (158, "the divisor is out of range") (by decide)
    exact vx_throwS (own := RX4) (cls := "java/lang/IllegalArgumentException") (names := ["java/lang/RuntimeException", "java/lang/Exception"]) (A := A) hx hb hlt hown (by decide) (by decide) cl61 inxIA hstr (vx_hat hatxIA (th_bad "java/lang/IllegalArgumentException" 65 (by decide) (by decide)) (th_b3 hT (by decide))) (by decide +kernel) hT.1 hT.2.1 hS (hl.1.trans hml.symm) dX4_where_50 dX4_where_53 dX4_where_54 dX4_where_56 dX4_where_59 (fun x hx => (hxt x hx).elim) (Nat.le_of_ble_eq_true rfl) (Nat.le_of_ble_eq_true rfl) (Nat.le_of_ble_eq_true rfl) (Nat.le_of_ble_eq_true rfl) hlocks (fun t hvm hz hq => ⟨(), trivial, ⟨h, P_ext hP hq, hD⟩, F_ext hS hz hq⟩) hS.2.2 (Nat.le_of_ble_eq_true rfl) (Nat.le_of_ble_eq_true rfl)
  unfold wp_X4_where at h
  refine lv_aload_n hx hb dX4_where_0 rfl (lv_at hl 0 rfl) ?_
  have hPc := hP.sub (ws' := wC k aC aE aP aQ aM cX cY cN cM) [0, 1, 2, 3, 4, 5, 6, 7] rfl
  have hDc := hD.sub (ws' := wC k aC aE aP aQ aM cX cY cN cM) [0, 1, 2, 3, 4, 5, 6, 7] (by decide) rfl
  have hFc := va_free (wc := wC k aC aE aP aQ aM cX cY cN cM) hD hS hA [0, 1, 2, 3, 4, 5, 6, 7] rfl
  refine vx_callv (vx_runV (C := RX4) (b := (aC 0)) (As := []) (rest := []) ⟨hx, hb, hml, hown, hts⟩ (m_X4_needOverlay l D k aC aE aP aQ aM cX cY cN cM  _ _ _ hlt h) (cwV 0 hts gX4_where_X4_needOverlay rfl rfl rfl (by decide +kernel) ⟨Nat.le_of_ble_eq_true rfl, Nat.le_of_ble_eq_true rfl⟩) (preV_th (ci := 4) (q0 := 0) (C := RX4) (T := TX4) (N := 8) hE hT hS hFc hPc hDc rfl rfl) rfl rfl hl.1 rfl (lv_room (Nat.le_of_ble_eq_true rfl)) dX4_where_1 ⟨Nat.le_of_ble_eq_true rfl, Nat.le_of_ble_eq_true rfl⟩) hS (fun q _ h => hFc q h) hFc (fun q _ h => hFc q h) (fun E9 ce q9 u t H1 locs ht hvm hpx hB hz1 hk1 hS hce hcv hcl => ?_) (fun u t H1 locs ht hvm h hB hz1 hk1 hS => ?_)
  · obtain ⟨h, hP1, hD1⟩ := hB
    rw [ht] at hP1
    obtain ⟨hP, hD⟩ := va_join (wr := wE k aE fX fY lX lY oP nE ++ wP k aP pX pY pD pO nP ++ wQ k aQ qF nQ ++ wM k aM mR mQ mN) (w1 := wC k aC aE aP aQ aM cX cY cN cM) hP hD [0, 1, 2, 3, 4, 5, 6, 7] [8, 9, 10, 11, 12, 13, 14, 15, 16, 17, 18, 19, 20, 21, 22, 23, 24, 25, 26, 27, 28, 29, 30] rfl rfl (by decide) (by decide) hk1 hFc hP1 hD1
    generalize H1 = H at hP hS hce ⊢
    have hP : va_P D vwCl (wC k aC aE aP aQ aM cX cY cN cM ++ wE k aE fX fY lX lY oP nE ++ wP k aP pX pY pD pO nP ++ wQ k aQ qF nQ ++ wM k aM mR mQ mN) H := hP.sub [23, 24, 25, 26, 27, 28, 29, 30, 0, 1, 2, 3, 4, 5, 6, 7, 8, 9, 10, 11, 12, 13, 14, 15, 16, 17, 18, 19, 20, 21, 22] rfl
    have hD : va_D A (wC k aC aE aP aQ aM cX cY cN cM ++ wE k aE fX fY lX lY oP nE ++ wP k aP pX pY pD pO nP ++ wQ k aQ qF nQ ++ wM k aM mR mQ mN) := hD.sub [23, 24, 25, 26, 27, 28, 29, 30, 0, 1, 2, 3, 4, 5, 6, 7, 8, 9, 10, 11, 12, 13, 14, 15, 16, 17, 18, 19, 20, 21, 22] (by decide) rfl
    rw [hGQ]
    exact vx_out (fun x hx => (hxt x hx).elim) hlocks hce hcv hcl (fun t9 ht9 hvm9 => ⟨(), trivial, ⟨h, by rw [ht9]; exact hP, hD⟩, hS.F ht9⟩) hS.2.2 (Nat.le_of_ble_eq_true rfl) (Nat.le_of_ble_eq_true rfl)
  obtain ⟨hP1, hD1⟩ := hB
  rw [ht] at hP1
  obtain ⟨hP, hD⟩ := va_join (wr := wE k aE fX fY lX lY oP nE ++ wP k aP pX pY pD pO nP ++ wQ k aQ qF nQ ++ wM k aM mR mQ mN) (w1 := wC k aC aE aP aQ aM cX cY cN cM) hP hD [0, 1, 2, 3, 4, 5, 6, 7] [8, 9, 10, 11, 12, 13, 14, 15, 16, 17, 18, 19, 20, 21, 22, 23, 24, 25, 26, 27, 28, 29, 30] rfl rfl (by decide) (by decide) hk1 hFc hP1 hD1
  generalize H1 = H at hP hS ⊢
  have hP : va_P D vwCl (wC k aC aE aP aQ aM cX cY cN cM ++ wE k aE fX fY lX lY oP nE ++ wP k aP pX pY pD pO nP ++ wQ k aQ qF nQ ++ wM k aM mR mQ mN) H := hP.sub [23, 24, 25, 26, 27, 28, 29, 30, 0, 1, 2, 3, 4, 5, 6, 7, 8, 9, 10, 11, 12, 13, 14, 15, 16, 17, 18, 19, 20, 21, 22] rfl
  have hD : va_D A (wC k aC aE aP aQ aM cX cY cN cM ++ wE k aE fX fY lX lY oP nE ++ wP k aP pX pY pD pO nP ++ wQ k aQ qF nQ ++ wM k aM mR mQ mN) := hD.sub [23, 24, 25, 26, 27, 28, 29, 30, 0, 1, 2, 3, 4, 5, 6, 7, 8, 9, 10, 11, 12, 13, 14, 15, 16, 17, 18, 19, 20, 21, 22] (by decide) rfl
  refine lv_iload_n hx hb dX4_where_4 rfl (lv_at hl 1 rfl) ?_
  have hPc := hP.sub (ws' := ([] : va_W)) [] rfl
  have hDc := hD.sub (ws' := ([] : va_W)) [] (by decide) rfl
  have hFc := va_free (wc := ([] : va_W)) hD hS hA [] rfl
  refine vx_callv (vx_runS (As := [.int p0]) (rest := []) ⟨hx, hb, hml, hown, hts⟩ (m_X4_needPolygon l D k   p0 _ _ _ hlt h) (va_cwS 1 hts gX4_where_X4_needPolygon rfl rfl rfl (by decide +kernel) ⟨Nat.le_of_ble_eq_true rfl, Nat.le_of_ble_eq_true rfl⟩) (preS_th hE hT hS hFc vaP0 vaD0) rfl rfl hl.1 rfl (lv_room (Nat.le_of_ble_eq_true rfl)) dX4_where_5 ⟨Nat.le_of_ble_eq_true rfl, Nat.le_of_ble_eq_true rfl⟩) hS (fun q _ h => hFc q h) hFc (fun q _ h => hFc q h) (fun E9 ce q9 u t H1 locs ht hvm hpx hB hz1 hk1 hS hce hcv hcl => ?_) (fun u t H1 locs ht hvm h hB hz1 hk1 hS => ?_)
  · obtain ⟨h, hP1, hD1⟩ := hB
    rw [ht] at hP1
    obtain ⟨hP, hD⟩ := va_join (wr := wC k aC aE aP aQ aM cX cY cN cM ++ wE k aE fX fY lX lY oP nE ++ wP k aP pX pY pD pO nP ++ wQ k aQ qF nQ ++ wM k aM mR mQ mN) (w1 := ([] : va_W)) hP hD [] [0, 1, 2, 3, 4, 5, 6, 7, 8, 9, 10, 11, 12, 13, 14, 15, 16, 17, 18, 19, 20, 21, 22, 23, 24, 25, 26, 27, 28, 29, 30] rfl rfl (by decide) (by decide) hk1 hFc hP1 hD1
    generalize H1 = H at hP hS hce ⊢
    have hP : va_P D vwCl (wC k aC aE aP aQ aM cX cY cN cM ++ wE k aE fX fY lX lY oP nE ++ wP k aP pX pY pD pO nP ++ wQ k aQ qF nQ ++ wM k aM mR mQ mN) H := hP.sub [0, 1, 2, 3, 4, 5, 6, 7, 8, 9, 10, 11, 12, 13, 14, 15, 16, 17, 18, 19, 20, 21, 22, 23, 24, 25, 26, 27, 28, 29, 30] rfl
    have hD : va_D A (wC k aC aE aP aQ aM cX cY cN cM ++ wE k aE fX fY lX lY oP nE ++ wP k aP pX pY pD pO nP ++ wQ k aQ qF nQ ++ wM k aM mR mQ mN) := hD.sub [0, 1, 2, 3, 4, 5, 6, 7, 8, 9, 10, 11, 12, 13, 14, 15, 16, 17, 18, 19, 20, 21, 22, 23, 24, 25, 26, 27, 28, 29, 30] (by decide) rfl
    rw [hGQ]
    exact vx_out (fun x hx => (hxt x hx).elim) hlocks hce hcv hcl (fun t9 ht9 hvm9 => ⟨(), trivial, ⟨h, by rw [ht9]; exact hP, hD⟩, hS.F ht9⟩) hS.2.2 (Nat.le_of_ble_eq_true rfl) (Nat.le_of_ble_eq_true rfl)
  obtain ⟨hP1, hD1⟩ := hB
  rw [ht] at hP1
  obtain ⟨hP, hD⟩ := va_join (wr := wC k aC aE aP aQ aM cX cY cN cM ++ wE k aE fX fY lX lY oP nE ++ wP k aP pX pY pD pO nP ++ wQ k aQ qF nQ ++ wM k aM mR mQ mN) (w1 := ([] : va_W)) hP hD [] [0, 1, 2, 3, 4, 5, 6, 7, 8, 9, 10, 11, 12, 13, 14, 15, 16, 17, 18, 19, 20, 21, 22, 23, 24, 25, 26, 27, 28, 29, 30] rfl rfl (by decide) (by decide) hk1 hFc hP1 hD1
  generalize H1 = H at hP hS ⊢
  have hP : va_P D vwCl (wC k aC aE aP aQ aM cX cY cN cM ++ wE k aE fX fY lX lY oP nE ++ wP k aP pX pY pD pO nP ++ wQ k aQ qF nQ ++ wM k aM mR mQ mN) H := hP.sub [0, 1, 2, 3, 4, 5, 6, 7, 8, 9, 10, 11, 12, 13, 14, 15, 16, 17, 18, 19, 20, 21, 22, 23, 24, 25, 26, 27, 28, 29, 30] rfl
  have hD : va_D A (wC k aC aE aP aQ aM cX cY cN cM ++ wE k aE fX fY lX lY oP nE ++ wP k aP pX pY pD pO nP ++ wQ k aQ qF nQ ++ wM k aM mR mQ mN) := hD.sub [0, 1, 2, 3, 4, 5, 6, 7, 8, 9, 10, 11, 12, 13, 14, 15, 16, 17, 18, 19, 20, 21, 22, 23, 24, 25, 26, 27, 28, 29, 30] (by decide) rfl
  refine lv_iload_n hx hb dX4_where_8 rfl (lv_at hl 2 rfl) ?_
  refine lv_ldc (v := (100000 : Int32)) hx hb hown k157 dX4_where_9 ?_
  refine vp_callSi (W.runS (As := [.int p1, .int (100000 : Int32)]) (rest := []) ⟨hx, hb, hml, hown, hts⟩ (m_X4_isWithin l D k   p1 (100000 : Int32) _ h) (va_cwS 2 hts gX4_where_X4_isWithin rfl rfl rfl (by decide +kernel) ⟨Nat.le_of_ble_eq_true rfl, Nat.le_of_ble_eq_true rfl⟩) (preS_ro hE vaP0) rfl rfl hl.1 rfl (lv_room (Nat.le_of_ble_eq_true rfl)) dX4_where_11 ⟨Nat.le_of_ble_eq_true rfl, Nat.le_of_ble_eq_true rfl⟩) (fun r11 h => ?_)
  refine lv_if_eq (tgt := 26) hx hb dX4_where_14 (by decide) (fun cq => ?_) (fun cq => ?_)
  · have h := h.1 cq
    exact L26  _ _ _ h hP hD hS (lv_sub hl [] rfl)
  · have h := h.2 cq
    refine lv_iload_n hx hb dX4_where_17 rfl (lv_at hl 3 rfl) ?_
    refine lv_ldc (v := (100000 : Int32)) hx hb hown k157 dX4_where_18 ?_
    refine vp_callSi (W.runS (As := [.int p2, .int (100000 : Int32)]) (rest := []) ⟨hx, hb, hml, hown, hts⟩ (m_X4_isWithin l D k   p2 (100000 : Int32) _ h) (va_cwS 2 hts gX4_where_X4_isWithin rfl rfl rfl (by decide +kernel) ⟨Nat.le_of_ble_eq_true rfl, Nat.le_of_ble_eq_true rfl⟩) (preS_ro hE vaP0) rfl rfl hl.1 rfl (lv_room (Nat.le_of_ble_eq_true rfl)) dX4_where_20 ⟨Nat.le_of_ble_eq_true rfl, Nat.le_of_ble_eq_true rfl⟩) (fun r20 h => ?_)
    refine lv_if_ne (tgt := 36) hx hb dX4_where_23 (by decide) (fun cq => ?_) (fun cq => ?_)
    · have h := h.1 cq
      refine lv_iload hx hb dX4_where_36 (lv_at hl 4 rfl) ?_
      refine lv_iconst (v := (1 : Int32)) hx hb dX4_where_38 (by decide) ?_
      refine lv_icmp_lt (tgt := 50) hx hb dX4_where_39 (by decide) (fun cq => ?_) (fun cq => ?_)
      · have h := h.1 cq
        exact L50  _ _ _ h hP hD hS (lv_sub hl [] rfl)
      · have h := h.2 cq
        refine lv_iload hx hb dX4_where_42 (lv_at hl 4 rfl) ?_
        refine lv_sipush (v := (1000 : Int32)) hx hb dX4_where_44 (by decide) ?_
        refine lv_icmp_le (tgt := 60) hx hb dX4_where_47 (by decide) (fun cq => ?_) (fun cq => ?_)
        · have h := h.1 cq
          refine lv_aload_n hx hb dX4_where_60 rfl (lv_at hl 0 rfl) ?_
          refine va_get (D := D) (ci := 4) (v := .ref (aE 0)) (C := RX4) (T := TX4) (N := 8) hx hb hts hiX4 hown hK hP 0 rfl rfl 3 (by decide) f24 (fun _ h9 => h9) rfl dX4_where_61 ?_
          refine va_getN (D := D) (ci := 0) (v := .ref (aE 5)) (C := RX0) (T := TX0) (N := 6) (host := "PlaneOverlay") hx hb hts hiX0 hown hK hP 8 rfl rfl 4 (by decide) (f160 _) (fun _ h9 => h9) rfl dX4_where_64 ?_
          refine lv_iload_n hx hb dX4_where_67 rfl (lv_at hl 1 rfl) ?_
          obtain ⟨hin, h⟩ := h
          refine va_iald hx hb hK hP 13 0 rfl rfl hin dX4_where_68 ?_
          refine lv_topi (fun x69 ex69 => ?_)
          have h := h x69 ex69
          refine lv_istore (lv' := [(5, .int x69), (0, .ref (aC 0)), (1, .int p0), (2, .int p1), (3, .int p2), (4, .int p3)]) hx hb dX4_where_69 hl (by decide) rfl (fun ls hl => ?_)
          refine lv_aload_n hx hb dX4_where_71 rfl (lv_at hl 1 rfl) ?_
          refine va_get (D := D) (ci := 4) (v := .ref (aE 0)) (C := RX4) (T := TX4) (N := 8) hx hb hts hiX4 hown hK hP 0 rfl rfl 3 (by decide) f24 (fun _ h9 => h9) rfl dX4_where_72 ?_
          refine lv_iload_n hx hb dX4_where_75 rfl (lv_at hl 3 rfl) ?_
          refine lv_i2l hx hb dX4_where_76 rfl ?_
          refine lv_iload_n hx hb dX4_where_77 rfl (lv_at hl 4 rfl) ?_
          refine lv_i2l hx hb dX4_where_78 rfl ?_
          refine lv_iload hx hb dX4_where_79 (lv_at hl 5 rfl) ?_
          refine lv_i2l hx hb dX4_where_81 rfl ?_
          have hPc := hP.sub (ws' := wE k aE fX fY lX lY oP nE) [8, 9, 10, 11, 12, 13] rfl
          refine vp_callSi (W.runV (C := RX0) (b := (aE 0)) (As := [.long (p1.toInt64), .long (p2.toInt64), .long (p3.toInt64)]) (rest := []) ⟨hx, hb, hml, hown, hts⟩ (m_X0_through l D k aE fX fY lX lY oP nE (p1.toInt64) (p2.toInt64) (p3.toInt64) _ h) (cwV 3 hts gX4_where_X0_through rfl rfl rfl (by decide +kernel) ⟨Nat.le_of_ble_eq_true rfl, Nat.le_of_ble_eq_true rfl⟩) (preV_ro (ci := 0) (q0 := 0) (C := RX0) (T := TX0) (N := 6) hE hPc rfl rfl) rfl rfl hl.1 rfl (lv_room (Nat.le_of_ble_eq_true rfl)) dX4_where_82 ⟨Nat.le_of_ble_eq_true rfl, Nat.le_of_ble_eq_true rfl⟩) (fun r82 h => ?_)
          refine lv_iload hx hb dX4_where_85 (lv_at hl 0 rfl) ?_
          refine lv_iand hx hb dX4_where_87 ?_
          refine lv_if_eq (tgt := 93) hx hb dX4_where_88 (by decide) (fun cq => ?_) (fun cq => ?_)
          · have h := h.1 cq
            refine lv_aload_n hx hb dX4_where_93 rfl (lv_at hl 1 rfl) ?_
            refine va_get (D := D) (ci := 4) (v := .ref (aE 0)) (C := RX4) (T := TX4) (N := 8) hx hb hts hiX4 hown hK hP 0 rfl rfl 3 (by decide) f24 (fun _ h9 => h9) rfl dX4_where_94 ?_
            refine lv_iload_n hx hb dX4_where_97 rfl (lv_at hl 3 rfl) ?_
            refine lv_i2l hx hb dX4_where_98 rfl ?_
            refine lv_iload_n hx hb dX4_where_99 rfl (lv_at hl 4 rfl) ?_
            refine lv_i2l hx hb dX4_where_100 rfl ?_
            refine lv_iload hx hb dX4_where_101 (lv_at hl 5 rfl) ?_
            refine lv_i2l hx hb dX4_where_103 rfl ?_
            have hPc := hP.sub (ws' := wE k aE fX fY lX lY oP nE) [8, 9, 10, 11, 12, 13] rfl
            refine vp_callSi (W.runV (C := RX0) (b := (aE 0)) (As := [.long (p1.toInt64), .long (p2.toInt64), .long (p3.toInt64)]) (rest := []) ⟨hx, hb, hml, hown, hts⟩ (m_X0_above l D k aE fX fY lX lY oP nE (p1.toInt64) (p2.toInt64) (p3.toInt64) _ h) (cwV 3 hts gX4_where_X0_above rfl rfl rfl (by decide +kernel) ⟨Nat.le_of_ble_eq_true rfl, Nat.le_of_ble_eq_true rfl⟩) (preV_ro (ci := 0) (q0 := 0) (C := RX0) (T := TX0) (N := 6) hE hPc rfl rfl) rfl rfl hl.1 rfl (lv_room (Nat.le_of_ble_eq_true rfl)) dX4_where_104 ⟨Nat.le_of_ble_eq_true rfl, Nat.le_of_ble_eq_true rfl⟩) (fun r104 h => ?_)
            refine lv_iload hx hb dX4_where_107 (lv_at hl 0 rfl) ?_
            refine lv_iand hx hb dX4_where_109 ?_
            refine vp_callSi (W.runS (As := [.int (r104 &&& x69)]) (rest := []) ⟨hx, hb, hml, hown, hts⟩ (m_J6_bitCount_0f7a4 l D k   (r104 &&& x69) _ h) (va_cwS 1 hts gX4_where_J6_bitCount_0f7a4 rfl rfl rfl (by decide +kernel) ⟨Nat.le_of_ble_eq_true rfl, Nat.le_of_ble_eq_true rfl⟩) (preS_ro hE vaP0) rfl rfl hl.1 rfl (lv_room (Nat.le_of_ble_eq_true rfl)) dX4_where_110 ⟨Nat.le_of_ble_eq_true rfl, Nat.le_of_ble_eq_true rfl⟩) (fun r110 h => ?_)
            refine lv_iconst (v := (1 : Int32)) hx hb dX4_where_113 (by decide) ?_
            refine lv_iand hx hb dX4_where_114 ?_
            refine W.widen (k := 3) (n := 18) (by decide) (by decide) ?_
            rw [hGQ]
            refine vx_ret ?_
            exact W.iret (v := (r110 &&& (1 : Int32))) hx hb hr (fun t ht hW => ⟨⟨_, (), rfl, h, by rw [ht]; exact hP, hD⟩, hS.F ht⟩) hS.2.2 dX4_where_115
          · have h := h.2 cq
            refine lv_iconst (v := (2 : Int32)) hx hb dX4_where_91 (by decide) ?_
            refine W.widen (k := 3) (n := 18) (by decide) (by decide) ?_
            rw [hGQ]
            refine vx_ret ?_
            exact W.iret (v := (2 : Int32)) hx hb hr (fun t ht hW => ⟨⟨_, (), rfl, h, by rw [ht]; exact hP, hD⟩, hS.F ht⟩) hS.2.2 dX4_where_92
        · have h := h.2 cq
          exact L50  _ _ _ h hP hD hS (lv_sub hl [] rfl)
    · have h := h.2 cq
      exact L26  _ _ _ h hP hD hS (lv_sub hl [] rfl)
set_option maxHeartbeats 4000000 in
set_option maxRecDepth 100000 in
theorem m_X4_area (l : Launch) (D : va_G) (k : Nat → ClassId) (aC : Nat → Nat) (aE : Nat → Nat) (aP : Nat → Nat) (aQ : Nat → Nat) (aM : Nat → Nat) (cX : Nat → Nat → Int32) (cY : Nat → Nat → Int32) (cN : Nat → Int32) (cM : Int32) (fX : Nat → Int32) (fY : Nat → Int32) (lX : Nat → Int32) (lY : Nat → Int32) (oP : Nat → Int32) (nE : Int32) (pX : Nat → Int32) (pY : Nat → Int32) (pD : Nat → Int32) (pO : Nat → Int32) (nP : Int32) (qF : Nat → Nat → Int32) (nQ : Int32) (mR : Nat → Int32) (mQ : Int32) (mN : Int32) (p0 : Int32) (Q : UInt64 → Prop) (X : String → Prop) (sz : Nat) (hlt : l.stackTraces = false) (h : wp_X4_area p0 cM pX pY pD qF nQ Q X) : vx_Met l yX4_area wsX4_area ({ frames := 7, cells := 2, slots := 12, locals := 110 }) (Pth D k [.ref (aC 0), .int p0] (wC k aC aE aP aQ aM cX cY cN cM ++ wE k aE fX fY lX lY oP nE ++ wP k aP pX pY pD pO nP ++ wQ k aQ qF nQ ++ wM k aM mR mQ mN) sz) (va_Qd (fun (r : UInt64) (u : Unit) => Q r ) (fun (u : Unit) t => va_P D vwCl (wC k aC aE aP aQ aM cX cY cN cM ++ wE k aE fX fY lX lY oP nE ++ wP k aP pX pY pD pO nP ++ wQ k aQ qF nQ ++ wM k aM mR mQ mN) t.heap ∧ va_D (va_A (wC k aC aE aP aQ aM cX cY cN cM ++ wE k aE fX fY lX lY oP nE ++ wP k aP pX pY pD pO nP ++ wQ k aQ qF nQ ++ wM k aM mR mQ mN) sz) (wC k aC aE aP aQ aM cX cY cN cM ++ wE k aE fX fY lX lY oP nE ++ wP k aP pX pY pD pO nP ++ wQ k aQ qF nQ ++ wM k aM mR mQ mN)) (va_A (wC k aC aE aP aQ aM cX cY cN cM ++ wE k aE fX fY lX lY oP nE ++ wP k aP pX pY pD pO nP ++ wQ k aQ qF nQ ++ wM k aM mR mQ mN) sz)) (vx_X (fun (_ : Unit) => True) (fun E9 u t => X E9  ∧ va_P D vwCl (wC k aC aE aP aQ aM cX cY cN cM ++ wE k aE fX fY lX lY oP nE ++ wP k aP pX pY pD pO nP ++ wQ k aQ qF nQ ++ wM k aM mR mQ mN) t.heap ∧ va_D (va_A (wC k aC aE aP aQ aM cX cY cN cM ++ wE k aE fX fY lX lY oP nE ++ wP k aP pX pY pD pO nP ++ wQ k aQ qF nQ ++ wM k aM mR mQ mN) sz) (wC k aC aE aP aQ aM cX cY cN cM ++ wE k aE fX fY lX lY oP nE ++ wP k aP pX pY pD pO nP ++ wQ k aQ qF nQ ++ wM k aM mR mQ mN)) (va_A (wC k aC aE aP aQ aM cX cY cN cM ++ wE k aE fX fY lX lY oP nE ++ wP k aP pX pY pD pO nP ++ wQ k aQ qF nQ ++ wM k aM mR mQ mN) sz)) 2 12 (va_A (wC k aC aE aP aQ aM cX cY cN cM ++ wE k aE fX fY lX lY oP nE ++ wP k aP pX pY pD pO nP ++ wQ k aQ qF nQ ++ wM k aM mR mQ mN) sz) := by
  refine vx_ofW (cc := cX4_area) (maxL := 7) (ret := (some .double)) (by decide) rfl ?_
  intro p e s m args below meth c s₁ B hml hxt hv
  obtain ⟨hav, hsz, hP, hE, hD0, hT⟩ := hv
  subst hsz
  have hx := B.exec
  have hb := B.bytes
  have hr := B.returns
  have hts := atoms_spec (ws := wsX4_area) B.pre
  have hown : s.vm.findClass RX4 = some m.cls := findClass_of_methodNamed B.named
  have hlocks := B.notSynchronized
  have hK := hE.1
  have hD := hD0.self (sz := s.heap.size)
  generalize hAe : va_A (wC k aC aE aP aQ aM cX cY cN cM ++ wE k aE fX fY lX lY oP nE ++ wP k aP pX pY pD pO nP ++ wQ k aQ qF nQ ++ wM k aM mR mQ mN) s.heap.size = A at hD hT ⊢
  have hA : ∀ q : Nat, s.heap.size ≤ q → A q := fun q h => by rw [← hAe]; exact Or.inr h
  have hS : va_S A s.heap s.heap [] := va_S.rf
  have hl := lv_entry ([.ref (aC 0), .int p0]) (n := 7) (Nat.le_of_ble_eq_true rfl)
  rw [show entryFrame m args 7 = entryFrame m ([.ref (aC 0), .int p0] : List Value).toArray 7 by rw [hav]]
  rw [lg_entry_eq]
  refine W.gq (fun GQ hGQ => ?_)
  generalize (lg_sl ([.ref (aC 0), .int p0]) ++ List.replicate (7 - (lg_sl ([.ref (aC 0), .int p0])).length) Slot.unset).toArray = ls at hl ⊢
  have hl : lv_has ls 7 [(0, .ref (aC 0)), (1, .int p0)] := hl
  have hiX4 := (by decide +kernel : ∀ w ∈ wsX40, w ∈ wsX4_area)
  have f31 := hts (.fieldLink RX4 31 "PlaneOverlay" "points" "LPlaneOverlay$Points;") (by decide +kernel)
  have f38 := hts (.fieldLink RX4 38 "PlaneOverlay" "pieces" "LPlaneOverlay$Pieces;") (by decide +kernel)
  have hiX2 := (by decide +kernel : ∀ w ∈ wsX20, w ∈ wsX4_area)
  have f128 := fun A => hE.nf (A := A) (RX4, 128, "PlaneOverlay$Pieces", "facts", "[[I") (by decide +kernel)
  have f95 := fun A => hE.nf (A := A) (RX4, 95, "PlaneOverlay$Pieces", "count", "I") (by decide +kernel)
  have k179 := hts (.constantDouble RX4 179 (13830554455654793216)) (by decide +kernel)
  have L13 : ∀ (n13 : Nat) (v2 : UInt64) (v4 : Int32) (H : Heap) (locs : List Loc) (ls : Array Slot), wp_X4_area_L13 p0 cM pX pY pD qF nQ Q X  n13 v2 v4 → va_P D vwCl (wC k aC aE aP aQ aM cX cY cN cM ++ wE k aE fX fY lX lY oP nE ++ wP k aP pX pY pD pO nP ++ wQ k aQ qF nQ ++ wM k aM mR mQ mN) H → va_D A (wC k aC aE aP aQ aM cX cY cN cM ++ wE k aE fX fY lX lY oP nE ++ wP k aP pX pY pD pO nP ++ wQ k aQ qF nQ ++ wM k aM mR mQ mN) → va_S A s.heap H locs → lv_has ls 7 [(0, .ref (aC 0)), (1, .int p0), (2, .double v2), (4, .int v4)] → W p l e (headSpec wsX4_area ({ frames := 7, cells := 2, slots := 12, locals := 110 })).room s m args below meth c H locs 2 12 GQ (F0 m 13 ls []) := by
    intro n13
    induction n13 with
    | zero => intro v2 v4 H locs ls h hP hD hS hl; exact False.elim h
    | succ n13 ih13 =>
      have L97 : ∀ (v2 : UInt64) (v4 : Int32) (H : Heap) (locs : List Loc) (ls : Array Slot), wp_X4_area_L97 p0 cM pX pY pD qF nQ Q X (wp_X4_area_L13 p0 cM pX pY pD qF nQ Q X  n13) v2 v4 → va_P D vwCl (wC k aC aE aP aQ aM cX cY cN cM ++ wE k aE fX fY lX lY oP nE ++ wP k aP pX pY pD pO nP ++ wQ k aQ qF nQ ++ wM k aM mR mQ mN) H → va_D A (wC k aC aE aP aQ aM cX cY cN cM ++ wE k aE fX fY lX lY oP nE ++ wP k aP pX pY pD pO nP ++ wQ k aQ qF nQ ++ wM k aM mR mQ mN) → va_S A s.heap H locs → lv_has ls 7 [(0, .ref (aC 0)), (1, .int p0), (2, .double v2), (4, .int v4)] → W p l e (headSpec wsX4_area ({ frames := 7, cells := 2, slots := 12, locals := 110 })).room s m args below meth c H locs 2 12 GQ (F0 m 97 ls []) := by
        intro v2 v4 H locs ls h hP hD hS hl
        unfold wp_X4_area_L97 at h
        refine lv_iinc (v := (v4 + 1)) (lv' := [(4, .int (v4 + 1)), (0, .ref (aC 0)), (1, .int p0), (2, .double v2)]) hx hb dX4_area_97 hl (k := 3) rfl rfl (by decide) rfl (fun ls hl => ?_)
        refine lv_goto (tgt := 13) hx hb dX4_area_100 (by decide) ?_
        exact ih13 v2 (v4 + 1) _ _ _ h hP hD hS (lv_sub hl [1, 2, 3, 0] rfl)
      have L58 : ∀ (v2 : UInt64) (v4 : Int32) (z0 : UInt64) (H : Heap) (locs : List Loc) (ls : Array Slot), wp_X4_area_L58 p0 cM pX pY pD qF nQ Q X (wp_X4_area_L13 p0 cM pX pY pD qF nQ Q X  n13) v2 v4 z0 → va_P D vwCl (wC k aC aE aP aQ aM cX cY cN cM ++ wE k aE fX fY lX lY oP nE ++ wP k aP pX pY pD pO nP ++ wQ k aQ qF nQ ++ wM k aM mR mQ mN) H → va_D A (wC k aC aE aP aQ aM cX cY cN cM ++ wE k aE fX fY lX lY oP nE ++ wP k aP pX pY pD pO nP ++ wQ k aQ qF nQ ++ wM k aM mR mQ mN) → va_S A s.heap H locs → lv_has ls 7 [(0, .ref (aC 0)), (1, .int p0), (2, .double v2), (4, .int v4)] → W p l e (headSpec wsX4_area ({ frames := 7, cells := 2, slots := 12, locals := 110 })).room s m args below meth c H locs 2 12 GQ (F0 m 58 ls [.double z0]) := by
        intro v2 v4 z0 H locs ls h hP hD hS hl
        unfold wp_X4_area_L58 at h
        refine lv_dstore (lv' := [(5, .double z0), (0, .ref (aC 0)), (1, .int p0), (2, .double v2), (4, .int v4)]) hx hb dX4_area_58 hl (by decide) rfl (fun ls hl => ?_)
        refine lv_dload_n hx hb dX4_area_60 rfl (lv_at hl 3 rfl) ?_
        refine lv_dload hx hb dX4_area_61 (lv_at hl 0 rfl) ?_
        refine lv_aload_n hx hb dX4_area_63 rfl (lv_at hl 1 rfl) ?_
        refine va_get (D := D) (ci := 4) (v := .ref (aP 0)) (C := RX4) (T := TX4) (N := 8) hx hb hts hiX4 hown hK hP 0 rfl rfl 4 (by decide) f31 (fun _ h9 => h9) rfl dX4_area_64 ?_
        refine lv_aload_n hx hb dX4_area_67 rfl (lv_at hl 1 rfl) ?_
        refine va_get (D := D) (ci := 4) (v := .ref (aQ 0)) (C := RX4) (T := TX4) (N := 8) hx hb hts hiX4 hown hK hP 0 rfl rfl 5 (by decide) f38 (fun _ h9 => h9) rfl dX4_area_68 ?_
        refine va_getN (D := D) (ci := 2) (v := .ref (aQ 1)) (C := RX2) (T := TX2) (N := 2) (host := "PlaneOverlay") hx hb hts hiX2 hown hK hP 19 rfl rfl 0 (by decide) (f128 _) (fun _ h9 => h9) rfl dX4_area_71 ?_
        refine lv_iconst (v := (0 : Int32)) hx hb dX4_area_74 (by decide) ?_
        obtain ⟨hj75, h⟩ := h
        refine ra_ald (a := aQ) (b := 2) hx hb hK hP 20 4 rfl rfl hj75 dX4_area_75 ?_
        refine lv_iload hx hb dX4_area_76 (lv_at hl 4 rfl) ?_
        obtain ⟨hin, h⟩ := h
        refine va_iald hx hb hK hP (21 + (0 : Int32).toNatClampNeg) 0 (co_8 (P := fun j => (wC k aC aE aP aQ aM cX cY cN cM ++ wE k aE fX fY lX lY oP nE ++ wP k aP pX pY pD pO nP ++ wQ k aQ qF nQ ++ wM k aM mR mQ mN)[21 + j]? = some (aQ (2 + j), .inl (k 0, 276, .inl (qF j)))) rfl rfl rfl rfl rfl rfl rfl rfl (vp_lt hj75)) rfl hin dX4_area_78 ?_
        refine lv_aload_n hx hb dX4_area_79 rfl (lv_at hl 1 rfl) ?_
        refine va_get (D := D) (ci := 4) (v := .ref (aQ 0)) (C := RX4) (T := TX4) (N := 8) hx hb hts hiX4 hown hK hP 0 rfl rfl 5 (by decide) f38 (fun _ h9 => h9) rfl dX4_area_80 ?_
        refine va_getN (D := D) (ci := 2) (v := .ref (aQ 1)) (C := RX2) (T := TX2) (N := 2) (host := "PlaneOverlay") hx hb hts hiX2 hown hK hP 19 rfl rfl 0 (by decide) (f128 _) (fun _ h9 => h9) rfl dX4_area_83 ?_
        refine lv_iconst (v := (1 : Int32)) hx hb dX4_area_86 (by decide) ?_
        obtain ⟨hj87, h⟩ := h
        refine ra_ald (a := aQ) (b := 2) hx hb hK hP 20 4 rfl rfl hj87 dX4_area_87 ?_
        refine lv_iload hx hb dX4_area_88 (lv_at hl 4 rfl) ?_
        obtain ⟨hin, h⟩ := h
        refine va_iald hx hb hK hP (21 + (1 : Int32).toNatClampNeg) 0 (co_8 (P := fun j => (wC k aC aE aP aQ aM cX cY cN cM ++ wE k aE fX fY lX lY oP nE ++ wP k aP pX pY pD pO nP ++ wQ k aQ qF nQ ++ wM k aM mR mQ mN)[21 + j]? = some (aQ (2 + j), .inl (k 0, 276, .inl (qF j)))) rfl rfl rfl rfl rfl rfl rfl rfl (vp_lt hj87)) rfl hin dX4_area_90 ?_
        have hPc := hP.sub (ws' := wP k aP pX pY pD pO nP) [14, 15, 16, 17, 18] rfl
        refine vp_callSd (W.runV (C := RX3) (b := (aP 0)) (As := [.int (qF (0 : Int32).toNatClampNeg v4.toNatClampNeg), .int (qF (1 : Int32).toNatClampNeg v4.toNatClampNeg)]) (rest := [.double z0, .double v2]) ⟨hx, hb, hml, hown, hts⟩ (m_X3_doubleArea l D k aP pX pY pD pO nP (qF (0 : Int32).toNatClampNeg v4.toNatClampNeg) (qF (1 : Int32).toNatClampNeg v4.toNatClampNeg) _ h) (cwV 2 hts gX4_area_X3_doubleArea rfl rfl rfl (by decide +kernel) ⟨Nat.le_of_ble_eq_true rfl, Nat.le_of_ble_eq_true rfl⟩) (preV_ro (ci := 3) (q0 := 0) (C := RX3) (T := TX3) (N := 5) hE hPc rfl rfl) rfl rfl hl.1 rfl (lv_room (Nat.le_of_ble_eq_true rfl)) dX4_area_91 ⟨Nat.le_of_ble_eq_true rfl, Nat.le_of_ble_eq_true rfl⟩) (fun r91 h => ?_)
        obtain ⟨hne, h⟩ := h
        refine lv_dmul hx hb dX4_area_94 hne ?_
        obtain ⟨hne, h⟩ := h
        refine lv_dadd hx hb dX4_area_95 hne ?_
        refine lv_topd (fun x96 ex96 => ?_)
        have h := h x96 ex96
        refine lv_dstore_n (lv' := [(2, .double x96), (5, .double z0), (0, .ref (aC 0)), (1, .int p0), (4, .int v4)]) hx hb dX4_area_96 rfl hl (by decide) rfl (fun ls hl => ?_)
        exact L97 x96 v4 _ _ _ h hP hD hS (lv_sub hl [2, 3, 0, 4] rfl)
      intro v2 v4 H locs ls h hP hD hS hl
      rw [wp_X4_area_L13] at h
      refine lv_iload hx hb dX4_area_13 (lv_at hl 3 rfl) ?_
      refine lv_aload_n hx hb dX4_area_15 rfl (lv_at hl 0 rfl) ?_
      refine va_get (D := D) (ci := 4) (v := .ref (aQ 0)) (C := RX4) (T := TX4) (N := 8) hx hb hts hiX4 hown hK hP 0 rfl rfl 5 (by decide) f38 (fun _ h9 => h9) rfl dX4_area_16 ?_
      refine va_getN (D := D) (ci := 2) (v := .int nQ) (C := RX2) (T := TX2) (N := 2) (host := "PlaneOverlay") hx hb hts hiX2 hown hK hP 19 rfl rfl 1 (by decide) (f95 _) (fun _ h9 => h9) rfl dX4_area_19 ?_
      refine lv_icmp_ge (tgt := 103) hx hb dX4_area_22 (by decide) (fun cq => ?_) (fun cq => ?_)
      · have h := h.1 cq
        refine lv_dload_n hx hb dX4_area_103 rfl (lv_at hl 2 rfl) ?_
        rw [hGQ]
        refine vx_ret ?_
        exact W.dret (v := v2) hx hb hr (fun t ht hW => ⟨⟨_, (), rfl, h, by rw [ht]; exact hP, hD⟩, hS.F ht⟩) hS.2.2 dX4_area_104
      · have h := h.2 cq
        refine lv_aload_n hx hb dX4_area_25 rfl (lv_at hl 0 rfl) ?_
        refine va_get (D := D) (ci := 4) (v := .ref (aQ 0)) (C := RX4) (T := TX4) (N := 8) hx hb hts hiX4 hown hK hP 0 rfl rfl 5 (by decide) f38 (fun _ h9 => h9) rfl dX4_area_26 ?_
        refine lv_iload hx hb dX4_area_29 (lv_at hl 3 rfl) ?_
        refine lv_iload_n hx hb dX4_area_31 rfl (lv_at hl 1 rfl) ?_
        have hPc := hP.sub (ws' := wQ k aQ qF nQ) [19, 20, 21, 22, 23, 24, 25, 26, 27, 28] rfl
        refine vp_callSi (W.runV (C := RX2) (b := (aQ 0)) (As := [.int v4, .int p0]) (rest := []) ⟨hx, hb, hml, hown, hts⟩ (m_X2_divides l D k aQ qF nQ v4 p0 _ h) (cwV 2 hts gX4_area_X2_divides rfl rfl rfl (by decide +kernel) ⟨Nat.le_of_ble_eq_true rfl, Nat.le_of_ble_eq_true rfl⟩) (preV_ro (ci := 2) (q0 := 0) (C := RX2) (T := TX2) (N := 2) hE hPc rfl rfl) rfl rfl hl.1 rfl (lv_room (Nat.le_of_ble_eq_true rfl)) dX4_area_32 ⟨Nat.le_of_ble_eq_true rfl, Nat.le_of_ble_eq_true rfl⟩) (fun r32 h => ?_)
        refine lv_if_eq (tgt := 97) hx hb dX4_area_35 (by decide) (fun cq => ?_) (fun cq => ?_)
        · have h := h.1 cq
          exact L97 v2 v4 _ _ _ h hP hD hS (lv_sub hl [0, 1, 2, 3] rfl)
        · have h := h.2 cq
          refine lv_aload_n hx hb dX4_area_38 rfl (lv_at hl 0 rfl) ?_
          refine va_get (D := D) (ci := 4) (v := .ref (aQ 0)) (C := RX4) (T := TX4) (N := 8) hx hb hts hiX4 hown hK hP 0 rfl rfl 5 (by decide) f38 (fun _ h9 => h9) rfl dX4_area_39 ?_
          refine lv_iload hx hb dX4_area_42 (lv_at hl 3 rfl) ?_
          refine lv_iload_n hx hb dX4_area_44 rfl (lv_at hl 1 rfl) ?_
          have hPc := hP.sub (ws' := wQ k aQ qF nQ) [19, 20, 21, 22, 23, 24, 25, 26, 27, 28] rfl
          refine vp_callSi (W.runV (C := RX2) (b := (aQ 0)) (As := [.int v4, .int p0]) (rest := []) ⟨hx, hb, hml, hown, hts⟩ (m_X2_isLeftInside l D k aQ qF nQ v4 p0 _ h) (cwV 2 hts gX4_area_X2_isLeftInside rfl rfl rfl (by decide +kernel) ⟨Nat.le_of_ble_eq_true rfl, Nat.le_of_ble_eq_true rfl⟩) (preV_ro (ci := 2) (q0 := 0) (C := RX2) (T := TX2) (N := 2) hE hPc rfl rfl) rfl rfl hl.1 rfl (lv_room (Nat.le_of_ble_eq_true rfl)) dX4_area_45 ⟨Nat.le_of_ble_eq_true rfl, Nat.le_of_ble_eq_true rfl⟩) (fun r45 h => ?_)
          refine lv_if_eq (tgt := 55) hx hb dX4_area_48 (by decide) (fun cq => ?_) (fun cq => ?_)
          · have h := h.1 cq
            refine lv_ldc2d (v := (13830554455654793216 : UInt64)) hx hb hown k179 dX4_area_55 ?_
            exact L58 v2 v4 (13830554455654793216 : UInt64) _ _ _ h hP hD hS (lv_sub hl [0, 1, 2, 3] rfl)
          · have h := h.2 cq
            refine lv_dconst1 hx hb dX4_area_51 ?_
            refine lv_goto (tgt := 58) hx hb dX4_area_52 (by decide) ?_
            exact L58 v2 v4 (FP.dconst1) _ _ _ h hP hD hS (lv_sub hl [0, 1, 2, 3] rfl)
  unfold wp_X4_area at h
  refine lv_aload_n hx hb dX4_area_0 rfl (lv_at hl 0 rfl) ?_
  have hPc := hP.sub (ws' := wC k aC aE aP aQ aM cX cY cN cM) [0, 1, 2, 3, 4, 5, 6, 7] rfl
  have hDc := hD.sub (ws' := wC k aC aE aP aQ aM cX cY cN cM) [0, 1, 2, 3, 4, 5, 6, 7] (by decide) rfl
  have hFc := va_free (wc := wC k aC aE aP aQ aM cX cY cN cM) hD hS hA [0, 1, 2, 3, 4, 5, 6, 7] rfl
  refine vx_callv (vx_runV (C := RX4) (b := (aC 0)) (As := []) (rest := []) ⟨hx, hb, hml, hown, hts⟩ (m_X4_needOverlay l D k aC aE aP aQ aM cX cY cN cM  _ _ _ hlt h) (cwV 0 hts gX4_area_X4_needOverlay rfl rfl rfl (by decide +kernel) ⟨Nat.le_of_ble_eq_true rfl, Nat.le_of_ble_eq_true rfl⟩) (preV_th (ci := 4) (q0 := 0) (C := RX4) (T := TX4) (N := 8) hE hT hS hFc hPc hDc rfl rfl) rfl rfl hl.1 rfl (lv_room (Nat.le_of_ble_eq_true rfl)) dX4_area_1 ⟨Nat.le_of_ble_eq_true rfl, Nat.le_of_ble_eq_true rfl⟩) hS (fun q _ h => hFc q h) hFc (fun q _ h => hFc q h) (fun E9 ce q9 u t H1 locs ht hvm hpx hB hz1 hk1 hS hce hcv hcl => ?_) (fun u t H1 locs ht hvm h hB hz1 hk1 hS => ?_)
  · obtain ⟨h, hP1, hD1⟩ := hB
    rw [ht] at hP1
    obtain ⟨hP, hD⟩ := va_join (wr := wE k aE fX fY lX lY oP nE ++ wP k aP pX pY pD pO nP ++ wQ k aQ qF nQ ++ wM k aM mR mQ mN) (w1 := wC k aC aE aP aQ aM cX cY cN cM) hP hD [0, 1, 2, 3, 4, 5, 6, 7] [8, 9, 10, 11, 12, 13, 14, 15, 16, 17, 18, 19, 20, 21, 22, 23, 24, 25, 26, 27, 28, 29, 30] rfl rfl (by decide) (by decide) hk1 hFc hP1 hD1
    generalize H1 = H at hP hS hce ⊢
    have hP : va_P D vwCl (wC k aC aE aP aQ aM cX cY cN cM ++ wE k aE fX fY lX lY oP nE ++ wP k aP pX pY pD pO nP ++ wQ k aQ qF nQ ++ wM k aM mR mQ mN) H := hP.sub [23, 24, 25, 26, 27, 28, 29, 30, 0, 1, 2, 3, 4, 5, 6, 7, 8, 9, 10, 11, 12, 13, 14, 15, 16, 17, 18, 19, 20, 21, 22] rfl
    have hD : va_D A (wC k aC aE aP aQ aM cX cY cN cM ++ wE k aE fX fY lX lY oP nE ++ wP k aP pX pY pD pO nP ++ wQ k aQ qF nQ ++ wM k aM mR mQ mN) := hD.sub [23, 24, 25, 26, 27, 28, 29, 30, 0, 1, 2, 3, 4, 5, 6, 7, 8, 9, 10, 11, 12, 13, 14, 15, 16, 17, 18, 19, 20, 21, 22] (by decide) rfl
    rw [hGQ]
    exact vx_out (fun x hx => (hxt x hx).elim) hlocks hce hcv hcl (fun t9 ht9 hvm9 => ⟨(), trivial, ⟨h, by rw [ht9]; exact hP, hD⟩, hS.F ht9⟩) hS.2.2 (Nat.le_of_ble_eq_true rfl) (Nat.le_of_ble_eq_true rfl)
  obtain ⟨hP1, hD1⟩ := hB
  rw [ht] at hP1
  obtain ⟨hP, hD⟩ := va_join (wr := wE k aE fX fY lX lY oP nE ++ wP k aP pX pY pD pO nP ++ wQ k aQ qF nQ ++ wM k aM mR mQ mN) (w1 := wC k aC aE aP aQ aM cX cY cN cM) hP hD [0, 1, 2, 3, 4, 5, 6, 7] [8, 9, 10, 11, 12, 13, 14, 15, 16, 17, 18, 19, 20, 21, 22, 23, 24, 25, 26, 27, 28, 29, 30] rfl rfl (by decide) (by decide) hk1 hFc hP1 hD1
  generalize H1 = H at hP hS ⊢
  have hP : va_P D vwCl (wC k aC aE aP aQ aM cX cY cN cM ++ wE k aE fX fY lX lY oP nE ++ wP k aP pX pY pD pO nP ++ wQ k aQ qF nQ ++ wM k aM mR mQ mN) H := hP.sub [23, 24, 25, 26, 27, 28, 29, 30, 0, 1, 2, 3, 4, 5, 6, 7, 8, 9, 10, 11, 12, 13, 14, 15, 16, 17, 18, 19, 20, 21, 22] rfl
  have hD : va_D A (wC k aC aE aP aQ aM cX cY cN cM ++ wE k aE fX fY lX lY oP nE ++ wP k aP pX pY pD pO nP ++ wQ k aQ qF nQ ++ wM k aM mR mQ mN) := hD.sub [23, 24, 25, 26, 27, 28, 29, 30, 0, 1, 2, 3, 4, 5, 6, 7, 8, 9, 10, 11, 12, 13, 14, 15, 16, 17, 18, 19, 20, 21, 22] (by decide) rfl
  refine lv_iload_n hx hb dX4_area_4 rfl (lv_at hl 1 rfl) ?_
  have hPc := hP.sub (ws' := ([] : va_W)) [] rfl
  have hDc := hD.sub (ws' := ([] : va_W)) [] (by decide) rfl
  have hFc := va_free (wc := ([] : va_W)) hD hS hA [] rfl
  refine vx_callv (vx_runS (As := [.int p0]) (rest := []) ⟨hx, hb, hml, hown, hts⟩ (m_X4_needResult l D k   p0 _ _ _ hlt h) (va_cwS 1 hts gX4_area_X4_needResult rfl rfl rfl (by decide +kernel) ⟨Nat.le_of_ble_eq_true rfl, Nat.le_of_ble_eq_true rfl⟩) (preS_th hE hT hS hFc vaP0 vaD0) rfl rfl hl.1 rfl (lv_room (Nat.le_of_ble_eq_true rfl)) dX4_area_5 ⟨Nat.le_of_ble_eq_true rfl, Nat.le_of_ble_eq_true rfl⟩) hS (fun q _ h => hFc q h) hFc (fun q _ h => hFc q h) (fun E9 ce q9 u t H1 locs ht hvm hpx hB hz1 hk1 hS hce hcv hcl => ?_) (fun u t H1 locs ht hvm h hB hz1 hk1 hS => ?_)
  · obtain ⟨h, hP1, hD1⟩ := hB
    rw [ht] at hP1
    obtain ⟨hP, hD⟩ := va_join (wr := wC k aC aE aP aQ aM cX cY cN cM ++ wE k aE fX fY lX lY oP nE ++ wP k aP pX pY pD pO nP ++ wQ k aQ qF nQ ++ wM k aM mR mQ mN) (w1 := ([] : va_W)) hP hD [] [0, 1, 2, 3, 4, 5, 6, 7, 8, 9, 10, 11, 12, 13, 14, 15, 16, 17, 18, 19, 20, 21, 22, 23, 24, 25, 26, 27, 28, 29, 30] rfl rfl (by decide) (by decide) hk1 hFc hP1 hD1
    generalize H1 = H at hP hS hce ⊢
    have hP : va_P D vwCl (wC k aC aE aP aQ aM cX cY cN cM ++ wE k aE fX fY lX lY oP nE ++ wP k aP pX pY pD pO nP ++ wQ k aQ qF nQ ++ wM k aM mR mQ mN) H := hP.sub [0, 1, 2, 3, 4, 5, 6, 7, 8, 9, 10, 11, 12, 13, 14, 15, 16, 17, 18, 19, 20, 21, 22, 23, 24, 25, 26, 27, 28, 29, 30] rfl
    have hD : va_D A (wC k aC aE aP aQ aM cX cY cN cM ++ wE k aE fX fY lX lY oP nE ++ wP k aP pX pY pD pO nP ++ wQ k aQ qF nQ ++ wM k aM mR mQ mN) := hD.sub [0, 1, 2, 3, 4, 5, 6, 7, 8, 9, 10, 11, 12, 13, 14, 15, 16, 17, 18, 19, 20, 21, 22, 23, 24, 25, 26, 27, 28, 29, 30] (by decide) rfl
    rw [hGQ]
    exact vx_out (fun x hx => (hxt x hx).elim) hlocks hce hcv hcl (fun t9 ht9 hvm9 => ⟨(), trivial, ⟨h, by rw [ht9]; exact hP, hD⟩, hS.F ht9⟩) hS.2.2 (Nat.le_of_ble_eq_true rfl) (Nat.le_of_ble_eq_true rfl)
  obtain ⟨hP1, hD1⟩ := hB
  rw [ht] at hP1
  obtain ⟨hP, hD⟩ := va_join (wr := wC k aC aE aP aQ aM cX cY cN cM ++ wE k aE fX fY lX lY oP nE ++ wP k aP pX pY pD pO nP ++ wQ k aQ qF nQ ++ wM k aM mR mQ mN) (w1 := ([] : va_W)) hP hD [] [0, 1, 2, 3, 4, 5, 6, 7, 8, 9, 10, 11, 12, 13, 14, 15, 16, 17, 18, 19, 20, 21, 22, 23, 24, 25, 26, 27, 28, 29, 30] rfl rfl (by decide) (by decide) hk1 hFc hP1 hD1
  generalize H1 = H at hP hS ⊢
  have hP : va_P D vwCl (wC k aC aE aP aQ aM cX cY cN cM ++ wE k aE fX fY lX lY oP nE ++ wP k aP pX pY pD pO nP ++ wQ k aQ qF nQ ++ wM k aM mR mQ mN) H := hP.sub [0, 1, 2, 3, 4, 5, 6, 7, 8, 9, 10, 11, 12, 13, 14, 15, 16, 17, 18, 19, 20, 21, 22, 23, 24, 25, 26, 27, 28, 29, 30] rfl
  have hD : va_D A (wC k aC aE aP aQ aM cX cY cN cM ++ wE k aE fX fY lX lY oP nE ++ wP k aP pX pY pD pO nP ++ wQ k aQ qF nQ ++ wM k aM mR mQ mN) := hD.sub [0, 1, 2, 3, 4, 5, 6, 7, 8, 9, 10, 11, 12, 13, 14, 15, 16, 17, 18, 19, 20, 21, 22, 23, 24, 25, 26, 27, 28, 29, 30] (by decide) rfl
  refine lv_dconst0 hx hb dX4_area_8 ?_
  refine lv_topd (fun x9 ex9 => ?_)
  have h := h x9 ex9
  refine lv_dstore_n (lv' := [(2, .double x9), (0, .ref (aC 0)), (1, .int p0)]) hx hb dX4_area_9 rfl hl (by decide) rfl (fun ls hl => ?_)
  refine lv_iconst (v := (0 : Int32)) hx hb dX4_area_10 (by decide) ?_
  refine lv_istore (lv' := [(4, .int (0 : Int32)), (2, .double x9), (0, .ref (aC 0)), (1, .int p0)]) hx hb dX4_area_11 hl (by decide) rfl (fun ls hl => ?_)
  obtain ⟨n9, h⟩ := h
  exact L13 n9 x9 (0 : Int32) _ _ _ h hP hD hS (lv_sub hl [2, 3, 1, 0] rfl)
