set_option maxHeartbeats 4000000 in
set_option maxRecDepth 100000 in
theorem m_X3_isBefore (l : Launch) (D : va_G) (k : Nat → ClassId) (aP : Nat → Nat) (pX : Nat → Int32) (pY : Nat → Int32) (pD : Nat → Int32) (pO : Nat → Int32) (nP : Int32) (p0 : Int32) (p1 : Int32) (p2 : Int32) (p3 : Int32) (Q : Int32 → Prop) (h : wp_X3_isBefore p0 p1 p2 p3 pX pY pD Q) : Met l yX3_isBefore wsX3_isBefore ({ frames := 0, cells := 0, slots := 0, locals := 0 }) (Pro D k [.ref (aP 0), .int p0, .int p1, .int p2, .int p3] (wP k aP pX pY pD pO nP)) (vp_Si Q) 0 0 (fun _ => False) := by
  refine Met.ofW (cc := cX3_isBefore) (maxL := 9) (ret := (some .boolean)) (by decide) rfl ?_
  intro p e s m args below meth c s₁ B hml hv
  obtain ⟨hav, hP, hE⟩ := hv
  have hx := B.exec
  have hb := B.bytes
  have hr := B.returns
  have hts := atoms_spec (ws := wsX3_isBefore) B.pre
  have hown : s.vm.findClass RX3 = some m.cls := findClass_of_methodNamed B.named
  have hlocks := B.notSynchronized
  have hK := hE.1
  have hl := lv_entry ([.ref (aP 0), .int p0, .int p1, .int p2, .int p3]) (n := 9) (Nat.le_of_ble_eq_true rfl)
  rw [show entryFrame m args 9 = entryFrame m ([.ref (aP 0), .int p0, .int p1, .int p2, .int p3] : List Value).toArray 9 by rw [hav]]
  rw [lg_entry_eq]
  refine W.gq (fun GQ hGQ => ?_)
  generalize (lg_sl ([.ref (aP 0), .int p0, .int p1, .int p2, .int p3]) ++ List.replicate (9 - (lg_sl ([.ref (aP 0), .int p0, .int p1, .int p2, .int p3])).length) Slot.unset).toArray = ls at hl ⊢
  have hl : lv_has ls 9 [(0, .ref (aP 0)), (1, .int p0), (2, .int p1), (3, .int p2), (4, .int p3)] := hl
  have hiX3 := (by decide +kernel : ∀ w ∈ wsX30, w ∈ wsX3_isBefore)
  have f9 := hts (.fieldLink RX3 9 "PlaneOverlay$Points" "x" "[I") (by decide +kernel)
  have f18 := hts (.fieldLink RX3 18 "PlaneOverlay$Points" "d" "[I") (by decide +kernel)
  have f15 := hts (.fieldLink RX3 15 "PlaneOverlay$Points" "y" "[I") (by decide +kernel)
  have L46 : ∀ (z0 : Int32) (ls : Array Slot), wp_X3_isBefore_L46 p0 p1 p2 p3 pX pY pD Q  z0 → lv_has ls 9 [] → W p l e (headSpec wsX3_isBefore ({ frames := 0, cells := 0, slots := 0, locals := 0 })).room s m args below meth c s.heap [] 0 0 GQ (F0 m 46 ls [.int z0]) := by
    intro z0 ls h hl
    unfold wp_X3_isBefore_L46 at h
    obtain ⟨hnr, h⟩ := h
    rw [hGQ]
    exact W.zret (v := z0) hx hb hr hnr (fun t ht hW => ⟨_, rfl, h, ht⟩) (fun _ h => by cases h) dX3_isBefore_46
  have L77 : ∀ (z0 : Int32) (ls : Array Slot), wp_X3_isBefore_L77 p0 p1 p2 p3 pX pY pD Q  z0 → lv_has ls 9 [] → W p l e (headSpec wsX3_isBefore ({ frames := 0, cells := 0, slots := 0, locals := 0 })).room s m args below meth c s.heap [] 0 0 GQ (F0 m 77 ls [.int z0]) := by
    intro z0 ls h hl
    unfold wp_X3_isBefore_L77 at h
    obtain ⟨hnr, h⟩ := h
    rw [hGQ]
    exact W.zret (v := z0) hx hb hr hnr (fun t ht hW => ⟨_, rfl, h, ht⟩) (fun _ h => by cases h) dX3_isBefore_77
  unfold wp_X3_isBefore at h
  refine lv_aload_n hx hb dX3_isBefore_0 rfl (lv_at hl 0 rfl) ?_
  refine va_get (D := D) (ci := 3) (v := .ref (aP 1)) (C := RX3) (T := TX3) (N := 5) hx hb hts hiX3 hown hK hP 0 rfl rfl 0 (by decide) f9 (fun _ h9 => h9) rfl dX3_isBefore_1 ?_
  refine lv_iload_n hx hb dX3_isBefore_4 rfl (lv_at hl 1 rfl) ?_
  obtain ⟨hin, h⟩ := h
  refine va_iald hx hb hK hP 1 0 rfl rfl hin dX3_isBefore_5 ?_
  refine lv_i2l hx hb dX3_isBefore_6 rfl ?_
  refine lv_iload hx hb dX3_isBefore_7 (lv_at hl 4 rfl) ?_
  refine lv_i2l hx hb dX3_isBefore_9 rfl ?_
  refine lv_lmul hx hb dX3_isBefore_10 ?_
  refine lv_topl (fun x11 ex11 => ?_)
  have h := h x11 ex11
  refine lv_lstore (lv' := [(5, .long x11), (0, .ref (aP 0)), (1, .int p0), (2, .int p1), (3, .int p2), (4, .int p3)]) hx hb dX3_isBefore_11 hl (by decide) rfl (fun ls hl => ?_)
  refine lv_iload_n hx hb dX3_isBefore_13 rfl (lv_at hl 3 rfl) ?_
  refine lv_i2l hx hb dX3_isBefore_14 rfl ?_
  refine lv_aload_n hx hb dX3_isBefore_15 rfl (lv_at hl 1 rfl) ?_
  refine va_get (D := D) (ci := 3) (v := .ref (aP 3)) (C := RX3) (T := TX3) (N := 5) hx hb hts hiX3 hown hK hP 0 rfl rfl 2 (by decide) f18 (fun _ h9 => h9) rfl dX3_isBefore_16 ?_
  refine lv_iload_n hx hb dX3_isBefore_19 rfl (lv_at hl 2 rfl) ?_
  obtain ⟨hin, h⟩ := h
  refine va_iald hx hb hK hP 3 0 rfl rfl hin dX3_isBefore_20 ?_
  refine lv_i2l hx hb dX3_isBefore_21 rfl ?_
  refine lv_lmul hx hb dX3_isBefore_22 ?_
  refine lv_topl (fun x23 ex23 => ?_)
  have h := h x23 ex23
  refine lv_lstore (lv' := [(7, .long x23), (5, .long x11), (0, .ref (aP 0)), (1, .int p0), (2, .int p1), (3, .int p2), (4, .int p3)]) hx hb dX3_isBefore_23 hl (by decide) rfl (fun ls hl => ?_)
  refine lv_lload hx hb dX3_isBefore_25 (lv_at hl 1 rfl) ?_
  refine lv_lload hx hb dX3_isBefore_27 (lv_at hl 0 rfl) ?_
  refine W.lcmp hx hb dX3_isBefore_29 ?_
  refine lv_if_eq (tgt := 47) hx hb dX3_isBefore_30 (by decide) (fun cq => ?_) (fun cq => ?_)
  · have h := h.1 ((lg_cmp_eq _ _).mp cq)
    refine lv_aload_n hx hb dX3_isBefore_47 rfl (lv_at hl 2 rfl) ?_
    refine va_get (D := D) (ci := 3) (v := .ref (aP 2)) (C := RX3) (T := TX3) (N := 5) hx hb hts hiX3 hown hK hP 0 rfl rfl 1 (by decide) f15 (fun _ h9 => h9) rfl dX3_isBefore_48 ?_
    refine lv_iload_n hx hb dX3_isBefore_51 rfl (lv_at hl 3 rfl) ?_
    obtain ⟨hin, h⟩ := h
    refine va_iald hx hb hK hP 2 0 rfl rfl hin dX3_isBefore_52 ?_
    refine lv_i2l hx hb dX3_isBefore_53 rfl ?_
    refine lv_iload hx hb dX3_isBefore_54 (lv_at hl 6 rfl) ?_
    refine lv_i2l hx hb dX3_isBefore_56 rfl ?_
    refine lv_lmul hx hb dX3_isBefore_57 ?_
    refine lv_iload_n hx hb dX3_isBefore_58 rfl (lv_at hl 5 rfl) ?_
    refine lv_i2l hx hb dX3_isBefore_59 rfl ?_
    refine lv_aload_n hx hb dX3_isBefore_60 rfl (lv_at hl 2 rfl) ?_
    refine va_get (D := D) (ci := 3) (v := .ref (aP 3)) (C := RX3) (T := TX3) (N := 5) hx hb hts hiX3 hown hK hP 0 rfl rfl 2 (by decide) f18 (fun _ h9 => h9) rfl dX3_isBefore_61 ?_
    refine lv_iload_n hx hb dX3_isBefore_64 rfl (lv_at hl 3 rfl) ?_
    obtain ⟨hin, h⟩ := h
    refine va_iald hx hb hK hP 3 0 rfl rfl hin dX3_isBefore_65 ?_
    refine lv_i2l hx hb dX3_isBefore_66 rfl ?_
    refine lv_lmul hx hb dX3_isBefore_67 ?_
    refine W.lcmp hx hb dX3_isBefore_68 ?_
    refine lv_if_ge (tgt := 76) hx hb dX3_isBefore_69 (by decide) (fun cq => ?_) (fun cq => ?_)
    · have h := h.1 ((lg_cmp_ge _ _).mp cq)
      refine lv_iconst (v := (0 : Int32)) hx hb dX3_isBefore_76 (by decide) ?_
      exact L77 (0 : Int32) _ h (lv_sub hl [] rfl)
    · have h := h.2 (fun q => cq ((lg_cmp_ge _ _).mpr q))
      refine lv_iconst (v := (1 : Int32)) hx hb dX3_isBefore_72 (by decide) ?_
      refine lv_goto (tgt := 77) hx hb dX3_isBefore_73 (by decide) ?_
      exact L77 (1 : Int32) _ h (lv_sub hl [] rfl)
  · have h := h.2 (fun q => cq ((lg_cmp_eq _ _).mpr q))
    refine lv_lload hx hb dX3_isBefore_33 (lv_at hl 1 rfl) ?_
    refine lv_lload hx hb dX3_isBefore_35 (lv_at hl 0 rfl) ?_
    refine W.lcmp hx hb dX3_isBefore_37 ?_
    refine lv_if_ge (tgt := 45) hx hb dX3_isBefore_38 (by decide) (fun cq => ?_) (fun cq => ?_)
    · have h := h.1 ((lg_cmp_ge _ _).mp cq)
      refine lv_iconst (v := (0 : Int32)) hx hb dX3_isBefore_45 (by decide) ?_
      exact L46 (0 : Int32) _ h (lv_sub hl [] rfl)
    · have h := h.2 (fun q => cq ((lg_cmp_ge _ _).mpr q))
      refine lv_iconst (v := (1 : Int32)) hx hb dX3_isBefore_41 (by decide) ?_
      refine lv_goto (tgt := 46) hx hb dX3_isBefore_42 (by decide) ?_
      exact L46 (1 : Int32) _ h (lv_sub hl [] rfl)
set_option maxHeartbeats 4000000 in
set_option maxRecDepth 100000 in
theorem m_X3_isSame (l : Launch) (D : va_G) (k : Nat → ClassId) (aP : Nat → Nat) (pX : Nat → Int32) (pY : Nat → Int32) (pD : Nat → Int32) (pO : Nat → Int32) (nP : Int32) (p0 : Int32) (p1 : Int32) (p2 : Int32) (p3 : Int32) (Q : Int32 → Prop) (h : wp_X3_isSame p0 p1 p2 p3 pX pY pD Q) : Met l yX3_isSame wsX3_isSame ({ frames := 0, cells := 0, slots := 0, locals := 0 }) (Pro D k [.ref (aP 0), .int p0, .int p1, .int p2, .int p3] (wP k aP pX pY pD pO nP)) (vp_Si Q) 0 0 (fun _ => False) := by
  refine Met.ofW (cc := cX3_isSame) (maxL := 5) (ret := (some .boolean)) (by decide) rfl ?_
  intro p e s m args below meth c s₁ B hml hv
  obtain ⟨hav, hP, hE⟩ := hv
  have hx := B.exec
  have hb := B.bytes
  have hr := B.returns
  have hts := atoms_spec (ws := wsX3_isSame) B.pre
  have hown : s.vm.findClass RX3 = some m.cls := findClass_of_methodNamed B.named
  have hlocks := B.notSynchronized
  have hK := hE.1
  have hl := lv_entry ([.ref (aP 0), .int p0, .int p1, .int p2, .int p3]) (n := 5) (Nat.le_of_ble_eq_true rfl)
  rw [show entryFrame m args 5 = entryFrame m ([.ref (aP 0), .int p0, .int p1, .int p2, .int p3] : List Value).toArray 5 by rw [hav]]
  rw [lg_entry_eq]
  refine W.gq (fun GQ hGQ => ?_)
  generalize (lg_sl ([.ref (aP 0), .int p0, .int p1, .int p2, .int p3]) ++ List.replicate (5 - (lg_sl ([.ref (aP 0), .int p0, .int p1, .int p2, .int p3])).length) Slot.unset).toArray = ls at hl ⊢
  have hl : lv_has ls 5 [(0, .ref (aP 0)), (1, .int p0), (2, .int p1), (3, .int p2), (4, .int p3)] := hl
  have hiX3 := (by decide +kernel : ∀ w ∈ wsX30, w ∈ wsX3_isSame)
  have f9 := hts (.fieldLink RX3 9 "PlaneOverlay$Points" "x" "[I") (by decide +kernel)
  have f15 := hts (.fieldLink RX3 15 "PlaneOverlay$Points" "y" "[I") (by decide +kernel)
  have f18 := hts (.fieldLink RX3 18 "PlaneOverlay$Points" "d" "[I") (by decide +kernel)
  have L36 : ∀ (z0 : Int32) (ls : Array Slot), wp_X3_isSame_L36 p0 p1 p2 p3 pX pY pD Q  z0 → lv_has ls 5 [] → W p l e (headSpec wsX3_isSame ({ frames := 0, cells := 0, slots := 0, locals := 0 })).room s m args below meth c s.heap [] 0 0 GQ (F0 m 36 ls [.int z0]) := by
    intro z0 ls h hl
    unfold wp_X3_isSame_L36 at h
    obtain ⟨hnr, h⟩ := h
    rw [hGQ]
    exact W.zret (v := z0) hx hb hr hnr (fun t ht hW => ⟨_, rfl, h, ht⟩) (fun _ h => by cases h) dX3_isSame_36
  have L35 : ∀  (ls : Array Slot), wp_X3_isSame_L35 p0 p1 p2 p3 pX pY pD Q   → lv_has ls 5 [] → W p l e (headSpec wsX3_isSame ({ frames := 0, cells := 0, slots := 0, locals := 0 })).room s m args below meth c s.heap [] 0 0 GQ (F0 m 35 ls []) := by
    intro  ls h hl
    unfold wp_X3_isSame_L35 at h
    refine lv_iconst (v := (0 : Int32)) hx hb dX3_isSame_35 (by decide) ?_
    exact L36 (0 : Int32) _ h (lv_sub hl [] rfl)
  unfold wp_X3_isSame at h
  refine lv_aload_n hx hb dX3_isSame_0 rfl (lv_at hl 0 rfl) ?_
  refine va_get (D := D) (ci := 3) (v := .ref (aP 1)) (C := RX3) (T := TX3) (N := 5) hx hb hts hiX3 hown hK hP 0 rfl rfl 0 (by decide) f9 (fun _ h9 => h9) rfl dX3_isSame_1 ?_
  refine lv_iload_n hx hb dX3_isSame_4 rfl (lv_at hl 1 rfl) ?_
  obtain ⟨hin, h⟩ := h
  refine va_iald hx hb hK hP 1 0 rfl rfl hin dX3_isSame_5 ?_
  refine lv_iload_n hx hb dX3_isSame_6 rfl (lv_at hl 2 rfl) ?_
  refine lv_icmp_ne (tgt := 35) hx hb dX3_isSame_7 (by decide) (fun cq => ?_) (fun cq => ?_)
  · have h := h.1 cq
    exact L35  _ h (lv_sub hl [] rfl)
  · have h := h.2 cq
    refine lv_aload_n hx hb dX3_isSame_10 rfl (lv_at hl 0 rfl) ?_
    refine va_get (D := D) (ci := 3) (v := .ref (aP 2)) (C := RX3) (T := TX3) (N := 5) hx hb hts hiX3 hown hK hP 0 rfl rfl 1 (by decide) f15 (fun _ h9 => h9) rfl dX3_isSame_11 ?_
    refine lv_iload_n hx hb dX3_isSame_14 rfl (lv_at hl 1 rfl) ?_
    obtain ⟨hin, h⟩ := h
    refine va_iald hx hb hK hP 2 0 rfl rfl hin dX3_isSame_15 ?_
    refine lv_iload_n hx hb dX3_isSame_16 rfl (lv_at hl 3 rfl) ?_
    refine lv_icmp_ne (tgt := 35) hx hb dX3_isSame_17 (by decide) (fun cq => ?_) (fun cq => ?_)
    · have h := h.1 cq
      exact L35  _ h (lv_sub hl [] rfl)
    · have h := h.2 cq
      refine lv_aload_n hx hb dX3_isSame_20 rfl (lv_at hl 0 rfl) ?_
      refine va_get (D := D) (ci := 3) (v := .ref (aP 3)) (C := RX3) (T := TX3) (N := 5) hx hb hts hiX3 hown hK hP 0 rfl rfl 2 (by decide) f18 (fun _ h9 => h9) rfl dX3_isSame_21 ?_
      refine lv_iload_n hx hb dX3_isSame_24 rfl (lv_at hl 1 rfl) ?_
      obtain ⟨hin, h⟩ := h
      refine va_iald hx hb hK hP 3 0 rfl rfl hin dX3_isSame_25 ?_
      refine lv_iload hx hb dX3_isSame_26 (lv_at hl 4 rfl) ?_
      refine lv_icmp_ne (tgt := 35) hx hb dX3_isSame_28 (by decide) (fun cq => ?_) (fun cq => ?_)
      · have h := h.1 cq
        exact L35  _ h (lv_sub hl [] rfl)
      · have h := h.2 cq
        refine lv_iconst (v := (1 : Int32)) hx hb dX3_isSame_31 (by decide) ?_
        refine lv_goto (tgt := 36) hx hb dX3_isSame_32 (by decide) ?_
        exact L36 (1 : Int32) _ h (lv_sub hl [] rfl)
set_option maxHeartbeats 4000000 in
set_option maxRecDepth 100000 in
theorem m_X3_insert (l : Launch) (D : va_G) (k : Nat → ClassId) (aP : Nat → Nat) (pX : Nat → Int32) (pY : Nat → Int32) (pD : Nat → Int32) (pO : Nat → Int32) (nP : Int32) (p0 : Int32) (p1 : Int32) (p2 : Int32) (Q : (Nat → Int32) → (Nat → Int32) → (Nat → Int32) → (Int32) → Prop) (sz : Nat) (h : wp_X3_insert p0 p1 p2 pX pY pD nP Q) : Met l yX3_insert wsX3_insert ({ frames := 1, cells := 0, slots := 0, locals := 28 }) (Prw D k [.ref (aP 0), .int p0, .int p1, .int p2] (wP k aP pX pY pD pO nP) sz) (va_Qv (fun (u : (Nat → Int32) × (Nat → Int32) × (Nat → Int32) × (Int32)) => Q u.1 u.2.1 u.2.2.1 u.2.2.2) (fun (u : (Nat → Int32) × (Nat → Int32) × (Nat → Int32) × (Int32)) t => va_P D vwCl (wP k aP (u.1) (u.2.1) (u.2.2.1) pO (u.2.2.2)) t.heap ∧ va_D (va_A (wP k aP pX pY pD pO nP) sz) (wP k aP (u.1) (u.2.1) (u.2.2.1) pO (u.2.2.2))) (va_A (wP k aP pX pY pD pO nP) sz)) 0 0 (va_A (wP k aP pX pY pD pO nP) sz) := by
  refine Met.ofW (cc := cX3_insert) (maxL := 6) (ret := none) (by decide) rfl ?_
  intro p e s m args below meth c s₁ B hml hv
  obtain ⟨hav, hsz, hP, hE, hD0⟩ := hv
  subst hsz
  have hx := B.exec
  have hb := B.bytes
  have hr := B.returns
  have hts := atoms_spec (ws := wsX3_insert) B.pre
  have hown : s.vm.findClass RX3 = some m.cls := findClass_of_methodNamed B.named
  have hlocks := B.notSynchronized
  have hK := hE.1
  have hD := hD0.self (sz := s.heap.size)
  generalize hAe : va_A (wP k aP pX pY pD pO nP) s.heap.size = A at hD ⊢
  have hA : ∀ q : Nat, s.heap.size ≤ q → A q := fun q h => by rw [← hAe]; exact Or.inr h
  have hS : va_S A s.heap s.heap [] := va_S.rf
  have hl := lv_entry ([.ref (aP 0), .int p0, .int p1, .int p2]) (n := 6) (Nat.le_of_ble_eq_true rfl)
  rw [show entryFrame m args 6 = entryFrame m ([.ref (aP 0), .int p0, .int p1, .int p2] : List Value).toArray 6 by rw [hav]]
  rw [lg_entry_eq]
  refine W.gq (fun GQ hGQ => ?_)
  generalize (lg_sl ([.ref (aP 0), .int p0, .int p1, .int p2]) ++ List.replicate (6 - (lg_sl ([.ref (aP 0), .int p0, .int p1, .int p2])).length) Slot.unset).toArray = ls at hl ⊢
  have hl : lv_has ls 6 [(0, .ref (aP 0)), (1, .int p0), (2, .int p1), (3, .int p2)] := hl
  have hiX3 := (by decide +kernel : ∀ w ∈ wsX30, w ∈ wsX3_insert)
  have f9 := hts (.fieldLink RX3 9 "PlaneOverlay$Points" "x" "[I") (by decide +kernel)
  have f15 := hts (.fieldLink RX3 15 "PlaneOverlay$Points" "y" "[I") (by decide +kernel)
  have f18 := hts (.fieldLink RX3 18 "PlaneOverlay$Points" "d" "[I") (by decide +kernel)
  have f24 := hts (.fieldLink RX3 24 "PlaneOverlay$Points" "count" "I") (by decide +kernel)
  have L60 : ∀ (pX : Nat → Int32) (pY : Nat → Int32) (pD : Nat → Int32) (nP : Int32) (H : Heap) (locs : List Loc) (ls : Array Slot), wp_X3_insert_L60 p0 p1 p2 Q  pX pY pD nP → va_P D vwCl (wP k aP pX pY pD pO nP) H → va_D A (wP k aP pX pY pD pO nP) → va_S A s.heap H locs → lv_has ls 6 [] → W p l e (headSpec wsX3_insert ({ frames := 1, cells := 0, slots := 0, locals := 28 })).room s m args below meth c H locs 0 0 GQ (F0 m 60 ls []) := by
    intro pX pY pD nP H locs ls h hP hD hS hl
    unfold wp_X3_insert_L60 at h
    rw [hGQ]
    exact W.vret hx hb hr (fun t ht hW => ⟨⟨(pX, pY, pD, nP), rfl, h, by rw [ht]; exact hP, hD⟩, hS.F ht⟩) hS.2.2 dX3_insert_60
  have L67 : ∀ (n67 : Nat) (v4 : Int32) (v5 : Int32) (pX : Nat → Int32) (pY : Nat → Int32) (pD : Nat → Int32) (nP : Int32) (H : Heap) (locs : List Loc) (ls : Array Slot), wp_X3_insert_L67 p0 p1 p2 Q  n67 v4 v5 pX pY pD nP → va_P D vwCl (wP k aP pX pY pD pO nP) H → va_D A (wP k aP pX pY pD pO nP) → va_S A s.heap H locs → lv_has ls 6 [(0, .ref (aP 0)), (1, .int p0), (2, .int p1), (3, .int p2), (4, .int v4), (5, .int v5)] → W p l e (headSpec wsX3_insert ({ frames := 1, cells := 0, slots := 0, locals := 28 })).room s m args below meth c H locs 0 0 GQ (F0 m 67 ls []) := by
    intro n67
    induction n67 with
    | zero => intro v4 v5 pX pY pD nP H locs ls h hP hD hS hl; exact False.elim h
    | succ n67 ih67 =>
      intro v4 v5 pX pY pD nP H locs ls h hP hD hS hl
      rw [wp_X3_insert_L67] at h
      refine lv_iload hx hb dX3_insert_67 (lv_at hl 5 rfl) ?_
      refine lv_iload hx hb dX3_insert_69 (lv_at hl 4 rfl) ?_
      refine lv_icmp_le (tgt := 128) hx hb dX3_insert_71 (by decide) (fun cq => ?_) (fun cq => ?_)
      · have h := h.1 cq
        refine lv_aload_n hx hb dX3_insert_128 rfl (lv_at hl 0 rfl) ?_
        refine va_get (D := D) (ci := 3) (v := .ref (aP 1)) (C := RX3) (T := TX3) (N := 5) hx hb hts hiX3 hown hK hP 0 rfl rfl 0 (by decide) f9 (fun _ h9 => h9) rfl dX3_insert_129 ?_
        refine lv_iload hx hb dX3_insert_132 (lv_at hl 4 rfl) ?_
        refine lv_iload_n hx hb dX3_insert_134 rfl (lv_at hl 1 rfl) ?_
        obtain ⟨hin, h⟩ := h
        obtain ⟨y135, ey135⟩ : ∃ z : Nat → Int32, z = upd pX v4.toNatClampNeg p0 := ⟨_, rfl⟩
        have h := h y135 ey135
        refine va_iast hx hb hK hP hD hS 1 0 rfl rfl hin dX3_insert_135 (fun H locs hP hD hS => ?_)
        rw [← ey135] at hP hD
        have hP : va_P D vwCl (wP k aP y135 pY pD pO nP) H := hP
        have hD : va_D A (wP k aP y135 pY pD pO nP) := hD
        refine lv_aload_n hx hb dX3_insert_136 rfl (lv_at hl 0 rfl) ?_
        refine va_get (D := D) (ci := 3) (v := .ref (aP 2)) (C := RX3) (T := TX3) (N := 5) hx hb hts hiX3 hown hK hP 0 rfl rfl 1 (by decide) f15 (fun _ h9 => h9) rfl dX3_insert_137 ?_
        refine lv_iload hx hb dX3_insert_140 (lv_at hl 4 rfl) ?_
        refine lv_iload_n hx hb dX3_insert_142 rfl (lv_at hl 2 rfl) ?_
        obtain ⟨hin, h⟩ := h
        obtain ⟨y143, ey143⟩ : ∃ z : Nat → Int32, z = upd pY v4.toNatClampNeg p1 := ⟨_, rfl⟩
        have h := h y143 ey143
        refine va_iast hx hb hK hP hD hS 2 0 rfl rfl hin dX3_insert_143 (fun H locs hP hD hS => ?_)
        rw [← ey143] at hP hD
        have hP : va_P D vwCl (wP k aP y135 y143 pD pO nP) H := hP
        have hD : va_D A (wP k aP y135 y143 pD pO nP) := hD
        refine lv_aload_n hx hb dX3_insert_144 rfl (lv_at hl 0 rfl) ?_
        refine va_get (D := D) (ci := 3) (v := .ref (aP 3)) (C := RX3) (T := TX3) (N := 5) hx hb hts hiX3 hown hK hP 0 rfl rfl 2 (by decide) f18 (fun _ h9 => h9) rfl dX3_insert_145 ?_
        refine lv_iload hx hb dX3_insert_148 (lv_at hl 4 rfl) ?_
        refine lv_iload_n hx hb dX3_insert_150 rfl (lv_at hl 3 rfl) ?_
        obtain ⟨hin, h⟩ := h
        obtain ⟨y151, ey151⟩ : ∃ z : Nat → Int32, z = upd pD v4.toNatClampNeg p2 := ⟨_, rfl⟩
        have h := h y151 ey151
        refine va_iast hx hb hK hP hD hS 3 0 rfl rfl hin dX3_insert_151 (fun H locs hP hD hS => ?_)
        rw [← ey151] at hP hD
        have hP : va_P D vwCl (wP k aP y135 y143 y151 pO nP) H := hP
        have hD : va_D A (wP k aP y135 y143 y151 pO nP) := hD
        refine lv_aload_n hx hb dX3_insert_152 rfl (lv_at hl 0 rfl) ?_
        refine lv_dup hx hb dX3_insert_153 rfl ?_
        refine va_get (D := D) (ci := 3) (v := .int nP) (C := RX3) (T := TX3) (N := 5) hx hb hts hiX3 hown hK hP 0 rfl rfl 4 (by decide) f24 (fun _ h9 => h9) rfl dX3_insert_154 ?_
        refine lv_iconst (v := (1 : Int32)) hx hb dX3_insert_157 (by decide) ?_
        refine lv_iadd hx hb dX3_insert_158 ?_
        refine lv_topi (fun x159 ex159 => ?_)
        have h := h x159 ex159
        refine va_put (D := D) (ci := 3) (v := .int x159) (ty := .int) (C := RX3) (T := TX3) (N := 5) hx hb hts hiX3 tyX3 tyX3_ok nmX3 hown hK hP hD hS 0 rfl rfl 4 (by decide) f24 (fun _ h9 => h9) rfl (by decide +kernel) rfl rfl (Nat.le_of_ble_eq_true rfl) dX3_insert_159 (fun H locs hP hD hS => ?_)
        have hP : va_P D vwCl (wP k aP y135 y143 y151 pO x159) H := hP
        have hD : va_D A (wP k aP y135 y143 y151 pO x159) := hD
        rw [hGQ]
        exact W.vret hx hb hr (fun t ht hW => ⟨⟨(y135, y143, y151, x159), rfl, h, by rw [ht]; exact hP, hD⟩, hS.F ht⟩) hS.2.2 dX3_insert_162
      · have h := h.2 cq
        refine lv_aload_n hx hb dX3_insert_74 rfl (lv_at hl 0 rfl) ?_
        refine va_get (D := D) (ci := 3) (v := .ref (aP 1)) (C := RX3) (T := TX3) (N := 5) hx hb hts hiX3 hown hK hP 0 rfl rfl 0 (by decide) f9 (fun _ h9 => h9) rfl dX3_insert_75 ?_
        refine lv_iload hx hb dX3_insert_78 (lv_at hl 5 rfl) ?_
        refine lv_aload_n hx hb dX3_insert_80 rfl (lv_at hl 0 rfl) ?_
        refine va_get (D := D) (ci := 3) (v := .ref (aP 1)) (C := RX3) (T := TX3) (N := 5) hx hb hts hiX3 hown hK hP 0 rfl rfl 0 (by decide) f9 (fun _ h9 => h9) rfl dX3_insert_81 ?_
        refine lv_iload hx hb dX3_insert_84 (lv_at hl 5 rfl) ?_
        refine lv_iconst (v := (1 : Int32)) hx hb dX3_insert_86 (by decide) ?_
        refine lv_isub hx hb dX3_insert_87 ?_
        obtain ⟨hin, h⟩ := h
        refine va_iald hx hb hK hP 1 0 rfl rfl hin dX3_insert_88 ?_
        obtain ⟨hin, h⟩ := h
        obtain ⟨y89, ey89⟩ : ∃ z : Nat → Int32, z = upd pX v5.toNatClampNeg (pX (v5 - (1 : Int32)).toNatClampNeg) := ⟨_, rfl⟩
        have h := h y89 ey89
        refine va_iast hx hb hK hP hD hS 1 0 rfl rfl hin dX3_insert_89 (fun H locs hP hD hS => ?_)
        rw [← ey89] at hP hD
        have hP : va_P D vwCl (wP k aP y89 pY pD pO nP) H := hP
        have hD : va_D A (wP k aP y89 pY pD pO nP) := hD
        refine lv_aload_n hx hb dX3_insert_90 rfl (lv_at hl 0 rfl) ?_
        refine va_get (D := D) (ci := 3) (v := .ref (aP 2)) (C := RX3) (T := TX3) (N := 5) hx hb hts hiX3 hown hK hP 0 rfl rfl 1 (by decide) f15 (fun _ h9 => h9) rfl dX3_insert_91 ?_
        refine lv_iload hx hb dX3_insert_94 (lv_at hl 5 rfl) ?_
        refine lv_aload_n hx hb dX3_insert_96 rfl (lv_at hl 0 rfl) ?_
        refine va_get (D := D) (ci := 3) (v := .ref (aP 2)) (C := RX3) (T := TX3) (N := 5) hx hb hts hiX3 hown hK hP 0 rfl rfl 1 (by decide) f15 (fun _ h9 => h9) rfl dX3_insert_97 ?_
        refine lv_iload hx hb dX3_insert_100 (lv_at hl 5 rfl) ?_
        refine lv_iconst (v := (1 : Int32)) hx hb dX3_insert_102 (by decide) ?_
        refine lv_isub hx hb dX3_insert_103 ?_
        obtain ⟨hin, h⟩ := h
        refine va_iald hx hb hK hP 2 0 rfl rfl hin dX3_insert_104 ?_
        obtain ⟨hin, h⟩ := h
        obtain ⟨y105, ey105⟩ : ∃ z : Nat → Int32, z = upd pY v5.toNatClampNeg (pY (v5 - (1 : Int32)).toNatClampNeg) := ⟨_, rfl⟩
        have h := h y105 ey105
        refine va_iast hx hb hK hP hD hS 2 0 rfl rfl hin dX3_insert_105 (fun H locs hP hD hS => ?_)
        rw [← ey105] at hP hD
        have hP : va_P D vwCl (wP k aP y89 y105 pD pO nP) H := hP
        have hD : va_D A (wP k aP y89 y105 pD pO nP) := hD
        refine lv_aload_n hx hb dX3_insert_106 rfl (lv_at hl 0 rfl) ?_
        refine va_get (D := D) (ci := 3) (v := .ref (aP 3)) (C := RX3) (T := TX3) (N := 5) hx hb hts hiX3 hown hK hP 0 rfl rfl 2 (by decide) f18 (fun _ h9 => h9) rfl dX3_insert_107 ?_
        refine lv_iload hx hb dX3_insert_110 (lv_at hl 5 rfl) ?_
        refine lv_aload_n hx hb dX3_insert_112 rfl (lv_at hl 0 rfl) ?_
        refine va_get (D := D) (ci := 3) (v := .ref (aP 3)) (C := RX3) (T := TX3) (N := 5) hx hb hts hiX3 hown hK hP 0 rfl rfl 2 (by decide) f18 (fun _ h9 => h9) rfl dX3_insert_113 ?_
        refine lv_iload hx hb dX3_insert_116 (lv_at hl 5 rfl) ?_
        refine lv_iconst (v := (1 : Int32)) hx hb dX3_insert_118 (by decide) ?_
        refine lv_isub hx hb dX3_insert_119 ?_
        obtain ⟨hin, h⟩ := h
        refine va_iald hx hb hK hP 3 0 rfl rfl hin dX3_insert_120 ?_
        obtain ⟨hin, h⟩ := h
        obtain ⟨y121, ey121⟩ : ∃ z : Nat → Int32, z = upd pD v5.toNatClampNeg (pD (v5 - (1 : Int32)).toNatClampNeg) := ⟨_, rfl⟩
        have h := h y121 ey121
        refine va_iast hx hb hK hP hD hS 3 0 rfl rfl hin dX3_insert_121 (fun H locs hP hD hS => ?_)
        rw [← ey121] at hP hD
        have hP : va_P D vwCl (wP k aP y89 y105 y121 pO nP) H := hP
        have hD : va_D A (wP k aP y89 y105 y121 pO nP) := hD
        refine lv_iinc (v := (v5 + (-1))) (lv' := [(5, .int (v5 + (-1))), (0, .ref (aP 0)), (1, .int p0), (2, .int p1), (3, .int p2), (4, .int v4)]) hx hb dX3_insert_122 hl (k := 5) rfl (by rw [show Int32.ofInt (-1) = -1 by decide]) (by decide) rfl (fun ls hl => ?_)
        refine lv_goto (tgt := 67) hx hb dX3_insert_125 (by decide) ?_
        exact ih67 v4 (v5 + (-1)) y89 y105 y121 nP _ _ _ h hP hD hS (lv_sub hl [1, 2, 3, 4, 5, 0] rfl)
  have L61 : ∀ (v4 : Int32) (pX : Nat → Int32) (pY : Nat → Int32) (pD : Nat → Int32) (nP : Int32) (H : Heap) (locs : List Loc) (ls : Array Slot), wp_X3_insert_L61 p0 p1 p2 Q  v4 pX pY pD nP → va_P D vwCl (wP k aP pX pY pD pO nP) H → va_D A (wP k aP pX pY pD pO nP) → va_S A s.heap H locs → lv_has ls 6 [(0, .ref (aP 0)), (1, .int p0), (2, .int p1), (3, .int p2), (4, .int v4)] → W p l e (headSpec wsX3_insert ({ frames := 1, cells := 0, slots := 0, locals := 28 })).room s m args below meth c H locs 0 0 GQ (F0 m 61 ls []) := by
    intro v4 pX pY pD nP H locs ls h hP hD hS hl
    unfold wp_X3_insert_L61 at h
    refine lv_aload_n hx hb dX3_insert_61 rfl (lv_at hl 0 rfl) ?_
    refine va_get (D := D) (ci := 3) (v := .int nP) (C := RX3) (T := TX3) (N := 5) hx hb hts hiX3 hown hK hP 0 rfl rfl 4 (by decide) f24 (fun _ h9 => h9) rfl dX3_insert_62 ?_
    refine lv_istore (lv' := [(5, .int nP), (0, .ref (aP 0)), (1, .int p0), (2, .int p1), (3, .int p2), (4, .int v4)]) hx hb dX3_insert_65 hl (by decide) rfl (fun ls hl => ?_)
    obtain ⟨n9, h⟩ := h
    exact L67 n9 v4 nP pX pY pD nP _ _ _ h hP hD hS (lv_sub hl [1, 2, 3, 4, 5, 0] rfl)
  have L30 : ∀ (v4 : Int32) (pX : Nat → Int32) (pY : Nat → Int32) (pD : Nat → Int32) (nP : Int32) (H : Heap) (locs : List Loc) (ls : Array Slot), wp_X3_insert_L30 p0 p1 p2 Q  v4 pX pY pD nP → va_P D vwCl (wP k aP pX pY pD pO nP) H → va_D A (wP k aP pX pY pD pO nP) → va_S A s.heap H locs → lv_has ls 6 [(0, .ref (aP 0)), (1, .int p0), (2, .int p1), (3, .int p2), (4, .int v4)] → W p l e (headSpec wsX3_insert ({ frames := 1, cells := 0, slots := 0, locals := 28 })).room s m args below meth c H locs 0 0 GQ (F0 m 30 ls []) := by
    intro v4 pX pY pD nP H locs ls h hP hD hS hl
    unfold wp_X3_insert_L30 at h
    refine lv_aload_n hx hb dX3_insert_30 rfl (lv_at hl 0 rfl) ?_
    refine va_get (D := D) (ci := 3) (v := .int nP) (C := RX3) (T := TX3) (N := 5) hx hb hts hiX3 hown hK hP 0 rfl rfl 4 (by decide) f24 (fun _ h9 => h9) rfl dX3_insert_31 ?_
    refine lv_bipush (v := (78 : Int32)) hx hb dX3_insert_34 (by decide) ?_
    refine lv_icmp_ge (tgt := 60) hx hb dX3_insert_36 (by decide) (fun cq => ?_) (fun cq => ?_)
    · have h := h.1 cq
      exact L60 pX pY pD nP _ _ _ h hP hD hS (lv_sub hl [] rfl)
    · have h := h.2 cq
      refine lv_iload hx hb dX3_insert_39 (lv_at hl 4 rfl) ?_
      refine lv_aload_n hx hb dX3_insert_41 rfl (lv_at hl 0 rfl) ?_
      refine va_get (D := D) (ci := 3) (v := .int nP) (C := RX3) (T := TX3) (N := 5) hx hb hts hiX3 hown hK hP 0 rfl rfl 4 (by decide) f24 (fun _ h9 => h9) rfl dX3_insert_42 ?_
      refine lv_icmp_ge (tgt := 61) hx hb dX3_insert_45 (by decide) (fun cq => ?_) (fun cq => ?_)
      · have h := h.1 cq
        exact L61 v4 pX pY pD nP _ _ _ h hP hD hS (lv_sub hl [0, 1, 2, 3, 4] rfl)
      · have h := h.2 cq
        refine lv_aload_n hx hb dX3_insert_48 rfl (lv_at hl 0 rfl) ?_
        refine lv_iload hx hb dX3_insert_49 (lv_at hl 4 rfl) ?_
        refine lv_iload_n hx hb dX3_insert_51 rfl (lv_at hl 1 rfl) ?_
        refine lv_iload_n hx hb dX3_insert_52 rfl (lv_at hl 2 rfl) ?_
        refine lv_iload_n hx hb dX3_insert_53 rfl (lv_at hl 3 rfl) ?_
        refine vp_callSi (W.runV (C := RX3) (b := (aP 0)) (As := [.int v4, .int p0, .int p1, .int p2]) (rest := []) ⟨hx, hb, hml, hown, hts⟩ (m_X3_isSame l D k aP pX pY pD pO nP v4 p0 p1 p2 _ h) (cwV 4 hts gX3_insert_X3_isSame rfl rfl rfl (by decide +kernel) ⟨Nat.le_of_ble_eq_true rfl, Nat.le_of_ble_eq_true rfl⟩) (preV_ro (ci := 3) (q0 := 0) (C := RX3) (T := TX3) (N := 5) hE hP rfl rfl) rfl rfl hl.1 rfl (lv_room (Nat.le_of_ble_eq_true rfl)) dX3_insert_54 ⟨Nat.le_of_ble_eq_true rfl, Nat.le_of_ble_eq_true rfl⟩) (fun r54 h => ?_)
        refine lv_if_eq (tgt := 61) hx hb dX3_insert_57 (by decide) (fun cq => ?_) (fun cq => ?_)
        · have h := h.1 cq
          exact L61 v4 pX pY pD nP _ _ _ h hP hD hS (lv_sub hl [0, 1, 2, 3, 4] rfl)
        · have h := h.2 cq
          exact L60 pX pY pD nP _ _ _ h hP hD hS (lv_sub hl [] rfl)
  have L3 : ∀ (n3 : Nat) (v4 : Int32) (pX : Nat → Int32) (pY : Nat → Int32) (pD : Nat → Int32) (nP : Int32) (H : Heap) (locs : List Loc) (ls : Array Slot), wp_X3_insert_L3 p0 p1 p2 Q (fun v4 pX pY pD nP => (wp_X3_insert_L30 p0 p1 p2 Q  v4 pX pY pD nP)) n3 v4 pX pY pD nP → va_P D vwCl (wP k aP pX pY pD pO nP) H → va_D A (wP k aP pX pY pD pO nP) → va_S A s.heap H locs → lv_has ls 6 [(0, .ref (aP 0)), (1, .int p0), (2, .int p1), (3, .int p2), (4, .int v4)] → W p l e (headSpec wsX3_insert ({ frames := 1, cells := 0, slots := 0, locals := 28 })).room s m args below meth c H locs 0 0 GQ (F0 m 3 ls []) := by
    intro n3
    induction n3 with
    | zero => intro v4 pX pY pD nP H locs ls h hP hD hS hl; exact False.elim h
    | succ n3 ih3 =>
      intro v4 pX pY pD nP H locs ls h hP hD hS hl
      rw [wp_X3_insert_L3] at h
      refine lv_iload hx hb dX3_insert_3 (lv_at hl 4 rfl) ?_
      refine lv_aload_n hx hb dX3_insert_5 rfl (lv_at hl 0 rfl) ?_
      refine va_get (D := D) (ci := 3) (v := .int nP) (C := RX3) (T := TX3) (N := 5) hx hb hts hiX3 hown hK hP 0 rfl rfl 4 (by decide) f24 (fun _ h9 => h9) rfl dX3_insert_6 ?_
      refine lv_icmp_ge (tgt := 30) hx hb dX3_insert_9 (by decide) (fun cq => ?_) (fun cq => ?_)
      · have h := h.1 cq
        exact L30 v4 pX pY pD nP _ _ _ h hP hD hS (lv_sub hl [0, 1, 2, 3, 4] rfl)
      · have h := h.2 cq
        refine lv_aload_n hx hb dX3_insert_12 rfl (lv_at hl 0 rfl) ?_
        refine lv_iload hx hb dX3_insert_13 (lv_at hl 4 rfl) ?_
        refine lv_iload_n hx hb dX3_insert_15 rfl (lv_at hl 1 rfl) ?_
        refine lv_iload_n hx hb dX3_insert_16 rfl (lv_at hl 2 rfl) ?_
        refine lv_iload_n hx hb dX3_insert_17 rfl (lv_at hl 3 rfl) ?_
        refine vp_callSi (W.runV (C := RX3) (b := (aP 0)) (As := [.int v4, .int p0, .int p1, .int p2]) (rest := []) ⟨hx, hb, hml, hown, hts⟩ (m_X3_isBefore l D k aP pX pY pD pO nP v4 p0 p1 p2 _ h) (cwV 4 hts gX3_insert_X3_isBefore rfl rfl rfl (by decide +kernel) ⟨Nat.le_of_ble_eq_true rfl, Nat.le_of_ble_eq_true rfl⟩) (preV_ro (ci := 3) (q0 := 0) (C := RX3) (T := TX3) (N := 5) hE hP rfl rfl) rfl rfl hl.1 rfl (lv_room (Nat.le_of_ble_eq_true rfl)) dX3_insert_18 ⟨Nat.le_of_ble_eq_true rfl, Nat.le_of_ble_eq_true rfl⟩) (fun r18 h => ?_)
        refine lv_if_eq (tgt := 30) hx hb dX3_insert_21 (by decide) (fun cq => ?_) (fun cq => ?_)
        · have h := h.1 cq
          exact L30 v4 pX pY pD nP _ _ _ h hP hD hS (lv_sub hl [0, 1, 2, 3, 4] rfl)
        · have h := h.2 cq
          refine lv_iinc (v := (v4 + 1)) (lv' := [(4, .int (v4 + 1)), (0, .ref (aP 0)), (1, .int p0), (2, .int p1), (3, .int p2)]) hx hb dX3_insert_24 hl (k := 4) rfl rfl (by decide) rfl (fun ls hl => ?_)
          refine lv_goto (tgt := 3) hx hb dX3_insert_27 (by decide) ?_
          exact ih3 (v4 + 1) pX pY pD nP _ _ _ h hP hD hS (lv_sub hl [1, 2, 3, 4, 0] rfl)
  unfold wp_X3_insert at h
  refine lv_iconst (v := (0 : Int32)) hx hb dX3_insert_0 (by decide) ?_
  refine lv_istore (lv' := [(4, .int (0 : Int32)), (0, .ref (aP 0)), (1, .int p0), (2, .int p1), (3, .int p2)]) hx hb dX3_insert_1 hl (by decide) rfl (fun ls hl => ?_)
  obtain ⟨n9, h⟩ := h
  exact L3 n9 (0 : Int32) pX pY pD nP _ _ _ h hP hD hS (lv_sub hl [1, 2, 3, 4, 0] rfl)
set_option maxHeartbeats 4000000 in
set_option maxRecDepth 100000 in
theorem m_X3_cross (l : Launch) (D : va_G) (k : Nat → ClassId)   (p0 : Int32) (p1 : Int32) (p2 : Int32) (p3 : Int32) (Q : Int32 → Prop) (h : wp_X3_cross p0 p1 p2 p3 Q) : Met l yX3_cross wsX3_cross ({ frames := 0, cells := 0, slots := 0, locals := 0 }) (Pro D k [.int p0, .int p1, .int p2, .int p3] (([] : va_W))) (vp_Si Q) 0 0 (fun _ => False) := by
  refine Met.ofW (cc := cX3_cross) (maxL := 4) (ret := (some .int)) (by decide) rfl ?_
  intro p e s m args below meth c s₁ B hml hv
  obtain ⟨hav, hP, hE⟩ := hv
  have hx := B.exec
  have hb := B.bytes
  have hr := B.returns
  have hts := atoms_spec (ws := wsX3_cross) B.pre
  have hown : s.vm.findClass RX3 = some m.cls := findClass_of_methodNamed B.named
  have hlocks := B.notSynchronized
  have hK := hE.1
  have hl := lv_entry ([.int p0, .int p1, .int p2, .int p3]) (n := 4) (Nat.le_of_ble_eq_true rfl)
  rw [show entryFrame m args 4 = entryFrame m ([.int p0, .int p1, .int p2, .int p3] : List Value).toArray 4 by rw [hav]]
  rw [lg_entry_eq]
  refine W.gq (fun GQ hGQ => ?_)
  generalize (lg_sl ([.int p0, .int p1, .int p2, .int p3]) ++ List.replicate (4 - (lg_sl ([.int p0, .int p1, .int p2, .int p3])).length) Slot.unset).toArray = ls at hl ⊢
  have hl : lv_has ls 4 [(0, .int p0), (1, .int p1), (2, .int p2), (3, .int p3)] := hl
  unfold wp_X3_cross at h
  refine lv_iload_n hx hb dX3_cross_0 rfl (lv_at hl 0 rfl) ?_
  refine lv_iload_n hx hb dX3_cross_1 rfl (lv_at hl 3 rfl) ?_
  refine lv_imul hx hb dX3_cross_2 ?_
  refine lv_iload_n hx hb dX3_cross_3 rfl (lv_at hl 2 rfl) ?_
  refine lv_iload_n hx hb dX3_cross_4 rfl (lv_at hl 1 rfl) ?_
  refine lv_imul hx hb dX3_cross_5 ?_
  refine lv_isub hx hb dX3_cross_6 ?_
  rw [hGQ]
  exact W.iret (v := ((p0 * p3) - (p2 * p1))) hx hb hr (fun t ht hW => ⟨_, rfl, h, ht⟩) (fun _ h => by cases h) dX3_cross_7
set_option maxHeartbeats 4000000 in
set_option maxRecDepth 100000 in
theorem m_X3_greatestDivisor (l : Launch) (D : va_G) (k : Nat → ClassId)   (p0 : Int32) (p1 : Int32) (Q : Int32 → Prop) (h : wp_X3_greatestDivisor p0 p1 Q) : Met l yX3_greatestDivisor wsX3_greatestDivisor ({ frames := 0, cells := 0, slots := 0, locals := 0 }) (Pro D k [.int p0, .int p1] (([] : va_W))) (vp_Si Q) 0 0 (fun _ => False) := by
  refine Met.ofW (cc := cX3_greatestDivisor) (maxL := 6) (ret := (some .int)) (by decide) rfl ?_
  intro p e s m args below meth c s₁ B hml hv
  obtain ⟨hav, hP, hE⟩ := hv
  have hx := B.exec
  have hb := B.bytes
  have hr := B.returns
  have hts := atoms_spec (ws := wsX3_greatestDivisor) B.pre
  have hown : s.vm.findClass RX3 = some m.cls := findClass_of_methodNamed B.named
  have hlocks := B.notSynchronized
  have hK := hE.1
  have hl := lv_entry ([.int p0, .int p1]) (n := 6) (Nat.le_of_ble_eq_true rfl)
  rw [show entryFrame m args 6 = entryFrame m ([.int p0, .int p1] : List Value).toArray 6 by rw [hav]]
  rw [lg_entry_eq]
  refine W.gq (fun GQ hGQ => ?_)
  generalize (lg_sl ([.int p0, .int p1]) ++ List.replicate (6 - (lg_sl ([.int p0, .int p1])).length) Slot.unset).toArray = ls at hl ⊢
  have hl : lv_has ls 6 [(0, .int p0), (1, .int p1)] := hl
  have L34 : ∀ (v2 : Int32) (ls : Array Slot), wp_X3_greatestDivisor_L34 p0 p1 Q  v2 → lv_has ls 6 [(2, .int v2)] → W p l e (headSpec wsX3_greatestDivisor ({ frames := 0, cells := 0, slots := 0, locals := 0 })).room s m args below meth c s.heap [] 0 0 GQ (F0 m 34 ls []) := by
    intro v2 ls h hl
    unfold wp_X3_greatestDivisor_L34 at h
    refine lv_iload_n hx hb dX3_greatestDivisor_34 rfl (lv_at hl 0 rfl) ?_
    rw [hGQ]
    exact W.iret (v := v2) hx hb hr (fun t ht hW => ⟨_, rfl, h, ht⟩) (fun _ h => by cases h) dX3_greatestDivisor_35
  have L7 : ∀ (n7 : Nat) (v2 : Int32) (v3 : Int32) (v4 : Int32) (ls : Array Slot), wp_X3_greatestDivisor_L7 p0 p1 Q (fun v2 => (wp_X3_greatestDivisor_L34 p0 p1 Q  v2)) n7 v2 v3 v4 → lv_has ls 6 [(2, .int v2), (3, .int v3), (4, .int v4)] → W p l e (headSpec wsX3_greatestDivisor ({ frames := 0, cells := 0, slots := 0, locals := 0 })).room s m args below meth c s.heap [] 0 0 GQ (F0 m 7 ls []) := by
    intro n7
    induction n7 with
    | zero => intro v2 v3 v4 ls h hl; exact False.elim h
    | succ n7 ih7 =>
      intro v2 v3 v4 ls h hl
      rw [wp_X3_greatestDivisor_L7] at h
      refine lv_iload hx hb dX3_greatestDivisor_7 (lv_at hl 2 rfl) ?_
      refine lv_bipush (v := (64 : Int32)) hx hb dX3_greatestDivisor_9 (by decide) ?_
      refine lv_icmp_ge (tgt := 34) hx hb dX3_greatestDivisor_11 (by decide) (fun cq => ?_) (fun cq => ?_)
      · have h := h.1 cq
        exact L34 v2 _ h (lv_sub hl [0] rfl)
      · have h := h.2 cq
        refine lv_iload_n hx hb dX3_greatestDivisor_14 rfl (lv_at hl 1 rfl) ?_
        refine lv_if_eq (tgt := 34) hx hb dX3_greatestDivisor_15 (by decide) (fun cq => ?_) (fun cq => ?_)
        · have h := h.1 cq
          exact L34 v2 _ h (lv_sub hl [0] rfl)
        · have h := h.2 cq
          refine lv_iload_n hx hb dX3_greatestDivisor_18 rfl (lv_at hl 0 rfl) ?_
          refine lv_iload_n hx hb dX3_greatestDivisor_19 rfl (lv_at hl 1 rfl) ?_
          obtain ⟨hne, h⟩ := h
          refine lv_irem hx hb dX3_greatestDivisor_20 hne ?_
          refine lv_topi (fun x21 ex21 => ?_)
          have h := h x21 ex21
          refine lv_istore (lv' := [(5, .int x21), (2, .int v2), (3, .int v3), (4, .int v4)]) hx hb dX3_greatestDivisor_21 hl (by decide) rfl (fun ls hl => ?_)
          refine lv_iload_n hx hb dX3_greatestDivisor_23 rfl (lv_at hl 2 rfl) ?_
          refine lv_istore_n (lv' := [(2, .int v3), (5, .int x21), (3, .int v3), (4, .int v4)]) hx hb dX3_greatestDivisor_24 rfl hl (by decide) rfl (fun ls hl => ?_)
          refine lv_iload hx hb dX3_greatestDivisor_25 (lv_at hl 1 rfl) ?_
          refine lv_istore_n (lv' := [(3, .int x21), (2, .int v3), (5, .int x21), (4, .int v4)]) hx hb dX3_greatestDivisor_27 rfl hl (by decide) rfl (fun ls hl => ?_)
          refine lv_iinc (v := (v4 + 1)) (lv' := [(4, .int (v4 + 1)), (3, .int x21), (2, .int v3), (5, .int x21)]) hx hb dX3_greatestDivisor_28 hl (k := 3) rfl rfl (by decide) rfl (fun ls hl => ?_)
          refine lv_goto (tgt := 7) hx hb dX3_greatestDivisor_31 (by decide) ?_
          exact ih7 v3 x21 (v4 + 1) _ h (lv_sub hl [2, 1, 0] rfl)
  unfold wp_X3_greatestDivisor at h
  refine lv_iload_n hx hb dX3_greatestDivisor_0 rfl (lv_at hl 0 rfl) ?_
  refine lv_istore_n (lv' := [(2, .int p0), (0, .int p0), (1, .int p1)]) hx hb dX3_greatestDivisor_1 rfl hl (by decide) rfl (fun ls hl => ?_)
  refine lv_iload_n hx hb dX3_greatestDivisor_2 rfl (lv_at hl 2 rfl) ?_
  refine lv_istore_n (lv' := [(3, .int p1), (2, .int p0), (0, .int p0), (1, .int p1)]) hx hb dX3_greatestDivisor_3 rfl hl (by decide) rfl (fun ls hl => ?_)
  refine lv_iconst (v := (0 : Int32)) hx hb dX3_greatestDivisor_4 (by decide) ?_
  refine lv_istore (lv' := [(4, .int (0 : Int32)), (3, .int p1), (2, .int p0), (0, .int p0), (1, .int p1)]) hx hb dX3_greatestDivisor_5 hl (by decide) rfl (fun ls hl => ?_)
  obtain ⟨n9, h⟩ := h
  exact L7 n9 p0 p1 (0 : Int32) _ h (lv_sub hl [2, 1, 0] rfl)
set_option maxHeartbeats 4000000 in
set_option maxRecDepth 100000 in
theorem m_X3_addMeeting (l : Launch) (D : va_G) (k : Nat → ClassId) (aE : Nat → Nat) (aP : Nat → Nat) (pX : Nat → Int32) (pY : Nat → Int32) (pD : Nat → Int32) (pO : Nat → Int32) (nP : Int32) (fX : Nat → Int32) (fY : Nat → Int32) (lX : Nat → Int32) (lY : Nat → Int32) (oP : Nat → Int32) (nE : Int32) (p1 : Int32) (p2 : Int32) (Q : (Nat → Int32) → (Nat → Int32) → (Nat → Int32) → (Int32) → Prop) (sz : Nat) (h : wp_X3_addMeeting p1 p2 pX pY pD nP fX fY lX lY Q) : Met l yX3_addMeeting wsX3_addMeeting ({ frames := 2, cells := 0, slots := 0, locals := 53 }) (Prw D k [.ref (aP 0), .ref (aE 0), .int p1, .int p2] (wP k aP pX pY pD pO nP ++ wE k aE fX fY lX lY oP nE) sz) (va_Qv (fun (u : (Nat → Int32) × (Nat → Int32) × (Nat → Int32) × (Int32)) => Q u.1 u.2.1 u.2.2.1 u.2.2.2) (fun (u : (Nat → Int32) × (Nat → Int32) × (Nat → Int32) × (Int32)) t => va_P D vwCl (wP k aP (u.1) (u.2.1) (u.2.2.1) pO (u.2.2.2) ++ wE k aE fX fY lX lY oP nE) t.heap ∧ va_D (va_A (wP k aP pX pY pD pO nP ++ wE k aE fX fY lX lY oP nE) sz) (wP k aP (u.1) (u.2.1) (u.2.2.1) pO (u.2.2.2) ++ wE k aE fX fY lX lY oP nE)) (va_A (wP k aP pX pY pD pO nP ++ wE k aE fX fY lX lY oP nE) sz)) 0 0 (va_A (wP k aP pX pY pD pO nP ++ wE k aE fX fY lX lY oP nE) sz) := by
  refine Met.ofW (cc := cX3_addMeeting) (maxL := 14) (ret := none) (by decide) rfl ?_
  intro p e s m args below meth c s₁ B hml hv
  obtain ⟨hav, hsz, hP, hE, hD0⟩ := hv
  subst hsz
  have hx := B.exec
  have hb := B.bytes
  have hr := B.returns
  have hts := atoms_spec (ws := wsX3_addMeeting) B.pre
  have hown : s.vm.findClass RX3 = some m.cls := findClass_of_methodNamed B.named
  have hlocks := B.notSynchronized
  have hK := hE.1
  have hD := hD0.self (sz := s.heap.size)
  generalize hAe : va_A (wP k aP pX pY pD pO nP ++ wE k aE fX fY lX lY oP nE) s.heap.size = A at hD ⊢
  have hA : ∀ q : Nat, s.heap.size ≤ q → A q := fun q h => by rw [← hAe]; exact Or.inr h
  have hS : va_S A s.heap s.heap [] := va_S.rf
  have hl := lv_entry ([.ref (aP 0), .ref (aE 0), .int p1, .int p2]) (n := 14) (Nat.le_of_ble_eq_true rfl)
  rw [show entryFrame m args 14 = entryFrame m ([.ref (aP 0), .ref (aE 0), .int p1, .int p2] : List Value).toArray 14 by rw [hav]]
  rw [lg_entry_eq]
  refine W.gq (fun GQ hGQ => ?_)
  generalize (lg_sl ([.ref (aP 0), .ref (aE 0), .int p1, .int p2]) ++ List.replicate (14 - (lg_sl ([.ref (aP 0), .ref (aE 0), .int p1, .int p2])).length) Slot.unset).toArray = ls at hl ⊢
  have hl : lv_has ls 14 [(0, .ref (aP 0)), (1, .ref (aE 0)), (2, .int p1), (3, .int p2)] := hl
  have hiX0 := (by decide +kernel : ∀ w ∈ wsX00, w ∈ wsX3_addMeeting)
  have f31 := fun A => hE.nf (A := A) (RX3, 31, "PlaneOverlay$Edges", "firstX", "[I") (by decide +kernel)
  have f34 := fun A => hE.nf (A := A) (RX3, 34, "PlaneOverlay$Edges", "firstY", "[I") (by decide +kernel)
  have mabs0 := hts (.methodLink RX3 66 Lib.Math.abs.name) (by decide +kernel)
  have mabs1 := hts (.static Lib.Math.abs.name) (by decide +kernel)
  have mabs2 := hts (.initialized "java/lang/Math") (by decide +kernel)
  have mabs3 := hts (.code Lib.Math.abs.name Lib.Math.abs.code 1 (some .int)) (by decide +kernel)
  have L148 : ∀ (pX : Nat → Int32) (pY : Nat → Int32) (pD : Nat → Int32) (nP : Int32) (H : Heap) (locs : List Loc) (ls : Array Slot), wp_X3_addMeeting_L148 p1 p2 fX fY lX lY Q  pX pY pD nP → va_P D vwCl (wP k aP pX pY pD pO nP ++ wE k aE fX fY lX lY oP nE) H → va_D A (wP k aP pX pY pD pO nP ++ wE k aE fX fY lX lY oP nE) → va_S A s.heap H locs → lv_has ls 14 [] → W p l e (headSpec wsX3_addMeeting ({ frames := 2, cells := 0, slots := 0, locals := 53 })).room s m args below meth c H locs 0 0 GQ (F0 m 148 ls []) := by
    intro pX pY pD nP H locs ls h hP hD hS hl
    unfold wp_X3_addMeeting_L148 at h
    rw [hGQ]
    exact W.vret hx hb hr (fun t ht hW => ⟨⟨(pX, pY, pD, nP), rfl, h, by rw [ht]; exact hP, hD⟩, hS.F ht⟩) hS.2.2 dX3_addMeeting_148
  have L233 : ∀ (pX : Nat → Int32) (pY : Nat → Int32) (pD : Nat → Int32) (nP : Int32) (H : Heap) (locs : List Loc) (ls : Array Slot), wp_X3_addMeeting_L233 p1 p2 fX fY lX lY Q  pX pY pD nP → va_P D vwCl (wP k aP pX pY pD pO nP ++ wE k aE fX fY lX lY oP nE) H → va_D A (wP k aP pX pY pD pO nP ++ wE k aE fX fY lX lY oP nE) → va_S A s.heap H locs → lv_has ls 14 [] → W p l e (headSpec wsX3_addMeeting ({ frames := 2, cells := 0, slots := 0, locals := 53 })).room s m args below meth c H locs 0 0 GQ (F0 m 233 ls []) := by
    intro pX pY pD nP H locs ls h hP hD hS hl
    unfold wp_X3_addMeeting_L233 at h
    rw [hGQ]
    exact W.vret hx hb hr (fun t ht hW => ⟨⟨(pX, pY, pD, nP), rfl, h, by rw [ht]; exact hP, hD⟩, hS.F ht⟩) hS.2.2 dX3_addMeeting_233
  have L71 : ∀ (v4 : Int32) (v5 : Int32) (v6 : Int32) (z0 : Int32) (pX : Nat → Int32) (pY : Nat → Int32) (pD : Nat → Int32) (nP : Int32) (H : Heap) (locs : List Loc) (ls : Array Slot), wp_X3_addMeeting_L71 p1 p2 fX fY lX lY Q  v4 v5 v6 z0 pX pY pD nP → va_P D vwCl (wP k aP pX pY pD pO nP ++ wE k aE fX fY lX lY oP nE) H → va_D A (wP k aP pX pY pD pO nP ++ wE k aE fX fY lX lY oP nE) → va_S A s.heap H locs → lv_has ls 14 [(0, .ref (aP 0)), (1, .ref (aE 0)), (2, .int p1), (3, .int p2), (4, .int v4), (5, .int v5), (6, .int v6)] → W p l e (headSpec wsX3_addMeeting ({ frames := 2, cells := 0, slots := 0, locals := 53 })).room s m args below meth c H locs 0 0 GQ (F0 m 71 ls [.int z0]) := by
    intro v4 v5 v6 z0 pX pY pD nP H locs ls h hP hD hS hl
    unfold wp_X3_addMeeting_L71 at h
    refine lv_istore (lv' := [(7, .int z0), (0, .ref (aP 0)), (1, .ref (aE 0)), (2, .int p1), (3, .int p2), (4, .int v4), (5, .int v5), (6, .int v6)]) hx hb dX3_addMeeting_71 hl (by decide) rfl (fun ls hl => ?_)
    refine lv_iload hx hb dX3_addMeeting_73 (lv_at hl 0 rfl) ?_
    refine lv_iload hx hb dX3_addMeeting_75 (lv_at hl 5 rfl) ?_
    refine lv_imul hx hb dX3_addMeeting_77 ?_
    refine lv_topi (fun x78 ex78 => ?_)
    have h := h x78 ex78
    refine lv_istore (lv' := [(8, .int x78), (7, .int z0), (0, .ref (aP 0)), (1, .ref (aE 0)), (2, .int p1), (3, .int p2), (4, .int v4), (5, .int v5), (6, .int v6)]) hx hb dX3_addMeeting_78 hl (by decide) rfl (fun ls hl => ?_)
    refine lv_iload hx hb dX3_addMeeting_80 (lv_at hl 1 rfl) ?_
    refine lv_iload hx hb dX3_addMeeting_82 (lv_at hl 7 rfl) ?_
    refine lv_iload hx hb dX3_addMeeting_84 (lv_at hl 8 rfl) ?_
    refine lv_aload_n hx hb dX3_addMeeting_86 rfl (lv_at hl 3 rfl) ?_
    refine lv_iload_n hx hb dX3_addMeeting_87 rfl (lv_at hl 5 rfl) ?_
    have hPc := hP.sub (ws' := wE k aE fX fY lX lY oP nE) [5, 6, 7, 8, 9, 10] rfl
    refine vp_callSi (W.runV (C := RX0) (b := (aE 0)) (As := [.int p2]) (rest := [.int v6, .int v5, .int z0]) ⟨hx, hb, hml, hown, hts⟩ (m_X0_spanX l D k aE fX fY lX lY oP nE p2 _ h) (cwV 1 hts gX3_addMeeting_X0_spanX rfl rfl rfl (by decide +kernel) ⟨Nat.le_of_ble_eq_true rfl, Nat.le_of_ble_eq_true rfl⟩) (preV_ro (ci := 0) (q0 := 0) (C := RX0) (T := TX0) (N := 6) hE hPc rfl rfl) rfl rfl hl.1 rfl (lv_room (Nat.le_of_ble_eq_true rfl)) dX3_addMeeting_88 ⟨Nat.le_of_ble_eq_true rfl, Nat.le_of_ble_eq_true rfl⟩) (fun r88 h => ?_)
    refine lv_aload_n hx hb dX3_addMeeting_91 rfl (lv_at hl 3 rfl) ?_
    refine lv_iload_n hx hb dX3_addMeeting_92 rfl (lv_at hl 5 rfl) ?_
    have hPc := hP.sub (ws' := wE k aE fX fY lX lY oP nE) [5, 6, 7, 8, 9, 10] rfl
    refine vp_callSi (W.runV (C := RX0) (b := (aE 0)) (As := [.int p2]) (rest := [.int r88, .int v6, .int v5, .int z0]) ⟨hx, hb, hml, hown, hts⟩ (m_X0_spanY l D k aE fX fY lX lY oP nE p2 _ h) (cwV 1 hts gX3_addMeeting_X0_spanY rfl rfl rfl (by decide +kernel) ⟨Nat.le_of_ble_eq_true rfl, Nat.le_of_ble_eq_true rfl⟩) (preV_ro (ci := 0) (q0 := 0) (C := RX0) (T := TX0) (N := 6) hE hPc rfl rfl) rfl rfl hl.1 rfl (lv_room (Nat.le_of_ble_eq_true rfl)) dX3_addMeeting_93 ⟨Nat.le_of_ble_eq_true rfl, Nat.le_of_ble_eq_true rfl⟩) (fun r93 h => ?_)
    refine vp_callSi (W.runS (As := [.int v5, .int v6, .int r88, .int r93]) (rest := [.int z0]) ⟨hx, hb, hml, hown, hts⟩ (m_X3_cross l D k   v5 v6 r88 r93 _ h) (va_cwS 4 hts gX3_addMeeting_X3_cross rfl rfl rfl (by decide +kernel) ⟨Nat.le_of_ble_eq_true rfl, Nat.le_of_ble_eq_true rfl⟩) (preS_ro hE vaP0) rfl rfl hl.1 rfl (lv_room (Nat.le_of_ble_eq_true rfl)) dX3_addMeeting_96 ⟨Nat.le_of_ble_eq_true rfl, Nat.le_of_ble_eq_true rfl⟩) (fun r96 h => ?_)
    refine lv_imul hx hb dX3_addMeeting_99 ?_
    refine lv_topi (fun x100 ex100 => ?_)
    have h := h x100 ex100
    refine lv_istore (lv' := [(9, .int x100), (8, .int x78), (7, .int z0), (0, .ref (aP 0)), (1, .ref (aE 0)), (2, .int p1), (3, .int p2), (4, .int v4), (5, .int v5), (6, .int v6)]) hx hb dX3_addMeeting_100 hl (by decide) rfl (fun ls hl => ?_)
    refine lv_iload hx hb dX3_addMeeting_102 (lv_at hl 2 rfl) ?_
    refine lv_iload hx hb dX3_addMeeting_104 (lv_at hl 8 rfl) ?_
    refine lv_iload hx hb dX3_addMeeting_106 (lv_at hl 9 rfl) ?_
    refine lv_aload_n hx hb dX3_addMeeting_108 rfl (lv_at hl 4 rfl) ?_
    refine lv_iload_n hx hb dX3_addMeeting_109 rfl (lv_at hl 5 rfl) ?_
    have hPc := hP.sub (ws' := wE k aE fX fY lX lY oP nE) [5, 6, 7, 8, 9, 10] rfl
    refine vp_callSi (W.runV (C := RX0) (b := (aE 0)) (As := [.int p1]) (rest := [.int v6, .int v5, .int z0]) ⟨hx, hb, hml, hown, hts⟩ (m_X0_spanX l D k aE fX fY lX lY oP nE p1 _ h) (cwV 1 hts gX3_addMeeting_X0_spanX rfl rfl rfl (by decide +kernel) ⟨Nat.le_of_ble_eq_true rfl, Nat.le_of_ble_eq_true rfl⟩) (preV_ro (ci := 0) (q0 := 0) (C := RX0) (T := TX0) (N := 6) hE hPc rfl rfl) rfl rfl hl.1 rfl (lv_room (Nat.le_of_ble_eq_true rfl)) dX3_addMeeting_110 ⟨Nat.le_of_ble_eq_true rfl, Nat.le_of_ble_eq_true rfl⟩) (fun r110 h => ?_)
    refine lv_aload_n hx hb dX3_addMeeting_113 rfl (lv_at hl 4 rfl) ?_
    refine lv_iload_n hx hb dX3_addMeeting_114 rfl (lv_at hl 5 rfl) ?_
    have hPc := hP.sub (ws' := wE k aE fX fY lX lY oP nE) [5, 6, 7, 8, 9, 10] rfl
    refine vp_callSi (W.runV (C := RX0) (b := (aE 0)) (As := [.int p1]) (rest := [.int r110, .int v6, .int v5, .int z0]) ⟨hx, hb, hml, hown, hts⟩ (m_X0_spanY l D k aE fX fY lX lY oP nE p1 _ h) (cwV 1 hts gX3_addMeeting_X0_spanY rfl rfl rfl (by decide +kernel) ⟨Nat.le_of_ble_eq_true rfl, Nat.le_of_ble_eq_true rfl⟩) (preV_ro (ci := 0) (q0 := 0) (C := RX0) (T := TX0) (N := 6) hE hPc rfl rfl) rfl rfl hl.1 rfl (lv_room (Nat.le_of_ble_eq_true rfl)) dX3_addMeeting_115 ⟨Nat.le_of_ble_eq_true rfl, Nat.le_of_ble_eq_true rfl⟩) (fun r115 h => ?_)
    refine vp_callSi (W.runS (As := [.int v5, .int v6, .int r110, .int r115]) (rest := [.int z0]) ⟨hx, hb, hml, hown, hts⟩ (m_X3_cross l D k   v5 v6 r110 r115 _ h) (va_cwS 4 hts gX3_addMeeting_X3_cross rfl rfl rfl (by decide +kernel) ⟨Nat.le_of_ble_eq_true rfl, Nat.le_of_ble_eq_true rfl⟩) (preS_ro hE vaP0) rfl rfl hl.1 rfl (lv_room (Nat.le_of_ble_eq_true rfl)) dX3_addMeeting_118 ⟨Nat.le_of_ble_eq_true rfl, Nat.le_of_ble_eq_true rfl⟩) (fun r118 h => ?_)
    refine lv_imul hx hb dX3_addMeeting_121 ?_
    refine lv_topi (fun x122 ex122 => ?_)
    have h := h x122 ex122
    refine lv_istore (lv' := [(10, .int x122), (9, .int x100), (8, .int x78), (7, .int z0), (0, .ref (aP 0)), (1, .ref (aE 0)), (2, .int p1), (3, .int p2), (4, .int v4), (5, .int v5), (6, .int v6)]) hx hb dX3_addMeeting_122 hl (by decide) rfl (fun ls hl => ?_)
    refine lv_iload hx hb dX3_addMeeting_124 (lv_at hl 1 rfl) ?_
    refine lv_if_lt (tgt := 148) hx hb dX3_addMeeting_126 (by decide) (fun cq => ?_) (fun cq => ?_)
    · have h := h.1 cq
      exact L148 pX pY pD nP _ _ _ h hP hD hS (lv_sub hl [] rfl)
    · have h := h.2 cq
      refine lv_iload hx hb dX3_addMeeting_129 (lv_at hl 1 rfl) ?_
      refine lv_iload hx hb dX3_addMeeting_131 (lv_at hl 2 rfl) ?_
      refine lv_icmp_gt (tgt := 148) hx hb dX3_addMeeting_133 (by decide) (fun cq => ?_) (fun cq => ?_)
      · have h := h.1 cq
        exact L148 pX pY pD nP _ _ _ h hP hD hS (lv_sub hl [] rfl)
      · have h := h.2 cq
        refine lv_iload hx hb dX3_addMeeting_136 (lv_at hl 0 rfl) ?_
        refine lv_if_lt (tgt := 148) hx hb dX3_addMeeting_138 (by decide) (fun cq => ?_) (fun cq => ?_)
        · have h := h.1 cq
          exact L148 pX pY pD nP _ _ _ h hP hD hS (lv_sub hl [] rfl)
        · have h := h.2 cq
          refine lv_iload hx hb dX3_addMeeting_141 (lv_at hl 0 rfl) ?_
          refine lv_iload hx hb dX3_addMeeting_143 (lv_at hl 2 rfl) ?_
          refine lv_icmp_le (tgt := 149) hx hb dX3_addMeeting_145 (by decide) (fun cq => ?_) (fun cq => ?_)
          · have h := h.1 cq
            refine lv_aload_n hx hb dX3_addMeeting_149 rfl (lv_at hl 5 rfl) ?_
            refine va_getN (D := D) (ci := 0) (v := .ref (aE 1)) (C := RX0) (T := TX0) (N := 6) (host := "PlaneOverlay") hx hb hts hiX0 hown hK hP 5 rfl rfl 0 (by decide) (f31 _) (fun _ h9 => h9) rfl dX3_addMeeting_150 ?_
            refine lv_iload_n hx hb dX3_addMeeting_153 rfl (lv_at hl 6 rfl) ?_
            obtain ⟨hin, h⟩ := h
            refine va_iald hx hb hK hP 6 0 rfl rfl hin dX3_addMeeting_154 ?_
            refine lv_iload hx hb dX3_addMeeting_155 (lv_at hl 2 rfl) ?_
            refine lv_imul hx hb dX3_addMeeting_157 ?_
            refine lv_iload hx hb dX3_addMeeting_158 (lv_at hl 1 rfl) ?_
            refine lv_aload_n hx hb dX3_addMeeting_160 rfl (lv_at hl 5 rfl) ?_
            refine lv_iload_n hx hb dX3_addMeeting_161 rfl (lv_at hl 6 rfl) ?_
            have hPc := hP.sub (ws' := wE k aE fX fY lX lY oP nE) [5, 6, 7, 8, 9, 10] rfl
            refine vp_callSi (W.runV (C := RX0) (b := (aE 0)) (As := [.int p1]) (rest := [.int x100, .int ((fX p1.toNatClampNeg) * x78)]) ⟨hx, hb, hml, hown, hts⟩ (m_X0_spanX l D k aE fX fY lX lY oP nE p1 _ h) (cwV 1 hts gX3_addMeeting_X0_spanX rfl rfl rfl (by decide +kernel) ⟨Nat.le_of_ble_eq_true rfl, Nat.le_of_ble_eq_true rfl⟩) (preV_ro (ci := 0) (q0 := 0) (C := RX0) (T := TX0) (N := 6) hE hPc rfl rfl) rfl rfl hl.1 rfl (lv_room (Nat.le_of_ble_eq_true rfl)) dX3_addMeeting_162 ⟨Nat.le_of_ble_eq_true rfl, Nat.le_of_ble_eq_true rfl⟩) (fun r162 h => ?_)
            refine lv_imul hx hb dX3_addMeeting_165 ?_
            refine lv_iadd hx hb dX3_addMeeting_166 ?_
            refine lv_topi (fun x167 ex167 => ?_)
            have h := h x167 ex167
            refine lv_istore (lv' := [(11, .int x167), (10, .int x122), (9, .int x100), (8, .int x78), (7, .int z0), (0, .ref (aP 0)), (1, .ref (aE 0)), (2, .int p1), (3, .int p2), (4, .int v4), (5, .int v5), (6, .int v6)]) hx hb dX3_addMeeting_167 hl (by decide) rfl (fun ls hl => ?_)
            refine lv_aload_n hx hb dX3_addMeeting_169 rfl (lv_at hl 6 rfl) ?_
            refine va_getN (D := D) (ci := 0) (v := .ref (aE 2)) (C := RX0) (T := TX0) (N := 6) (host := "PlaneOverlay") hx hb hts hiX0 hown hK hP 5 rfl rfl 1 (by decide) (f34 _) (fun _ h9 => h9) rfl dX3_addMeeting_170 ?_
            refine lv_iload_n hx hb dX3_addMeeting_173 rfl (lv_at hl 7 rfl) ?_
            obtain ⟨hin, h⟩ := h
            refine va_iald hx hb hK hP 7 0 rfl rfl hin dX3_addMeeting_174 ?_
            refine lv_iload hx hb dX3_addMeeting_175 (lv_at hl 3 rfl) ?_
            refine lv_imul hx hb dX3_addMeeting_177 ?_
            refine lv_iload hx hb dX3_addMeeting_178 (lv_at hl 2 rfl) ?_
            refine lv_aload_n hx hb dX3_addMeeting_180 rfl (lv_at hl 6 rfl) ?_
            refine lv_iload_n hx hb dX3_addMeeting_181 rfl (lv_at hl 7 rfl) ?_
            have hPc := hP.sub (ws' := wE k aE fX fY lX lY oP nE) [5, 6, 7, 8, 9, 10] rfl
            refine vp_callSi (W.runV (C := RX0) (b := (aE 0)) (As := [.int p1]) (rest := [.int x100, .int ((fY p1.toNatClampNeg) * x78)]) ⟨hx, hb, hml, hown, hts⟩ (m_X0_spanY l D k aE fX fY lX lY oP nE p1 _ h) (cwV 1 hts gX3_addMeeting_X0_spanY rfl rfl rfl (by decide +kernel) ⟨Nat.le_of_ble_eq_true rfl, Nat.le_of_ble_eq_true rfl⟩) (preV_ro (ci := 0) (q0 := 0) (C := RX0) (T := TX0) (N := 6) hE hPc rfl rfl) rfl rfl hl.1 rfl (lv_room (Nat.le_of_ble_eq_true rfl)) dX3_addMeeting_182 ⟨Nat.le_of_ble_eq_true rfl, Nat.le_of_ble_eq_true rfl⟩) (fun r182 h => ?_)
            refine lv_imul hx hb dX3_addMeeting_185 ?_
            refine lv_iadd hx hb dX3_addMeeting_186 ?_
            refine lv_topi (fun x187 ex187 => ?_)
            have h := h x187 ex187
            refine lv_istore (lv' := [(12, .int x187), (11, .int x167), (10, .int x122), (9, .int x100), (8, .int x78), (7, .int z0), (0, .ref (aP 0)), (1, .ref (aE 0)), (2, .int p1), (3, .int p2), (4, .int v4), (5, .int v5), (6, .int v6)]) hx hb dX3_addMeeting_187 hl (by decide) rfl (fun ls hl => ?_)
            refine lv_iload hx hb dX3_addMeeting_189 (lv_at hl 4 rfl) ?_
            refine lv_iload hx hb dX3_addMeeting_191 (lv_at hl 1 rfl) ?_
            refine va_mabs hx hb (hml.trans hl.1.symm) hown mabs0 mabs1 mabs2 mabs3 (Nat.le_of_ble_eq_true rfl) (Nat.le_of_ble_eq_true rfl) (Nat.le_of_ble_eq_true rfl) (Nat.le_of_ble_eq_true rfl) dX3_addMeeting_193 ?_
            refine vp_callSi (W.runS (As := [.int x78, .int (if 0 ≤ x167 then x167 else 0 - x167)]) (rest := []) ⟨hx, hb, hml, hown, hts⟩ (m_X3_greatestDivisor l D k   x78 (if 0 ≤ x167 then x167 else 0 - x167) _ h) (va_cwS 2 hts gX3_addMeeting_X3_greatestDivisor rfl rfl rfl (by decide +kernel) ⟨Nat.le_of_ble_eq_true rfl, Nat.le_of_ble_eq_true rfl⟩) (preS_ro hE vaP0) rfl rfl hl.1 rfl (lv_room (Nat.le_of_ble_eq_true rfl)) dX3_addMeeting_196 ⟨Nat.le_of_ble_eq_true rfl, Nat.le_of_ble_eq_true rfl⟩) (fun r196 h => ?_)
            refine lv_iload hx hb dX3_addMeeting_199 (lv_at hl 0 rfl) ?_
            refine va_mabs hx hb (hml.trans hl.1.symm) hown mabs0 mabs1 mabs2 mabs3 (Nat.le_of_ble_eq_true rfl) (Nat.le_of_ble_eq_true rfl) (Nat.le_of_ble_eq_true rfl) (Nat.le_of_ble_eq_true rfl) dX3_addMeeting_201 ?_
            refine vp_callSi (W.runS (As := [.int r196, .int (if 0 ≤ x187 then x187 else 0 - x187)]) (rest := []) ⟨hx, hb, hml, hown, hts⟩ (m_X3_greatestDivisor l D k   r196 (if 0 ≤ x187 then x187 else 0 - x187) _ h) (va_cwS 2 hts gX3_addMeeting_X3_greatestDivisor rfl rfl rfl (by decide +kernel) ⟨Nat.le_of_ble_eq_true rfl, Nat.le_of_ble_eq_true rfl⟩) (preS_ro hE vaP0) rfl rfl hl.1 rfl (lv_room (Nat.le_of_ble_eq_true rfl)) dX3_addMeeting_204 ⟨Nat.le_of_ble_eq_true rfl, Nat.le_of_ble_eq_true rfl⟩) (fun r204 h => ?_)
            refine lv_istore (lv' := [(13, .int r204), (12, .int x187), (11, .int x167), (10, .int x122), (9, .int x100), (8, .int x78), (7, .int z0), (0, .ref (aP 0)), (1, .ref (aE 0)), (2, .int p1), (3, .int p2), (4, .int v4), (5, .int v5), (6, .int v6)]) hx hb dX3_addMeeting_207 hl (by decide) rfl (fun ls hl => ?_)
            refine lv_iload hx hb dX3_addMeeting_209 (lv_at hl 0 rfl) ?_
            refine lv_if_le (tgt := 233) hx hb dX3_addMeeting_211 (by decide) (fun cq => ?_) (fun cq => ?_)
            · have h := h.1 cq
              exact L233 pX pY pD nP _ _ _ h hP hD hS (lv_sub hl [] rfl)
            · have h := h.2 cq
              refine lv_aload_n hx hb dX3_addMeeting_214 rfl (lv_at hl 7 rfl) ?_
              refine lv_iload hx hb dX3_addMeeting_215 (lv_at hl 2 rfl) ?_
              refine lv_iload hx hb dX3_addMeeting_217 (lv_at hl 0 rfl) ?_
              obtain ⟨hne, h⟩ := h
              refine lv_idiv hx hb dX3_addMeeting_219 hne ?_
              refine lv_iload hx hb dX3_addMeeting_220 (lv_at hl 1 rfl) ?_
              refine lv_iload hx hb dX3_addMeeting_222 (lv_at hl 0 rfl) ?_
              obtain ⟨hne, h⟩ := h
              refine lv_idiv hx hb dX3_addMeeting_224 hne ?_
              refine lv_iload hx hb dX3_addMeeting_225 (lv_at hl 5 rfl) ?_
              refine lv_iload hx hb dX3_addMeeting_227 (lv_at hl 0 rfl) ?_
              obtain ⟨hne, h⟩ := h
              refine lv_idiv hx hb dX3_addMeeting_229 hne ?_
              have hPc := hP.sub (ws' := wP k aP pX pY pD pO nP) [0, 1, 2, 3, 4] rfl
              have hDc := hD.sub (ws' := wP k aP pX pY pD pO nP) [0, 1, 2, 3, 4] (by decide) rfl
              have hFc := va_free (wc := wP k aP pX pY pD pO nP) hD hS hA [0, 1, 2, 3, 4] rfl
              refine va_callv (va_runV (C := RX3) (b := (aP 0)) (As := [.int (x167 / r204), .int (x187 / r204), .int (x78 / r204)]) (rest := []) ⟨hx, hb, hml, hown, hts⟩ (m_X3_insert l D k aP pX pY pD pO nP (x167 / r204) (x187 / r204) (x78 / r204) _ _ h) (cwV 3 hts gX3_addMeeting_X3_insert rfl rfl rfl (by decide +kernel) ⟨Nat.le_of_ble_eq_true rfl, Nat.le_of_ble_eq_true rfl⟩) (preV_rw (ci := 3) (q0 := 0) (C := RX3) (T := TX3) (N := 5) hE hPc hDc rfl rfl) rfl rfl hl.1 rfl (lv_room (Nat.le_of_ble_eq_true rfl)) dX3_addMeeting_230 ⟨Nat.le_of_ble_eq_true rfl, Nat.le_of_ble_eq_true rfl⟩) hS (fun q _ h => hFc q h) hFc (fun u t H1 locs ht hvm h hB hz1 hk1 hS => ?_)
              obtain ⟨pX_230, pY_230, pD_230, nP_230⟩ := u
              obtain ⟨hP1, hD1⟩ := hB
              rw [ht] at hP1
              obtain ⟨hP, hD⟩ := va_join (wr := wE k aE fX fY lX lY oP nE) (w1 := wP k aP pX_230 pY_230 pD_230 pO nP_230) hP hD [0, 1, 2, 3, 4] [5, 6, 7, 8, 9, 10] rfl rfl (by decide) (by decide) hk1 hFc hP1 hD1
              generalize H1 = H at hP hS ⊢
              have hP : va_P D vwCl (wP k aP pX_230 pY_230 pD_230 pO nP_230 ++ wE k aE fX fY lX lY oP nE) H := hP.sub [6, 7, 8, 9, 10, 0, 1, 2, 3, 4, 5] rfl
              have hD : va_D A (wP k aP pX_230 pY_230 pD_230 pO nP_230 ++ wE k aE fX fY lX lY oP nE) := hD.sub [6, 7, 8, 9, 10, 0, 1, 2, 3, 4, 5] (by decide) rfl
              exact L233 pX_230 pY_230 pD_230 nP_230 _ _ _ h hP hD hS (lv_sub hl [] rfl)
          · have h := h.2 cq
            exact L148 pX pY pD nP _ _ _ h hP hD hS (lv_sub hl [] rfl)
  unfold wp_X3_addMeeting at h
  refine lv_aload_n hx hb dX3_addMeeting_0 rfl (lv_at hl 1 rfl) ?_
  refine lv_iload_n hx hb dX3_addMeeting_1 rfl (lv_at hl 2 rfl) ?_
  have hPc := hP.sub (ws' := wE k aE fX fY lX lY oP nE) [5, 6, 7, 8, 9, 10] rfl
  refine vp_callSi (W.runV (C := RX0) (b := (aE 0)) (As := [.int p1]) (rest := []) ⟨hx, hb, hml, hown, hts⟩ (m_X0_spanX l D k aE fX fY lX lY oP nE p1 _ h) (cwV 1 hts gX3_addMeeting_X0_spanX rfl rfl rfl (by decide +kernel) ⟨Nat.le_of_ble_eq_true rfl, Nat.le_of_ble_eq_true rfl⟩) (preV_ro (ci := 0) (q0 := 0) (C := RX0) (T := TX0) (N := 6) hE hPc rfl rfl) rfl rfl hl.1 rfl (lv_room (Nat.le_of_ble_eq_true rfl)) dX3_addMeeting_2 ⟨Nat.le_of_ble_eq_true rfl, Nat.le_of_ble_eq_true rfl⟩) (fun r2 h => ?_)
  refine lv_aload_n hx hb dX3_addMeeting_5 rfl (lv_at hl 1 rfl) ?_
  refine lv_iload_n hx hb dX3_addMeeting_6 rfl (lv_at hl 2 rfl) ?_
  have hPc := hP.sub (ws' := wE k aE fX fY lX lY oP nE) [5, 6, 7, 8, 9, 10] rfl
  refine vp_callSi (W.runV (C := RX0) (b := (aE 0)) (As := [.int p1]) (rest := [.int r2]) ⟨hx, hb, hml, hown, hts⟩ (m_X0_spanY l D k aE fX fY lX lY oP nE p1 _ h) (cwV 1 hts gX3_addMeeting_X0_spanY rfl rfl rfl (by decide +kernel) ⟨Nat.le_of_ble_eq_true rfl, Nat.le_of_ble_eq_true rfl⟩) (preV_ro (ci := 0) (q0 := 0) (C := RX0) (T := TX0) (N := 6) hE hPc rfl rfl) rfl rfl hl.1 rfl (lv_room (Nat.le_of_ble_eq_true rfl)) dX3_addMeeting_7 ⟨Nat.le_of_ble_eq_true rfl, Nat.le_of_ble_eq_true rfl⟩) (fun r7 h => ?_)
  refine lv_aload_n hx hb dX3_addMeeting_10 rfl (lv_at hl 1 rfl) ?_
  refine lv_iload_n hx hb dX3_addMeeting_11 rfl (lv_at hl 3 rfl) ?_
  have hPc := hP.sub (ws' := wE k aE fX fY lX lY oP nE) [5, 6, 7, 8, 9, 10] rfl
  refine vp_callSi (W.runV (C := RX0) (b := (aE 0)) (As := [.int p2]) (rest := [.int r7, .int r2]) ⟨hx, hb, hml, hown, hts⟩ (m_X0_spanX l D k aE fX fY lX lY oP nE p2 _ h) (cwV 1 hts gX3_addMeeting_X0_spanX rfl rfl rfl (by decide +kernel) ⟨Nat.le_of_ble_eq_true rfl, Nat.le_of_ble_eq_true rfl⟩) (preV_ro (ci := 0) (q0 := 0) (C := RX0) (T := TX0) (N := 6) hE hPc rfl rfl) rfl rfl hl.1 rfl (lv_room (Nat.le_of_ble_eq_true rfl)) dX3_addMeeting_12 ⟨Nat.le_of_ble_eq_true rfl, Nat.le_of_ble_eq_true rfl⟩) (fun r12 h => ?_)
  refine lv_aload_n hx hb dX3_addMeeting_15 rfl (lv_at hl 1 rfl) ?_
  refine lv_iload_n hx hb dX3_addMeeting_16 rfl (lv_at hl 3 rfl) ?_
  have hPc := hP.sub (ws' := wE k aE fX fY lX lY oP nE) [5, 6, 7, 8, 9, 10] rfl
  refine vp_callSi (W.runV (C := RX0) (b := (aE 0)) (As := [.int p2]) (rest := [.int r12, .int r7, .int r2]) ⟨hx, hb, hml, hown, hts⟩ (m_X0_spanY l D k aE fX fY lX lY oP nE p2 _ h) (cwV 1 hts gX3_addMeeting_X0_spanY rfl rfl rfl (by decide +kernel) ⟨Nat.le_of_ble_eq_true rfl, Nat.le_of_ble_eq_true rfl⟩) (preV_ro (ci := 0) (q0 := 0) (C := RX0) (T := TX0) (N := 6) hE hPc rfl rfl) rfl rfl hl.1 rfl (lv_room (Nat.le_of_ble_eq_true rfl)) dX3_addMeeting_17 ⟨Nat.le_of_ble_eq_true rfl, Nat.le_of_ble_eq_true rfl⟩) (fun r17 h => ?_)
  refine vp_callSi (W.runS (As := [.int r2, .int r7, .int r12, .int r17]) (rest := []) ⟨hx, hb, hml, hown, hts⟩ (m_X3_cross l D k   r2 r7 r12 r17 _ h) (va_cwS 4 hts gX3_addMeeting_X3_cross rfl rfl rfl (by decide +kernel) ⟨Nat.le_of_ble_eq_true rfl, Nat.le_of_ble_eq_true rfl⟩) (preS_ro hE vaP0) rfl rfl hl.1 rfl (lv_room (Nat.le_of_ble_eq_true rfl)) dX3_addMeeting_20 ⟨Nat.le_of_ble_eq_true rfl, Nat.le_of_ble_eq_true rfl⟩) (fun r20 h => ?_)
  refine lv_istore (lv' := [(4, .int r20), (0, .ref (aP 0)), (1, .ref (aE 0)), (2, .int p1), (3, .int p2)]) hx hb dX3_addMeeting_23 hl (by decide) rfl (fun ls hl => ?_)
  refine lv_iload hx hb dX3_addMeeting_25 (lv_at hl 0 rfl) ?_
  refine lv_if_ne (tgt := 31) hx hb dX3_addMeeting_27 (by decide) (fun cq => ?_) (fun cq => ?_)
  · have h := h.1 cq
    refine lv_aload_n hx hb dX3_addMeeting_31 rfl (lv_at hl 2 rfl) ?_
    refine va_getN (D := D) (ci := 0) (v := .ref (aE 1)) (C := RX0) (T := TX0) (N := 6) (host := "PlaneOverlay") hx hb hts hiX0 hown hK hP 5 rfl rfl 0 (by decide) (f31 _) (fun _ h9 => h9) rfl dX3_addMeeting_32 ?_
    refine lv_iload_n hx hb dX3_addMeeting_35 rfl (lv_at hl 4 rfl) ?_
    obtain ⟨hin, h⟩ := h
    refine va_iald hx hb hK hP 6 0 rfl rfl hin dX3_addMeeting_36 ?_
    refine lv_aload_n hx hb dX3_addMeeting_37 rfl (lv_at hl 2 rfl) ?_
    refine va_getN (D := D) (ci := 0) (v := .ref (aE 1)) (C := RX0) (T := TX0) (N := 6) (host := "PlaneOverlay") hx hb hts hiX0 hown hK hP 5 rfl rfl 0 (by decide) (f31 _) (fun _ h9 => h9) rfl dX3_addMeeting_38 ?_
    refine lv_iload_n hx hb dX3_addMeeting_41 rfl (lv_at hl 3 rfl) ?_
    obtain ⟨hin, h⟩ := h
    refine va_iald hx hb hK hP 6 0 rfl rfl hin dX3_addMeeting_42 ?_
    refine lv_isub hx hb dX3_addMeeting_43 ?_
    refine lv_topi (fun x44 ex44 => ?_)
    have h := h x44 ex44
    refine lv_istore (lv' := [(5, .int x44), (4, .int r20), (0, .ref (aP 0)), (1, .ref (aE 0)), (2, .int p1), (3, .int p2)]) hx hb dX3_addMeeting_44 hl (by decide) rfl (fun ls hl => ?_)
    refine lv_aload_n hx hb dX3_addMeeting_46 rfl (lv_at hl 3 rfl) ?_
    refine va_getN (D := D) (ci := 0) (v := .ref (aE 2)) (C := RX0) (T := TX0) (N := 6) (host := "PlaneOverlay") hx hb hts hiX0 hown hK hP 5 rfl rfl 1 (by decide) (f34 _) (fun _ h9 => h9) rfl dX3_addMeeting_47 ?_
    refine lv_iload_n hx hb dX3_addMeeting_50 rfl (lv_at hl 5 rfl) ?_
    obtain ⟨hin, h⟩ := h
    refine va_iald hx hb hK hP 7 0 rfl rfl hin dX3_addMeeting_51 ?_
    refine lv_aload_n hx hb dX3_addMeeting_52 rfl (lv_at hl 3 rfl) ?_
    refine va_getN (D := D) (ci := 0) (v := .ref (aE 2)) (C := RX0) (T := TX0) (N := 6) (host := "PlaneOverlay") hx hb hts hiX0 hown hK hP 5 rfl rfl 1 (by decide) (f34 _) (fun _ h9 => h9) rfl dX3_addMeeting_53 ?_
    refine lv_iload_n hx hb dX3_addMeeting_56 rfl (lv_at hl 4 rfl) ?_
    obtain ⟨hin, h⟩ := h
    refine va_iald hx hb hK hP 7 0 rfl rfl hin dX3_addMeeting_57 ?_
    refine lv_isub hx hb dX3_addMeeting_58 ?_
    refine lv_topi (fun x59 ex59 => ?_)
    have h := h x59 ex59
    refine lv_istore (lv' := [(6, .int x59), (5, .int x44), (4, .int r20), (0, .ref (aP 0)), (1, .ref (aE 0)), (2, .int p1), (3, .int p2)]) hx hb dX3_addMeeting_59 hl (by decide) rfl (fun ls hl => ?_)
    refine lv_iload hx hb dX3_addMeeting_61 (lv_at hl 2 rfl) ?_
    refine lv_if_le (tgt := 70) hx hb dX3_addMeeting_63 (by decide) (fun cq => ?_) (fun cq => ?_)
    · have h := h.1 cq
      refine lv_iconst (v := (-1 : Int32)) hx hb dX3_addMeeting_70 (by decide) ?_
      exact L71 r20 x44 x59 (-1 : Int32) pX pY pD nP _ _ _ h hP hD hS (lv_sub hl [3, 4, 5, 6, 2, 1, 0] rfl)
    · have h := h.2 cq
      refine lv_iconst (v := (1 : Int32)) hx hb dX3_addMeeting_66 (by decide) ?_
      refine lv_goto (tgt := 71) hx hb dX3_addMeeting_67 (by decide) ?_
      exact L71 r20 x44 x59 (1 : Int32) pX pY pD nP _ _ _ h hP hD hS (lv_sub hl [3, 4, 5, 6, 2, 1, 0] rfl)
  · have h := h.2 cq
    rw [hGQ]
    exact W.vret hx hb hr (fun t ht hW => ⟨⟨(pX, pY, pD, nP), rfl, h, by rw [ht]; exact hP, hD⟩, hS.F ht⟩) hS.2.2 dX3_addMeeting_30
set_option maxHeartbeats 4000000 in
set_option maxRecDepth 100000 in
theorem m_X3_gather (l : Launch) (D : va_G) (k : Nat → ClassId) (aE : Nat → Nat) (aP : Nat → Nat) (pX : Nat → Int32) (pY : Nat → Int32) (pD : Nat → Int32) (pO : Nat → Int32) (nP : Int32) (fX : Nat → Int32) (fY : Nat → Int32) (lX : Nat → Int32) (lY : Nat → Int32) (oP : Nat → Int32) (nE : Int32)  (Q : (Nat → Int32) → (Nat → Int32) → (Nat → Int32) → (Nat → Int32) → (Int32) → Prop) (sz : Nat) (h : wp_X3_gather pX pY pD pO nP fX fY lX lY nE Q) : Met l yX3_gather wsX3_gather ({ frames := 4, cells := 0, slots := 0, locals := 107 }) (Prw D k [.ref (aP 0), .ref (aE 0)] (wP k aP pX pY pD pO nP ++ wE k aE fX fY lX lY oP nE) sz) (va_Qv (fun (u : (Nat → Int32) × (Nat → Int32) × (Nat → Int32) × (Nat → Int32) × (Int32)) => Q u.1 u.2.1 u.2.2.1 u.2.2.2.1 u.2.2.2.2) (fun (u : (Nat → Int32) × (Nat → Int32) × (Nat → Int32) × (Nat → Int32) × (Int32)) t => va_P D vwCl (wP k aP (u.1) (u.2.1) (u.2.2.1) (u.2.2.2.1) (u.2.2.2.2) ++ wE k aE fX fY lX lY oP nE) t.heap ∧ va_D (va_A (wP k aP pX pY pD pO nP ++ wE k aE fX fY lX lY oP nE) sz) (wP k aP (u.1) (u.2.1) (u.2.2.1) (u.2.2.2.1) (u.2.2.2.2) ++ wE k aE fX fY lX lY oP nE)) (va_A (wP k aP pX pY pD pO nP ++ wE k aE fX fY lX lY oP nE) sz)) 0 0 (va_A (wP k aP pX pY pD pO nP ++ wE k aE fX fY lX lY oP nE) sz) := by
  refine Met.ofW (cc := cX3_gather) (maxL := 4) (ret := none) (by decide) rfl ?_
  intro p e s m args below meth c s₁ B hml hv
  obtain ⟨hav, hsz, hP, hE, hD0⟩ := hv
  subst hsz
  have hx := B.exec
  have hb := B.bytes
  have hr := B.returns
  have hts := atoms_spec (ws := wsX3_gather) B.pre
  have hown : s.vm.findClass RX3 = some m.cls := findClass_of_methodNamed B.named
  have hlocks := B.notSynchronized
  have hK := hE.1
  have hD := hD0.self (sz := s.heap.size)
  generalize hAe : va_A (wP k aP pX pY pD pO nP ++ wE k aE fX fY lX lY oP nE) s.heap.size = A at hD ⊢
  have hA : ∀ q : Nat, s.heap.size ≤ q → A q := fun q h => by rw [← hAe]; exact Or.inr h
  have hS : va_S A s.heap s.heap [] := va_S.rf
  have hl := lv_entry ([.ref (aP 0), .ref (aE 0)]) (n := 4) (Nat.le_of_ble_eq_true rfl)
  rw [show entryFrame m args 4 = entryFrame m ([.ref (aP 0), .ref (aE 0)] : List Value).toArray 4 by rw [hav]]
  rw [lg_entry_eq]
  refine W.gq (fun GQ hGQ => ?_)
  generalize (lg_sl ([.ref (aP 0), .ref (aE 0)]) ++ List.replicate (4 - (lg_sl ([.ref (aP 0), .ref (aE 0)])).length) Slot.unset).toArray = ls at hl ⊢
  have hl : lv_has ls 4 [(0, .ref (aP 0)), (1, .ref (aE 0))] := hl
  have hiX3 := (by decide +kernel : ∀ w ∈ wsX30, w ∈ wsX3_gather)
  have f24 := hts (.fieldLink RX3 24 "PlaneOverlay$Points" "count" "I") (by decide +kernel)
  have f21 := hts (.fieldLink RX3 21 "PlaneOverlay$Points" "onEdges" "[I") (by decide +kernel)
  have f9 := hts (.fieldLink RX3 9 "PlaneOverlay$Points" "x" "[I") (by decide +kernel)
  have f15 := hts (.fieldLink RX3 15 "PlaneOverlay$Points" "y" "[I") (by decide +kernel)
  have f18 := hts (.fieldLink RX3 18 "PlaneOverlay$Points" "d" "[I") (by decide +kernel)
  have hiX0 := (by decide +kernel : ∀ w ∈ wsX00, w ∈ wsX3_gather)
  have f28 := fun A => hE.nf (A := A) (RX3, 28, "PlaneOverlay$Edges", "count", "I") (by decide +kernel)
  have f31 := fun A => hE.nf (A := A) (RX3, 31, "PlaneOverlay$Edges", "firstX", "[I") (by decide +kernel)
  have f34 := fun A => hE.nf (A := A) (RX3, 34, "PlaneOverlay$Edges", "firstY", "[I") (by decide +kernel)
  have f41 := fun A => hE.nf (A := A) (RX3, 41, "PlaneOverlay$Edges", "lastX", "[I") (by decide +kernel)
  have f44 := fun A => hE.nf (A := A) (RX3, 44, "PlaneOverlay$Edges", "lastY", "[I") (by decide +kernel)
  have L77 : ∀ (n77 : Nat) (v2 : Int32) (pX : Nat → Int32) (pY : Nat → Int32) (pD : Nat → Int32) (pO : Nat → Int32) (nP : Int32) (H : Heap) (locs : List Loc) (ls : Array Slot), wp_X3_gather_L77 fX fY lX lY nE Q  n77 v2 pX pY pD pO nP → va_P D vwCl (wP k aP pX pY pD pO nP ++ wE k aE fX fY lX lY oP nE) H → va_D A (wP k aP pX pY pD pO nP ++ wE k aE fX fY lX lY oP nE) → va_S A s.heap H locs → lv_has ls 4 [(0, .ref (aP 0)), (1, .ref (aE 0)), (2, .int v2)] → W p l e (headSpec wsX3_gather ({ frames := 4, cells := 0, slots := 0, locals := 107 })).room s m args below meth c H locs 0 0 GQ (F0 m 77 ls []) := by
    intro n77
    induction n77 with
    | zero => intro v2 pX pY pD pO nP H locs ls h hP hD hS hl; exact False.elim h
    | succ n77 ih77 =>
      intro v2 pX pY pD pO nP H locs ls h hP hD hS hl
      rw [wp_X3_gather_L77] at h
      refine lv_iload_n hx hb dX3_gather_77 rfl (lv_at hl 2 rfl) ?_
      refine lv_aload_n hx hb dX3_gather_78 rfl (lv_at hl 0 rfl) ?_
      refine va_get (D := D) (ci := 3) (v := .int nP) (C := RX3) (T := TX3) (N := 5) hx hb hts hiX3 hown hK hP 0 rfl rfl 4 (by decide) f24 (fun _ h9 => h9) rfl dX3_gather_79 ?_
      refine lv_icmp_ge (tgt := 122) hx hb dX3_gather_82 (by decide) (fun cq => ?_) (fun cq => ?_)
      · have h := h.1 cq
        rw [hGQ]
        exact W.vret hx hb hr (fun t ht hW => ⟨⟨(pX, pY, pD, pO, nP), rfl, h, by rw [ht]; exact hP, hD⟩, hS.F ht⟩) hS.2.2 dX3_gather_122
      · have h := h.2 cq
        refine lv_aload_n hx hb dX3_gather_85 rfl (lv_at hl 0 rfl) ?_
        refine va_get (D := D) (ci := 3) (v := .ref (aP 4)) (C := RX3) (T := TX3) (N := 5) hx hb hts hiX3 hown hK hP 0 rfl rfl 3 (by decide) f21 (fun _ h9 => h9) rfl dX3_gather_86 ?_
        refine lv_iload_n hx hb dX3_gather_89 rfl (lv_at hl 2 rfl) ?_
        refine lv_aload_n hx hb dX3_gather_90 rfl (lv_at hl 1 rfl) ?_
        refine lv_aload_n hx hb dX3_gather_91 rfl (lv_at hl 0 rfl) ?_
        refine va_get (D := D) (ci := 3) (v := .ref (aP 1)) (C := RX3) (T := TX3) (N := 5) hx hb hts hiX3 hown hK hP 0 rfl rfl 0 (by decide) f9 (fun _ h9 => h9) rfl dX3_gather_92 ?_
        refine lv_iload_n hx hb dX3_gather_95 rfl (lv_at hl 2 rfl) ?_
        obtain ⟨hin, h⟩ := h
        refine va_iald hx hb hK hP 1 0 rfl rfl hin dX3_gather_96 ?_
        refine lv_i2l hx hb dX3_gather_97 rfl ?_
        refine lv_aload_n hx hb dX3_gather_98 rfl (lv_at hl 0 rfl) ?_
        refine va_get (D := D) (ci := 3) (v := .ref (aP 2)) (C := RX3) (T := TX3) (N := 5) hx hb hts hiX3 hown hK hP 0 rfl rfl 1 (by decide) f15 (fun _ h9 => h9) rfl dX3_gather_99 ?_
        refine lv_iload_n hx hb dX3_gather_102 rfl (lv_at hl 2 rfl) ?_
        obtain ⟨hin, h⟩ := h
        refine va_iald hx hb hK hP 2 0 rfl rfl hin dX3_gather_103 ?_
        refine lv_i2l hx hb dX3_gather_104 rfl ?_
        refine lv_aload_n hx hb dX3_gather_105 rfl (lv_at hl 0 rfl) ?_
        refine va_get (D := D) (ci := 3) (v := .ref (aP 3)) (C := RX3) (T := TX3) (N := 5) hx hb hts hiX3 hown hK hP 0 rfl rfl 2 (by decide) f18 (fun _ h9 => h9) rfl dX3_gather_106 ?_
        refine lv_iload_n hx hb dX3_gather_109 rfl (lv_at hl 2 rfl) ?_
        obtain ⟨hin, h⟩ := h
        refine va_iald hx hb hK hP 3 0 rfl rfl hin dX3_gather_110 ?_
        refine lv_i2l hx hb dX3_gather_111 rfl ?_
        have hPc := hP.sub (ws' := wE k aE fX fY lX lY oP nE) [5, 6, 7, 8, 9, 10] rfl
        refine vp_callSi (W.runV (C := RX0) (b := (aE 0)) (As := [.long ((pX v2.toNatClampNeg).toInt64), .long ((pY v2.toNatClampNeg).toInt64), .long ((pD v2.toNatClampNeg).toInt64)]) (rest := [.int v2, .ref (aP 4)]) ⟨hx, hb, hml, hown, hts⟩ (m_X0_through l D k aE fX fY lX lY oP nE ((pX v2.toNatClampNeg).toInt64) ((pY v2.toNatClampNeg).toInt64) ((pD v2.toNatClampNeg).toInt64) _ h) (cwV 3 hts gX3_gather_X0_through rfl rfl rfl (by decide +kernel) ⟨Nat.le_of_ble_eq_true rfl, Nat.le_of_ble_eq_true rfl⟩) (preV_ro (ci := 0) (q0 := 0) (C := RX0) (T := TX0) (N := 6) hE hPc rfl rfl) rfl rfl hl.1 rfl (lv_room (Nat.le_of_ble_eq_true rfl)) dX3_gather_112 ⟨Nat.le_of_ble_eq_true rfl, Nat.le_of_ble_eq_true rfl⟩) (fun r112 h => ?_)
        obtain ⟨hin, h⟩ := h
        obtain ⟨y115, ey115⟩ : ∃ z : Nat → Int32, z = upd pO v2.toNatClampNeg r112 := ⟨_, rfl⟩
        have h := h y115 ey115
        refine va_iast hx hb hK hP hD hS 4 0 rfl rfl hin dX3_gather_115 (fun H locs hP hD hS => ?_)
        rw [← ey115] at hP hD
        have hP : va_P D vwCl (wP k aP pX pY pD y115 nP ++ wE k aE fX fY lX lY oP nE) H := hP
        have hD : va_D A (wP k aP pX pY pD y115 nP ++ wE k aE fX fY lX lY oP nE) := hD
        refine lv_iinc (v := (v2 + 1)) (lv' := [(2, .int (v2 + 1)), (0, .ref (aP 0)), (1, .ref (aE 0))]) hx hb dX3_gather_116 hl (k := 2) rfl rfl (by decide) rfl (fun ls hl => ?_)
        refine lv_goto (tgt := 77) hx hb dX3_gather_119 (by decide) ?_
        exact ih77 (v2 + 1) pX pY pD y115 nP _ _ _ h hP hD hS (lv_sub hl [1, 2, 0] rfl)
  have L75 : ∀ (pX : Nat → Int32) (pY : Nat → Int32) (pD : Nat → Int32) (pO : Nat → Int32) (nP : Int32) (H : Heap) (locs : List Loc) (ls : Array Slot), wp_X3_gather_L75 fX fY lX lY nE Q  pX pY pD pO nP → va_P D vwCl (wP k aP pX pY pD pO nP ++ wE k aE fX fY lX lY oP nE) H → va_D A (wP k aP pX pY pD pO nP ++ wE k aE fX fY lX lY oP nE) → va_S A s.heap H locs → lv_has ls 4 [(0, .ref (aP 0)), (1, .ref (aE 0))] → W p l e (headSpec wsX3_gather ({ frames := 4, cells := 0, slots := 0, locals := 107 })).room s m args below meth c H locs 0 0 GQ (F0 m 75 ls []) := by
    intro pX pY pD pO nP H locs ls h hP hD hS hl
    unfold wp_X3_gather_L75 at h
    refine lv_iconst (v := (0 : Int32)) hx hb dX3_gather_75 (by decide) ?_
    refine lv_istore_n (lv' := [(2, .int (0 : Int32)), (0, .ref (aP 0)), (1, .ref (aE 0))]) hx hb dX3_gather_76 rfl hl (by decide) rfl (fun ls hl => ?_)
    obtain ⟨n9, h⟩ := h
    exact L77 n9 (0 : Int32) pX pY pD pO nP _ _ _ h hP hD hS (lv_sub hl [1, 2, 0] rfl)
  have L7 : ∀ (n7 : Nat) (v2 : Int32) (pX : Nat → Int32) (pY : Nat → Int32) (pD : Nat → Int32) (pO : Nat → Int32) (nP : Int32) (H : Heap) (locs : List Loc) (ls : Array Slot), wp_X3_gather_L7 fX fY lX lY nE Q (fun pX pY pD pO nP => (wp_X3_gather_L75 fX fY lX lY nE Q  pX pY pD pO nP)) n7 v2 pX pY pD pO nP → va_P D vwCl (wP k aP pX pY pD pO nP ++ wE k aE fX fY lX lY oP nE) H → va_D A (wP k aP pX pY pD pO nP ++ wE k aE fX fY lX lY oP nE) → va_S A s.heap H locs → lv_has ls 4 [(0, .ref (aP 0)), (1, .ref (aE 0)), (2, .int v2)] → W p l e (headSpec wsX3_gather ({ frames := 4, cells := 0, slots := 0, locals := 107 })).room s m args below meth c H locs 0 0 GQ (F0 m 7 ls []) := by
    intro n7
    induction n7 with
    | zero => intro v2 pX pY pD pO nP H locs ls h hP hD hS hl; exact False.elim h
    | succ n7 ih7 =>
      have L69 : ∀ (v2 : Int32) (pX : Nat → Int32) (pY : Nat → Int32) (pD : Nat → Int32) (pO : Nat → Int32) (nP : Int32) (H : Heap) (locs : List Loc) (ls : Array Slot), wp_X3_gather_L69 fX fY lX lY nE Q (wp_X3_gather_L7 fX fY lX lY nE Q (fun pX pY pD pO nP => (wp_X3_gather_L75 fX fY lX lY nE Q  pX pY pD pO nP)) n7) v2 pX pY pD pO nP → va_P D vwCl (wP k aP pX pY pD pO nP ++ wE k aE fX fY lX lY oP nE) H → va_D A (wP k aP pX pY pD pO nP ++ wE k aE fX fY lX lY oP nE) → va_S A s.heap H locs → lv_has ls 4 [(0, .ref (aP 0)), (1, .ref (aE 0)), (2, .int v2)] → W p l e (headSpec wsX3_gather ({ frames := 4, cells := 0, slots := 0, locals := 107 })).room s m args below meth c H locs 0 0 GQ (F0 m 69 ls []) := by
        intro v2 pX pY pD pO nP H locs ls h hP hD hS hl
        unfold wp_X3_gather_L69 at h
        refine lv_iinc (v := (v2 + 1)) (lv' := [(2, .int (v2 + 1)), (0, .ref (aP 0)), (1, .ref (aE 0))]) hx hb dX3_gather_69 hl (k := 2) rfl rfl (by decide) rfl (fun ls hl => ?_)
        refine lv_goto (tgt := 7) hx hb dX3_gather_72 (by decide) ?_
        exact ih7 (v2 + 1) pX pY pD pO nP _ _ _ h hP hD hS (lv_sub hl [1, 2, 0] rfl)
      have L51 : ∀ (n51 : Nat) (v2 : Int32) (v3 : Int32) (pX : Nat → Int32) (pY : Nat → Int32) (pD : Nat → Int32) (pO : Nat → Int32) (nP : Int32) (H : Heap) (locs : List Loc) (ls : Array Slot), wp_X3_gather_L51 fX fY lX lY nE Q (fun v2 pX pY pD pO nP => (wp_X3_gather_L69 fX fY lX lY nE Q (wp_X3_gather_L7 fX fY lX lY nE Q (fun pX pY pD pO nP => (wp_X3_gather_L75 fX fY lX lY nE Q  pX pY pD pO nP)) n7) v2 pX pY pD pO nP)) n51 v2 v3 pX pY pD pO nP → va_P D vwCl (wP k aP pX pY pD pO nP ++ wE k aE fX fY lX lY oP nE) H → va_D A (wP k aP pX pY pD pO nP ++ wE k aE fX fY lX lY oP nE) → va_S A s.heap H locs → lv_has ls 4 [(0, .ref (aP 0)), (1, .ref (aE 0)), (2, .int v2), (3, .int v3)] → W p l e (headSpec wsX3_gather ({ frames := 4, cells := 0, slots := 0, locals := 107 })).room s m args below meth c H locs 0 0 GQ (F0 m 51 ls []) := by
        intro n51
        induction n51 with
        | zero => intro v2 v3 pX pY pD pO nP H locs ls h hP hD hS hl; exact False.elim h
        | succ n51 ih51 =>
          intro v2 v3 pX pY pD pO nP H locs ls h hP hD hS hl
          rw [wp_X3_gather_L51] at h
          refine lv_iload_n hx hb dX3_gather_51 rfl (lv_at hl 3 rfl) ?_
          refine lv_iload_n hx hb dX3_gather_52 rfl (lv_at hl 2 rfl) ?_
          refine lv_icmp_ge (tgt := 69) hx hb dX3_gather_53 (by decide) (fun cq => ?_) (fun cq => ?_)
          · have h := h.1 cq
            exact L69 v2 pX pY pD pO nP _ _ _ h hP hD hS (lv_sub hl [0, 1, 2] rfl)
          · have h := h.2 cq
            refine lv_aload_n hx hb dX3_gather_56 rfl (lv_at hl 0 rfl) ?_
            refine lv_aload_n hx hb dX3_gather_57 rfl (lv_at hl 1 rfl) ?_
            refine lv_iload_n hx hb dX3_gather_58 rfl (lv_at hl 2 rfl) ?_
            refine lv_iload_n hx hb dX3_gather_59 rfl (lv_at hl 3 rfl) ?_
            have hFc := va_free (wc := wP k aP pX pY pD pO nP ++ wE k aE fX fY lX lY oP nE) hD hS hA [0, 1, 2, 3, 4, 5, 6, 7, 8, 9, 10] rfl
            refine va_callv (va_runV (C := RX3) (b := (aP 0)) (As := [.ref (aE 0), .int v2, .int v3]) (rest := []) ⟨hx, hb, hml, hown, hts⟩ (m_X3_addMeeting l D k aE aP pX pY pD pO nP fX fY lX lY oP nE v2 v3 _ _ h) (cwV 3 hts gX3_gather_X3_addMeeting rfl rfl rfl (by decide +kernel) ⟨Nat.le_of_ble_eq_true rfl, Nat.le_of_ble_eq_true rfl⟩) (preV_rw (ci := 3) (q0 := 0) (C := RX3) (T := TX3) (N := 5) hE hP hD rfl rfl) rfl rfl hl.1 rfl (lv_room (Nat.le_of_ble_eq_true rfl)) dX3_gather_60 ⟨Nat.le_of_ble_eq_true rfl, Nat.le_of_ble_eq_true rfl⟩) hS (fun q _ h => hFc q h) hFc (fun u t H1 locs ht hvm h hB hz1 hk1 hS => ?_)
            obtain ⟨pX_60, pY_60, pD_60, nP_60⟩ := u
            obtain ⟨hP1, hD1⟩ := hB
            rw [ht] at hP1
            obtain ⟨hP, hD⟩ := va_join (wr := ([] : va_W)) (w1 := wP k aP pX_60 pY_60 pD_60 pO nP_60 ++ wE k aE fX fY lX lY oP nE) hP hD [0, 1, 2, 3, 4, 5, 6, 7, 8, 9, 10] [] rfl rfl (by decide) (by decide) hk1 hFc hP1 hD1
            generalize H1 = H at hP hS ⊢
            have hP : va_P D vwCl (wP k aP pX_60 pY_60 pD_60 pO nP_60 ++ wE k aE fX fY lX lY oP nE) H := hP.sub [0, 1, 2, 3, 4, 5, 6, 7, 8, 9, 10] rfl
            have hD : va_D A (wP k aP pX_60 pY_60 pD_60 pO nP_60 ++ wE k aE fX fY lX lY oP nE) := hD.sub [0, 1, 2, 3, 4, 5, 6, 7, 8, 9, 10] (by decide) rfl
            refine lv_iinc (v := (v3 + 1)) (lv' := [(3, .int (v3 + 1)), (0, .ref (aP 0)), (1, .ref (aE 0)), (2, .int v2)]) hx hb dX3_gather_63 hl (k := 3) rfl rfl (by decide) rfl (fun ls hl => ?_)
            refine lv_goto (tgt := 51) hx hb dX3_gather_66 (by decide) ?_
            exact ih51 v2 (v3 + 1) pX_60 pY_60 pD_60 pO nP_60 _ _ _ h hP hD hS (lv_sub hl [1, 2, 3, 0] rfl)
      intro v2 pX pY pD pO nP H locs ls h hP hD hS hl
      rw [wp_X3_gather_L7] at h
      refine lv_iload_n hx hb dX3_gather_7 rfl (lv_at hl 2 rfl) ?_
      refine lv_aload_n hx hb dX3_gather_8 rfl (lv_at hl 1 rfl) ?_
      refine va_getN (D := D) (ci := 0) (v := .int nE) (C := RX0) (T := TX0) (N := 6) (host := "PlaneOverlay") hx hb hts hiX0 hown hK hP 5 rfl rfl 5 (by decide) (f28 _) (fun _ h9 => h9) rfl dX3_gather_9 ?_
      refine lv_icmp_ge (tgt := 75) hx hb dX3_gather_12 (by decide) (fun cq => ?_) (fun cq => ?_)
      · have h := h.1 cq
        exact L75 pX pY pD pO nP _ _ _ h hP hD hS (lv_sub hl [0, 1] rfl)
      · have h := h.2 cq
        refine lv_aload_n hx hb dX3_gather_15 rfl (lv_at hl 0 rfl) ?_
        refine lv_aload_n hx hb dX3_gather_16 rfl (lv_at hl 1 rfl) ?_
        refine va_getN (D := D) (ci := 0) (v := .ref (aE 1)) (C := RX0) (T := TX0) (N := 6) (host := "PlaneOverlay") hx hb hts hiX0 hown hK hP 5 rfl rfl 0 (by decide) (f31 _) (fun _ h9 => h9) rfl dX3_gather_17 ?_
        refine lv_iload_n hx hb dX3_gather_20 rfl (lv_at hl 2 rfl) ?_
        obtain ⟨hin, h⟩ := h
        refine va_iald hx hb hK hP 6 0 rfl rfl hin dX3_gather_21 ?_
        refine lv_aload_n hx hb dX3_gather_22 rfl (lv_at hl 1 rfl) ?_
        refine va_getN (D := D) (ci := 0) (v := .ref (aE 2)) (C := RX0) (T := TX0) (N := 6) (host := "PlaneOverlay") hx hb hts hiX0 hown hK hP 5 rfl rfl 1 (by decide) (f34 _) (fun _ h9 => h9) rfl dX3_gather_23 ?_
        refine lv_iload_n hx hb dX3_gather_26 rfl (lv_at hl 2 rfl) ?_
        obtain ⟨hin, h⟩ := h
        refine va_iald hx hb hK hP 7 0 rfl rfl hin dX3_gather_27 ?_
        refine lv_iconst (v := (1 : Int32)) hx hb dX3_gather_28 (by decide) ?_
        have hPc := hP.sub (ws' := wP k aP pX pY pD pO nP) [0, 1, 2, 3, 4] rfl
        have hDc := hD.sub (ws' := wP k aP pX pY pD pO nP) [0, 1, 2, 3, 4] (by decide) rfl
        have hFc := va_free (wc := wP k aP pX pY pD pO nP) hD hS hA [0, 1, 2, 3, 4] rfl
        refine va_callv (va_runV (C := RX3) (b := (aP 0)) (As := [.int (fX v2.toNatClampNeg), .int (fY v2.toNatClampNeg), .int (1 : Int32)]) (rest := []) ⟨hx, hb, hml, hown, hts⟩ (m_X3_insert l D k aP pX pY pD pO nP (fX v2.toNatClampNeg) (fY v2.toNatClampNeg) (1 : Int32) _ _ h) (cwV 3 hts gX3_gather_X3_insert rfl rfl rfl (by decide +kernel) ⟨Nat.le_of_ble_eq_true rfl, Nat.le_of_ble_eq_true rfl⟩) (preV_rw (ci := 3) (q0 := 0) (C := RX3) (T := TX3) (N := 5) hE hPc hDc rfl rfl) rfl rfl hl.1 rfl (lv_room (Nat.le_of_ble_eq_true rfl)) dX3_gather_29 ⟨Nat.le_of_ble_eq_true rfl, Nat.le_of_ble_eq_true rfl⟩) hS (fun q _ h => hFc q h) hFc (fun u t H1 locs ht hvm h hB hz1 hk1 hS => ?_)
        obtain ⟨pX_29, pY_29, pD_29, nP_29⟩ := u
        obtain ⟨hP1, hD1⟩ := hB
        rw [ht] at hP1
        obtain ⟨hP, hD⟩ := va_join (wr := wE k aE fX fY lX lY oP nE) (w1 := wP k aP pX_29 pY_29 pD_29 pO nP_29) hP hD [0, 1, 2, 3, 4] [5, 6, 7, 8, 9, 10] rfl rfl (by decide) (by decide) hk1 hFc hP1 hD1
        generalize H1 = H at hP hS ⊢
        have hP : va_P D vwCl (wP k aP pX_29 pY_29 pD_29 pO nP_29 ++ wE k aE fX fY lX lY oP nE) H := hP.sub [6, 7, 8, 9, 10, 0, 1, 2, 3, 4, 5] rfl
        have hD : va_D A (wP k aP pX_29 pY_29 pD_29 pO nP_29 ++ wE k aE fX fY lX lY oP nE) := hD.sub [6, 7, 8, 9, 10, 0, 1, 2, 3, 4, 5] (by decide) rfl
        refine lv_aload_n hx hb dX3_gather_32 rfl (lv_at hl 0 rfl) ?_
        refine lv_aload_n hx hb dX3_gather_33 rfl (lv_at hl 1 rfl) ?_
        refine va_getN (D := D) (ci := 0) (v := .ref (aE 3)) (C := RX0) (T := TX0) (N := 6) (host := "PlaneOverlay") hx hb hts hiX0 hown hK hP 5 rfl rfl 2 (by decide) (f41 _) (fun _ h9 => h9) rfl dX3_gather_34 ?_
        refine lv_iload_n hx hb dX3_gather_37 rfl (lv_at hl 2 rfl) ?_
        obtain ⟨hin, h⟩ := h
        refine va_iald hx hb hK hP 8 0 rfl rfl hin dX3_gather_38 ?_
        refine lv_aload_n hx hb dX3_gather_39 rfl (lv_at hl 1 rfl) ?_
        refine va_getN (D := D) (ci := 0) (v := .ref (aE 4)) (C := RX0) (T := TX0) (N := 6) (host := "PlaneOverlay") hx hb hts hiX0 hown hK hP 5 rfl rfl 3 (by decide) (f44 _) (fun _ h9 => h9) rfl dX3_gather_40 ?_
        refine lv_iload_n hx hb dX3_gather_43 rfl (lv_at hl 2 rfl) ?_
        obtain ⟨hin, h⟩ := h
        refine va_iald hx hb hK hP 9 0 rfl rfl hin dX3_gather_44 ?_
        refine lv_iconst (v := (1 : Int32)) hx hb dX3_gather_45 (by decide) ?_
        have hPc := hP.sub (ws' := wP k aP pX_29 pY_29 pD_29 pO nP_29) [0, 1, 2, 3, 4] rfl
        have hDc := hD.sub (ws' := wP k aP pX_29 pY_29 pD_29 pO nP_29) [0, 1, 2, 3, 4] (by decide) rfl
        have hFc := va_free (wc := wP k aP pX_29 pY_29 pD_29 pO nP_29) hD hS hA [0, 1, 2, 3, 4] rfl
        refine va_callv (va_runV (C := RX3) (b := (aP 0)) (As := [.int (lX v2.toNatClampNeg), .int (lY v2.toNatClampNeg), .int (1 : Int32)]) (rest := []) ⟨hx, hb, hml, hown, hts⟩ (m_X3_insert l D k aP pX_29 pY_29 pD_29 pO nP_29 (lX v2.toNatClampNeg) (lY v2.toNatClampNeg) (1 : Int32) _ _ h) (cwV 3 hts gX3_gather_X3_insert rfl rfl rfl (by decide +kernel) ⟨Nat.le_of_ble_eq_true rfl, Nat.le_of_ble_eq_true rfl⟩) (preV_rw (ci := 3) (q0 := 0) (C := RX3) (T := TX3) (N := 5) hE hPc hDc rfl rfl) rfl rfl hl.1 rfl (lv_room (Nat.le_of_ble_eq_true rfl)) dX3_gather_46 ⟨Nat.le_of_ble_eq_true rfl, Nat.le_of_ble_eq_true rfl⟩) hS (fun q _ h => hFc q h) hFc (fun u t H1 locs ht hvm h hB hz1 hk1 hS => ?_)
        obtain ⟨pX_46, pY_46, pD_46, nP_46⟩ := u
        obtain ⟨hP1, hD1⟩ := hB
        rw [ht] at hP1
        obtain ⟨hP, hD⟩ := va_join (wr := wE k aE fX fY lX lY oP nE) (w1 := wP k aP pX_46 pY_46 pD_46 pO nP_46) hP hD [0, 1, 2, 3, 4] [5, 6, 7, 8, 9, 10] rfl rfl (by decide) (by decide) hk1 hFc hP1 hD1
        generalize H1 = H at hP hS ⊢
        have hP : va_P D vwCl (wP k aP pX_46 pY_46 pD_46 pO nP_46 ++ wE k aE fX fY lX lY oP nE) H := hP.sub [6, 7, 8, 9, 10, 0, 1, 2, 3, 4, 5] rfl
        have hD : va_D A (wP k aP pX_46 pY_46 pD_46 pO nP_46 ++ wE k aE fX fY lX lY oP nE) := hD.sub [6, 7, 8, 9, 10, 0, 1, 2, 3, 4, 5] (by decide) rfl
        refine lv_iconst (v := (0 : Int32)) hx hb dX3_gather_49 (by decide) ?_
        refine lv_istore_n (lv' := [(3, .int (0 : Int32)), (0, .ref (aP 0)), (1, .ref (aE 0)), (2, .int v2)]) hx hb dX3_gather_50 rfl hl (by decide) rfl (fun ls hl => ?_)
        obtain ⟨n9, h⟩ := h
        exact L51 n9 v2 (0 : Int32) pX_46 pY_46 pD_46 pO nP_46 _ _ _ h hP hD hS (lv_sub hl [1, 2, 3, 0] rfl)
  unfold wp_X3_gather at h
  refine lv_aload_n hx hb dX3_gather_0 rfl (lv_at hl 0 rfl) ?_
  refine lv_iconst (v := (0 : Int32)) hx hb dX3_gather_1 (by decide) ?_
  refine va_put (D := D) (ci := 3) (v := .int (0 : Int32)) (ty := .int) (C := RX3) (T := TX3) (N := 5) hx hb hts hiX3 tyX3 tyX3_ok nmX3 hown hK hP hD hS 0 rfl rfl 4 (by decide) f24 (fun _ h9 => h9) rfl (by decide +kernel) rfl rfl (Nat.le_of_ble_eq_true rfl) dX3_gather_2 (fun H locs hP hD hS => ?_)
  have hP : va_P D vwCl (wP k aP pX pY pD pO (0 : Int32) ++ wE k aE fX fY lX lY oP nE) H := hP
  have hD : va_D A (wP k aP pX pY pD pO (0 : Int32) ++ wE k aE fX fY lX lY oP nE) := hD
  refine lv_iconst (v := (0 : Int32)) hx hb dX3_gather_5 (by decide) ?_
  refine lv_istore_n (lv' := [(2, .int (0 : Int32)), (0, .ref (aP 0)), (1, .ref (aE 0))]) hx hb dX3_gather_6 rfl hl (by decide) rfl (fun ls hl => ?_)
  obtain ⟨n9, h⟩ := h
  exact L7 n9 (0 : Int32) pX pY pD pO (0 : Int32) _ _ _ h hP hD hS (lv_sub hl [1, 2, 0] rfl)
set_option maxHeartbeats 4000000 in
set_option maxRecDepth 100000 in
theorem m_X3_firstOnBoth (l : Launch) (D : va_G) (k : Nat → ClassId) (aP : Nat → Nat) (pX : Nat → Int32) (pY : Nat → Int32) (pD : Nat → Int32) (pO : Nat → Int32) (nP : Int32) (p0 : Int32) (p1 : Int32) (Q : Int32 → Prop) (h : wp_X3_firstOnBoth p0 p1 pO nP Q) : Met l yX3_firstOnBoth wsX3_firstOnBoth ({ frames := 0, cells := 0, slots := 0, locals := 0 }) (Pro D k [.ref (aP 0), .int p0, .int p1] (wP k aP pX pY pD pO nP)) (vp_Si Q) 0 0 (fun _ => False) := by
  refine Met.ofW (cc := cX3_firstOnBoth) (maxL := 5) (ret := (some .int)) (by decide) rfl ?_
  intro p e s m args below meth c s₁ B hml hv
  obtain ⟨hav, hP, hE⟩ := hv
  have hx := B.exec
  have hb := B.bytes
  have hr := B.returns
  have hts := atoms_spec (ws := wsX3_firstOnBoth) B.pre
  have hown : s.vm.findClass RX3 = some m.cls := findClass_of_methodNamed B.named
  have hlocks := B.notSynchronized
  have hK := hE.1
  have hl := lv_entry ([.ref (aP 0), .int p0, .int p1]) (n := 5) (Nat.le_of_ble_eq_true rfl)
  rw [show entryFrame m args 5 = entryFrame m ([.ref (aP 0), .int p0, .int p1] : List Value).toArray 5 by rw [hav]]
  rw [lg_entry_eq]
  refine W.gq (fun GQ hGQ => ?_)
  generalize (lg_sl ([.ref (aP 0), .int p0, .int p1]) ++ List.replicate (5 - (lg_sl ([.ref (aP 0), .int p0, .int p1])).length) Slot.unset).toArray = ls at hl ⊢
  have hl : lv_has ls 5 [(0, .ref (aP 0)), (1, .int p0), (2, .int p1)] := hl
  have hiX3 := (by decide +kernel : ∀ w ∈ wsX30, w ∈ wsX3_firstOnBoth)
  have f24 := hts (.fieldLink RX3 24 "PlaneOverlay$Points" "count" "I") (by decide +kernel)
  have f21 := hts (.fieldLink RX3 21 "PlaneOverlay$Points" "onEdges" "[I") (by decide +kernel)
  have L11 : ∀ (n11 : Nat) (v3 : Int32) (v4 : Int32) (ls : Array Slot), wp_X3_firstOnBoth_L11 p0 p1 pO nP Q  n11 v3 v4 → lv_has ls 5 [(0, .ref (aP 0)), (3, .int v3), (4, .int v4)] → W p l e (headSpec wsX3_firstOnBoth ({ frames := 0, cells := 0, slots := 0, locals := 0 })).room s m args below meth c s.heap [] 0 0 GQ (F0 m 11 ls []) := by
    intro n11
    induction n11 with
    | zero => intro v3 v4 ls h hl; exact False.elim h
    | succ n11 ih11 =>
      intro v3 v4 ls h hl
      rw [wp_X3_firstOnBoth_L11] at h
      refine lv_iload hx hb dX3_firstOnBoth_11 (lv_at hl 2 rfl) ?_
      refine lv_aload_n hx hb dX3_firstOnBoth_13 rfl (lv_at hl 0 rfl) ?_
      refine va_get (D := D) (ci := 3) (v := .int nP) (C := RX3) (T := TX3) (N := 5) hx hb hts hiX3 hown hK hP 0 rfl rfl 4 (by decide) f24 (fun _ h9 => h9) rfl dX3_firstOnBoth_14 ?_
      refine lv_icmp_ge (tgt := 42) hx hb dX3_firstOnBoth_17 (by decide) (fun cq => ?_) (fun cq => ?_)
      · have h := h.1 cq
        refine lv_iconst (v := (-1 : Int32)) hx hb dX3_firstOnBoth_42 (by decide) ?_
        rw [hGQ]
        exact W.iret (v := (-1 : Int32)) hx hb hr (fun t ht hW => ⟨_, rfl, h, ht⟩) (fun _ h => by cases h) dX3_firstOnBoth_43
      · have h := h.2 cq
        refine lv_aload_n hx hb dX3_firstOnBoth_20 rfl (lv_at hl 0 rfl) ?_
        refine va_get (D := D) (ci := 3) (v := .ref (aP 4)) (C := RX3) (T := TX3) (N := 5) hx hb hts hiX3 hown hK hP 0 rfl rfl 3 (by decide) f21 (fun _ h9 => h9) rfl dX3_firstOnBoth_21 ?_
        refine lv_iload hx hb dX3_firstOnBoth_24 (lv_at hl 2 rfl) ?_
        obtain ⟨hin, h⟩ := h
        refine va_iald hx hb hK hP 4 0 rfl rfl hin dX3_firstOnBoth_26 ?_
        refine lv_iload_n hx hb dX3_firstOnBoth_27 rfl (lv_at hl 1 rfl) ?_
        refine lv_iand hx hb dX3_firstOnBoth_28 ?_
        refine lv_iload_n hx hb dX3_firstOnBoth_29 rfl (lv_at hl 1 rfl) ?_
        refine lv_icmp_ne (tgt := 36) hx hb dX3_firstOnBoth_30 (by decide) (fun cq => ?_) (fun cq => ?_)
        · have h := h.1 cq
          refine lv_iinc (v := (v4 + 1)) (lv' := [(4, .int (v4 + 1)), (0, .ref (aP 0)), (3, .int v3)]) hx hb dX3_firstOnBoth_36 hl (k := 2) rfl rfl (by decide) rfl (fun ls hl => ?_)
          refine lv_goto (tgt := 11) hx hb dX3_firstOnBoth_39 (by decide) ?_
          exact ih11 v3 (v4 + 1) _ h (lv_sub hl [1, 2, 0] rfl)
        · have h := h.2 cq
          refine lv_iload hx hb dX3_firstOnBoth_33 (lv_at hl 2 rfl) ?_
          rw [hGQ]
          exact W.iret (v := v4) hx hb hr (fun t ht hW => ⟨_, rfl, h, ht⟩) (fun _ h => by cases h) dX3_firstOnBoth_35
  unfold wp_X3_firstOnBoth at h
  refine lv_iconst (v := (1 : Int32)) hx hb dX3_firstOnBoth_0 (by decide) ?_
  refine lv_iload_n hx hb dX3_firstOnBoth_1 rfl (lv_at hl 1 rfl) ?_
  refine lv_ishl hx hb dX3_firstOnBoth_2 ?_
  refine lv_iconst (v := (1 : Int32)) hx hb dX3_firstOnBoth_3 (by decide) ?_
  refine lv_iload_n hx hb dX3_firstOnBoth_4 rfl (lv_at hl 2 rfl) ?_
  refine lv_ishl hx hb dX3_firstOnBoth_5 ?_
  refine lv_ior hx hb dX3_firstOnBoth_6 ?_
  refine lv_topi (fun x7 ex7 => ?_)
  have h := h x7 ex7
  refine lv_istore_n (lv' := [(3, .int x7), (0, .ref (aP 0)), (1, .int p0), (2, .int p1)]) hx hb dX3_firstOnBoth_7 rfl hl (by decide) rfl (fun ls hl => ?_)
  refine lv_iconst (v := (0 : Int32)) hx hb dX3_firstOnBoth_8 (by decide) ?_
  refine lv_istore (lv' := [(4, .int (0 : Int32)), (3, .int x7), (0, .ref (aP 0)), (1, .int p0), (2, .int p1)]) hx hb dX3_firstOnBoth_9 hl (by decide) rfl (fun ls hl => ?_)
  obtain ⟨n9, h⟩ := h
  exact L11 n9 x7 (0 : Int32) _ h (lv_sub hl [2, 1, 0] rfl)
set_option maxHeartbeats 4000000 in
set_option maxRecDepth 100000 in
theorem m_X3_lastOnBoth (l : Launch) (D : va_G) (k : Nat → ClassId) (aP : Nat → Nat) (pX : Nat → Int32) (pY : Nat → Int32) (pD : Nat → Int32) (pO : Nat → Int32) (nP : Int32) (p0 : Int32) (p1 : Int32) (Q : Int32 → Prop) (h : wp_X3_lastOnBoth p0 p1 pO nP Q) : Met l yX3_lastOnBoth wsX3_lastOnBoth ({ frames := 0, cells := 0, slots := 0, locals := 0 }) (Pro D k [.ref (aP 0), .int p0, .int p1] (wP k aP pX pY pD pO nP)) (vp_Si Q) 0 0 (fun _ => False) := by
  refine Met.ofW (cc := cX3_lastOnBoth) (maxL := 5) (ret := (some .int)) (by decide) rfl ?_
  intro p e s m args below meth c s₁ B hml hv
  obtain ⟨hav, hP, hE⟩ := hv
  have hx := B.exec
  have hb := B.bytes
  have hr := B.returns
  have hts := atoms_spec (ws := wsX3_lastOnBoth) B.pre
  have hown : s.vm.findClass RX3 = some m.cls := findClass_of_methodNamed B.named
  have hlocks := B.notSynchronized
  have hK := hE.1
  have hl := lv_entry ([.ref (aP 0), .int p0, .int p1]) (n := 5) (Nat.le_of_ble_eq_true rfl)
  rw [show entryFrame m args 5 = entryFrame m ([.ref (aP 0), .int p0, .int p1] : List Value).toArray 5 by rw [hav]]
  rw [lg_entry_eq]
  refine W.gq (fun GQ hGQ => ?_)
  generalize (lg_sl ([.ref (aP 0), .int p0, .int p1]) ++ List.replicate (5 - (lg_sl ([.ref (aP 0), .int p0, .int p1])).length) Slot.unset).toArray = ls at hl ⊢
  have hl : lv_has ls 5 [(0, .ref (aP 0)), (1, .int p0), (2, .int p1)] := hl
  have hiX3 := (by decide +kernel : ∀ w ∈ wsX30, w ∈ wsX3_lastOnBoth)
  have f21 := hts (.fieldLink RX3 21 "PlaneOverlay$Points" "onEdges" "[I") (by decide +kernel)
  have f24 := hts (.fieldLink RX3 24 "PlaneOverlay$Points" "count" "I") (by decide +kernel)
  have L16 : ∀ (n16 : Nat) (v3 : Int32) (v4 : Int32) (ls : Array Slot), wp_X3_lastOnBoth_L16 p0 p1 pO nP Q  n16 v3 v4 → lv_has ls 5 [(0, .ref (aP 0)), (3, .int v3), (4, .int v4)] → W p l e (headSpec wsX3_lastOnBoth ({ frames := 0, cells := 0, slots := 0, locals := 0 })).room s m args below meth c s.heap [] 0 0 GQ (F0 m 16 ls []) := by
    intro n16
    induction n16 with
    | zero => intro v3 v4 ls h hl; exact False.elim h
    | succ n16 ih16 =>
      intro v3 v4 ls h hl
      rw [wp_X3_lastOnBoth_L16] at h
      refine lv_iload hx hb dX3_lastOnBoth_16 (lv_at hl 2 rfl) ?_
      refine lv_if_lt (tgt := 43) hx hb dX3_lastOnBoth_18 (by decide) (fun cq => ?_) (fun cq => ?_)
      · have h := h.1 cq
        refine lv_iconst (v := (-1 : Int32)) hx hb dX3_lastOnBoth_43 (by decide) ?_
        rw [hGQ]
        exact W.iret (v := (-1 : Int32)) hx hb hr (fun t ht hW => ⟨_, rfl, h, ht⟩) (fun _ h => by cases h) dX3_lastOnBoth_44
      · have h := h.2 cq
        refine lv_aload_n hx hb dX3_lastOnBoth_21 rfl (lv_at hl 0 rfl) ?_
        refine va_get (D := D) (ci := 3) (v := .ref (aP 4)) (C := RX3) (T := TX3) (N := 5) hx hb hts hiX3 hown hK hP 0 rfl rfl 3 (by decide) f21 (fun _ h9 => h9) rfl dX3_lastOnBoth_22 ?_
        refine lv_iload hx hb dX3_lastOnBoth_25 (lv_at hl 2 rfl) ?_
        obtain ⟨hin, h⟩ := h
        refine va_iald hx hb hK hP 4 0 rfl rfl hin dX3_lastOnBoth_27 ?_
        refine lv_iload_n hx hb dX3_lastOnBoth_28 rfl (lv_at hl 1 rfl) ?_
        refine lv_iand hx hb dX3_lastOnBoth_29 ?_
        refine lv_iload_n hx hb dX3_lastOnBoth_30 rfl (lv_at hl 1 rfl) ?_
        refine lv_icmp_ne (tgt := 37) hx hb dX3_lastOnBoth_31 (by decide) (fun cq => ?_) (fun cq => ?_)
        · have h := h.1 cq
          refine lv_iinc (v := (v4 + (-1))) (lv' := [(4, .int (v4 + (-1))), (0, .ref (aP 0)), (3, .int v3)]) hx hb dX3_lastOnBoth_37 hl (k := 2) rfl (by rw [show Int32.ofInt (-1) = -1 by decide]) (by decide) rfl (fun ls hl => ?_)
          refine lv_goto (tgt := 16) hx hb dX3_lastOnBoth_40 (by decide) ?_
          exact ih16 v3 (v4 + (-1)) _ h (lv_sub hl [1, 2, 0] rfl)
        · have h := h.2 cq
          refine lv_iload hx hb dX3_lastOnBoth_34 (lv_at hl 2 rfl) ?_
          rw [hGQ]
          exact W.iret (v := v4) hx hb hr (fun t ht hW => ⟨_, rfl, h, ht⟩) (fun _ h => by cases h) dX3_lastOnBoth_36
  unfold wp_X3_lastOnBoth at h
  refine lv_iconst (v := (1 : Int32)) hx hb dX3_lastOnBoth_0 (by decide) ?_
  refine lv_iload_n hx hb dX3_lastOnBoth_1 rfl (lv_at hl 1 rfl) ?_
  refine lv_ishl hx hb dX3_lastOnBoth_2 ?_
  refine lv_iconst (v := (1 : Int32)) hx hb dX3_lastOnBoth_3 (by decide) ?_
  refine lv_iload_n hx hb dX3_lastOnBoth_4 rfl (lv_at hl 2 rfl) ?_
  refine lv_ishl hx hb dX3_lastOnBoth_5 ?_
  refine lv_ior hx hb dX3_lastOnBoth_6 ?_
  refine lv_topi (fun x7 ex7 => ?_)
  have h := h x7 ex7
  refine lv_istore_n (lv' := [(3, .int x7), (0, .ref (aP 0)), (1, .int p0), (2, .int p1)]) hx hb dX3_lastOnBoth_7 rfl hl (by decide) rfl (fun ls hl => ?_)
  refine lv_aload_n hx hb dX3_lastOnBoth_8 rfl (lv_at hl 1 rfl) ?_
  refine va_get (D := D) (ci := 3) (v := .int nP) (C := RX3) (T := TX3) (N := 5) hx hb hts hiX3 hown hK hP 0 rfl rfl 4 (by decide) f24 (fun _ h9 => h9) rfl dX3_lastOnBoth_9 ?_
  refine lv_iconst (v := (1 : Int32)) hx hb dX3_lastOnBoth_12 (by decide) ?_
  refine lv_isub hx hb dX3_lastOnBoth_13 ?_
  refine lv_topi (fun x14 ex14 => ?_)
  have h := h x14 ex14
  refine lv_istore (lv' := [(4, .int x14), (3, .int x7), (0, .ref (aP 0)), (1, .int p0), (2, .int p1)]) hx hb dX3_lastOnBoth_14 hl (by decide) rfl (fun ls hl => ?_)
  obtain ⟨n9, h⟩ := h
  exact L16 n9 x7 x14 _ h (lv_sub hl [2, 1, 0] rfl)
set_option maxHeartbeats 4000000 in
set_option maxRecDepth 100000 in
theorem m_X3_doubleArea (l : Launch) (D : va_G) (k : Nat → ClassId) (aP : Nat → Nat) (pX : Nat → Int32) (pY : Nat → Int32) (pD : Nat → Int32) (pO : Nat → Int32) (nP : Int32) (p0 : Int32) (p1 : Int32) (Q : UInt64 → Prop) (h : wp_X3_doubleArea p0 p1 pX pY pD Q) : Met l yX3_doubleArea wsX3_doubleArea ({ frames := 0, cells := 0, slots := 0, locals := 0 }) (Pro D k [.ref (aP 0), .int p0, .int p1] (wP k aP pX pY pD pO nP)) (vp_Sd Q) 0 0 (fun _ => False) := by
  refine Met.ofW (cc := cX3_doubleArea) (maxL := 7) (ret := (some .double)) (by decide) rfl ?_
  intro p e s m args below meth c s₁ B hml hv
  obtain ⟨hav, hP, hE⟩ := hv
  have hx := B.exec
  have hb := B.bytes
  have hr := B.returns
  have hts := atoms_spec (ws := wsX3_doubleArea) B.pre
  have hown : s.vm.findClass RX3 = some m.cls := findClass_of_methodNamed B.named
  have hlocks := B.notSynchronized
  have hK := hE.1
  have hl := lv_entry ([.ref (aP 0), .int p0, .int p1]) (n := 7) (Nat.le_of_ble_eq_true rfl)
  rw [show entryFrame m args 7 = entryFrame m ([.ref (aP 0), .int p0, .int p1] : List Value).toArray 7 by rw [hav]]
  rw [lg_entry_eq]
  refine W.gq (fun GQ hGQ => ?_)
  generalize (lg_sl ([.ref (aP 0), .int p0, .int p1]) ++ List.replicate (7 - (lg_sl ([.ref (aP 0), .int p0, .int p1])).length) Slot.unset).toArray = ls at hl ⊢
  have hl : lv_has ls 7 [(0, .ref (aP 0)), (1, .int p0), (2, .int p1)] := hl
  have hiX3 := (by decide +kernel : ∀ w ∈ wsX30, w ∈ wsX3_doubleArea)
  have f9 := hts (.fieldLink RX3 9 "PlaneOverlay$Points" "x" "[I") (by decide +kernel)
  have f15 := hts (.fieldLink RX3 15 "PlaneOverlay$Points" "y" "[I") (by decide +kernel)
  have f18 := hts (.fieldLink RX3 18 "PlaneOverlay$Points" "d" "[I") (by decide +kernel)
  have L66 : ∀ (z0 : UInt64) (ls : Array Slot), wp_X3_doubleArea_L66 p0 p1 pX pY pD Q  z0 → lv_has ls 7 [] → W p l e (headSpec wsX3_doubleArea ({ frames := 0, cells := 0, slots := 0, locals := 0 })).room s m args below meth c s.heap [] 0 0 GQ (F0 m 66 ls [.double z0]) := by
    intro z0 ls h hl
    unfold wp_X3_doubleArea_L66 at h
    rw [hGQ]
    exact W.dret (v := z0) hx hb hr (fun t ht hW => ⟨_, rfl, h, ht⟩) (fun _ h => by cases h) dX3_doubleArea_66
  unfold wp_X3_doubleArea at h
  refine lv_aload_n hx hb dX3_doubleArea_0 rfl (lv_at hl 0 rfl) ?_
  refine va_get (D := D) (ci := 3) (v := .ref (aP 1)) (C := RX3) (T := TX3) (N := 5) hx hb hts hiX3 hown hK hP 0 rfl rfl 0 (by decide) f9 (fun _ h9 => h9) rfl dX3_doubleArea_1 ?_
  refine lv_iload_n hx hb dX3_doubleArea_4 rfl (lv_at hl 1 rfl) ?_
  obtain ⟨hin, h⟩ := h
  refine va_iald hx hb hK hP 1 0 rfl rfl hin dX3_doubleArea_5 ?_
  refine lv_i2l hx hb dX3_doubleArea_6 rfl ?_
  refine lv_aload_n hx hb dX3_doubleArea_7 rfl (lv_at hl 0 rfl) ?_
  refine va_get (D := D) (ci := 3) (v := .ref (aP 2)) (C := RX3) (T := TX3) (N := 5) hx hb hts hiX3 hown hK hP 0 rfl rfl 1 (by decide) f15 (fun _ h9 => h9) rfl dX3_doubleArea_8 ?_
  refine lv_iload_n hx hb dX3_doubleArea_11 rfl (lv_at hl 2 rfl) ?_
  obtain ⟨hin, h⟩ := h
  refine va_iald hx hb hK hP 2 0 rfl rfl hin dX3_doubleArea_12 ?_
  refine lv_i2l hx hb dX3_doubleArea_13 rfl ?_
  refine lv_lmul hx hb dX3_doubleArea_14 ?_
  refine lv_aload_n hx hb dX3_doubleArea_15 rfl (lv_at hl 0 rfl) ?_
  refine va_get (D := D) (ci := 3) (v := .ref (aP 1)) (C := RX3) (T := TX3) (N := 5) hx hb hts hiX3 hown hK hP 0 rfl rfl 0 (by decide) f9 (fun _ h9 => h9) rfl dX3_doubleArea_16 ?_
  refine lv_iload_n hx hb dX3_doubleArea_19 rfl (lv_at hl 2 rfl) ?_
  obtain ⟨hin, h⟩ := h
  refine va_iald hx hb hK hP 1 0 rfl rfl hin dX3_doubleArea_20 ?_
  refine lv_i2l hx hb dX3_doubleArea_21 rfl ?_
  refine lv_aload_n hx hb dX3_doubleArea_22 rfl (lv_at hl 0 rfl) ?_
  refine va_get (D := D) (ci := 3) (v := .ref (aP 2)) (C := RX3) (T := TX3) (N := 5) hx hb hts hiX3 hown hK hP 0 rfl rfl 1 (by decide) f15 (fun _ h9 => h9) rfl dX3_doubleArea_23 ?_
  refine lv_iload_n hx hb dX3_doubleArea_26 rfl (lv_at hl 1 rfl) ?_
  obtain ⟨hin, h⟩ := h
  refine va_iald hx hb hK hP 2 0 rfl rfl hin dX3_doubleArea_27 ?_
  refine lv_i2l hx hb dX3_doubleArea_28 rfl ?_
  refine lv_lmul hx hb dX3_doubleArea_29 ?_
  refine lv_lsub hx hb dX3_doubleArea_30 ?_
  refine lv_topl (fun x31 ex31 => ?_)
  have h := h x31 ex31
  refine lv_lstore_n (lv' := [(3, .long x31), (0, .ref (aP 0)), (1, .int p0), (2, .int p1)]) hx hb dX3_doubleArea_31 rfl hl (by decide) rfl (fun ls hl => ?_)
  refine lv_aload_n hx hb dX3_doubleArea_32 rfl (lv_at hl 1 rfl) ?_
  refine va_get (D := D) (ci := 3) (v := .ref (aP 3)) (C := RX3) (T := TX3) (N := 5) hx hb hts hiX3 hown hK hP 0 rfl rfl 2 (by decide) f18 (fun _ h9 => h9) rfl dX3_doubleArea_33 ?_
  refine lv_iload_n hx hb dX3_doubleArea_36 rfl (lv_at hl 2 rfl) ?_
  obtain ⟨hin, h⟩ := h
  refine va_iald hx hb hK hP 3 0 rfl rfl hin dX3_doubleArea_37 ?_
  refine lv_i2l hx hb dX3_doubleArea_38 rfl ?_
  refine lv_aload_n hx hb dX3_doubleArea_39 rfl (lv_at hl 1 rfl) ?_
  refine va_get (D := D) (ci := 3) (v := .ref (aP 3)) (C := RX3) (T := TX3) (N := 5) hx hb hts hiX3 hown hK hP 0 rfl rfl 2 (by decide) f18 (fun _ h9 => h9) rfl dX3_doubleArea_40 ?_
  refine lv_iload_n hx hb dX3_doubleArea_43 rfl (lv_at hl 3 rfl) ?_
  obtain ⟨hin, h⟩ := h
  refine va_iald hx hb hK hP 3 0 rfl rfl hin dX3_doubleArea_44 ?_
  refine lv_i2l hx hb dX3_doubleArea_45 rfl ?_
  refine lv_lmul hx hb dX3_doubleArea_46 ?_
  refine lv_topl (fun x47 ex47 => ?_)
  have h := h x47 ex47
  refine lv_lstore (lv' := [(5, .long x47), (3, .long x31), (0, .ref (aP 0)), (1, .int p0), (2, .int p1)]) hx hb dX3_doubleArea_47 hl (by decide) rfl (fun ls hl => ?_)
  refine lv_lload hx hb dX3_doubleArea_49 (lv_at hl 0 rfl) ?_
  refine lv_lconst (v := (0 : Int64)) hx hb dX3_doubleArea_51 (by decide) ?_
  refine W.lcmp hx hb dX3_doubleArea_52 ?_
  refine lv_if_le (tgt := 65) hx hb dX3_doubleArea_53 (by decide) (fun cq => ?_) (fun cq => ?_)
  · have h := h.1 ((lg_cmp_le _ _).mp cq)
    refine lv_dconst0 hx hb dX3_doubleArea_65 ?_
    exact L66 (FP.dconst0) _ h (lv_sub hl [] rfl)
  · have h := h.2 (fun q => cq ((lg_cmp_le _ _).mpr q))
    refine lv_lload_n hx hb dX3_doubleArea_56 rfl (lv_at hl 1 rfl) ?_
    refine lv_l2d hx hb dX3_doubleArea_57 ?_
    refine lv_lload hx hb dX3_doubleArea_58 (lv_at hl 0 rfl) ?_
    refine lv_l2d hx hb dX3_doubleArea_60 ?_
    obtain ⟨hne, h⟩ := h
    refine lv_ddiv hx hb dX3_doubleArea_61 hne ?_
    refine lv_goto (tgt := 66) hx hb dX3_doubleArea_62 (by decide) ?_
    exact L66 (FP.ddiv (FP.l2d x31) (FP.l2d x47)) _ h (lv_sub hl [] rfl)
