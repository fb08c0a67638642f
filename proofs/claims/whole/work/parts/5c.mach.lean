set_option maxHeartbeats 4000000 in
set_option maxRecDepth 100000 in
theorem m_X2_isInside (l : Launch) (D : va_G) (k : Nat → ClassId)   (p0 : Int32) (p1 : Int32) (p2 : Int32) (Q : Int32 → Prop) (h : wp_X2_isInside p0 p1 p2 Q) : Met l yX2_isInside wsX2_isInside ({ frames := 0, cells := 0, slots := 0, locals := 0 }) (Pro D k [.int p0, .int p1, .int p2] (([] : va_W))) (vp_Si Q) 0 0 (fun _ => False) := by
  refine Met.ofW (cc := cX2_isInside) (maxL := 3) (ret := (some .boolean)) (by decide) rfl ?_
  intro p e s m args below meth c s₁ B hml hv
  obtain ⟨hav, hP, hE⟩ := hv
  have hx := B.exec
  have hb := B.bytes
  have hr := B.returns
  have hts := atoms_spec (ws := wsX2_isInside) B.pre
  have hown : s.vm.findClass RX2 = some m.cls := findClass_of_methodNamed B.named
  have hlocks := B.notSynchronized
  have hK := hE.1
  have hl := lv_entry ([.int p0, .int p1, .int p2]) (n := 3) (Nat.le_of_ble_eq_true rfl)
  rw [show entryFrame m args 3 = entryFrame m ([.int p0, .int p1, .int p2] : List Value).toArray 3 by rw [hav]]
  rw [lg_entry_eq]
  refine W.gq (fun GQ hGQ => ?_)
  generalize (lg_sl ([.int p0, .int p1, .int p2]) ++ List.replicate (3 - (lg_sl ([.int p0, .int p1, .int p2])).length) Slot.unset).toArray = ls at hl ⊢
  have hl : lv_has ls 3 [(0, .int p0), (1, .int p1), (2, .int p2)] := hl
  have L80 : ∀ (z0 : Int32) (ls : Array Slot), wp_X2_isInside_L80 p0 p1 p2 Q  z0 → lv_has ls 3 [] → W p l e (headSpec wsX2_isInside ({ frames := 0, cells := 0, slots := 0, locals := 0 })).room s m args below meth c s.heap [] 0 0 GQ (F0 m 80 ls [.int z0]) := by
    intro z0 ls h hl
    unfold wp_X2_isInside_L80 at h
    obtain ⟨hnr, h⟩ := h
    rw [hGQ]
    exact W.zret (v := z0) hx hb hr hnr (fun t ht hW => ⟨_, rfl, h, ht⟩) (fun _ h => by cases h) dX2_isInside_80
  have L41 : ∀ (z0 : Int32) (ls : Array Slot), wp_X2_isInside_L41 p0 p1 p2 Q  z0 → lv_has ls 3 [] → W p l e (headSpec wsX2_isInside ({ frames := 0, cells := 0, slots := 0, locals := 0 })).room s m args below meth c s.heap [] 0 0 GQ (F0 m 41 ls [.int z0]) := by
    intro z0 ls h hl
    unfold wp_X2_isInside_L41 at h
    obtain ⟨hnr, h⟩ := h
    rw [hGQ]
    exact W.zret (v := z0) hx hb hr hnr (fun t ht hW => ⟨_, rfl, h, ht⟩) (fun _ h => by cases h) dX2_isInside_41
  have L36 : ∀  (ls : Array Slot), wp_X2_isInside_L36 p0 p1 p2 Q   → lv_has ls 3 [] → W p l e (headSpec wsX2_isInside ({ frames := 0, cells := 0, slots := 0, locals := 0 })).room s m args below meth c s.heap [] 0 0 GQ (F0 m 36 ls []) := by
    intro  ls h hl
    unfold wp_X2_isInside_L36 at h
    refine lv_iconst (v := (1 : Int32)) hx hb dX2_isInside_36 (by decide) ?_
    refine lv_goto (tgt := 41) hx hb dX2_isInside_37 (by decide) ?_
    exact L41 (1 : Int32) _ h (lv_sub hl [] rfl)
  have L55 : ∀ (z0 : Int32) (ls : Array Slot), wp_X2_isInside_L55 p0 p1 p2 Q  z0 → lv_has ls 3 [] → W p l e (headSpec wsX2_isInside ({ frames := 0, cells := 0, slots := 0, locals := 0 })).room s m args below meth c s.heap [] 0 0 GQ (F0 m 55 ls [.int z0]) := by
    intro z0 ls h hl
    unfold wp_X2_isInside_L55 at h
    obtain ⟨hnr, h⟩ := h
    rw [hGQ]
    exact W.zret (v := z0) hx hb hr hnr (fun t ht hW => ⟨_, rfl, h, ht⟩) (fun _ h => by cases h) dX2_isInside_55
  have L54 : ∀  (ls : Array Slot), wp_X2_isInside_L54 p0 p1 p2 Q   → lv_has ls 3 [] → W p l e (headSpec wsX2_isInside ({ frames := 0, cells := 0, slots := 0, locals := 0 })).room s m args below meth c s.heap [] 0 0 GQ (F0 m 54 ls []) := by
    intro  ls h hl
    unfold wp_X2_isInside_L54 at h
    refine lv_iconst (v := (0 : Int32)) hx hb dX2_isInside_54 (by decide) ?_
    exact L55 (0 : Int32) _ h (lv_sub hl [] rfl)
  have L69 : ∀ (z0 : Int32) (ls : Array Slot), wp_X2_isInside_L69 p0 p1 p2 Q  z0 → lv_has ls 3 [] → W p l e (headSpec wsX2_isInside ({ frames := 0, cells := 0, slots := 0, locals := 0 })).room s m args below meth c s.heap [] 0 0 GQ (F0 m 69 ls [.int z0]) := by
    intro z0 ls h hl
    unfold wp_X2_isInside_L69 at h
    obtain ⟨hnr, h⟩ := h
    rw [hGQ]
    exact W.zret (v := z0) hx hb hr hnr (fun t ht hW => ⟨_, rfl, h, ht⟩) (fun _ h => by cases h) dX2_isInside_69
  have L68 : ∀  (ls : Array Slot), wp_X2_isInside_L68 p0 p1 p2 Q   → lv_has ls 3 [] → W p l e (headSpec wsX2_isInside ({ frames := 0, cells := 0, slots := 0, locals := 0 })).room s m args below meth c s.heap [] 0 0 GQ (F0 m 68 ls []) := by
    intro  ls h hl
    unfold wp_X2_isInside_L68 at h
    refine lv_iconst (v := (0 : Int32)) hx hb dX2_isInside_68 (by decide) ?_
    exact L69 (0 : Int32) _ h (lv_sub hl [] rfl)
  unfold wp_X2_isInside at h
  refine lv_iload_n hx hb dX2_isInside_0 rfl (lv_at hl 0 rfl) ?_
  by_cases c0 : p0 = 0
  · have h := h.1 c0
    refine lv_tableIn (tgt := 28) hx hb dX2_isInside_1 (by rw [c0]; decide) (by rw [c0]; decide) (by rw [c0]; rfl) (by decide) ?_
    refine lv_iload_n hx hb dX2_isInside_28 rfl (lv_at hl 1 rfl) ?_
    refine lv_if_ne (tgt := 36) hx hb dX2_isInside_29 (by decide) (fun cq => ?_) (fun cq => ?_)
    · have h := h.1 cq
      exact L36  _ h (lv_sub hl [] rfl)
    · have h := h.2 cq
      refine lv_iload_n hx hb dX2_isInside_32 rfl (lv_at hl 2 rfl) ?_
      refine lv_if_eq (tgt := 40) hx hb dX2_isInside_33 (by decide) (fun cq => ?_) (fun cq => ?_)
      · have h := h.1 cq
        refine lv_iconst (v := (0 : Int32)) hx hb dX2_isInside_40 (by decide) ?_
        exact L41 (0 : Int32) _ h (lv_sub hl [] rfl)
      · have h := h.2 cq
        exact L36  _ h (lv_sub hl [] rfl)
  by_cases c1 : p0 = 1
  · have h := h.2.1 c1
    refine lv_tableIn (tgt := 42) hx hb dX2_isInside_1 (by rw [c1]; decide) (by rw [c1]; decide) (by rw [c1]; rfl) (by decide) ?_
    refine lv_iload_n hx hb dX2_isInside_42 rfl (lv_at hl 1 rfl) ?_
    refine lv_if_eq (tgt := 54) hx hb dX2_isInside_43 (by decide) (fun cq => ?_) (fun cq => ?_)
    · have h := h.1 cq
      exact L54  _ h (lv_sub hl [] rfl)
    · have h := h.2 cq
      refine lv_iload_n hx hb dX2_isInside_46 rfl (lv_at hl 2 rfl) ?_
      refine lv_if_eq (tgt := 54) hx hb dX2_isInside_47 (by decide) (fun cq => ?_) (fun cq => ?_)
      · have h := h.1 cq
        exact L54  _ h (lv_sub hl [] rfl)
      · have h := h.2 cq
        refine lv_iconst (v := (1 : Int32)) hx hb dX2_isInside_50 (by decide) ?_
        refine lv_goto (tgt := 55) hx hb dX2_isInside_51 (by decide) ?_
        exact L55 (1 : Int32) _ h (lv_sub hl [] rfl)
  by_cases c2 : p0 = 2
  · have h := h.2.2.1 c2
    refine lv_tableIn (tgt := 56) hx hb dX2_isInside_1 (by rw [c2]; decide) (by rw [c2]; decide) (by rw [c2]; rfl) (by decide) ?_
    refine lv_iload_n hx hb dX2_isInside_56 rfl (lv_at hl 1 rfl) ?_
    refine lv_if_eq (tgt := 68) hx hb dX2_isInside_57 (by decide) (fun cq => ?_) (fun cq => ?_)
    · have h := h.1 cq
      exact L68  _ h (lv_sub hl [] rfl)
    · have h := h.2 cq
      refine lv_iload_n hx hb dX2_isInside_60 rfl (lv_at hl 2 rfl) ?_
      refine lv_if_ne (tgt := 68) hx hb dX2_isInside_61 (by decide) (fun cq => ?_) (fun cq => ?_)
      · have h := h.1 cq
        exact L68  _ h (lv_sub hl [] rfl)
      · have h := h.2 cq
        refine lv_iconst (v := (1 : Int32)) hx hb dX2_isInside_64 (by decide) ?_
        refine lv_goto (tgt := 69) hx hb dX2_isInside_65 (by decide) ?_
        exact L69 (1 : Int32) _ h (lv_sub hl [] rfl)
  have h := h.2.2.2 c0 c1 c2
  refine lv_tableOut (tgt := 70) hx hb dX2_isInside_1 (sw_out2 c0 c1 c2) (by decide) ?_
  refine lv_iload_n hx hb dX2_isInside_70 rfl (lv_at hl 1 rfl) ?_
  refine lv_iload_n hx hb dX2_isInside_71 rfl (lv_at hl 2 rfl) ?_
  refine lv_icmp_eq (tgt := 79) hx hb dX2_isInside_72 (by decide) (fun cq => ?_) (fun cq => ?_)
  · have h := h.1 cq
    refine lv_iconst (v := (0 : Int32)) hx hb dX2_isInside_79 (by decide) ?_
    exact L80 (0 : Int32) _ h (lv_sub hl [] rfl)
  · have h := h.2 cq
    refine lv_iconst (v := (1 : Int32)) hx hb dX2_isInside_75 (by decide) ?_
    refine lv_goto (tgt := 80) hx hb dX2_isInside_76 (by decide) ?_
    exact L80 (1 : Int32) _ h (lv_sub hl [] rfl)
set_option maxHeartbeats 4000000 in
set_option maxRecDepth 100000 in
theorem m_X2_isLeftInside (l : Launch) (D : va_G) (k : Nat → ClassId) (aQ : Nat → Nat) (qF : Nat → Nat → Int32) (nQ : Int32) (p0 : Int32) (p1 : Int32) (Q : Int32 → Prop) (h : wp_X2_isLeftInside p0 p1 qF Q) : Met l yX2_isLeftInside wsX2_isLeftInside ({ frames := 1, cells := 0, slots := 0, locals := 22 }) (Pro D k [.ref (aQ 0), .int p0, .int p1] (wQ k aQ qF nQ)) (vp_Si Q) 0 0 (fun _ => False) := by
  refine Met.ofW (cc := cX2_isLeftInside) (maxL := 3) (ret := (some .boolean)) (by decide) rfl ?_
  intro p e s m args below meth c s₁ B hml hv
  obtain ⟨hav, hP, hE⟩ := hv
  have hx := B.exec
  have hb := B.bytes
  have hr := B.returns
  have hts := atoms_spec (ws := wsX2_isLeftInside) B.pre
  have hown : s.vm.findClass RX2 = some m.cls := findClass_of_methodNamed B.named
  have hlocks := B.notSynchronized
  have hK := hE.1
  have hl := lv_entry ([.ref (aQ 0), .int p0, .int p1]) (n := 3) (Nat.le_of_ble_eq_true rfl)
  rw [show entryFrame m args 3 = entryFrame m ([.ref (aQ 0), .int p0, .int p1] : List Value).toArray 3 by rw [hav]]
  rw [lg_entry_eq]
  refine W.gq (fun GQ hGQ => ?_)
  generalize (lg_sl ([.ref (aQ 0), .int p0, .int p1]) ++ List.replicate (3 - (lg_sl ([.ref (aQ 0), .int p0, .int p1])).length) Slot.unset).toArray = ls at hl ⊢
  have hl : lv_has ls 3 [(0, .ref (aQ 0)), (1, .int p0), (2, .int p1)] := hl
  have hiX2 := (by decide +kernel : ∀ w ∈ wsX20, w ∈ wsX2_isLeftInside)
  have f13 := hts (.fieldLink RX2 13 "PlaneOverlay$Pieces" "facts" "[[I") (by decide +kernel)
  have L33 : ∀ (z0 : Int32) (z1 : Int32) (z2 : Int32) (ls : Array Slot), wp_X2_isLeftInside_L33 p0 p1 qF Q  z0 z1 z2 → lv_has ls 3 [] → W p l e (headSpec wsX2_isLeftInside ({ frames := 1, cells := 0, slots := 0, locals := 22 })).room s m args below meth c s.heap [] 0 0 GQ (F0 m 33 ls [.int z0, .int z1, .int z2]) := by
    intro z0 z1 z2 ls h hl
    unfold wp_X2_isLeftInside_L33 at h
    refine vp_callSi (W.runS (As := [.int z2, .int z1, .int z0]) (rest := []) ⟨hx, hb, hml, hown, hts⟩ (m_X2_isInside l D k   z2 z1 z0 _ h) (va_cwS 3 hts gX2_isLeftInside_X2_isInside rfl rfl rfl (by decide +kernel) ⟨Nat.le_of_ble_eq_true rfl, Nat.le_of_ble_eq_true rfl⟩) (preS_ro hE vaP0) rfl rfl hl.1 rfl (lv_room (Nat.le_of_ble_eq_true rfl)) dX2_isLeftInside_33 ⟨Nat.le_of_ble_eq_true rfl, Nat.le_of_ble_eq_true rfl⟩) (fun r33 h => ?_)
    obtain ⟨hnr, h⟩ := h
    rw [hGQ]
    exact W.zret (v := r33) hx hb hr hnr (fun t ht hW => ⟨_, rfl, h, ht⟩) (fun _ h => by cases h) dX2_isLeftInside_36
  have L17 : ∀ (z0 : Int32) (z1 : Int32) (ls : Array Slot), wp_X2_isLeftInside_L17 p0 p1 qF Q  z0 z1 → lv_has ls 3 [(0, .ref (aQ 0)), (1, .int p0)] → W p l e (headSpec wsX2_isLeftInside ({ frames := 1, cells := 0, slots := 0, locals := 22 })).room s m args below meth c s.heap [] 0 0 GQ (F0 m 17 ls [.int z0, .int z1]) := by
    intro z0 z1 ls h hl
    unfold wp_X2_isLeftInside_L17 at h
    refine lv_aload_n hx hb dX2_isLeftInside_17 rfl (lv_at hl 0 rfl) ?_
    refine va_get (D := D) (ci := 2) (v := .ref (aQ 1)) (C := RX2) (T := TX2) (N := 2) hx hb hts hiX2 hown hK hP 0 rfl rfl 0 (by decide) f13 (fun _ h9 => h9) rfl dX2_isLeftInside_18 ?_
    refine lv_iconst (v := (5 : Int32)) hx hb dX2_isLeftInside_21 (by decide) ?_
    obtain ⟨hj22, h⟩ := h
    refine ra_ald (a := aQ) (b := 2) hx hb hK hP 1 4 rfl rfl hj22 dX2_isLeftInside_22 ?_
    refine lv_iload_n hx hb dX2_isLeftInside_23 rfl (lv_at hl 1 rfl) ?_
    obtain ⟨hin, h⟩ := h
    refine va_iald hx hb hK hP (2 + (5 : Int32).toNatClampNeg) 0 (co_8 (P := fun j => (wQ k aQ qF nQ)[2 + j]? = some (aQ (2 + j), .inl (k 0, 276, .inl (qF j)))) rfl rfl rfl rfl rfl rfl rfl rfl (vp_lt hj22)) rfl hin dX2_isLeftInside_24 ?_
    refine lv_if_eq (tgt := 32) hx hb dX2_isLeftInside_25 (by decide) (fun cq => ?_) (fun cq => ?_)
    · have h := h.1 cq
      refine lv_iconst (v := (0 : Int32)) hx hb dX2_isLeftInside_32 (by decide) ?_
      exact L33 (0 : Int32) z0 z1 _ h (lv_sub hl [] rfl)
    · have h := h.2 cq
      refine lv_iconst (v := (1 : Int32)) hx hb dX2_isLeftInside_28 (by decide) ?_
      refine lv_goto (tgt := 33) hx hb dX2_isLeftInside_29 (by decide) ?_
      exact L33 (1 : Int32) z0 z1 _ h (lv_sub hl [] rfl)
  unfold wp_X2_isLeftInside at h
  refine lv_iload_n hx hb dX2_isLeftInside_0 rfl (lv_at hl 2 rfl) ?_
  refine lv_aload_n hx hb dX2_isLeftInside_1 rfl (lv_at hl 0 rfl) ?_
  refine va_get (D := D) (ci := 2) (v := .ref (aQ 1)) (C := RX2) (T := TX2) (N := 2) hx hb hts hiX2 hown hK hP 0 rfl rfl 0 (by decide) f13 (fun _ h9 => h9) rfl dX2_isLeftInside_2 ?_
  refine lv_iconst (v := (4 : Int32)) hx hb dX2_isLeftInside_5 (by decide) ?_
  obtain ⟨hj6, h⟩ := h
  refine ra_ald (a := aQ) (b := 2) hx hb hK hP 1 4 rfl rfl hj6 dX2_isLeftInside_6 ?_
  refine lv_iload_n hx hb dX2_isLeftInside_7 rfl (lv_at hl 1 rfl) ?_
  obtain ⟨hin, h⟩ := h
  refine va_iald hx hb hK hP (2 + (4 : Int32).toNatClampNeg) 0 (co_8 (P := fun j => (wQ k aQ qF nQ)[2 + j]? = some (aQ (2 + j), .inl (k 0, 276, .inl (qF j)))) rfl rfl rfl rfl rfl rfl rfl rfl (vp_lt hj6)) rfl hin dX2_isLeftInside_8 ?_
  refine lv_if_eq (tgt := 16) hx hb dX2_isLeftInside_9 (by decide) (fun cq => ?_) (fun cq => ?_)
  · have h := h.1 cq
    refine lv_iconst (v := (0 : Int32)) hx hb dX2_isLeftInside_16 (by decide) ?_
    exact L17 (0 : Int32) p1 _ h (lv_sub hl [0, 1] rfl)
  · have h := h.2 cq
    refine lv_iconst (v := (1 : Int32)) hx hb dX2_isLeftInside_12 (by decide) ?_
    refine lv_goto (tgt := 17) hx hb dX2_isLeftInside_13 (by decide) ?_
    exact L17 (1 : Int32) p1 _ h (lv_sub hl [0, 1] rfl)
set_option maxHeartbeats 4000000 in
set_option maxRecDepth 100000 in
theorem m_X2_isRightInside (l : Launch) (D : va_G) (k : Nat → ClassId) (aQ : Nat → Nat) (qF : Nat → Nat → Int32) (nQ : Int32) (p0 : Int32) (p1 : Int32) (Q : Int32 → Prop) (h : wp_X2_isRightInside p0 p1 qF Q) : Met l yX2_isRightInside wsX2_isRightInside ({ frames := 1, cells := 0, slots := 0, locals := 22 }) (Pro D k [.ref (aQ 0), .int p0, .int p1] (wQ k aQ qF nQ)) (vp_Si Q) 0 0 (fun _ => False) := by
  refine Met.ofW (cc := cX2_isRightInside) (maxL := 3) (ret := (some .boolean)) (by decide) rfl ?_
  intro p e s m args below meth c s₁ B hml hv
  obtain ⟨hav, hP, hE⟩ := hv
  have hx := B.exec
  have hb := B.bytes
  have hr := B.returns
  have hts := atoms_spec (ws := wsX2_isRightInside) B.pre
  have hown : s.vm.findClass RX2 = some m.cls := findClass_of_methodNamed B.named
  have hlocks := B.notSynchronized
  have hK := hE.1
  have hl := lv_entry ([.ref (aQ 0), .int p0, .int p1]) (n := 3) (Nat.le_of_ble_eq_true rfl)
  rw [show entryFrame m args 3 = entryFrame m ([.ref (aQ 0), .int p0, .int p1] : List Value).toArray 3 by rw [hav]]
  rw [lg_entry_eq]
  refine W.gq (fun GQ hGQ => ?_)
  generalize (lg_sl ([.ref (aQ 0), .int p0, .int p1]) ++ List.replicate (3 - (lg_sl ([.ref (aQ 0), .int p0, .int p1])).length) Slot.unset).toArray = ls at hl ⊢
  have hl : lv_has ls 3 [(0, .ref (aQ 0)), (1, .int p0), (2, .int p1)] := hl
  have hiX2 := (by decide +kernel : ∀ w ∈ wsX20, w ∈ wsX2_isRightInside)
  have f13 := hts (.fieldLink RX2 13 "PlaneOverlay$Pieces" "facts" "[[I") (by decide +kernel)
  have L35 : ∀ (z0 : Int32) (z1 : Int32) (z2 : Int32) (ls : Array Slot), wp_X2_isRightInside_L35 p0 p1 qF Q  z0 z1 z2 → lv_has ls 3 [] → W p l e (headSpec wsX2_isRightInside ({ frames := 1, cells := 0, slots := 0, locals := 22 })).room s m args below meth c s.heap [] 0 0 GQ (F0 m 35 ls [.int z0, .int z1, .int z2]) := by
    intro z0 z1 z2 ls h hl
    unfold wp_X2_isRightInside_L35 at h
    refine vp_callSi (W.runS (As := [.int z2, .int z1, .int z0]) (rest := []) ⟨hx, hb, hml, hown, hts⟩ (m_X2_isInside l D k   z2 z1 z0 _ h) (va_cwS 3 hts gX2_isRightInside_X2_isInside rfl rfl rfl (by decide +kernel) ⟨Nat.le_of_ble_eq_true rfl, Nat.le_of_ble_eq_true rfl⟩) (preS_ro hE vaP0) rfl rfl hl.1 rfl (lv_room (Nat.le_of_ble_eq_true rfl)) dX2_isRightInside_35 ⟨Nat.le_of_ble_eq_true rfl, Nat.le_of_ble_eq_true rfl⟩) (fun r35 h => ?_)
    obtain ⟨hnr, h⟩ := h
    rw [hGQ]
    exact W.zret (v := r35) hx hb hr hnr (fun t ht hW => ⟨_, rfl, h, ht⟩) (fun _ h => by cases h) dX2_isRightInside_38
  have L18 : ∀ (z0 : Int32) (z1 : Int32) (ls : Array Slot), wp_X2_isRightInside_L18 p0 p1 qF Q  z0 z1 → lv_has ls 3 [(0, .ref (aQ 0)), (1, .int p0)] → W p l e (headSpec wsX2_isRightInside ({ frames := 1, cells := 0, slots := 0, locals := 22 })).room s m args below meth c s.heap [] 0 0 GQ (F0 m 18 ls [.int z0, .int z1]) := by
    intro z0 z1 ls h hl
    unfold wp_X2_isRightInside_L18 at h
    refine lv_aload_n hx hb dX2_isRightInside_18 rfl (lv_at hl 0 rfl) ?_
    refine va_get (D := D) (ci := 2) (v := .ref (aQ 1)) (C := RX2) (T := TX2) (N := 2) hx hb hts hiX2 hown hK hP 0 rfl rfl 0 (by decide) f13 (fun _ h9 => h9) rfl dX2_isRightInside_19 ?_
    refine lv_bipush (v := (7 : Int32)) hx hb dX2_isRightInside_22 (by decide) ?_
    obtain ⟨hj24, h⟩ := h
    refine ra_ald (a := aQ) (b := 2) hx hb hK hP 1 4 rfl rfl hj24 dX2_isRightInside_24 ?_
    refine lv_iload_n hx hb dX2_isRightInside_25 rfl (lv_at hl 1 rfl) ?_
    obtain ⟨hin, h⟩ := h
    refine va_iald hx hb hK hP (2 + (7 : Int32).toNatClampNeg) 0 (co_8 (P := fun j => (wQ k aQ qF nQ)[2 + j]? = some (aQ (2 + j), .inl (k 0, 276, .inl (qF j)))) rfl rfl rfl rfl rfl rfl rfl rfl (vp_lt hj24)) rfl hin dX2_isRightInside_26 ?_
    refine lv_if_eq (tgt := 34) hx hb dX2_isRightInside_27 (by decide) (fun cq => ?_) (fun cq => ?_)
    · have h := h.1 cq
      refine lv_iconst (v := (0 : Int32)) hx hb dX2_isRightInside_34 (by decide) ?_
      exact L35 (0 : Int32) z0 z1 _ h (lv_sub hl [] rfl)
    · have h := h.2 cq
      refine lv_iconst (v := (1 : Int32)) hx hb dX2_isRightInside_30 (by decide) ?_
      refine lv_goto (tgt := 35) hx hb dX2_isRightInside_31 (by decide) ?_
      exact L35 (1 : Int32) z0 z1 _ h (lv_sub hl [] rfl)
  unfold wp_X2_isRightInside at h
  refine lv_iload_n hx hb dX2_isRightInside_0 rfl (lv_at hl 2 rfl) ?_
  refine lv_aload_n hx hb dX2_isRightInside_1 rfl (lv_at hl 0 rfl) ?_
  refine va_get (D := D) (ci := 2) (v := .ref (aQ 1)) (C := RX2) (T := TX2) (N := 2) hx hb hts hiX2 hown hK hP 0 rfl rfl 0 (by decide) f13 (fun _ h9 => h9) rfl dX2_isRightInside_2 ?_
  refine lv_bipush (v := (6 : Int32)) hx hb dX2_isRightInside_5 (by decide) ?_
  obtain ⟨hj7, h⟩ := h
  refine ra_ald (a := aQ) (b := 2) hx hb hK hP 1 4 rfl rfl hj7 dX2_isRightInside_7 ?_
  refine lv_iload_n hx hb dX2_isRightInside_8 rfl (lv_at hl 1 rfl) ?_
  obtain ⟨hin, h⟩ := h
  refine va_iald hx hb hK hP (2 + (6 : Int32).toNatClampNeg) 0 (co_8 (P := fun j => (wQ k aQ qF nQ)[2 + j]? = some (aQ (2 + j), .inl (k 0, 276, .inl (qF j)))) rfl rfl rfl rfl rfl rfl rfl rfl (vp_lt hj7)) rfl hin dX2_isRightInside_9 ?_
  refine lv_if_eq (tgt := 17) hx hb dX2_isRightInside_10 (by decide) (fun cq => ?_) (fun cq => ?_)
  · have h := h.1 cq
    refine lv_iconst (v := (0 : Int32)) hx hb dX2_isRightInside_17 (by decide) ?_
    exact L18 (0 : Int32) p1 _ h (lv_sub hl [0, 1] rfl)
  · have h := h.2 cq
    refine lv_iconst (v := (1 : Int32)) hx hb dX2_isRightInside_13 (by decide) ?_
    refine lv_goto (tgt := 18) hx hb dX2_isRightInside_14 (by decide) ?_
    exact L18 (1 : Int32) p1 _ h (lv_sub hl [0, 1] rfl)
set_option maxHeartbeats 4000000 in
set_option maxRecDepth 100000 in
theorem m_X2_divides (l : Launch) (D : va_G) (k : Nat → ClassId) (aQ : Nat → Nat) (qF : Nat → Nat → Int32) (nQ : Int32) (p0 : Int32) (p1 : Int32) (Q : Int32 → Prop) (h : wp_X2_divides p0 p1 qF Q) : Met l yX2_divides wsX2_divides ({ frames := 2, cells := 0, slots := 0, locals := 44 }) (Pro D k [.ref (aQ 0), .int p0, .int p1] (wQ k aQ qF nQ)) (vp_Si Q) 0 0 (fun _ => False) := by
  refine Met.ofW (cc := cX2_divides) (maxL := 3) (ret := (some .boolean)) (by decide) rfl ?_
  intro p e s m args below meth c s₁ B hml hv
  obtain ⟨hav, hP, hE⟩ := hv
  have hx := B.exec
  have hb := B.bytes
  have hr := B.returns
  have hts := atoms_spec (ws := wsX2_divides) B.pre
  have hown : s.vm.findClass RX2 = some m.cls := findClass_of_methodNamed B.named
  have hlocks := B.notSynchronized
  have hK := hE.1
  have hl := lv_entry ([.ref (aQ 0), .int p0, .int p1]) (n := 3) (Nat.le_of_ble_eq_true rfl)
  rw [show entryFrame m args 3 = entryFrame m ([.ref (aQ 0), .int p0, .int p1] : List Value).toArray 3 by rw [hav]]
  rw [lg_entry_eq]
  refine W.gq (fun GQ hGQ => ?_)
  generalize (lg_sl ([.ref (aQ 0), .int p0, .int p1]) ++ List.replicate (3 - (lg_sl ([.ref (aQ 0), .int p0, .int p1])).length) Slot.unset).toArray = ls at hl ⊢
  have hl : lv_has ls 3 [(0, .ref (aQ 0)), (1, .int p0), (2, .int p1)] := hl
  have L20 : ∀ (z0 : Int32) (ls : Array Slot), wp_X2_divides_L20 p0 p1 qF Q  z0 → lv_has ls 3 [] → W p l e (headSpec wsX2_divides ({ frames := 2, cells := 0, slots := 0, locals := 44 })).room s m args below meth c s.heap [] 0 0 GQ (F0 m 20 ls [.int z0]) := by
    intro z0 ls h hl
    unfold wp_X2_divides_L20 at h
    obtain ⟨hnr, h⟩ := h
    rw [hGQ]
    exact W.zret (v := z0) hx hb hr hnr (fun t ht hW => ⟨_, rfl, h, ht⟩) (fun _ h => by cases h) dX2_divides_20
  unfold wp_X2_divides at h
  refine lv_aload_n hx hb dX2_divides_0 rfl (lv_at hl 0 rfl) ?_
  refine lv_iload_n hx hb dX2_divides_1 rfl (lv_at hl 1 rfl) ?_
  refine lv_iload_n hx hb dX2_divides_2 rfl (lv_at hl 2 rfl) ?_
  refine vp_callSi (W.runV (C := RX2) (b := (aQ 0)) (As := [.int p0, .int p1]) (rest := []) ⟨hx, hb, hml, hown, hts⟩ (m_X2_isLeftInside l D k aQ qF nQ p0 p1 _ h) (cwV 2 hts gX2_divides_X2_isLeftInside rfl rfl rfl (by decide +kernel) ⟨Nat.le_of_ble_eq_true rfl, Nat.le_of_ble_eq_true rfl⟩) (preV_ro (ci := 2) (q0 := 0) (C := RX2) (T := TX2) (N := 2) hE hP rfl rfl) rfl rfl hl.1 rfl (lv_room (Nat.le_of_ble_eq_true rfl)) dX2_divides_3 ⟨Nat.le_of_ble_eq_true rfl, Nat.le_of_ble_eq_true rfl⟩) (fun r3 h => ?_)
  refine lv_aload_n hx hb dX2_divides_6 rfl (lv_at hl 0 rfl) ?_
  refine lv_iload_n hx hb dX2_divides_7 rfl (lv_at hl 1 rfl) ?_
  refine lv_iload_n hx hb dX2_divides_8 rfl (lv_at hl 2 rfl) ?_
  refine vp_callSi (W.runV (C := RX2) (b := (aQ 0)) (As := [.int p0, .int p1]) (rest := [.int r3]) ⟨hx, hb, hml, hown, hts⟩ (m_X2_isRightInside l D k aQ qF nQ p0 p1 _ h) (cwV 2 hts gX2_divides_X2_isRightInside rfl rfl rfl (by decide +kernel) ⟨Nat.le_of_ble_eq_true rfl, Nat.le_of_ble_eq_true rfl⟩) (preV_ro (ci := 2) (q0 := 0) (C := RX2) (T := TX2) (N := 2) hE hP rfl rfl) rfl rfl hl.1 rfl (lv_room (Nat.le_of_ble_eq_true rfl)) dX2_divides_9 ⟨Nat.le_of_ble_eq_true rfl, Nat.le_of_ble_eq_true rfl⟩) (fun r9 h => ?_)
  refine lv_icmp_eq (tgt := 19) hx hb dX2_divides_12 (by decide) (fun cq => ?_) (fun cq => ?_)
  · have h := h.1 cq
    refine lv_iconst (v := (0 : Int32)) hx hb dX2_divides_19 (by decide) ?_
    exact L20 (0 : Int32) _ h (lv_sub hl [] rfl)
  · have h := h.2 cq
    refine lv_iconst (v := (1 : Int32)) hx hb dX2_divides_15 (by decide) ?_
    refine lv_goto (tgt := 20) hx hb dX2_divides_16 (by decide) ?_
    exact L20 (1 : Int32) _ h (lv_sub hl [] rfl)
set_option maxHeartbeats 4000000 in
set_option maxRecDepth 100000 in
theorem m_X2_add (l : Launch) (D : va_G) (k : Nat → ClassId) (aE : Nat → Nat) (aP : Nat → Nat) (aQ : Nat → Nat) (qF : Nat → Nat → Int32) (nQ : Int32) (fX : Nat → Int32) (fY : Nat → Int32) (lX : Nat → Int32) (lY : Nat → Int32) (oP : Nat → Int32) (nE : Int32) (pX : Nat → Int32) (pY : Nat → Int32) (pD : Nat → Int32) (pO : Nat → Int32) (nP : Int32) (p2 : Int32) (p3 : Int32) (p4 : Int32) (Q : (Nat → Nat → Int32) → (Int32) → Prop) (sz : Nat) (h : wp_X2_add p2 p3 p4 qF nQ fX fY lX lY oP nE pX pY pD Q) : Met l yX2_add wsX2_add ({ frames := 3, cells := 0, slots := 0, locals := 76 }) (Prw D k [.ref (aQ 0), .ref (aE 0), .ref (aP 0), .int p2, .int p3, .int p4] (wQ k aQ qF nQ ++ wE k aE fX fY lX lY oP nE ++ wP k aP pX pY pD pO nP) sz) (va_Qv (fun (u : (Nat → Nat → Int32) × (Int32)) => Q u.1 u.2) (fun (u : (Nat → Nat → Int32) × (Int32)) t => va_P D vwCl (wQ k aQ (u.1) (u.2) ++ wE k aE fX fY lX lY oP nE ++ wP k aP pX pY pD pO nP) t.heap ∧ va_D (va_A (wQ k aQ qF nQ ++ wE k aE fX fY lX lY oP nE ++ wP k aP pX pY pD pO nP) sz) (wQ k aQ (u.1) (u.2) ++ wE k aE fX fY lX lY oP nE ++ wP k aP pX pY pD pO nP)) (va_A (wQ k aQ qF nQ ++ wE k aE fX fY lX lY oP nE ++ wP k aP pX pY pD pO nP) sz)) 0 0 (va_A (wQ k aQ qF nQ ++ wE k aE fX fY lX lY oP nE ++ wP k aP pX pY pD pO nP) sz) := by
  refine Met.ofW (cc := cX2_add) (maxL := 24) (ret := none) (by decide) rfl ?_
  intro p e s m args below meth c s₁ B hml hv
  obtain ⟨hav, hsz, hP, hE, hD0⟩ := hv
  subst hsz
  have hx := B.exec
  have hb := B.bytes
  have hr := B.returns
  have hts := atoms_spec (ws := wsX2_add) B.pre
  have hown : s.vm.findClass RX2 = some m.cls := findClass_of_methodNamed B.named
  have hlocks := B.notSynchronized
  have hK := hE.1
  have hD := hD0.self (sz := s.heap.size)
  generalize hAe : va_A (wQ k aQ qF nQ ++ wE k aE fX fY lX lY oP nE ++ wP k aP pX pY pD pO nP) s.heap.size = A at hD ⊢
  have hA : ∀ q : Nat, s.heap.size ≤ q → A q := fun q h => by rw [← hAe]; exact Or.inr h
  have hS : va_S A s.heap s.heap [] := va_S.rf
  have hl := lv_entry ([.ref (aQ 0), .ref (aE 0), .ref (aP 0), .int p2, .int p3, .int p4]) (n := 24) (Nat.le_of_ble_eq_true rfl)
  rw [show entryFrame m args 24 = entryFrame m ([.ref (aQ 0), .ref (aE 0), .ref (aP 0), .int p2, .int p3, .int p4] : List Value).toArray 24 by rw [hav]]
  rw [lg_entry_eq]
  refine W.gq (fun GQ hGQ => ?_)
  generalize (lg_sl ([.ref (aQ 0), .ref (aE 0), .ref (aP 0), .int p2, .int p3, .int p4]) ++ List.replicate (24 - (lg_sl ([.ref (aQ 0), .ref (aE 0), .ref (aP 0), .int p2, .int p3, .int p4])).length) Slot.unset).toArray = ls at hl ⊢
  have hl : lv_has ls 24 [(0, .ref (aQ 0)), (1, .ref (aE 0)), (2, .ref (aP 0)), (3, .int p2), (4, .int p3), (5, .int p4)] := hl
  have hiX2 := (by decide +kernel : ∀ w ∈ wsX20, w ∈ wsX2_add)
  have f13 := hts (.fieldLink RX2 13 "PlaneOverlay$Pieces" "facts" "[[I") (by decide +kernel)
  have f16 := hts (.fieldLink RX2 16 "PlaneOverlay$Pieces" "count" "I") (by decide +kernel)
  have hiX0 := (by decide +kernel : ∀ w ∈ wsX00, w ∈ wsX2_add)
  have f59 := fun A => hE.nf (A := A) (RX2, 59, "PlaneOverlay$Edges", "ofPolygon", "[I") (by decide +kernel)
  have hiX3 := (by decide +kernel : ∀ w ∈ wsX30, w ∈ wsX2_add)
  have f42 := fun A => hE.nf (A := A) (RX2, 42, "PlaneOverlay$Points", "d", "[I") (by decide +kernel)
  have f45 := fun A => hE.nf (A := A) (RX2, 45, "PlaneOverlay$Points", "x", "[I") (by decide +kernel)
  have f48 := fun A => hE.nf (A := A) (RX2, 48, "PlaneOverlay$Points", "y", "[I") (by decide +kernel)
  have k51 := hts (.constantLong RX2 51 (2)) (by decide +kernel)
  have L122 : ∀ (n122 : Nat) (v10 : Int64) (v12 : Int64) (v18 : Int32) (v19 : Int32) (qF : Nat → Nat → Int32) (nQ : Int32) (H : Heap) (locs : List Loc) (ls : Array Slot), wp_X2_add_L122 p2 p3 p4 fX fY lX lY oP nE pX pY pD Q  n122 v10 v12 v18 v19 qF nQ → va_P D vwCl (wQ k aQ qF nQ ++ wE k aE fX fY lX lY oP nE ++ wP k aP pX pY pD pO nP) H → va_D A (wQ k aQ qF nQ ++ wE k aE fX fY lX lY oP nE ++ wP k aP pX pY pD pO nP) → va_S A s.heap H locs → lv_has ls 24 [(0, .ref (aQ 0)), (1, .ref (aE 0)), (5, .int p4), (10, .long v10), (12, .long v12), (18, .int v18), (19, .int v19)] → W p l e (headSpec wsX2_add ({ frames := 3, cells := 0, slots := 0, locals := 76 })).room s m args below meth c H locs 0 0 GQ (F0 m 122 ls []) := by
    intro n122
    induction n122 with
    | zero => intro v10 v12 v18 v19 qF nQ H locs ls h hP hD hS hl; exact False.elim h
    | succ n122 ih122 =>
      have L242 : ∀ (v10 : Int64) (v12 : Int64) (v18 : Int32) (v19 : Int32) (z0 : Int32) (z1 : Int32) (qF : Nat → Nat → Int32) (nQ : Int32) (H : Heap) (locs : List Loc) (ls : Array Slot), wp_X2_add_L242 p2 p3 p4 fX fY lX lY oP nE pX pY pD Q (wp_X2_add_L122 p2 p3 p4 fX fY lX lY oP nE pX pY pD Q  n122) v10 v12 v18 v19 z0 z1 qF nQ → va_P D vwCl (wQ k aQ qF nQ ++ wE k aE fX fY lX lY oP nE ++ wP k aP pX pY pD pO nP) H → va_D A (wQ k aQ qF nQ ++ wE k aE fX fY lX lY oP nE ++ wP k aP pX pY pD pO nP) → va_S A s.heap H locs → lv_has ls 24 [(0, .ref (aQ 0)), (1, .ref (aE 0)), (5, .int p4), (10, .long v10), (12, .long v12), (18, .int v18), (19, .int v19)] → W p l e (headSpec wsX2_add ({ frames := 3, cells := 0, slots := 0, locals := 76 })).room s m args below meth c H locs 0 0 GQ (F0 m 242 ls [.int z0, .int z1, .ref (aQ (2 + ((6 : Int32) + v19).toNatClampNeg))]) := by
        intro v10 v12 v18 v19 z0 z1 qF nQ H locs ls h hP hD hS hl
        unfold wp_X2_add_L242 at h
        obtain ⟨hk242, h⟩ := h
        obtain ⟨hin, h⟩ := h
        obtain ⟨y242, ey242⟩ : ∃ z : Nat → Nat → Int32, z = va_up qF ((6 : Int32) + v19).toNatClampNeg (upd (qF ((6 : Int32) + v19).toNatClampNeg) z1.toNatClampNeg z0) := ⟨_, rfl⟩
        have h := h y242 ey242
        refine va_iast hx hb hK hP hD hS (2 + ((6 : Int32) + v19).toNatClampNeg) 0 (co_8 (P := fun j => (wQ k aQ qF nQ ++ wE k aE fX fY lX lY oP nE ++ wP k aP pX pY pD pO nP)[2 + j]? = some (aQ (2 + j), .inl (k 0, 276, .inl (qF j)))) rfl rfl rfl rfl rfl rfl rfl rfl (vp_lt hk242)) rfl hin dX2_add_242 (fun H locs hP hD hS => ?_)
        rw [co_8 (P := fun j => (wQ k aQ qF nQ ++ wE k aE fX fY lX lY oP nE ++ wP k aP pX pY pD pO nP).set (2 + j) (aQ (2 + j), .inl (k 0, 276, .inl (upd (qF j) z1.toNatClampNeg z0))) = wQ k aQ (va_up qF j (upd (qF j) z1.toNatClampNeg z0)) nQ ++ wE k aE fX fY lX lY oP nE ++ wP k aP pX pY pD pO nP) rfl rfl rfl rfl rfl rfl rfl rfl (vp_lt hk242), ← ey242] at hP hD
        refine lv_iinc (v := (v19 + 1)) (lv' := [(19, .int (v19 + 1)), (0, .ref (aQ 0)), (1, .ref (aE 0)), (5, .int p4), (10, .long v10), (12, .long v12), (18, .int v18)]) hx hb dX2_add_243 hl (k := 6) rfl rfl (by decide) rfl (fun ls hl => ?_)
        refine lv_goto (tgt := 122) hx hb dX2_add_246 (by decide) ?_
        exact ih122 v10 v12 v18 (v19 + 1) y242 nQ _ _ _ h hP hD hS (lv_sub hl [1, 2, 3, 4, 5, 6, 0] rfl)
      have L212 : ∀ (v10 : Int64) (v12 : Int64) (v18 : Int32) (v19 : Int32) (v22 : Int32) (v23 : Int32) (z0 : Int32) (z1 : Int32) (qF : Nat → Nat → Int32) (nQ : Int32) (H : Heap) (locs : List Loc) (ls : Array Slot), wp_X2_add_L212 p2 p3 p4 fX fY lX lY oP nE pX pY pD Q (wp_X2_add_L122 p2 p3 p4 fX fY lX lY oP nE pX pY pD Q  n122) v10 v12 v18 v19 v22 v23 z0 z1 qF nQ → va_P D vwCl (wQ k aQ qF nQ ++ wE k aE fX fY lX lY oP nE ++ wP k aP pX pY pD pO nP) H → va_D A (wQ k aQ qF nQ ++ wE k aE fX fY lX lY oP nE ++ wP k aP pX pY pD pO nP) → va_S A s.heap H locs → lv_has ls 24 [(0, .ref (aQ 0)), (1, .ref (aE 0)), (5, .int p4), (10, .long v10), (12, .long v12), (18, .int v18), (19, .int v19), (22, .int v22), (23, .int v23)] → W p l e (headSpec wsX2_add ({ frames := 3, cells := 0, slots := 0, locals := 76 })).room s m args below meth c H locs 0 0 GQ (F0 m 212 ls [.int z0, .int z1, .ref (aQ (2 + ((4 : Int32) + v19).toNatClampNeg))]) := by
        intro v10 v12 v18 v19 v22 v23 z0 z1 qF nQ H locs ls h hP hD hS hl
        unfold wp_X2_add_L212 at h
        obtain ⟨hk212, h⟩ := h
        obtain ⟨hin, h⟩ := h
        obtain ⟨y212, ey212⟩ : ∃ z : Nat → Nat → Int32, z = va_up qF ((4 : Int32) + v19).toNatClampNeg (upd (qF ((4 : Int32) + v19).toNatClampNeg) z1.toNatClampNeg z0) := ⟨_, rfl⟩
        have h := h y212 ey212
        refine va_iast hx hb hK hP hD hS (2 + ((4 : Int32) + v19).toNatClampNeg) 0 (co_8 (P := fun j => (wQ k aQ qF nQ ++ wE k aE fX fY lX lY oP nE ++ wP k aP pX pY pD pO nP)[2 + j]? = some (aQ (2 + j), .inl (k 0, 276, .inl (qF j)))) rfl rfl rfl rfl rfl rfl rfl rfl (vp_lt hk212)) rfl hin dX2_add_212 (fun H locs hP hD hS => ?_)
        rw [co_8 (P := fun j => (wQ k aQ qF nQ ++ wE k aE fX fY lX lY oP nE ++ wP k aP pX pY pD pO nP).set (2 + j) (aQ (2 + j), .inl (k 0, 276, .inl (upd (qF j) z1.toNatClampNeg z0))) = wQ k aQ (va_up qF j (upd (qF j) z1.toNatClampNeg z0)) nQ ++ wE k aE fX fY lX lY oP nE ++ wP k aP pX pY pD pO nP) rfl rfl rfl rfl rfl rfl rfl rfl (vp_lt hk212), ← ey212] at hP hD
        refine lv_aload_n hx hb dX2_add_213 rfl (lv_at hl 0 rfl) ?_
        refine va_get (D := D) (ci := 2) (v := .ref (aQ 1)) (C := RX2) (T := TX2) (N := 2) hx hb hts hiX2 hown hK hP 0 rfl rfl 0 (by decide) f13 (fun _ h9 => h9) rfl dX2_add_214 ?_
        refine lv_bipush (v := (6 : Int32)) hx hb dX2_add_217 (by decide) ?_
        refine lv_iload hx hb dX2_add_219 (lv_at hl 6 rfl) ?_
        refine lv_iadd hx hb dX2_add_221 ?_
        obtain ⟨hj222, h⟩ := h
        refine ra_ald (a := aQ) (b := 2) hx hb hK hP 1 4 rfl rfl hj222 dX2_add_222 ?_
        refine lv_aload_n hx hb dX2_add_223 rfl (lv_at hl 0 rfl) ?_
        refine va_get (D := D) (ci := 2) (v := .int nQ) (C := RX2) (T := TX2) (N := 2) hx hb hts hiX2 hown hK hP 0 rfl rfl 1 (by decide) f16 (fun _ h9 => h9) rfl dX2_add_224 ?_
        refine lv_lload hx hb dX2_add_227 (lv_at hl 3 rfl) ?_
        refine lv_lload hx hb dX2_add_229 (lv_at hl 4 rfl) ?_
        refine W.lcmp hx hb dX2_add_231 ?_
        refine lv_if_ne (tgt := 240) hx hb dX2_add_232 (by decide) (fun cq => ?_) (fun cq => ?_)
        · have h := h.1 (fun q => cq ((lg_cmp_eq _ _).mpr q))
          refine lv_iload hx hb dX2_add_240 (lv_at hl 8 rfl) ?_
          exact L242 v10 v12 v18 v19 v23 nQ y212 nQ _ _ _ h hP hD hS (lv_sub hl [0, 1, 2, 3, 4, 5, 6] rfl)
        · have h := h.2 ((lg_cmp_eq _ _).mp cq)
          refine lv_iload hx hb dX2_add_235 (lv_at hl 7 rfl) ?_
          refine lv_goto (tgt := 242) hx hb dX2_add_237 (by decide) ?_
          exact L242 v10 v12 v18 v19 v22 nQ y212 nQ _ _ _ h hP hD hS (lv_sub hl [0, 1, 2, 3, 4, 5, 6] rfl)
      intro v10 v12 v18 v19 qF nQ H locs ls h hP hD hS hl
      rw [wp_X2_add_L122] at h
      refine lv_iload hx hb dX2_add_122 (lv_at hl 6 rfl) ?_
      refine lv_iconst (v := (2 : Int32)) hx hb dX2_add_124 (by decide) ?_
      refine lv_icmp_ge (tgt := 249) hx hb dX2_add_125 (by decide) (fun cq => ?_) (fun cq => ?_)
      · have h := h.1 cq
        refine lv_aload_n hx hb dX2_add_249 rfl (lv_at hl 0 rfl) ?_
        refine lv_dup hx hb dX2_add_250 rfl ?_
        refine va_get (D := D) (ci := 2) (v := .int nQ) (C := RX2) (T := TX2) (N := 2) hx hb hts hiX2 hown hK hP 0 rfl rfl 1 (by decide) f16 (fun _ h9 => h9) rfl dX2_add_251 ?_
        refine lv_iconst (v := (1 : Int32)) hx hb dX2_add_254 (by decide) ?_
        refine lv_iadd hx hb dX2_add_255 ?_
        refine lv_topi (fun x256 ex256 => ?_)
        have h := h x256 ex256
        refine va_put (D := D) (ci := 2) (v := .int x256) (ty := .int) (C := RX2) (T := TX2) (N := 2) hx hb hts hiX2 tyX2 tyX2_ok nmX2 hown hK hP hD hS 0 rfl rfl 1 (by decide) f16 (fun _ h9 => h9) rfl (by decide +kernel) rfl rfl (Nat.le_of_ble_eq_true rfl) dX2_add_256 (fun H locs hP hD hS => ?_)
        have hP : va_P D vwCl (wQ k aQ qF x256 ++ wE k aE fX fY lX lY oP nE ++ wP k aP pX pY pD pO nP) H := hP
        have hD : va_D A (wQ k aQ qF x256 ++ wE k aE fX fY lX lY oP nE ++ wP k aP pX pY pD pO nP) := hD
        rw [hGQ]
        exact W.vret hx hb hr (fun t ht hW => ⟨⟨(qF, x256), rfl, h, by rw [ht]; exact hP, hD⟩, hS.F ht⟩) hS.2.2 dX2_add_259
      · have h := h.2 cq
        refine lv_aload_n hx hb dX2_add_128 rfl (lv_at hl 1 rfl) ?_
        refine va_getN (D := D) (ci := 0) (v := .ref (aE 5)) (C := RX0) (T := TX0) (N := 6) (host := "PlaneOverlay") hx hb hts hiX0 hown hK hP 10 rfl rfl 4 (by decide) (f59 _) (fun _ h9 => h9) rfl dX2_add_129 ?_
        refine lv_iload hx hb dX2_add_132 (lv_at hl 6 rfl) ?_
        obtain ⟨hin, h⟩ := h
        refine va_iald hx hb hK hP 15 0 rfl rfl hin dX2_add_134 ?_
        refine lv_topi (fun x135 ex135 => ?_)
        have h := h x135 ex135
        refine lv_istore (lv' := [(20, .int x135), (0, .ref (aQ 0)), (1, .ref (aE 0)), (5, .int p4), (10, .long v10), (12, .long v12), (18, .int v18), (19, .int v19)]) hx hb dX2_add_135 hl (by decide) rfl (fun ls hl => ?_)
        refine lv_iload hx hb dX2_add_137 (lv_at hl 3 rfl) ?_
        refine lv_iload hx hb dX2_add_139 (lv_at hl 0 rfl) ?_
        refine lv_iand hx hb dX2_add_141 ?_
        refine vp_callSi (W.runS (As := [.int (p4 &&& x135)]) (rest := []) ⟨hx, hb, hml, hown, hts⟩ (m_J6_bitCount_0f7a4 l D k   (p4 &&& x135) _ h) (va_cwS 1 hts gX2_add_J6_bitCount_0f7a4 rfl rfl rfl (by decide +kernel) ⟨Nat.le_of_ble_eq_true rfl, Nat.le_of_ble_eq_true rfl⟩) (preS_ro hE vaP0) rfl rfl hl.1 rfl (lv_room (Nat.le_of_ble_eq_true rfl)) dX2_add_142 ⟨Nat.le_of_ble_eq_true rfl, Nat.le_of_ble_eq_true rfl⟩) (fun r142 h => ?_)
        refine lv_istore (lv' := [(21, .int r142), (20, .int x135), (0, .ref (aQ 0)), (1, .ref (aE 0)), (5, .int p4), (10, .long v10), (12, .long v12), (18, .int v18), (19, .int v19)]) hx hb dX2_add_145 hl (by decide) rfl (fun ls hl => ?_)
        refine lv_iload hx hb dX2_add_147 (lv_at hl 7 rfl) ?_
        refine lv_iload hx hb dX2_add_149 (lv_at hl 1 rfl) ?_
        refine lv_iand hx hb dX2_add_151 ?_
        refine vp_callSi (W.runS (As := [.int (v18 &&& x135)]) (rest := []) ⟨hx, hb, hml, hown, hts⟩ (m_J6_bitCount_0f7a4 l D k   (v18 &&& x135) _ h) (va_cwS 1 hts gX2_add_J6_bitCount_0f7a4 rfl rfl rfl (by decide +kernel) ⟨Nat.le_of_ble_eq_true rfl, Nat.le_of_ble_eq_true rfl⟩) (preS_ro hE vaP0) rfl rfl hl.1 rfl (lv_room (Nat.le_of_ble_eq_true rfl)) dX2_add_152 ⟨Nat.le_of_ble_eq_true rfl, Nat.le_of_ble_eq_true rfl⟩) (fun r152 h => ?_)
        refine lv_iconst (v := (1 : Int32)) hx hb dX2_add_155 (by decide) ?_
        refine lv_iand hx hb dX2_add_156 ?_
        refine lv_topi (fun x157 ex157 => ?_)
        have h := h x157 ex157
        refine lv_istore (lv' := [(22, .int x157), (21, .int r142), (20, .int x135), (0, .ref (aQ 0)), (1, .ref (aE 0)), (5, .int p4), (10, .long v10), (12, .long v12), (18, .int v18), (19, .int v19)]) hx hb dX2_add_157 hl (by decide) rfl (fun ls hl => ?_)
        refine lv_iload hx hb dX2_add_159 (lv_at hl 0 rfl) ?_
        refine lv_iload hx hb dX2_add_161 (lv_at hl 1 rfl) ?_
        refine lv_iconst (v := (1 : Int32)) hx hb dX2_add_163 (by decide) ?_
        refine lv_iand hx hb dX2_add_164 ?_
        refine lv_ixor hx hb dX2_add_165 ?_
        refine lv_topi (fun x166 ex166 => ?_)
        have h := h x166 ex166
        refine lv_istore (lv' := [(23, .int x166), (22, .int x157), (21, .int r142), (20, .int x135), (0, .ref (aQ 0)), (1, .ref (aE 0)), (5, .int p4), (10, .long v10), (12, .long v12), (18, .int v18), (19, .int v19)]) hx hb dX2_add_166 hl (by decide) rfl (fun ls hl => ?_)
        refine lv_aload_n hx hb dX2_add_168 rfl (lv_at hl 4 rfl) ?_
        refine va_get (D := D) (ci := 2) (v := .ref (aQ 1)) (C := RX2) (T := TX2) (N := 2) hx hb hts hiX2 hown hK hP 0 rfl rfl 0 (by decide) f13 (fun _ h9 => h9) rfl dX2_add_169 ?_
        refine lv_iconst (v := (2 : Int32)) hx hb dX2_add_172 (by decide) ?_
        refine lv_iload hx hb dX2_add_173 (lv_at hl 10 rfl) ?_
        refine lv_iadd hx hb dX2_add_175 ?_
        obtain ⟨hj176, h⟩ := h
        refine ra_ald (a := aQ) (b := 2) hx hb hK hP 1 4 rfl rfl hj176 dX2_add_176 ?_
        refine lv_aload_n hx hb dX2_add_177 rfl (lv_at hl 4 rfl) ?_
        refine va_get (D := D) (ci := 2) (v := .int nQ) (C := RX2) (T := TX2) (N := 2) hx hb hts hiX2 hown hK hP 0 rfl rfl 1 (by decide) f16 (fun _ h9 => h9) rfl dX2_add_178 ?_
        refine lv_iload hx hb dX2_add_181 (lv_at hl 2 rfl) ?_
        obtain ⟨hin, h⟩ := h
        obtain ⟨y183, ey183⟩ : ∃ z : Nat → Nat → Int32, z = va_up qF ((2 : Int32) + v19).toNatClampNeg (upd (qF ((2 : Int32) + v19).toNatClampNeg) nQ.toNatClampNeg r142) := ⟨_, rfl⟩
        have h := h y183 ey183
        refine va_iast hx hb hK hP hD hS (2 + ((2 : Int32) + v19).toNatClampNeg) 0 (co_8 (P := fun j => (wQ k aQ qF nQ ++ wE k aE fX fY lX lY oP nE ++ wP k aP pX pY pD pO nP)[2 + j]? = some (aQ (2 + j), .inl (k 0, 276, .inl (qF j)))) rfl rfl rfl rfl rfl rfl rfl rfl (vp_lt hj176)) rfl hin dX2_add_183 (fun H locs hP hD hS => ?_)
        rw [co_8 (P := fun j => (wQ k aQ qF nQ ++ wE k aE fX fY lX lY oP nE ++ wP k aP pX pY pD pO nP).set (2 + j) (aQ (2 + j), .inl (k 0, 276, .inl (upd (qF j) nQ.toNatClampNeg r142))) = wQ k aQ (va_up qF j (upd (qF j) nQ.toNatClampNeg r142)) nQ ++ wE k aE fX fY lX lY oP nE ++ wP k aP pX pY pD pO nP) rfl rfl rfl rfl rfl rfl rfl rfl (vp_lt hj176), ← ey183] at hP hD
        refine lv_aload_n hx hb dX2_add_184 rfl (lv_at hl 4 rfl) ?_
        refine va_get (D := D) (ci := 2) (v := .ref (aQ 1)) (C := RX2) (T := TX2) (N := 2) hx hb hts hiX2 hown hK hP 0 rfl rfl 0 (by decide) f13 (fun _ h9 => h9) rfl dX2_add_185 ?_
        refine lv_iconst (v := (4 : Int32)) hx hb dX2_add_188 (by decide) ?_
        refine lv_iload hx hb dX2_add_189 (lv_at hl 10 rfl) ?_
        refine lv_iadd hx hb dX2_add_191 ?_
        obtain ⟨hj192, h⟩ := h
        refine ra_ald (a := aQ) (b := 2) hx hb hK hP 1 4 rfl rfl hj192 dX2_add_192 ?_
        refine lv_aload_n hx hb dX2_add_193 rfl (lv_at hl 4 rfl) ?_
        refine va_get (D := D) (ci := 2) (v := .int nQ) (C := RX2) (T := TX2) (N := 2) hx hb hts hiX2 hown hK hP 0 rfl rfl 1 (by decide) f16 (fun _ h9 => h9) rfl dX2_add_194 ?_
        refine lv_lload hx hb dX2_add_197 (lv_at hl 7 rfl) ?_
        refine lv_lload hx hb dX2_add_199 (lv_at hl 8 rfl) ?_
        refine W.lcmp hx hb dX2_add_201 ?_
        refine lv_if_ne (tgt := 210) hx hb dX2_add_202 (by decide) (fun cq => ?_) (fun cq => ?_)
        · have h := h.1 (fun q => cq ((lg_cmp_eq _ _).mpr q))
          refine lv_iload hx hb dX2_add_210 (lv_at hl 1 rfl) ?_
          exact L212 v10 v12 v18 v19 x157 x166 x157 nQ y183 nQ _ _ _ h hP hD hS (lv_sub hl [4, 5, 6, 7, 8, 9, 10, 1, 0] rfl)
        · have h := h.2 ((lg_cmp_eq _ _).mp cq)
          refine lv_iload hx hb dX2_add_205 (lv_at hl 0 rfl) ?_
          refine lv_goto (tgt := 212) hx hb dX2_add_207 (by decide) ?_
          exact L212 v10 v12 v18 v19 x157 x166 x166 nQ y183 nQ _ _ _ h hP hD hS (lv_sub hl [4, 5, 6, 7, 8, 9, 10, 1, 0] rfl)
  unfold wp_X2_add at h
  refine lv_aload_n hx hb dX2_add_0 rfl (lv_at hl 2 rfl) ?_
  refine va_getN (D := D) (ci := 3) (v := .ref (aP 3)) (C := RX3) (T := TX3) (N := 5) (host := "PlaneOverlay") hx hb hts hiX3 hown hK hP 16 rfl rfl 2 (by decide) (f42 _) (fun _ h9 => h9) rfl dX2_add_1 ?_
  refine lv_iload_n hx hb dX2_add_4 rfl (lv_at hl 3 rfl) ?_
  obtain ⟨hin, h⟩ := h
  refine va_iald hx hb hK hP 19 0 rfl rfl hin dX2_add_5 ?_
  refine lv_i2l hx hb dX2_add_6 rfl ?_
  refine lv_topl (fun x7 ex7 => ?_)
  have h := h x7 ex7
  refine lv_lstore (lv' := [(6, .long x7), (0, .ref (aQ 0)), (1, .ref (aE 0)), (2, .ref (aP 0)), (3, .int p2), (4, .int p3), (5, .int p4)]) hx hb dX2_add_7 hl (by decide) rfl (fun ls hl => ?_)
  refine lv_aload_n hx hb dX2_add_9 rfl (lv_at hl 3 rfl) ?_
  refine va_getN (D := D) (ci := 3) (v := .ref (aP 3)) (C := RX3) (T := TX3) (N := 5) (host := "PlaneOverlay") hx hb hts hiX3 hown hK hP 16 rfl rfl 2 (by decide) (f42 _) (fun _ h9 => h9) rfl dX2_add_10 ?_
  refine lv_iload hx hb dX2_add_13 (lv_at hl 5 rfl) ?_
  obtain ⟨hin, h⟩ := h
  refine va_iald hx hb hK hP 19 0 rfl rfl hin dX2_add_15 ?_
  refine lv_i2l hx hb dX2_add_16 rfl ?_
  refine lv_topl (fun x17 ex17 => ?_)
  have h := h x17 ex17
  refine lv_lstore (lv' := [(8, .long x17), (6, .long x7), (0, .ref (aQ 0)), (1, .ref (aE 0)), (2, .ref (aP 0)), (3, .int p2), (4, .int p3), (5, .int p4)]) hx hb dX2_add_17 hl (by decide) rfl (fun ls hl => ?_)
  refine lv_aload_n hx hb dX2_add_19 rfl (lv_at hl 4 rfl) ?_
  refine va_getN (D := D) (ci := 3) (v := .ref (aP 1)) (C := RX3) (T := TX3) (N := 5) (host := "PlaneOverlay") hx hb hts hiX3 hown hK hP 16 rfl rfl 0 (by decide) (f45 _) (fun _ h9 => h9) rfl dX2_add_20 ?_
  refine lv_iload_n hx hb dX2_add_23 rfl (lv_at hl 5 rfl) ?_
  obtain ⟨hin, h⟩ := h
  refine va_iald hx hb hK hP 17 0 rfl rfl hin dX2_add_24 ?_
  refine lv_i2l hx hb dX2_add_25 rfl ?_
  refine lv_lload hx hb dX2_add_26 (lv_at hl 0 rfl) ?_
  refine lv_lmul hx hb dX2_add_28 ?_
  refine lv_topl (fun x29 ex29 => ?_)
  have h := h x29 ex29
  refine lv_lstore (lv' := [(10, .long x29), (8, .long x17), (6, .long x7), (0, .ref (aQ 0)), (1, .ref (aE 0)), (2, .ref (aP 0)), (3, .int p2), (4, .int p3), (5, .int p4)]) hx hb dX2_add_29 hl (by decide) rfl (fun ls hl => ?_)
  refine lv_aload_n hx hb dX2_add_31 rfl (lv_at hl 5 rfl) ?_
  refine va_getN (D := D) (ci := 3) (v := .ref (aP 1)) (C := RX3) (T := TX3) (N := 5) (host := "PlaneOverlay") hx hb hts hiX3 hown hK hP 16 rfl rfl 0 (by decide) (f45 _) (fun _ h9 => h9) rfl dX2_add_32 ?_
  refine lv_iload hx hb dX2_add_35 (lv_at hl 7 rfl) ?_
  obtain ⟨hin, h⟩ := h
  refine va_iald hx hb hK hP 17 0 rfl rfl hin dX2_add_37 ?_
  refine lv_i2l hx hb dX2_add_38 rfl ?_
  refine lv_lload hx hb dX2_add_39 (lv_at hl 2 rfl) ?_
  refine lv_lmul hx hb dX2_add_41 ?_
  refine lv_topl (fun x42 ex42 => ?_)
  have h := h x42 ex42
  refine lv_lstore (lv' := [(12, .long x42), (10, .long x29), (8, .long x17), (6, .long x7), (0, .ref (aQ 0)), (1, .ref (aE 0)), (2, .ref (aP 0)), (3, .int p2), (4, .int p3), (5, .int p4)]) hx hb dX2_add_42 hl (by decide) rfl (fun ls hl => ?_)
  refine lv_aload_n hx hb dX2_add_44 rfl (lv_at hl 6 rfl) ?_
  refine va_getN (D := D) (ci := 3) (v := .ref (aP 2)) (C := RX3) (T := TX3) (N := 5) (host := "PlaneOverlay") hx hb hts hiX3 hown hK hP 16 rfl rfl 1 (by decide) (f48 _) (fun _ h9 => h9) rfl dX2_add_45 ?_
  refine lv_iload_n hx hb dX2_add_48 rfl (lv_at hl 7 rfl) ?_
  obtain ⟨hin, h⟩ := h
  refine va_iald hx hb hK hP 18 0 rfl rfl hin dX2_add_49 ?_
  refine lv_i2l hx hb dX2_add_50 rfl ?_
  refine lv_lload hx hb dX2_add_51 (lv_at hl 2 rfl) ?_
  refine lv_lmul hx hb dX2_add_53 ?_
  refine lv_topl (fun x54 ex54 => ?_)
  have h := h x54 ex54
  refine lv_lstore (lv' := [(14, .long x54), (12, .long x42), (10, .long x29), (8, .long x17), (6, .long x7), (0, .ref (aQ 0)), (1, .ref (aE 0)), (2, .ref (aP 0)), (3, .int p2), (4, .int p3), (5, .int p4)]) hx hb dX2_add_54 hl (by decide) rfl (fun ls hl => ?_)
  refine lv_aload_n hx hb dX2_add_56 rfl (lv_at hl 7 rfl) ?_
  refine va_getN (D := D) (ci := 3) (v := .ref (aP 2)) (C := RX3) (T := TX3) (N := 5) (host := "PlaneOverlay") hx hb hts hiX3 hown hK hP 16 rfl rfl 1 (by decide) (f48 _) (fun _ h9 => h9) rfl dX2_add_57 ?_
  refine lv_iload hx hb dX2_add_60 (lv_at hl 9 rfl) ?_
  obtain ⟨hin, h⟩ := h
  refine va_iald hx hb hK hP 18 0 rfl rfl hin dX2_add_62 ?_
  refine lv_i2l hx hb dX2_add_63 rfl ?_
  refine lv_lload hx hb dX2_add_64 (lv_at hl 4 rfl) ?_
  refine lv_lmul hx hb dX2_add_66 ?_
  refine lv_topl (fun x67 ex67 => ?_)
  have h := h x67 ex67
  refine lv_lstore (lv' := [(16, .long x67), (14, .long x54), (12, .long x42), (10, .long x29), (8, .long x17), (6, .long x7), (0, .ref (aQ 0)), (1, .ref (aE 0)), (2, .ref (aP 0)), (3, .int p2), (4, .int p3), (5, .int p4)]) hx hb dX2_add_67 hl (by decide) rfl (fun ls hl => ?_)
  refine lv_aload_n hx hb dX2_add_69 rfl (lv_at hl 7 rfl) ?_
  refine lv_lload hx hb dX2_add_70 (lv_at hl 3 rfl) ?_
  refine lv_lload hx hb dX2_add_72 (lv_at hl 2 rfl) ?_
  refine lv_ladd hx hb dX2_add_74 ?_
  refine lv_lload hx hb dX2_add_75 (lv_at hl 1 rfl) ?_
  refine lv_lload hx hb dX2_add_77 (lv_at hl 0 rfl) ?_
  refine lv_ladd hx hb dX2_add_79 ?_
  refine lv_ldc2 (v := (2 : Int64)) hx hb hown k51 dX2_add_80 ?_
  refine lv_lload hx hb dX2_add_83 (lv_at hl 5 rfl) ?_
  refine lv_lmul hx hb dX2_add_85 ?_
  refine lv_lload hx hb dX2_add_86 (lv_at hl 4 rfl) ?_
  refine lv_lmul hx hb dX2_add_88 ?_
  have hPc := hP.sub (ws' := wE k aE fX fY lX lY oP nE) [10, 11, 12, 13, 14, 15] rfl
  refine vp_callSi (W.runV (C := RX0) (b := (aE 0)) (As := [.long (x29 + x42), .long (x54 + x67), .long (((2 : Int64) * x7) * x17)]) (rest := []) ⟨hx, hb, hml, hown, hts⟩ (m_X0_above l D k aE fX fY lX lY oP nE (x29 + x42) (x54 + x67) (((2 : Int64) * x7) * x17) _ h) (cwV 3 hts gX2_add_X0_above rfl rfl rfl (by decide +kernel) ⟨Nat.le_of_ble_eq_true rfl, Nat.le_of_ble_eq_true rfl⟩) (preV_ro (ci := 0) (q0 := 0) (C := RX0) (T := TX0) (N := 6) hE hPc rfl rfl) rfl rfl hl.1 rfl (lv_room (Nat.le_of_ble_eq_true rfl)) dX2_add_89 ⟨Nat.le_of_ble_eq_true rfl, Nat.le_of_ble_eq_true rfl⟩) (fun r89 h => ?_)
  refine lv_istore (lv' := [(18, .int r89), (16, .long x67), (14, .long x54), (12, .long x42), (10, .long x29), (8, .long x17), (6, .long x7), (0, .ref (aQ 0)), (1, .ref (aE 0)), (2, .ref (aP 0)), (3, .int p2), (4, .int p3), (5, .int p4)]) hx hb dX2_add_92 hl (by decide) rfl (fun ls hl => ?_)
  refine lv_aload_n hx hb dX2_add_94 rfl (lv_at hl 7 rfl) ?_
  refine va_get (D := D) (ci := 2) (v := .ref (aQ 1)) (C := RX2) (T := TX2) (N := 2) hx hb hts hiX2 hown hK hP 0 rfl rfl 0 (by decide) f13 (fun _ h9 => h9) rfl dX2_add_95 ?_
  refine lv_iconst (v := (0 : Int32)) hx hb dX2_add_98 (by decide) ?_
  obtain ⟨hj99, h⟩ := h
  refine ra_ald (a := aQ) (b := 2) hx hb hK hP 1 4 rfl rfl hj99 dX2_add_99 ?_
  refine lv_aload_n hx hb dX2_add_100 rfl (lv_at hl 7 rfl) ?_
  refine va_get (D := D) (ci := 2) (v := .int nQ) (C := RX2) (T := TX2) (N := 2) hx hb hts hiX2 hown hK hP 0 rfl rfl 1 (by decide) f16 (fun _ h9 => h9) rfl dX2_add_101 ?_
  refine lv_iload_n hx hb dX2_add_104 rfl (lv_at hl 10 rfl) ?_
  obtain ⟨hin, h⟩ := h
  obtain ⟨y105, ey105⟩ : ∃ z : Nat → Nat → Int32, z = va_up qF (0 : Int32).toNatClampNeg (upd (qF (0 : Int32).toNatClampNeg) nQ.toNatClampNeg p2) := ⟨_, rfl⟩
  have h := h y105 ey105
  refine va_iast hx hb hK hP hD hS (2 + (0 : Int32).toNatClampNeg) 0 (co_8 (P := fun j => (wQ k aQ qF nQ ++ wE k aE fX fY lX lY oP nE ++ wP k aP pX pY pD pO nP)[2 + j]? = some (aQ (2 + j), .inl (k 0, 276, .inl (qF j)))) rfl rfl rfl rfl rfl rfl rfl rfl (vp_lt hj99)) rfl hin dX2_add_105 (fun H locs hP hD hS => ?_)
  rw [co_8 (P := fun j => (wQ k aQ qF nQ ++ wE k aE fX fY lX lY oP nE ++ wP k aP pX pY pD pO nP).set (2 + j) (aQ (2 + j), .inl (k 0, 276, .inl (upd (qF j) nQ.toNatClampNeg p2))) = wQ k aQ (va_up qF j (upd (qF j) nQ.toNatClampNeg p2)) nQ ++ wE k aE fX fY lX lY oP nE ++ wP k aP pX pY pD pO nP) rfl rfl rfl rfl rfl rfl rfl rfl (vp_lt hj99), ← ey105] at hP hD
  refine lv_aload_n hx hb dX2_add_106 rfl (lv_at hl 7 rfl) ?_
  refine va_get (D := D) (ci := 2) (v := .ref (aQ 1)) (C := RX2) (T := TX2) (N := 2) hx hb hts hiX2 hown hK hP 0 rfl rfl 0 (by decide) f13 (fun _ h9 => h9) rfl dX2_add_107 ?_
  refine lv_iconst (v := (1 : Int32)) hx hb dX2_add_110 (by decide) ?_
  obtain ⟨hj111, h⟩ := h
  refine ra_ald (a := aQ) (b := 2) hx hb hK hP 1 4 rfl rfl hj111 dX2_add_111 ?_
  refine lv_aload_n hx hb dX2_add_112 rfl (lv_at hl 7 rfl) ?_
  refine va_get (D := D) (ci := 2) (v := .int nQ) (C := RX2) (T := TX2) (N := 2) hx hb hts hiX2 hown hK hP 0 rfl rfl 1 (by decide) f16 (fun _ h9 => h9) rfl dX2_add_113 ?_
  refine lv_iload hx hb dX2_add_116 (lv_at hl 11 rfl) ?_
  obtain ⟨hin, h⟩ := h
  obtain ⟨y118, ey118⟩ : ∃ z : Nat → Nat → Int32, z = va_up y105 (1 : Int32).toNatClampNeg (upd (y105 (1 : Int32).toNatClampNeg) nQ.toNatClampNeg p3) := ⟨_, rfl⟩
  have h := h y118 ey118
  refine va_iast hx hb hK hP hD hS (2 + (1 : Int32).toNatClampNeg) 0 (co_8 (P := fun j => (wQ k aQ y105 nQ ++ wE k aE fX fY lX lY oP nE ++ wP k aP pX pY pD pO nP)[2 + j]? = some (aQ (2 + j), .inl (k 0, 276, .inl (y105 j)))) rfl rfl rfl rfl rfl rfl rfl rfl (vp_lt hj111)) rfl hin dX2_add_118 (fun H locs hP hD hS => ?_)
  rw [co_8 (P := fun j => (wQ k aQ y105 nQ ++ wE k aE fX fY lX lY oP nE ++ wP k aP pX pY pD pO nP).set (2 + j) (aQ (2 + j), .inl (k 0, 276, .inl (upd (y105 j) nQ.toNatClampNeg p3))) = wQ k aQ (va_up y105 j (upd (y105 j) nQ.toNatClampNeg p3)) nQ ++ wE k aE fX fY lX lY oP nE ++ wP k aP pX pY pD pO nP) rfl rfl rfl rfl rfl rfl rfl rfl (vp_lt hj111), ← ey118] at hP hD
  refine lv_iconst (v := (0 : Int32)) hx hb dX2_add_119 (by decide) ?_
  refine lv_istore (lv' := [(19, .int (0 : Int32)), (18, .int r89), (16, .long x67), (14, .long x54), (12, .long x42), (10, .long x29), (8, .long x17), (6, .long x7), (0, .ref (aQ 0)), (1, .ref (aE 0)), (2, .ref (aP 0)), (3, .int p2), (4, .int p3), (5, .int p4)]) hx hb dX2_add_120 hl (by decide) rfl (fun ls hl => ?_)
  obtain ⟨n9, h⟩ := h
  exact L122 n9 x29 x42 r89 (0 : Int32) y118 nQ _ _ _ h hP hD hS (lv_sub hl [8, 9, 13, 5, 4, 1, 0] rfl)
set_option maxHeartbeats 4000000 in
set_option maxRecDepth 100000 in
theorem m_X2_cut (l : Launch) (D : va_G) (k : Nat → ClassId) (aE : Nat → Nat) (aP : Nat → Nat) (aQ : Nat → Nat) (qF : Nat → Nat → Int32) (nQ : Int32) (fX : Nat → Int32) (fY : Nat → Int32) (lX : Nat → Int32) (lY : Nat → Int32) (oP : Nat → Int32) (nE : Int32) (pX : Nat → Int32) (pY : Nat → Int32) (pD : Nat → Int32) (pO : Nat → Int32) (nP : Int32)  (Q : (Nat → Nat → Int32) → (Int32) → Prop) (sz : Nat) (h : wp_X2_cut qF nQ fX fY lX lY oP nE pX pY pD pO nP Q) : Met l yX2_cut wsX2_cut ({ frames := 4, cells := 0, slots := 0, locals := 119 }) (Prw D k [.ref (aQ 0), .ref (aE 0), .ref (aP 0)] (wQ k aQ qF nQ ++ wE k aE fX fY lX lY oP nE ++ wP k aP pX pY pD pO nP) sz) (va_Qv (fun (u : (Nat → Nat → Int32) × (Int32)) => Q u.1 u.2) (fun (u : (Nat → Nat → Int32) × (Int32)) t => va_P D vwCl (wQ k aQ (u.1) (u.2) ++ wE k aE fX fY lX lY oP nE ++ wP k aP pX pY pD pO nP) t.heap ∧ va_D (va_A (wQ k aQ qF nQ ++ wE k aE fX fY lX lY oP nE ++ wP k aP pX pY pD pO nP) sz) (wQ k aQ (u.1) (u.2) ++ wE k aE fX fY lX lY oP nE ++ wP k aP pX pY pD pO nP)) (va_A (wQ k aQ qF nQ ++ wE k aE fX fY lX lY oP nE ++ wP k aP pX pY pD pO nP) sz)) 0 0 (va_A (wQ k aQ qF nQ ++ wE k aE fX fY lX lY oP nE ++ wP k aP pX pY pD pO nP) sz) := by
  refine Met.ofW (cc := cX2_cut) (maxL := 7) (ret := none) (by decide) rfl ?_
  intro p e s m args below meth c s₁ B hml hv
  obtain ⟨hav, hsz, hP, hE, hD0⟩ := hv
  subst hsz
  have hx := B.exec
  have hb := B.bytes
  have hr := B.returns
  have hts := atoms_spec (ws := wsX2_cut) B.pre
  have hown : s.vm.findClass RX2 = some m.cls := findClass_of_methodNamed B.named
  have hlocks := B.notSynchronized
  have hK := hE.1
  have hD := hD0.self (sz := s.heap.size)
  generalize hAe : va_A (wQ k aQ qF nQ ++ wE k aE fX fY lX lY oP nE ++ wP k aP pX pY pD pO nP) s.heap.size = A at hD ⊢
  have hA : ∀ q : Nat, s.heap.size ≤ q → A q := fun q h => by rw [← hAe]; exact Or.inr h
  have hS : va_S A s.heap s.heap [] := va_S.rf
  have hl := lv_entry ([.ref (aQ 0), .ref (aE 0), .ref (aP 0)]) (n := 7) (Nat.le_of_ble_eq_true rfl)
  rw [show entryFrame m args 7 = entryFrame m ([.ref (aQ 0), .ref (aE 0), .ref (aP 0)] : List Value).toArray 7 by rw [hav]]
  rw [lg_entry_eq]
  refine W.gq (fun GQ hGQ => ?_)
  generalize (lg_sl ([.ref (aQ 0), .ref (aE 0), .ref (aP 0)]) ++ List.replicate (7 - (lg_sl ([.ref (aQ 0), .ref (aE 0), .ref (aP 0)])).length) Slot.unset).toArray = ls at hl ⊢
  have hl : lv_has ls 7 [(0, .ref (aQ 0)), (1, .ref (aE 0)), (2, .ref (aP 0))] := hl
  have hiX3 := (by decide +kernel : ∀ w ∈ wsX30, w ∈ wsX2_cut)
  have f20 := fun A => hE.nf (A := A) (RX2, 20, "PlaneOverlay$Points", "count", "I") (by decide +kernel)
  have f23 := fun A => hE.nf (A := A) (RX2, 23, "PlaneOverlay$Points", "onEdges", "[I") (by decide +kernel)
  have hiX2 := (by decide +kernel : ∀ w ∈ wsX20, w ∈ wsX2_cut)
  have f16 := hts (.fieldLink RX2 16 "PlaneOverlay$Pieces" "count" "I") (by decide +kernel)
  have L7 : ∀ (n7 : Nat) (v3 : Int32) (qF : Nat → Nat → Int32) (nQ : Int32) (H : Heap) (locs : List Loc) (ls : Array Slot), wp_X2_cut_L7 fX fY lX lY oP nE pX pY pD pO nP Q  n7 v3 qF nQ → va_P D vwCl (wQ k aQ qF nQ ++ wE k aE fX fY lX lY oP nE ++ wP k aP pX pY pD pO nP) H → va_D A (wQ k aQ qF nQ ++ wE k aE fX fY lX lY oP nE ++ wP k aP pX pY pD pO nP) → va_S A s.heap H locs → lv_has ls 7 [(0, .ref (aQ 0)), (1, .ref (aE 0)), (2, .ref (aP 0)), (3, .int v3)] → W p l e (headSpec wsX2_cut ({ frames := 4, cells := 0, slots := 0, locals := 119 })).room s m args below meth c H locs 0 0 GQ (F0 m 7 ls []) := by
    intro n7
    induction n7 with
    | zero => intro v3 qF nQ H locs ls h hP hD hS hl; exact False.elim h
    | succ n7 ih7 =>
      have L95 : ∀ (v3 : Int32) (qF : Nat → Nat → Int32) (nQ : Int32) (H : Heap) (locs : List Loc) (ls : Array Slot), wp_X2_cut_L95 fX fY lX lY oP nE pX pY pD pO nP Q (wp_X2_cut_L7 fX fY lX lY oP nE pX pY pD pO nP Q  n7) v3 qF nQ → va_P D vwCl (wQ k aQ qF nQ ++ wE k aE fX fY lX lY oP nE ++ wP k aP pX pY pD pO nP) H → va_D A (wQ k aQ qF nQ ++ wE k aE fX fY lX lY oP nE ++ wP k aP pX pY pD pO nP) → va_S A s.heap H locs → lv_has ls 7 [(0, .ref (aQ 0)), (1, .ref (aE 0)), (2, .ref (aP 0)), (3, .int v3)] → W p l e (headSpec wsX2_cut ({ frames := 4, cells := 0, slots := 0, locals := 119 })).room s m args below meth c H locs 0 0 GQ (F0 m 95 ls []) := by
        intro v3 qF nQ H locs ls h hP hD hS hl
        unfold wp_X2_cut_L95 at h
        refine lv_iinc (v := (v3 + 1)) (lv' := [(3, .int (v3 + 1)), (0, .ref (aQ 0)), (1, .ref (aE 0)), (2, .ref (aP 0))]) hx hb dX2_cut_95 hl (k := 3) rfl rfl (by decide) rfl (fun ls hl => ?_)
        refine lv_goto (tgt := 7) hx hb dX2_cut_98 (by decide) ?_
        exact ih7 (v3 + 1) qF nQ _ _ _ h hP hD hS (lv_sub hl [1, 2, 3, 0] rfl)
      have L28 : ∀ (n28 : Nat) (v3 : Int32) (v4 : Int32) (v5 : Int32) (qF : Nat → Nat → Int32) (nQ : Int32) (H : Heap) (locs : List Loc) (ls : Array Slot), wp_X2_cut_L28 fX fY lX lY oP nE pX pY pD pO nP Q (fun v3 qF nQ => (wp_X2_cut_L95 fX fY lX lY oP nE pX pY pD pO nP Q (wp_X2_cut_L7 fX fY lX lY oP nE pX pY pD pO nP Q  n7) v3 qF nQ)) n28 v3 v4 v5 qF nQ → va_P D vwCl (wQ k aQ qF nQ ++ wE k aE fX fY lX lY oP nE ++ wP k aP pX pY pD pO nP) H → va_D A (wQ k aQ qF nQ ++ wE k aE fX fY lX lY oP nE ++ wP k aP pX pY pD pO nP) → va_S A s.heap H locs → lv_has ls 7 [(0, .ref (aQ 0)), (1, .ref (aE 0)), (2, .ref (aP 0)), (3, .int v3), (4, .int v4), (5, .int v5)] → W p l e (headSpec wsX2_cut ({ frames := 4, cells := 0, slots := 0, locals := 119 })).room s m args below meth c H locs 0 0 GQ (F0 m 28 ls []) := by
        intro n28
        induction n28 with
        | zero => intro v3 v4 v5 qF nQ H locs ls h hP hD hS hl; exact False.elim h
        | succ n28 ih28 =>
          have L80 : ∀ (v3 : Int32) (v4 : Int32) (v5 : Int32) (v6 : Int32) (qF : Nat → Nat → Int32) (nQ : Int32) (H : Heap) (locs : List Loc) (ls : Array Slot), wp_X2_cut_L80 fX fY lX lY oP nE pX pY pD pO nP Q (wp_X2_cut_L28 fX fY lX lY oP nE pX pY pD pO nP Q (fun v3 qF nQ => (wp_X2_cut_L95 fX fY lX lY oP nE pX pY pD pO nP Q (wp_X2_cut_L7 fX fY lX lY oP nE pX pY pD pO nP Q  n7) v3 qF nQ)) n28) v3 v4 v5 v6 qF nQ → va_P D vwCl (wQ k aQ qF nQ ++ wE k aE fX fY lX lY oP nE ++ wP k aP pX pY pD pO nP) H → va_D A (wQ k aQ qF nQ ++ wE k aE fX fY lX lY oP nE ++ wP k aP pX pY pD pO nP) → va_S A s.heap H locs → lv_has ls 7 [(0, .ref (aQ 0)), (1, .ref (aE 0)), (2, .ref (aP 0)), (3, .int v3), (4, .int v4), (5, .int v5), (6, .int v6)] → W p l e (headSpec wsX2_cut ({ frames := 4, cells := 0, slots := 0, locals := 119 })).room s m args below meth c H locs 0 0 GQ (F0 m 80 ls []) := by
            intro v3 v4 v5 v6 qF nQ H locs ls h hP hD hS hl
            unfold wp_X2_cut_L80 at h
            refine lv_iload hx hb dX2_cut_80 (lv_at hl 4 rfl) ?_
            refine lv_iload hx hb dX2_cut_82 (lv_at hl 6 rfl) ?_
            refine lv_iconst (v := (-1 : Int32)) hx hb dX2_cut_84 (by decide) ?_
            refine lv_ixor hx hb dX2_cut_85 ?_
            refine lv_iand hx hb dX2_cut_86 ?_
            refine lv_topi (fun x87 ex87 => ?_)
            have h := h x87 ex87
            refine lv_istore (lv' := [(4, .int x87), (0, .ref (aQ 0)), (1, .ref (aE 0)), (2, .ref (aP 0)), (3, .int v3), (5, .int v5), (6, .int v6)]) hx hb dX2_cut_87 hl (by decide) rfl (fun ls hl => ?_)
            refine lv_iinc (v := (v5 + 1)) (lv' := [(5, .int (v5 + 1)), (4, .int x87), (0, .ref (aQ 0)), (1, .ref (aE 0)), (2, .ref (aP 0)), (3, .int v3), (6, .int v6)]) hx hb dX2_cut_89 hl (k := 5) rfl rfl (by decide) rfl (fun ls hl => ?_)
            refine lv_goto (tgt := 28) hx hb dX2_cut_92 (by decide) ?_
            exact ih28 v3 x87 (v5 + 1) qF nQ _ _ _ h hP hD hS (lv_sub hl [2, 3, 4, 5, 1, 0] rfl)
          intro v3 v4 v5 qF nQ H locs ls h hP hD hS hl
          rw [wp_X2_cut_L28] at h
          refine lv_iload hx hb dX2_cut_28 (lv_at hl 5 rfl) ?_
          refine lv_aload_n hx hb dX2_cut_30 rfl (lv_at hl 2 rfl) ?_
          refine va_getN (D := D) (ci := 3) (v := .int nP) (C := RX3) (T := TX3) (N := 5) (host := "PlaneOverlay") hx hb hts hiX3 hown hK hP 16 rfl rfl 4 (by decide) (f20 _) (fun _ h9 => h9) rfl dX2_cut_31 ?_
          refine lv_icmp_ge (tgt := 95) hx hb dX2_cut_34 (by decide) (fun cq => ?_) (fun cq => ?_)
          · have h := h.1 cq
            exact L95 v3 qF nQ _ _ _ h hP hD hS (lv_sub hl [0, 1, 2, 3] rfl)
          · have h := h.2 cq
            refine lv_iload hx hb dX2_cut_37 (lv_at hl 4 rfl) ?_
            refine lv_if_eq (tgt := 95) hx hb dX2_cut_39 (by decide) (fun cq => ?_) (fun cq => ?_)
            · have h := h.1 cq
              exact L95 v3 qF nQ _ _ _ h hP hD hS (lv_sub hl [0, 1, 2, 3] rfl)
            · have h := h.2 cq
              refine lv_iload hx hb dX2_cut_42 (lv_at hl 4 rfl) ?_
              refine lv_aload_n hx hb dX2_cut_44 rfl (lv_at hl 2 rfl) ?_
              refine va_getN (D := D) (ci := 3) (v := .ref (aP 4)) (C := RX3) (T := TX3) (N := 5) (host := "PlaneOverlay") hx hb hts hiX3 hown hK hP 16 rfl rfl 3 (by decide) (f23 _) (fun _ h9 => h9) rfl dX2_cut_45 ?_
              refine lv_iload hx hb dX2_cut_48 (lv_at hl 5 rfl) ?_
              obtain ⟨hin, h⟩ := h
              refine va_iald hx hb hK hP 20 0 rfl rfl hin dX2_cut_50 ?_
              refine lv_iand hx hb dX2_cut_51 ?_
              refine lv_topi (fun x52 ex52 => ?_)
              have h := h x52 ex52
              refine lv_istore (lv' := [(6, .int x52), (0, .ref (aQ 0)), (1, .ref (aE 0)), (2, .ref (aP 0)), (3, .int v3), (4, .int v4), (5, .int v5)]) hx hb dX2_cut_52 hl (by decide) rfl (fun ls hl => ?_)
              refine lv_iload hx hb dX2_cut_54 (lv_at hl 0 rfl) ?_
              refine lv_if_eq (tgt := 80) hx hb dX2_cut_56 (by decide) (fun cq => ?_) (fun cq => ?_)
              · have h := h.1 cq
                exact L80 v3 v4 v5 x52 qF nQ _ _ _ h hP hD hS (lv_sub hl [1, 2, 3, 4, 5, 6, 0] rfl)
              · have h := h.2 cq
                refine lv_aload_n hx hb dX2_cut_59 rfl (lv_at hl 1 rfl) ?_
                refine va_get (D := D) (ci := 2) (v := .int nQ) (C := RX2) (T := TX2) (N := 2) hx hb hts hiX2 hown hK hP 0 rfl rfl 1 (by decide) f16 (fun _ h9 => h9) rfl dX2_cut_60 ?_
                refine lv_sipush (v := (276 : Int32)) hx hb dX2_cut_63 (by decide) ?_
                refine lv_icmp_ge (tgt := 80) hx hb dX2_cut_66 (by decide) (fun cq => ?_) (fun cq => ?_)
                · have h := h.1 cq
                  exact L80 v3 v4 v5 x52 qF nQ _ _ _ h hP hD hS (lv_sub hl [1, 2, 3, 4, 5, 6, 0] rfl)
                · have h := h.2 cq
                  refine lv_aload_n hx hb dX2_cut_69 rfl (lv_at hl 1 rfl) ?_
                  refine lv_aload_n hx hb dX2_cut_70 rfl (lv_at hl 2 rfl) ?_
                  refine lv_aload_n hx hb dX2_cut_71 rfl (lv_at hl 3 rfl) ?_
                  refine lv_iload_n hx hb dX2_cut_72 rfl (lv_at hl 4 rfl) ?_
                  refine lv_iload hx hb dX2_cut_73 (lv_at hl 6 rfl) ?_
                  refine lv_iload hx hb dX2_cut_75 (lv_at hl 0 rfl) ?_
                  have hFc := va_free (wc := wQ k aQ qF nQ ++ wE k aE fX fY lX lY oP nE ++ wP k aP pX pY pD pO nP) hD hS hA [0, 1, 2, 3, 4, 5, 6, 7, 8, 9, 10, 11, 12, 13, 14, 15, 16, 17, 18, 19, 20] rfl
                  refine va_callv (va_runV (C := RX2) (b := (aQ 0)) (As := [.ref (aE 0), .ref (aP 0), .int v3, .int v5, .int x52]) (rest := []) ⟨hx, hb, hml, hown, hts⟩ (m_X2_add l D k aE aP aQ qF nQ fX fY lX lY oP nE pX pY pD pO nP v3 v5 x52 _ _ h) (cwV 5 hts gX2_cut_X2_add rfl rfl rfl (by decide +kernel) ⟨Nat.le_of_ble_eq_true rfl, Nat.le_of_ble_eq_true rfl⟩) (preV_rw (ci := 2) (q0 := 0) (C := RX2) (T := TX2) (N := 2) hE hP hD rfl rfl) rfl rfl hl.1 rfl (lv_room (Nat.le_of_ble_eq_true rfl)) dX2_cut_77 ⟨Nat.le_of_ble_eq_true rfl, Nat.le_of_ble_eq_true rfl⟩) hS (fun q _ h => hFc q h) hFc (fun u t H1 locs ht hvm h hB hz1 hk1 hS => ?_)
                  obtain ⟨qF_77, nQ_77⟩ := u
                  obtain ⟨hP1, hD1⟩ := hB
                  rw [ht] at hP1
                  obtain ⟨hP, hD⟩ := va_join (wr := ([] : va_W)) (w1 := wQ k aQ qF_77 nQ_77 ++ wE k aE fX fY lX lY oP nE ++ wP k aP pX pY pD pO nP) hP hD [0, 1, 2, 3, 4, 5, 6, 7, 8, 9, 10, 11, 12, 13, 14, 15, 16, 17, 18, 19, 20] [] rfl rfl (by decide) (by decide) hk1 hFc hP1 hD1
                  generalize H1 = H at hP hS ⊢
                  have hP : va_P D vwCl (wQ k aQ qF_77 nQ_77 ++ wE k aE fX fY lX lY oP nE ++ wP k aP pX pY pD pO nP) H := hP.sub [0, 1, 2, 3, 4, 5, 6, 7, 8, 9, 10, 11, 12, 13, 14, 15, 16, 17, 18, 19, 20] rfl
                  have hD : va_D A (wQ k aQ qF_77 nQ_77 ++ wE k aE fX fY lX lY oP nE ++ wP k aP pX pY pD pO nP) := hD.sub [0, 1, 2, 3, 4, 5, 6, 7, 8, 9, 10, 11, 12, 13, 14, 15, 16, 17, 18, 19, 20] (by decide) rfl
                  exact L80 v3 v4 v5 x52 qF_77 nQ_77 _ _ _ h hP hD hS (lv_sub hl [1, 2, 3, 4, 5, 6, 0] rfl)
      intro v3 qF nQ H locs ls h hP hD hS hl
      rw [wp_X2_cut_L7] at h
      refine lv_iload_n hx hb dX2_cut_7 rfl (lv_at hl 3 rfl) ?_
      refine lv_aload_n hx hb dX2_cut_8 rfl (lv_at hl 2 rfl) ?_
      refine va_getN (D := D) (ci := 3) (v := .int nP) (C := RX3) (T := TX3) (N := 5) (host := "PlaneOverlay") hx hb hts hiX3 hown hK hP 16 rfl rfl 4 (by decide) (f20 _) (fun _ h9 => h9) rfl dX2_cut_9 ?_
      refine lv_icmp_ge (tgt := 101) hx hb dX2_cut_12 (by decide) (fun cq => ?_) (fun cq => ?_)
      · have h := h.1 cq
        rw [hGQ]
        exact W.vret hx hb hr (fun t ht hW => ⟨⟨(qF, nQ), rfl, h, by rw [ht]; exact hP, hD⟩, hS.F ht⟩) hS.2.2 dX2_cut_101
      · have h := h.2 cq
        refine lv_aload_n hx hb dX2_cut_15 rfl (lv_at hl 2 rfl) ?_
        refine va_getN (D := D) (ci := 3) (v := .ref (aP 4)) (C := RX3) (T := TX3) (N := 5) (host := "PlaneOverlay") hx hb hts hiX3 hown hK hP 16 rfl rfl 3 (by decide) (f23 _) (fun _ h9 => h9) rfl dX2_cut_16 ?_
        refine lv_iload_n hx hb dX2_cut_19 rfl (lv_at hl 3 rfl) ?_
        obtain ⟨hin, h⟩ := h
        refine va_iald hx hb hK hP 20 0 rfl rfl hin dX2_cut_20 ?_
        refine lv_topi (fun x21 ex21 => ?_)
        have h := h x21 ex21
        refine lv_istore (lv' := [(4, .int x21), (0, .ref (aQ 0)), (1, .ref (aE 0)), (2, .ref (aP 0)), (3, .int v3)]) hx hb dX2_cut_21 hl (by decide) rfl (fun ls hl => ?_)
        refine lv_iload_n hx hb dX2_cut_23 rfl (lv_at hl 4 rfl) ?_
        refine lv_iconst (v := (1 : Int32)) hx hb dX2_cut_24 (by decide) ?_
        refine lv_iadd hx hb dX2_cut_25 ?_
        refine lv_topi (fun x26 ex26 => ?_)
        have h := h x26 ex26
        refine lv_istore (lv' := [(5, .int x26), (4, .int x21), (0, .ref (aQ 0)), (1, .ref (aE 0)), (2, .ref (aP 0)), (3, .int v3)]) hx hb dX2_cut_26 hl (by decide) rfl (fun ls hl => ?_)
        obtain ⟨n9, h⟩ := h
        exact L28 n9 v3 x21 x26 qF nQ _ _ _ h hP hD hS (lv_sub hl [2, 3, 4, 5, 1, 0] rfl)
  unfold wp_X2_cut at h
  refine lv_aload_n hx hb dX2_cut_0 rfl (lv_at hl 0 rfl) ?_
  refine lv_iconst (v := (0 : Int32)) hx hb dX2_cut_1 (by decide) ?_
  refine va_put (D := D) (ci := 2) (v := .int (0 : Int32)) (ty := .int) (C := RX2) (T := TX2) (N := 2) hx hb hts hiX2 tyX2 tyX2_ok nmX2 hown hK hP hD hS 0 rfl rfl 1 (by decide) f16 (fun _ h9 => h9) rfl (by decide +kernel) rfl rfl (Nat.le_of_ble_eq_true rfl) dX2_cut_2 (fun H locs hP hD hS => ?_)
  have hP : va_P D vwCl (wQ k aQ qF (0 : Int32) ++ wE k aE fX fY lX lY oP nE ++ wP k aP pX pY pD pO nP) H := hP
  have hD : va_D A (wQ k aQ qF (0 : Int32) ++ wE k aE fX fY lX lY oP nE ++ wP k aP pX pY pD pO nP) := hD
  refine lv_iconst (v := (0 : Int32)) hx hb dX2_cut_5 (by decide) ?_
  refine lv_istore_n (lv' := [(3, .int (0 : Int32)), (0, .ref (aQ 0)), (1, .ref (aE 0)), (2, .ref (aP 0))]) hx hb dX2_cut_6 rfl hl (by decide) rfl (fun ls hl => ?_)
  obtain ⟨n9, h⟩ := h
  exact L7 n9 (0 : Int32) qF (0 : Int32) _ _ _ h hP hD hS (lv_sub hl [1, 2, 3, 0] rfl)
set_option maxHeartbeats 4000000 in
set_option maxRecDepth 100000 in
theorem m_X1_edgesMet (l : Launch) (D : va_G) (k : Nat → ClassId) (aP : Nat → Nat) (pX : Nat → Int32) (pY : Nat → Int32) (pD : Nat → Int32) (pO : Nat → Int32) (nP : Int32) (p0 : Int32) (Q : Int32 → Prop) (h : wp_X1_edgesMet p0 pO nP Q) : Met l yX1_edgesMet wsX1_edgesMet ({ frames := 0, cells := 0, slots := 0, locals := 0 }) (Pro D k [.int p0, .ref (aP 0)] (wP k aP pX pY pD pO nP)) (vp_Si Q) 0 0 (fun _ => False) := by
  refine Met.ofW (cc := cX1_edgesMet) (maxL := 4) (ret := (some .int)) (by decide) rfl ?_
  intro p e s m args below meth c s₁ B hml hv
  obtain ⟨hav, hP, hE⟩ := hv
  have hx := B.exec
  have hb := B.bytes
  have hr := B.returns
  have hts := atoms_spec (ws := wsX1_edgesMet) B.pre
  have hown : s.vm.findClass RX1 = some m.cls := findClass_of_methodNamed B.named
  have hlocks := B.notSynchronized
  have hK := hE.1
  have hl := lv_entry ([.int p0, .ref (aP 0)]) (n := 4) (Nat.le_of_ble_eq_true rfl)
  rw [show entryFrame m args 4 = entryFrame m ([.int p0, .ref (aP 0)] : List Value).toArray 4 by rw [hav]]
  rw [lg_entry_eq]
  refine W.gq (fun GQ hGQ => ?_)
  generalize (lg_sl ([.int p0, .ref (aP 0)]) ++ List.replicate (4 - (lg_sl ([.int p0, .ref (aP 0)])).length) Slot.unset).toArray = ls at hl ⊢
  have hl : lv_has ls 4 [(0, .int p0), (1, .ref (aP 0))] := hl
  have hiX3 := (by decide +kernel : ∀ w ∈ wsX30, w ∈ wsX1_edgesMet)
  have f37 := fun A => hE.nf (A := A) (RX1, 37, "PlaneOverlay$Points", "count", "I") (by decide +kernel)
  have f42 := fun A => hE.nf (A := A) (RX1, 42, "PlaneOverlay$Points", "onEdges", "[I") (by decide +kernel)
  have L4 : ∀ (n4 : Nat) (v2 : Int32) (v3 : Int32) (ls : Array Slot), wp_X1_edgesMet_L4 p0 pO nP Q  n4 v2 v3 → lv_has ls 4 [(0, .int p0), (1, .ref (aP 0)), (2, .int v2), (3, .int v3)] → W p l e (headSpec wsX1_edgesMet ({ frames := 0, cells := 0, slots := 0, locals := 0 })).room s m args below meth c s.heap [] 0 0 GQ (F0 m 4 ls []) := by
    intro n4
    induction n4 with
    | zero => intro v2 v3 ls h hl; exact False.elim h
    | succ n4 ih4 =>
      have L34 : ∀ (v2 : Int32) (v3 : Int32) (ls : Array Slot), wp_X1_edgesMet_L34 p0 pO nP Q (wp_X1_edgesMet_L4 p0 pO nP Q  n4) v2 v3 → lv_has ls 4 [(0, .int p0), (1, .ref (aP 0)), (2, .int v2), (3, .int v3)] → W p l e (headSpec wsX1_edgesMet ({ frames := 0, cells := 0, slots := 0, locals := 0 })).room s m args below meth c s.heap [] 0 0 GQ (F0 m 34 ls []) := by
        intro v2 v3 ls h hl
        unfold wp_X1_edgesMet_L34 at h
        refine lv_iinc (v := (v3 + 1)) (lv' := [(3, .int (v3 + 1)), (0, .int p0), (1, .ref (aP 0)), (2, .int v2)]) hx hb dX1_edgesMet_34 hl (k := 3) rfl rfl (by decide) rfl (fun ls hl => ?_)
        refine lv_goto (tgt := 4) hx hb dX1_edgesMet_37 (by decide) ?_
        exact ih4 v2 (v3 + 1) _ h (lv_sub hl [1, 2, 3, 0] rfl)
      intro v2 v3 ls h hl
      rw [wp_X1_edgesMet_L4] at h
      refine lv_iload_n hx hb dX1_edgesMet_4 rfl (lv_at hl 3 rfl) ?_
      refine lv_aload_n hx hb dX1_edgesMet_5 rfl (lv_at hl 1 rfl) ?_
      refine va_getN (D := D) (ci := 3) (v := .int nP) (C := RX3) (T := TX3) (N := 5) (host := "PlaneOverlay") hx hb hts hiX3 hown hK hP 0 rfl rfl 4 (by decide) (f37 _) (fun _ h9 => h9) rfl dX1_edgesMet_6 ?_
      refine lv_icmp_ge (tgt := 40) hx hb dX1_edgesMet_9 (by decide) (fun cq => ?_) (fun cq => ?_)
      · have h := h.1 cq
        refine lv_iload_n hx hb dX1_edgesMet_40 rfl (lv_at hl 2 rfl) ?_
        rw [hGQ]
        exact W.iret (v := v2) hx hb hr (fun t ht hW => ⟨_, rfl, h, ht⟩) (fun _ h => by cases h) dX1_edgesMet_41
      · have h := h.2 cq
        refine lv_aload_n hx hb dX1_edgesMet_12 rfl (lv_at hl 1 rfl) ?_
        refine va_getN (D := D) (ci := 3) (v := .ref (aP 4)) (C := RX3) (T := TX3) (N := 5) (host := "PlaneOverlay") hx hb hts hiX3 hown hK hP 0 rfl rfl 3 (by decide) (f42 _) (fun _ h9 => h9) rfl dX1_edgesMet_13 ?_
        refine lv_iload_n hx hb dX1_edgesMet_16 rfl (lv_at hl 3 rfl) ?_
        obtain ⟨hin, h⟩ := h
        refine va_iald hx hb hK hP 4 0 rfl rfl hin dX1_edgesMet_17 ?_
        refine lv_iconst (v := (1 : Int32)) hx hb dX1_edgesMet_18 (by decide) ?_
        refine lv_iload_n hx hb dX1_edgesMet_19 rfl (lv_at hl 0 rfl) ?_
        refine lv_ishl hx hb dX1_edgesMet_20 ?_
        refine lv_iand hx hb dX1_edgesMet_21 ?_
        refine lv_if_eq (tgt := 34) hx hb dX1_edgesMet_22 (by decide) (fun cq => ?_) (fun cq => ?_)
        · have h := h.1 cq
          exact L34 v2 v3 _ h (lv_sub hl [0, 1, 2, 3] rfl)
        · have h := h.2 cq
          refine lv_iload_n hx hb dX1_edgesMet_25 rfl (lv_at hl 2 rfl) ?_
          refine lv_aload_n hx hb dX1_edgesMet_26 rfl (lv_at hl 1 rfl) ?_
          refine va_getN (D := D) (ci := 3) (v := .ref (aP 4)) (C := RX3) (T := TX3) (N := 5) (host := "PlaneOverlay") hx hb hts hiX3 hown hK hP 0 rfl rfl 3 (by decide) (f42 _) (fun _ h9 => h9) rfl dX1_edgesMet_27 ?_
          refine lv_iload_n hx hb dX1_edgesMet_30 rfl (lv_at hl 3 rfl) ?_
          obtain ⟨hin, h⟩ := h
          refine va_iald hx hb hK hP 4 0 rfl rfl hin dX1_edgesMet_31 ?_
          refine lv_ior hx hb dX1_edgesMet_32 ?_
          refine lv_topi (fun x33 ex33 => ?_)
          have h := h x33 ex33
          refine lv_istore_n (lv' := [(2, .int x33), (0, .int p0), (1, .ref (aP 0)), (3, .int v3)]) hx hb dX1_edgesMet_33 rfl hl (by decide) rfl (fun ls hl => ?_)
          exact L34 x33 v3 _ h (lv_sub hl [1, 2, 0, 3] rfl)
  unfold wp_X1_edgesMet at h
  refine lv_iconst (v := (0 : Int32)) hx hb dX1_edgesMet_0 (by decide) ?_
  refine lv_istore_n (lv' := [(2, .int (0 : Int32)), (0, .int p0), (1, .ref (aP 0))]) hx hb dX1_edgesMet_1 rfl hl (by decide) rfl (fun ls hl => ?_)
  refine lv_iconst (v := (0 : Int32)) hx hb dX1_edgesMet_2 (by decide) ?_
  refine lv_istore_n (lv' := [(3, .int (0 : Int32)), (2, .int (0 : Int32)), (0, .int p0), (1, .ref (aP 0))]) hx hb dX1_edgesMet_3 rfl hl (by decide) rfl (fun ls hl => ?_)
  obtain ⟨n9, h⟩ := h
  exact L4 n9 (0 : Int32) (0 : Int32) _ h (lv_sub hl [2, 3, 1, 0] rfl)
set_option maxHeartbeats 4000000 in
set_option maxRecDepth 100000 in
theorem m_X1_countPairs (l : Launch) (D : va_G) (k : Nat → ClassId) (aM : Nat → Nat) (mR : Nat → Int32) (mQ : Int32) (mN : Int32) (p0 : Int32) (Q : Int32 → Prop) (h : wp_X1_countPairs p0 mR Q) : Met l yX1_countPairs wsX1_countPairs ({ frames := 1, cells := 0, slots := 0, locals := 20 }) (Pro D k [.ref (aM 0), .int p0] (wM k aM mR mQ mN)) (vp_Si Q) 0 0 (fun _ => False) := by
  refine Met.ofW (cc := cX1_countPairs) (maxL := 5) (ret := (some .int)) (by decide) rfl ?_
  intro p e s m args below meth c s₁ B hml hv
  obtain ⟨hav, hP, hE⟩ := hv
  have hx := B.exec
  have hb := B.bytes
  have hr := B.returns
  have hts := atoms_spec (ws := wsX1_countPairs) B.pre
  have hown : s.vm.findClass RX1 = some m.cls := findClass_of_methodNamed B.named
  have hlocks := B.notSynchronized
  have hK := hE.1
  have hl := lv_entry ([.ref (aM 0), .int p0]) (n := 5) (Nat.le_of_ble_eq_true rfl)
  rw [show entryFrame m args 5 = entryFrame m ([.ref (aM 0), .int p0] : List Value).toArray 5 by rw [hav]]
  rw [lg_entry_eq]
  refine W.gq (fun GQ hGQ => ?_)
  generalize (lg_sl ([.ref (aM 0), .int p0]) ++ List.replicate (5 - (lg_sl ([.ref (aM 0), .int p0])).length) Slot.unset).toArray = ls at hl ⊢
  have hl : lv_has ls 5 [(0, .ref (aM 0)), (1, .int p0)] := hl
  have hiX1 := (by decide +kernel : ∀ w ∈ wsX10, w ∈ wsX1_countPairs)
  have f9 := hts (.fieldLink RX1 9 "PlaneOverlay$Meetings" "reach" "[I") (by decide +kernel)
  have L4 : ∀ (n4 : Nat) (v2 : Int32) (v3 : Int32) (ls : Array Slot), wp_X1_countPairs_L4 p0 mR Q  n4 v2 v3 → lv_has ls 5 [(0, .ref (aM 0)), (1, .int p0), (2, .int v2), (3, .int v3)] → W p l e (headSpec wsX1_countPairs ({ frames := 1, cells := 0, slots := 0, locals := 20 })).room s m args below meth c s.heap [] 0 0 GQ (F0 m 4 ls []) := by
    intro n4
    induction n4 with
    | zero => intro v2 v3 ls h hl; exact False.elim h
    | succ n4 ih4 =>
      intro v2 v3 ls h hl
      rw [wp_X1_countPairs_L4] at h
      refine lv_iload_n hx hb dX1_countPairs_4 rfl (lv_at hl 3 rfl) ?_
      refine lv_iload_n hx hb dX1_countPairs_5 rfl (lv_at hl 1 rfl) ?_
      refine lv_icmp_ge (tgt := 37) hx hb dX1_countPairs_6 (by decide) (fun cq => ?_) (fun cq => ?_)
      · have h := h.1 cq
        refine lv_iload_n hx hb dX1_countPairs_37 rfl (lv_at hl 2 rfl) ?_
        rw [hGQ]
        exact W.iret (v := v2) hx hb hr (fun t ht hW => ⟨_, rfl, h, ht⟩) (fun _ h => by cases h) dX1_countPairs_38
      · have h := h.2 cq
        refine lv_iconst (v := (1 : Int32)) hx hb dX1_countPairs_9 (by decide) ?_
        refine lv_iload_n hx hb dX1_countPairs_10 rfl (lv_at hl 3 rfl) ?_
        refine lv_ishl hx hb dX1_countPairs_11 ?_
        refine lv_iconst (v := (1 : Int32)) hx hb dX1_countPairs_12 (by decide) ?_
        refine lv_isub hx hb dX1_countPairs_13 ?_
        refine lv_topi (fun x14 ex14 => ?_)
        have h := h x14 ex14
        refine lv_istore (lv' := [(4, .int x14), (0, .ref (aM 0)), (1, .int p0), (2, .int v2), (3, .int v3)]) hx hb dX1_countPairs_14 hl (by decide) rfl (fun ls hl => ?_)
        refine lv_iload_n hx hb dX1_countPairs_16 rfl (lv_at hl 3 rfl) ?_
        refine lv_aload_n hx hb dX1_countPairs_17 rfl (lv_at hl 1 rfl) ?_
        refine va_get (D := D) (ci := 1) (v := .ref (aM 1)) (C := RX1) (T := TX1) (N := 3) hx hb hts hiX1 hown hK hP 0 rfl rfl 0 (by decide) f9 (fun _ h9 => h9) rfl dX1_countPairs_18 ?_
        refine lv_iload_n hx hb dX1_countPairs_21 rfl (lv_at hl 4 rfl) ?_
        obtain ⟨hin, h⟩ := h
        refine va_iald hx hb hK hP 1 0 rfl rfl hin dX1_countPairs_22 ?_
        refine lv_iload hx hb dX1_countPairs_23 (lv_at hl 0 rfl) ?_
        refine lv_iand hx hb dX1_countPairs_25 ?_
        refine vp_callSi (W.runS (As := [.int ((mR v3.toNatClampNeg) &&& x14)]) (rest := [.int v2]) ⟨hx, hb, hml, hown, hts⟩ (m_J6_bitCount_0f7a4 l D k   ((mR v3.toNatClampNeg) &&& x14) _ h) (va_cwS 1 hts gX1_countPairs_J6_bitCount_0f7a4 rfl rfl rfl (by decide +kernel) ⟨Nat.le_of_ble_eq_true rfl, Nat.le_of_ble_eq_true rfl⟩) (preS_ro hE vaP0) rfl rfl hl.1 rfl (lv_room (Nat.le_of_ble_eq_true rfl)) dX1_countPairs_26 ⟨Nat.le_of_ble_eq_true rfl, Nat.le_of_ble_eq_true rfl⟩) (fun r26 h => ?_)
        refine lv_iadd hx hb dX1_countPairs_29 ?_
        refine lv_topi (fun x30 ex30 => ?_)
        have h := h x30 ex30
        refine lv_istore_n (lv' := [(2, .int x30), (4, .int x14), (0, .ref (aM 0)), (1, .int p0), (3, .int v3)]) hx hb dX1_countPairs_30 rfl hl (by decide) rfl (fun ls hl => ?_)
        refine lv_iinc (v := (v3 + 1)) (lv' := [(3, .int (v3 + 1)), (2, .int x30), (4, .int x14), (0, .ref (aM 0)), (1, .int p0)]) hx hb dX1_countPairs_31 hl (k := 4) rfl rfl (by decide) rfl (fun ls hl => ?_)
        refine lv_goto (tgt := 4) hx hb dX1_countPairs_34 (by decide) ?_
        exact ih4 x30 (v3 + 1) _ h (lv_sub hl [3, 4, 1, 0] rfl)
  unfold wp_X1_countPairs at h
  refine lv_iconst (v := (0 : Int32)) hx hb dX1_countPairs_0 (by decide) ?_
  refine lv_istore_n (lv' := [(2, .int (0 : Int32)), (0, .ref (aM 0)), (1, .int p0)]) hx hb dX1_countPairs_1 rfl hl (by decide) rfl (fun ls hl => ?_)
  refine lv_iconst (v := (0 : Int32)) hx hb dX1_countPairs_2 (by decide) ?_
  refine lv_istore_n (lv' := [(3, .int (0 : Int32)), (2, .int (0 : Int32)), (0, .ref (aM 0)), (1, .int p0)]) hx hb dX1_countPairs_3 rfl hl (by decide) rfl (fun ls hl => ?_)
  obtain ⟨n9, h⟩ := h
  exact L4 n9 (0 : Int32) (0 : Int32) _ h (lv_sub hl [2, 3, 1, 0] rfl)
set_option maxHeartbeats 4000000 in
set_option maxRecDepth 100000 in
theorem m_X1_countParts (l : Launch) (D : va_G) (k : Nat → ClassId) (aM : Nat → Nat) (mR : Nat → Int32) (mQ : Int32) (mN : Int32) (p0 : Int32) (Q : Int32 → Prop) (h : wp_X1_countParts p0 mR Q) : Met l yX1_countParts wsX1_countParts ({ frames := 0, cells := 0, slots := 0, locals := 0 }) (Pro D k [.ref (aM 0), .int p0] (wM k aM mR mQ mN)) (vp_Si Q) 0 0 (fun _ => False) := by
  refine Met.ofW (cc := cX1_countParts) (maxL := 5) (ret := (some .int)) (by decide) rfl ?_
  intro p e s m args below meth c s₁ B hml hv
  obtain ⟨hav, hP, hE⟩ := hv
  have hx := B.exec
  have hb := B.bytes
  have hr := B.returns
  have hts := atoms_spec (ws := wsX1_countParts) B.pre
  have hown : s.vm.findClass RX1 = some m.cls := findClass_of_methodNamed B.named
  have hlocks := B.notSynchronized
  have hK := hE.1
  have hl := lv_entry ([.ref (aM 0), .int p0]) (n := 5) (Nat.le_of_ble_eq_true rfl)
  rw [show entryFrame m args 5 = entryFrame m ([.ref (aM 0), .int p0] : List Value).toArray 5 by rw [hav]]
  rw [lg_entry_eq]
  refine W.gq (fun GQ hGQ => ?_)
  generalize (lg_sl ([.ref (aM 0), .int p0]) ++ List.replicate (5 - (lg_sl ([.ref (aM 0), .int p0])).length) Slot.unset).toArray = ls at hl ⊢
  have hl : lv_has ls 5 [(0, .ref (aM 0)), (1, .int p0)] := hl
  have hiX1 := (by decide +kernel : ∀ w ∈ wsX10, w ∈ wsX1_countParts)
  have f9 := hts (.fieldLink RX1 9 "PlaneOverlay$Meetings" "reach" "[I") (by decide +kernel)
  have L4 : ∀ (n4 : Nat) (v2 : Int32) (v3 : Int32) (ls : Array Slot), wp_X1_countParts_L4 p0 mR Q  n4 v2 v3 → lv_has ls 5 [(0, .ref (aM 0)), (1, .int p0), (2, .int v2), (3, .int v3)] → W p l e (headSpec wsX1_countParts ({ frames := 0, cells := 0, slots := 0, locals := 0 })).room s m args below meth c s.heap [] 0 0 GQ (F0 m 4 ls []) := by
    intro n4
    induction n4 with
    | zero => intro v2 v3 ls h hl; exact False.elim h
    | succ n4 ih4 =>
      have L31 : ∀ (v2 : Int32) (v3 : Int32) (ls : Array Slot), wp_X1_countParts_L31 p0 mR Q (wp_X1_countParts_L4 p0 mR Q  n4) v2 v3 → lv_has ls 5 [(0, .ref (aM 0)), (1, .int p0), (2, .int v2), (3, .int v3)] → W p l e (headSpec wsX1_countParts ({ frames := 0, cells := 0, slots := 0, locals := 0 })).room s m args below meth c s.heap [] 0 0 GQ (F0 m 31 ls []) := by
        intro v2 v3 ls h hl
        unfold wp_X1_countParts_L31 at h
        refine lv_iinc (v := (v3 + 1)) (lv' := [(3, .int (v3 + 1)), (0, .ref (aM 0)), (1, .int p0), (2, .int v2)]) hx hb dX1_countParts_31 hl (k := 3) rfl rfl (by decide) rfl (fun ls hl => ?_)
        refine lv_goto (tgt := 4) hx hb dX1_countParts_34 (by decide) ?_
        exact ih4 v2 (v3 + 1) _ h (lv_sub hl [1, 2, 3, 0] rfl)
      intro v2 v3 ls h hl
      rw [wp_X1_countParts_L4] at h
      refine lv_iload_n hx hb dX1_countParts_4 rfl (lv_at hl 3 rfl) ?_
      refine lv_iload_n hx hb dX1_countParts_5 rfl (lv_at hl 1 rfl) ?_
      refine lv_icmp_ge (tgt := 37) hx hb dX1_countParts_6 (by decide) (fun cq => ?_) (fun cq => ?_)
      · have h := h.1 cq
        refine lv_iload_n hx hb dX1_countParts_37 rfl (lv_at hl 2 rfl) ?_
        rw [hGQ]
        exact W.iret (v := v2) hx hb hr (fun t ht hW => ⟨_, rfl, h, ht⟩) (fun _ h => by cases h) dX1_countParts_38
      · have h := h.2 cq
        refine lv_iconst (v := (1 : Int32)) hx hb dX1_countParts_9 (by decide) ?_
        refine lv_iload_n hx hb dX1_countParts_10 rfl (lv_at hl 3 rfl) ?_
        refine lv_ishl hx hb dX1_countParts_11 ?_
        refine lv_iconst (v := (1 : Int32)) hx hb dX1_countParts_12 (by decide) ?_
        refine lv_isub hx hb dX1_countParts_13 ?_
        refine lv_topi (fun x14 ex14 => ?_)
        have h := h x14 ex14
        refine lv_istore (lv' := [(4, .int x14), (0, .ref (aM 0)), (1, .int p0), (2, .int v2), (3, .int v3)]) hx hb dX1_countParts_14 hl (by decide) rfl (fun ls hl => ?_)
        refine lv_aload_n hx hb dX1_countParts_16 rfl (lv_at hl 1 rfl) ?_
        refine va_get (D := D) (ci := 1) (v := .ref (aM 1)) (C := RX1) (T := TX1) (N := 3) hx hb hts hiX1 hown hK hP 0 rfl rfl 0 (by decide) f9 (fun _ h9 => h9) rfl dX1_countParts_17 ?_
        refine lv_iload_n hx hb dX1_countParts_20 rfl (lv_at hl 4 rfl) ?_
        obtain ⟨hin, h⟩ := h
        refine va_iald hx hb hK hP 1 0 rfl rfl hin dX1_countParts_21 ?_
        refine lv_iload hx hb dX1_countParts_22 (lv_at hl 0 rfl) ?_
        refine lv_iand hx hb dX1_countParts_24 ?_
        refine lv_if_ne (tgt := 31) hx hb dX1_countParts_25 (by decide) (fun cq => ?_) (fun cq => ?_)
        · have h := h.1 cq
          exact L31 v2 v3 _ h (lv_sub hl [1, 2, 3, 4] rfl)
        · have h := h.2 cq
          refine lv_iinc (v := (v2 + 1)) (lv' := [(2, .int (v2 + 1)), (4, .int x14), (0, .ref (aM 0)), (1, .int p0), (3, .int v3)]) hx hb dX1_countParts_28 hl (k := 3) rfl rfl (by decide) rfl (fun ls hl => ?_)
          exact L31 (v2 + 1) v3 _ h (lv_sub hl [2, 3, 0, 4] rfl)
  unfold wp_X1_countParts at h
  refine lv_iconst (v := (0 : Int32)) hx hb dX1_countParts_0 (by decide) ?_
  refine lv_istore_n (lv' := [(2, .int (0 : Int32)), (0, .ref (aM 0)), (1, .int p0)]) hx hb dX1_countParts_1 rfl hl (by decide) rfl (fun ls hl => ?_)
  refine lv_iconst (v := (0 : Int32)) hx hb dX1_countParts_2 (by decide) ?_
  refine lv_istore_n (lv' := [(3, .int (0 : Int32)), (2, .int (0 : Int32)), (0, .ref (aM 0)), (1, .int p0)]) hx hb dX1_countParts_3 rfl hl (by decide) rfl (fun ls hl => ?_)
  obtain ⟨n9, h⟩ := h
  exact L4 n9 (0 : Int32) (0 : Int32) _ h (lv_sub hl [2, 3, 1, 0] rfl)
set_option maxHeartbeats 4000000 in
set_option maxRecDepth 100000 in
theorem m_X1_spread (l : Launch) (D : va_G) (k : Nat → ClassId) (aM : Nat → Nat) (mR : Nat → Int32) (mQ : Int32) (mN : Int32) (p0 : Int32) (Q : (Nat → Int32) → Prop) (sz : Nat) (h : wp_X1_spread p0 mR Q) : Met l yX1_spread wsX1_spread ({ frames := 0, cells := 0, slots := 0, locals := 0 }) (Prw D k [.ref (aM 0), .int p0] (wM k aM mR mQ mN) sz) (va_Qv (fun (u : (Nat → Int32)) => Q u) (fun (u : (Nat → Int32)) t => va_P D vwCl (wM k aM u mQ mN) t.heap ∧ va_D (va_A (wM k aM mR mQ mN) sz) (wM k aM u mQ mN)) (va_A (wM k aM mR mQ mN) sz)) 0 0 (va_A (wM k aM mR mQ mN) sz) := by
  refine Met.ofW (cc := cX1_spread) (maxL := 4) (ret := none) (by decide) rfl ?_
  intro p e s m args below meth c s₁ B hml hv
  obtain ⟨hav, hsz, hP, hE, hD0⟩ := hv
  subst hsz
  have hx := B.exec
  have hb := B.bytes
  have hr := B.returns
  have hts := atoms_spec (ws := wsX1_spread) B.pre
  have hown : s.vm.findClass RX1 = some m.cls := findClass_of_methodNamed B.named
  have hlocks := B.notSynchronized
  have hK := hE.1
  have hD := hD0.self (sz := s.heap.size)
  generalize hAe : va_A (wM k aM mR mQ mN) s.heap.size = A at hD ⊢
  have hA : ∀ q : Nat, s.heap.size ≤ q → A q := fun q h => by rw [← hAe]; exact Or.inr h
  have hS : va_S A s.heap s.heap [] := va_S.rf
  have hl := lv_entry ([.ref (aM 0), .int p0]) (n := 4) (Nat.le_of_ble_eq_true rfl)
  rw [show entryFrame m args 4 = entryFrame m ([.ref (aM 0), .int p0] : List Value).toArray 4 by rw [hav]]
  rw [lg_entry_eq]
  refine W.gq (fun GQ hGQ => ?_)
  generalize (lg_sl ([.ref (aM 0), .int p0]) ++ List.replicate (4 - (lg_sl ([.ref (aM 0), .int p0])).length) Slot.unset).toArray = ls at hl ⊢
  have hl : lv_has ls 4 [(0, .ref (aM 0)), (1, .int p0)] := hl
  have hiX1 := (by decide +kernel : ∀ w ∈ wsX10, w ∈ wsX1_spread)
  have f9 := hts (.fieldLink RX1 9 "PlaneOverlay$Meetings" "reach" "[I") (by decide +kernel)
  have L2 : ∀ (n2 : Nat) (v2 : Int32) (mR : Nat → Int32) (H : Heap) (locs : List Loc) (ls : Array Slot), wp_X1_spread_L2 p0 Q  n2 v2 mR → va_P D vwCl (wM k aM mR mQ mN) H → va_D A (wM k aM mR mQ mN) → va_S A s.heap H locs → lv_has ls 4 [(0, .ref (aM 0)), (1, .int p0), (2, .int v2)] → W p l e (headSpec wsX1_spread ({ frames := 0, cells := 0, slots := 0, locals := 0 })).room s m args below meth c H locs 0 0 GQ (F0 m 2 ls []) := by
    intro n2
    induction n2 with
    | zero => intro v2 mR H locs ls h hP hD hS hl; exact False.elim h
    | succ n2 ih2 =>
      have L52 : ∀ (v2 : Int32) (mR : Nat → Int32) (H : Heap) (locs : List Loc) (ls : Array Slot), wp_X1_spread_L52 p0 Q (wp_X1_spread_L2 p0 Q  n2) v2 mR → va_P D vwCl (wM k aM mR mQ mN) H → va_D A (wM k aM mR mQ mN) → va_S A s.heap H locs → lv_has ls 4 [(0, .ref (aM 0)), (1, .int p0), (2, .int v2)] → W p l e (headSpec wsX1_spread ({ frames := 0, cells := 0, slots := 0, locals := 0 })).room s m args below meth c H locs 0 0 GQ (F0 m 52 ls []) := by
        intro v2 mR H locs ls h hP hD hS hl
        unfold wp_X1_spread_L52 at h
        refine lv_iinc (v := (v2 + 1)) (lv' := [(2, .int (v2 + 1)), (0, .ref (aM 0)), (1, .int p0)]) hx hb dX1_spread_52 hl (k := 2) rfl rfl (by decide) rfl (fun ls hl => ?_)
        refine lv_goto (tgt := 2) hx hb dX1_spread_55 (by decide) ?_
        exact ih2 (v2 + 1) mR _ _ _ h hP hD hS (lv_sub hl [1, 2, 0] rfl)
      have L9 : ∀ (n9 : Nat) (v2 : Int32) (v3 : Int32) (mR : Nat → Int32) (H : Heap) (locs : List Loc) (ls : Array Slot), wp_X1_spread_L9 p0 Q (fun v2 mR => (wp_X1_spread_L52 p0 Q (wp_X1_spread_L2 p0 Q  n2) v2 mR)) n9 v2 v3 mR → va_P D vwCl (wM k aM mR mQ mN) H → va_D A (wM k aM mR mQ mN) → va_S A s.heap H locs → lv_has ls 4 [(0, .ref (aM 0)), (1, .int p0), (2, .int v2), (3, .int v3)] → W p l e (headSpec wsX1_spread ({ frames := 0, cells := 0, slots := 0, locals := 0 })).room s m args below meth c H locs 0 0 GQ (F0 m 9 ls []) := by
        intro n9
        induction n9 with
        | zero => intro v2 v3 mR H locs ls h hP hD hS hl; exact False.elim h
        | succ n9 ih9 =>
          have L46 : ∀ (v2 : Int32) (v3 : Int32) (mR : Nat → Int32) (H : Heap) (locs : List Loc) (ls : Array Slot), wp_X1_spread_L46 p0 Q (wp_X1_spread_L9 p0 Q (fun v2 mR => (wp_X1_spread_L52 p0 Q (wp_X1_spread_L2 p0 Q  n2) v2 mR)) n9) v2 v3 mR → va_P D vwCl (wM k aM mR mQ mN) H → va_D A (wM k aM mR mQ mN) → va_S A s.heap H locs → lv_has ls 4 [(0, .ref (aM 0)), (1, .int p0), (2, .int v2), (3, .int v3)] → W p l e (headSpec wsX1_spread ({ frames := 0, cells := 0, slots := 0, locals := 0 })).room s m args below meth c H locs 0 0 GQ (F0 m 46 ls []) := by
            intro v2 v3 mR H locs ls h hP hD hS hl
            unfold wp_X1_spread_L46 at h
            refine lv_iinc (v := (v3 + 1)) (lv' := [(3, .int (v3 + 1)), (0, .ref (aM 0)), (1, .int p0), (2, .int v2)]) hx hb dX1_spread_46 hl (k := 3) rfl rfl (by decide) rfl (fun ls hl => ?_)
            refine lv_goto (tgt := 9) hx hb dX1_spread_49 (by decide) ?_
            exact ih9 v2 (v3 + 1) mR _ _ _ h hP hD hS (lv_sub hl [1, 2, 3, 0] rfl)
          intro v2 v3 mR H locs ls h hP hD hS hl
          rw [wp_X1_spread_L9] at h
          refine lv_iload_n hx hb dX1_spread_9 rfl (lv_at hl 3 rfl) ?_
          refine lv_iload_n hx hb dX1_spread_10 rfl (lv_at hl 1 rfl) ?_
          refine lv_icmp_ge (tgt := 52) hx hb dX1_spread_11 (by decide) (fun cq => ?_) (fun cq => ?_)
          · have h := h.1 cq
            exact L52 v2 mR _ _ _ h hP hD hS (lv_sub hl [0, 1, 2] rfl)
          · have h := h.2 cq
            refine lv_aload_n hx hb dX1_spread_14 rfl (lv_at hl 0 rfl) ?_
            refine va_get (D := D) (ci := 1) (v := .ref (aM 1)) (C := RX1) (T := TX1) (N := 3) hx hb hts hiX1 hown hK hP 0 rfl rfl 0 (by decide) f9 (fun _ h9 => h9) rfl dX1_spread_15 ?_
            refine lv_iload_n hx hb dX1_spread_18 rfl (lv_at hl 3 rfl) ?_
            obtain ⟨hin, h⟩ := h
            refine va_iald hx hb hK hP 1 0 rfl rfl hin dX1_spread_19 ?_
            refine lv_iconst (v := (1 : Int32)) hx hb dX1_spread_20 (by decide) ?_
            refine lv_iload_n hx hb dX1_spread_21 rfl (lv_at hl 2 rfl) ?_
            refine lv_ishl hx hb dX1_spread_22 ?_
            refine lv_iand hx hb dX1_spread_23 ?_
            refine lv_if_eq (tgt := 46) hx hb dX1_spread_24 (by decide) (fun cq => ?_) (fun cq => ?_)
            · have h := h.1 cq
              exact L46 v2 v3 mR _ _ _ h hP hD hS (lv_sub hl [0, 1, 2, 3] rfl)
            · have h := h.2 cq
              refine lv_aload_n hx hb dX1_spread_27 rfl (lv_at hl 0 rfl) ?_
              refine va_get (D := D) (ci := 1) (v := .ref (aM 1)) (C := RX1) (T := TX1) (N := 3) hx hb hts hiX1 hown hK hP 0 rfl rfl 0 (by decide) f9 (fun _ h9 => h9) rfl dX1_spread_28 ?_
              refine lv_iload_n hx hb dX1_spread_31 rfl (lv_at hl 3 rfl) ?_
              refine lv_aload_n hx hb dX1_spread_32 rfl (lv_at hl 0 rfl) ?_
              refine va_get (D := D) (ci := 1) (v := .ref (aM 1)) (C := RX1) (T := TX1) (N := 3) hx hb hts hiX1 hown hK hP 0 rfl rfl 0 (by decide) f9 (fun _ h9 => h9) rfl dX1_spread_33 ?_
              refine lv_iload_n hx hb dX1_spread_36 rfl (lv_at hl 3 rfl) ?_
              obtain ⟨hin, h⟩ := h
              refine va_iald hx hb hK hP 1 0 rfl rfl hin dX1_spread_37 ?_
              refine lv_aload_n hx hb dX1_spread_38 rfl (lv_at hl 0 rfl) ?_
              refine va_get (D := D) (ci := 1) (v := .ref (aM 1)) (C := RX1) (T := TX1) (N := 3) hx hb hts hiX1 hown hK hP 0 rfl rfl 0 (by decide) f9 (fun _ h9 => h9) rfl dX1_spread_39 ?_
              refine lv_iload_n hx hb dX1_spread_42 rfl (lv_at hl 2 rfl) ?_
              obtain ⟨hin, h⟩ := h
              refine va_iald hx hb hK hP 1 0 rfl rfl hin dX1_spread_43 ?_
              refine lv_ior hx hb dX1_spread_44 ?_
              obtain ⟨hin, h⟩ := h
              obtain ⟨y45, ey45⟩ : ∃ z : Nat → Int32, z = upd mR v3.toNatClampNeg ((mR v3.toNatClampNeg) ||| (mR v2.toNatClampNeg)) := ⟨_, rfl⟩
              have h := h y45 ey45
              refine va_iast hx hb hK hP hD hS 1 0 rfl rfl hin dX1_spread_45 (fun H locs hP hD hS => ?_)
              rw [← ey45] at hP hD
              have hP : va_P D vwCl (wM k aM y45 mQ mN) H := hP
              have hD : va_D A (wM k aM y45 mQ mN) := hD
              exact L46 v2 v3 y45 _ _ _ h hP hD hS (lv_sub hl [0, 1, 2, 3] rfl)
      intro v2 mR H locs ls h hP hD hS hl
      rw [wp_X1_spread_L2] at h
      refine lv_iload_n hx hb dX1_spread_2 rfl (lv_at hl 2 rfl) ?_
      refine lv_iload_n hx hb dX1_spread_3 rfl (lv_at hl 1 rfl) ?_
      refine lv_icmp_ge (tgt := 58) hx hb dX1_spread_4 (by decide) (fun cq => ?_) (fun cq => ?_)
      · have h := h.1 cq
        rw [hGQ]
        exact W.vret hx hb hr (fun t ht hW => ⟨⟨(mR), rfl, h, by rw [ht]; exact hP, hD⟩, hS.F ht⟩) hS.2.2 dX1_spread_58
      · have h := h.2 cq
        refine lv_iconst (v := (0 : Int32)) hx hb dX1_spread_7 (by decide) ?_
        refine lv_istore_n (lv' := [(3, .int (0 : Int32)), (0, .ref (aM 0)), (1, .int p0), (2, .int v2)]) hx hb dX1_spread_8 rfl hl (by decide) rfl (fun ls hl => ?_)
        obtain ⟨n9, h⟩ := h
        exact L9 n9 v2 (0 : Int32) mR _ _ _ h hP hD hS (lv_sub hl [1, 2, 3, 0] rfl)
  unfold wp_X1_spread at h
  refine lv_iconst (v := (0 : Int32)) hx hb dX1_spread_0 (by decide) ?_
  refine lv_istore_n (lv' := [(2, .int (0 : Int32)), (0, .ref (aM 0)), (1, .int p0)]) hx hb dX1_spread_1 rfl hl (by decide) rfl (fun ls hl => ?_)
  obtain ⟨n9, h⟩ := h
  exact L2 n9 (0 : Int32) mR _ _ _ h hP hD hS (lv_sub hl [1, 2, 0] rfl)
set_option maxHeartbeats 4000000 in
set_option maxRecDepth 100000 in
theorem m_X1_find (l : Launch) (D : va_G) (k : Nat → ClassId) (aP : Nat → Nat) (aM : Nat → Nat) (mR : Nat → Int32) (mQ : Int32) (mN : Int32) (pX : Nat → Int32) (pY : Nat → Int32) (pD : Nat → Int32) (pO : Nat → Int32) (nP : Int32) (p0 : Int32) (Q : (Nat → Int32) → (Int32) → (Int32) → Prop) (sz : Nat) (h : wp_X1_find p0 mR mQ mN pO nP Q) : Met l yX1_find wsX1_find ({ frames := 2, cells := 0, slots := 0, locals := 44 }) (Prw D k [.ref (aM 0), .int p0, .ref (aP 0)] (wM k aM mR mQ mN ++ wP k aP pX pY pD pO nP) sz) (va_Qv (fun (u : (Nat → Int32) × (Int32) × (Int32)) => Q u.1 u.2.1 u.2.2) (fun (u : (Nat → Int32) × (Int32) × (Int32)) t => va_P D vwCl (wM k aM (u.1) (u.2.1) (u.2.2) ++ wP k aP pX pY pD pO nP) t.heap ∧ va_D (va_A (wM k aM mR mQ mN ++ wP k aP pX pY pD pO nP) sz) (wM k aM (u.1) (u.2.1) (u.2.2) ++ wP k aP pX pY pD pO nP)) (va_A (wM k aM mR mQ mN ++ wP k aP pX pY pD pO nP) sz)) 0 0 (va_A (wM k aM mR mQ mN ++ wP k aP pX pY pD pO nP) sz) := by
  refine Met.ofW (cc := cX1_find) (maxL := 4) (ret := none) (by decide) rfl ?_
  intro p e s m args below meth c s₁ B hml hv
  obtain ⟨hav, hsz, hP, hE, hD0⟩ := hv
  subst hsz
  have hx := B.exec
  have hb := B.bytes
  have hr := B.returns
  have hts := atoms_spec (ws := wsX1_find) B.pre
  have hown : s.vm.findClass RX1 = some m.cls := findClass_of_methodNamed B.named
  have hlocks := B.notSynchronized
  have hK := hE.1
  have hD := hD0.self (sz := s.heap.size)
  generalize hAe : va_A (wM k aM mR mQ mN ++ wP k aP pX pY pD pO nP) s.heap.size = A at hD ⊢
  have hA : ∀ q : Nat, s.heap.size ≤ q → A q := fun q h => by rw [← hAe]; exact Or.inr h
  have hS : va_S A s.heap s.heap [] := va_S.rf
  have hl := lv_entry ([.ref (aM 0), .int p0, .ref (aP 0)]) (n := 4) (Nat.le_of_ble_eq_true rfl)
  rw [show entryFrame m args 4 = entryFrame m ([.ref (aM 0), .int p0, .ref (aP 0)] : List Value).toArray 4 by rw [hav]]
  rw [lg_entry_eq]
  refine W.gq (fun GQ hGQ => ?_)
  generalize (lg_sl ([.ref (aM 0), .int p0, .ref (aP 0)]) ++ List.replicate (4 - (lg_sl ([.ref (aM 0), .int p0, .ref (aP 0)])).length) Slot.unset).toArray = ls at hl ⊢
  have hl : lv_has ls 4 [(0, .ref (aM 0)), (1, .int p0), (2, .ref (aP 0))] := hl
  have hiX1 := (by decide +kernel : ∀ w ∈ wsX10, w ∈ wsX1_find)
  have f15 := hts (.fieldLink RX1 15 "PlaneOverlay$Meetings" "pairs" "I") (by decide +kernel)
  have f19 := hts (.fieldLink RX1 19 "PlaneOverlay$Meetings" "parts" "I") (by decide +kernel)
  have f9 := hts (.fieldLink RX1 9 "PlaneOverlay$Meetings" "reach" "[I") (by decide +kernel)
  have L2 : ∀ (n2 : Nat) (v3 : Int32) (mR : Nat → Int32) (mQ : Int32) (mN : Int32) (H : Heap) (locs : List Loc) (ls : Array Slot), wp_X1_find_L2 p0 pO nP Q  n2 v3 mR mQ mN → va_P D vwCl (wM k aM mR mQ mN ++ wP k aP pX pY pD pO nP) H → va_D A (wM k aM mR mQ mN ++ wP k aP pX pY pD pO nP) → va_S A s.heap H locs → lv_has ls 4 [(0, .ref (aM 0)), (1, .int p0), (2, .ref (aP 0)), (3, .int v3)] → W p l e (headSpec wsX1_find ({ frames := 2, cells := 0, slots := 0, locals := 44 })).room s m args below meth c H locs 0 0 GQ (F0 m 2 ls []) := by
    intro n2
    induction n2 with
    | zero => intro v3 mR mQ mN H locs ls h hP hD hS hl; exact False.elim h
    | succ n2 ih2 =>
      intro v3 mR mQ mN H locs ls h hP hD hS hl
      rw [wp_X1_find_L2] at h
      refine lv_iload_n hx hb dX1_find_2 rfl (lv_at hl 3 rfl) ?_
      refine lv_iload_n hx hb dX1_find_3 rfl (lv_at hl 1 rfl) ?_
      refine lv_icmp_ge (tgt := 24) hx hb dX1_find_4 (by decide) (fun cq => ?_) (fun cq => ?_)
      · have h := h.1 cq
        refine lv_aload_n hx hb dX1_find_24 rfl (lv_at hl 0 rfl) ?_
        refine lv_aload_n hx hb dX1_find_25 rfl (lv_at hl 0 rfl) ?_
        refine lv_iload_n hx hb dX1_find_26 rfl (lv_at hl 1 rfl) ?_
        have hPc := hP.sub (ws' := wM k aM mR mQ mN) [0, 1] rfl
        refine vp_callSi (W.runV (C := RX1) (b := (aM 0)) (As := [.int p0]) (rest := [.ref (aM 0)]) ⟨hx, hb, hml, hown, hts⟩ (m_X1_countPairs l D k aM mR mQ mN p0 _ h) (cwV 1 hts gX1_find_X1_countPairs rfl rfl rfl (by decide +kernel) ⟨Nat.le_of_ble_eq_true rfl, Nat.le_of_ble_eq_true rfl⟩) (preV_ro (ci := 1) (q0 := 0) (C := RX1) (T := TX1) (N := 3) hE hPc rfl rfl) rfl rfl hl.1 rfl (lv_room (Nat.le_of_ble_eq_true rfl)) dX1_find_27 ⟨Nat.le_of_ble_eq_true rfl, Nat.le_of_ble_eq_true rfl⟩) (fun r27 h => ?_)
        refine va_put (D := D) (ci := 1) (v := .int r27) (ty := .int) (C := RX1) (T := TX1) (N := 3) hx hb hts hiX1 tyX1 tyX1_ok nmX1 hown hK hP hD hS 0 rfl rfl 1 (by decide) f15 (fun _ h9 => h9) rfl (by decide +kernel) rfl rfl (Nat.le_of_ble_eq_true rfl) dX1_find_30 (fun H locs hP hD hS => ?_)
        have hP : va_P D vwCl (wM k aM mR r27 mN ++ wP k aP pX pY pD pO nP) H := hP
        have hD : va_D A (wM k aM mR r27 mN ++ wP k aP pX pY pD pO nP) := hD
        refine lv_aload_n hx hb dX1_find_33 rfl (lv_at hl 0 rfl) ?_
        refine lv_iload_n hx hb dX1_find_34 rfl (lv_at hl 1 rfl) ?_
        have hPc := hP.sub (ws' := wM k aM mR r27 mN) [0, 1] rfl
        have hDc := hD.sub (ws' := wM k aM mR r27 mN) [0, 1] (by decide) rfl
        have hFc := va_free (wc := wM k aM mR r27 mN) hD hS hA [0, 1] rfl
        refine va_callv (va_runV (C := RX1) (b := (aM 0)) (As := [.int p0]) (rest := []) ⟨hx, hb, hml, hown, hts⟩ (m_X1_spread l D k aM mR r27 mN p0 _ _ h) (cwV 1 hts gX1_find_X1_spread rfl rfl rfl (by decide +kernel) ⟨Nat.le_of_ble_eq_true rfl, Nat.le_of_ble_eq_true rfl⟩) (preV_rw (ci := 1) (q0 := 0) (C := RX1) (T := TX1) (N := 3) hE hPc hDc rfl rfl) rfl rfl hl.1 rfl (lv_room (Nat.le_of_ble_eq_true rfl)) dX1_find_35 ⟨Nat.le_of_ble_eq_true rfl, Nat.le_of_ble_eq_true rfl⟩) hS (fun q _ h => hFc q h) hFc (fun mR_35 t H1 locs ht hvm h hB hz1 hk1 hS => ?_)
        obtain ⟨hP1, hD1⟩ := hB
        rw [ht] at hP1
        obtain ⟨hP, hD⟩ := va_join (wr := wP k aP pX pY pD pO nP) (w1 := wM k aM mR_35 r27 mN) hP hD [0, 1] [2, 3, 4, 5, 6] rfl rfl (by decide) (by decide) hk1 hFc hP1 hD1
        generalize H1 = H at hP hS ⊢
        have hP : va_P D vwCl (wM k aM mR_35 r27 mN ++ wP k aP pX pY pD pO nP) H := hP.sub [5, 6, 0, 1, 2, 3, 4] rfl
        have hD : va_D A (wM k aM mR_35 r27 mN ++ wP k aP pX pY pD pO nP) := hD.sub [5, 6, 0, 1, 2, 3, 4] (by decide) rfl
        refine lv_aload_n hx hb dX1_find_38 rfl (lv_at hl 0 rfl) ?_
        refine lv_aload_n hx hb dX1_find_39 rfl (lv_at hl 0 rfl) ?_
        refine lv_iload_n hx hb dX1_find_40 rfl (lv_at hl 1 rfl) ?_
        have hPc := hP.sub (ws' := wM k aM mR_35 r27 mN) [0, 1] rfl
        refine vp_callSi (W.runV (C := RX1) (b := (aM 0)) (As := [.int p0]) (rest := [.ref (aM 0)]) ⟨hx, hb, hml, hown, hts⟩ (m_X1_countParts l D k aM mR_35 r27 mN p0 _ h) (cwV 1 hts gX1_find_X1_countParts rfl rfl rfl (by decide +kernel) ⟨Nat.le_of_ble_eq_true rfl, Nat.le_of_ble_eq_true rfl⟩) (preV_ro (ci := 1) (q0 := 0) (C := RX1) (T := TX1) (N := 3) hE hPc rfl rfl) rfl rfl hl.1 rfl (lv_room (Nat.le_of_ble_eq_true rfl)) dX1_find_41 ⟨Nat.le_of_ble_eq_true rfl, Nat.le_of_ble_eq_true rfl⟩) (fun r41 h => ?_)
        refine va_put (D := D) (ci := 1) (v := .int r41) (ty := .int) (C := RX1) (T := TX1) (N := 3) hx hb hts hiX1 tyX1 tyX1_ok nmX1 hown hK hP hD hS 0 rfl rfl 2 (by decide) f19 (fun _ h9 => h9) rfl (by decide +kernel) rfl rfl (Nat.le_of_ble_eq_true rfl) dX1_find_44 (fun H locs hP hD hS => ?_)
        have hP : va_P D vwCl (wM k aM mR_35 r27 r41 ++ wP k aP pX pY pD pO nP) H := hP
        have hD : va_D A (wM k aM mR_35 r27 r41 ++ wP k aP pX pY pD pO nP) := hD
        rw [hGQ]
        exact W.vret hx hb hr (fun t ht hW => ⟨⟨(mR_35, r27, r41), rfl, h, by rw [ht]; exact hP, hD⟩, hS.F ht⟩) hS.2.2 dX1_find_47
      · have h := h.2 cq
        refine lv_aload_n hx hb dX1_find_7 rfl (lv_at hl 0 rfl) ?_
        refine va_get (D := D) (ci := 1) (v := .ref (aM 1)) (C := RX1) (T := TX1) (N := 3) hx hb hts hiX1 hown hK hP 0 rfl rfl 0 (by decide) f9 (fun _ h9 => h9) rfl dX1_find_8 ?_
        refine lv_iload_n hx hb dX1_find_11 rfl (lv_at hl 3 rfl) ?_
        refine lv_iload_n hx hb dX1_find_12 rfl (lv_at hl 3 rfl) ?_
        refine lv_aload_n hx hb dX1_find_13 rfl (lv_at hl 2 rfl) ?_
        have hPc := hP.sub (ws' := wP k aP pX pY pD pO nP) [2, 3, 4, 5, 6] rfl
        refine vp_callSi (W.runS (As := [.int v3, .ref (aP 0)]) (rest := [.int v3, .ref (aM 1)]) ⟨hx, hb, hml, hown, hts⟩ (m_X1_edgesMet l D k aP pX pY pD pO nP v3 _ h) (va_cwS 2 hts gX1_find_X1_edgesMet rfl rfl rfl (by decide +kernel) ⟨Nat.le_of_ble_eq_true rfl, Nat.le_of_ble_eq_true rfl⟩) (preS_ro hE hPc) rfl rfl hl.1 rfl (lv_room (Nat.le_of_ble_eq_true rfl)) dX1_find_14 ⟨Nat.le_of_ble_eq_true rfl, Nat.le_of_ble_eq_true rfl⟩) (fun r14 h => ?_)
        obtain ⟨hin, h⟩ := h
        obtain ⟨y17, ey17⟩ : ∃ z : Nat → Int32, z = upd mR v3.toNatClampNeg r14 := ⟨_, rfl⟩
        have h := h y17 ey17
        refine va_iast hx hb hK hP hD hS 1 0 rfl rfl hin dX1_find_17 (fun H locs hP hD hS => ?_)
        rw [← ey17] at hP hD
        have hP : va_P D vwCl (wM k aM y17 mQ mN ++ wP k aP pX pY pD pO nP) H := hP
        have hD : va_D A (wM k aM y17 mQ mN ++ wP k aP pX pY pD pO nP) := hD
        refine lv_iinc (v := (v3 + 1)) (lv' := [(3, .int (v3 + 1)), (0, .ref (aM 0)), (1, .int p0), (2, .ref (aP 0))]) hx hb dX1_find_18 hl (k := 3) rfl rfl (by decide) rfl (fun ls hl => ?_)
        refine lv_goto (tgt := 2) hx hb dX1_find_21 (by decide) ?_
        exact ih2 (v3 + 1) y17 mQ mN _ _ _ h hP hD hS (lv_sub hl [1, 2, 3, 0] rfl)
  unfold wp_X1_find at h
  refine lv_iconst (v := (0 : Int32)) hx hb dX1_find_0 (by decide) ?_
  refine lv_istore_n (lv' := [(3, .int (0 : Int32)), (0, .ref (aM 0)), (1, .int p0), (2, .ref (aP 0))]) hx hb dX1_find_1 rfl hl (by decide) rfl (fun ls hl => ?_)
  obtain ⟨n9, h⟩ := h
  exact L2 n9 (0 : Int32) mR mQ mN _ _ _ h hP hD hS (lv_sub hl [1, 2, 3, 0] rfl)
