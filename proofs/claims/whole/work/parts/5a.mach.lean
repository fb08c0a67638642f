set_option maxHeartbeats 4000000 in
set_option maxRecDepth 100000 in
theorem m_J6_bitCount_0f7a4 (l : Launch) (D : va_G) (k : Nat → ClassId)   (p0 : Int32) (Q : Int32 → Prop) (h : wp_J6_bitCount_0f7a4 p0 Q) : Met l yJ6_bitCount_0f7a4 wsJ6_bitCount_0f7a4 ({ frames := 0, cells := 0, slots := 0, locals := 0 }) (Pro D k [.int p0] (([] : va_W))) (vp_Si Q) 0 0 (fun _ => False) := by
  refine Met.ofW (cc := cJ6_bitCount_0f7a4) (maxL := 1) (ret := (some .int)) (by decide) rfl ?_
  intro p e s m args below meth c s₁ B hml hv
  obtain ⟨hav, hP, hE⟩ := hv
  have hx := B.exec
  have hb := B.bytes
  have hr := B.returns
  have hts := atoms_spec (ws := wsJ6_bitCount_0f7a4) B.pre
  have hown : s.vm.findClass RJ6 = some m.cls := findClass_of_methodNamed B.named
  have hlocks := B.notSynchronized
  have hK := hE.1
  have hl := lv_entry ([.int p0]) (n := 1) (Nat.le_of_ble_eq_true rfl)
  rw [show entryFrame m args 1 = entryFrame m ([.int p0] : List Value).toArray 1 by rw [hav]]
  rw [lg_entry_eq]
  refine W.gq (fun GQ hGQ => ?_)
  generalize (lg_sl ([.int p0]) ++ List.replicate (1 - (lg_sl ([.int p0])).length) Slot.unset).toArray = ls at hl ⊢
  have hl : lv_has ls 1 [(0, .int p0)] := hl
  have k265 := hts (.constant RJ6 265 (1431655765)) (by decide +kernel)
  have k266 := hts (.constant RJ6 266 (858993459)) (by decide +kernel)
  have k267 := hts (.constant RJ6 267 (252645135)) (by decide +kernel)
  unfold wp_J6_bitCount_0f7a4 at h
  refine lv_iload_n hx hb dJ6_bitCount_0f7a4_0 rfl (lv_at hl 0 rfl) ?_
  refine lv_iload_n hx hb dJ6_bitCount_0f7a4_1 rfl (lv_at hl 0 rfl) ?_
  refine lv_iconst (v := (1 : Int32)) hx hb dJ6_bitCount_0f7a4_2 (by decide) ?_
  refine lv_iushr hx hb dJ6_bitCount_0f7a4_3 rfl ?_
  refine lv_ldcw (v := (1431655765 : Int32)) hx hb hown k265 dJ6_bitCount_0f7a4_4 ?_
  refine lv_iand hx hb dJ6_bitCount_0f7a4_7 ?_
  refine lv_isub hx hb dJ6_bitCount_0f7a4_8 ?_
  refine lv_topi (fun x9 ex9 => ?_)
  have h := h x9 ex9
  refine lv_istore_n (lv' := [(0, .int x9)]) hx hb dJ6_bitCount_0f7a4_9 rfl hl (by decide) rfl (fun ls hl => ?_)
  refine lv_iload_n hx hb dJ6_bitCount_0f7a4_10 rfl (lv_at hl 0 rfl) ?_
  refine lv_ldcw (v := (858993459 : Int32)) hx hb hown k266 dJ6_bitCount_0f7a4_11 ?_
  refine lv_iand hx hb dJ6_bitCount_0f7a4_14 ?_
  refine lv_iload_n hx hb dJ6_bitCount_0f7a4_15 rfl (lv_at hl 0 rfl) ?_
  refine lv_iconst (v := (2 : Int32)) hx hb dJ6_bitCount_0f7a4_16 (by decide) ?_
  refine lv_iushr hx hb dJ6_bitCount_0f7a4_17 rfl ?_
  refine lv_ldcw (v := (858993459 : Int32)) hx hb hown k266 dJ6_bitCount_0f7a4_18 ?_
  refine lv_iand hx hb dJ6_bitCount_0f7a4_21 ?_
  refine lv_iadd hx hb dJ6_bitCount_0f7a4_22 ?_
  refine lv_topi (fun x23 ex23 => ?_)
  have h := h x23 ex23
  refine lv_istore_n (lv' := [(0, .int x23)]) hx hb dJ6_bitCount_0f7a4_23 rfl hl (by decide) rfl (fun ls hl => ?_)
  refine lv_iload_n hx hb dJ6_bitCount_0f7a4_24 rfl (lv_at hl 0 rfl) ?_
  refine lv_iload_n hx hb dJ6_bitCount_0f7a4_25 rfl (lv_at hl 0 rfl) ?_
  refine lv_iconst (v := (4 : Int32)) hx hb dJ6_bitCount_0f7a4_26 (by decide) ?_
  refine lv_iushr hx hb dJ6_bitCount_0f7a4_27 rfl ?_
  refine lv_iadd hx hb dJ6_bitCount_0f7a4_28 ?_
  refine lv_ldcw (v := (252645135 : Int32)) hx hb hown k267 dJ6_bitCount_0f7a4_29 ?_
  refine lv_iand hx hb dJ6_bitCount_0f7a4_32 ?_
  refine lv_topi (fun x33 ex33 => ?_)
  have h := h x33 ex33
  refine lv_istore_n (lv' := [(0, .int x33)]) hx hb dJ6_bitCount_0f7a4_33 rfl hl (by decide) rfl (fun ls hl => ?_)
  refine lv_iload_n hx hb dJ6_bitCount_0f7a4_34 rfl (lv_at hl 0 rfl) ?_
  refine lv_iload_n hx hb dJ6_bitCount_0f7a4_35 rfl (lv_at hl 0 rfl) ?_
  refine lv_bipush (v := (8 : Int32)) hx hb dJ6_bitCount_0f7a4_36 (by decide) ?_
  refine lv_iushr hx hb dJ6_bitCount_0f7a4_38 rfl ?_
  refine lv_iadd hx hb dJ6_bitCount_0f7a4_39 ?_
  refine lv_topi (fun x40 ex40 => ?_)
  have h := h x40 ex40
  refine lv_istore_n (lv' := [(0, .int x40)]) hx hb dJ6_bitCount_0f7a4_40 rfl hl (by decide) rfl (fun ls hl => ?_)
  refine lv_iload_n hx hb dJ6_bitCount_0f7a4_41 rfl (lv_at hl 0 rfl) ?_
  refine lv_iload_n hx hb dJ6_bitCount_0f7a4_42 rfl (lv_at hl 0 rfl) ?_
  refine lv_bipush (v := (16 : Int32)) hx hb dJ6_bitCount_0f7a4_43 (by decide) ?_
  refine lv_iushr hx hb dJ6_bitCount_0f7a4_45 rfl ?_
  refine lv_iadd hx hb dJ6_bitCount_0f7a4_46 ?_
  refine lv_topi (fun x47 ex47 => ?_)
  have h := h x47 ex47
  refine lv_istore_n (lv' := [(0, .int x47)]) hx hb dJ6_bitCount_0f7a4_47 rfl hl (by decide) rfl (fun ls hl => ?_)
  refine lv_iload_n hx hb dJ6_bitCount_0f7a4_48 rfl (lv_at hl 0 rfl) ?_
  refine lv_bipush (v := (63 : Int32)) hx hb dJ6_bitCount_0f7a4_49 (by decide) ?_
  refine lv_iand hx hb dJ6_bitCount_0f7a4_51 ?_
  rw [hGQ]
  exact W.iret (v := (x47 &&& (63 : Int32))) hx hb hr (fun t ht hW => ⟨_, rfl, h, ht⟩) (fun _ h => by cases h) dJ6_bitCount_0f7a4_52
set_option maxHeartbeats 4000000 in
set_option maxRecDepth 100000 in
theorem m_X0_spanX (l : Launch) (D : va_G) (k : Nat → ClassId) (aE : Nat → Nat) (fX : Nat → Int32) (fY : Nat → Int32) (lX : Nat → Int32) (lY : Nat → Int32) (oP : Nat → Int32) (nE : Int32) (p0 : Int32) (Q : Int32 → Prop) (h : wp_X0_spanX p0 fX lX Q) : Met l yX0_spanX wsX0_spanX ({ frames := 0, cells := 0, slots := 0, locals := 0 }) (Pro D k [.ref (aE 0), .int p0] (wE k aE fX fY lX lY oP nE)) (vp_Si Q) 0 0 (fun _ => False) := by
  refine Met.ofW (cc := cX0_spanX) (maxL := 2) (ret := (some .int)) (by decide) rfl ?_
  intro p e s m args below meth c s₁ B hml hv
  obtain ⟨hav, hP, hE⟩ := hv
  have hx := B.exec
  have hb := B.bytes
  have hr := B.returns
  have hts := atoms_spec (ws := wsX0_spanX) B.pre
  have hown : s.vm.findClass RX0 = some m.cls := findClass_of_methodNamed B.named
  have hlocks := B.notSynchronized
  have hK := hE.1
  have hl := lv_entry ([.ref (aE 0), .int p0]) (n := 2) (Nat.le_of_ble_eq_true rfl)
  rw [show entryFrame m args 2 = entryFrame m ([.ref (aE 0), .int p0] : List Value).toArray 2 by rw [hav]]
  rw [lg_entry_eq]
  refine W.gq (fun GQ hGQ => ?_)
  generalize (lg_sl ([.ref (aE 0), .int p0]) ++ List.replicate (2 - (lg_sl ([.ref (aE 0), .int p0])).length) Slot.unset).toArray = ls at hl ⊢
  have hl : lv_has ls 2 [(0, .ref (aE 0)), (1, .int p0)] := hl
  have hiX0 := (by decide +kernel : ∀ w ∈ wsX00, w ∈ wsX0_spanX)
  have f18 := hts (.fieldLink RX0 18 "PlaneOverlay$Edges" "lastX" "[I") (by decide +kernel)
  have f9 := hts (.fieldLink RX0 9 "PlaneOverlay$Edges" "firstX" "[I") (by decide +kernel)
  unfold wp_X0_spanX at h
  refine lv_aload_n hx hb dX0_spanX_0 rfl (lv_at hl 0 rfl) ?_
  refine va_get (D := D) (ci := 0) (v := .ref (aE 3)) (C := RX0) (T := TX0) (N := 6) hx hb hts hiX0 hown hK hP 0 rfl rfl 2 (by decide) f18 (fun _ h9 => h9) rfl dX0_spanX_1 ?_
  refine lv_iload_n hx hb dX0_spanX_4 rfl (lv_at hl 1 rfl) ?_
  obtain ⟨hin, h⟩ := h
  refine va_iald hx hb hK hP 3 0 rfl rfl hin dX0_spanX_5 ?_
  refine lv_aload_n hx hb dX0_spanX_6 rfl (lv_at hl 0 rfl) ?_
  refine va_get (D := D) (ci := 0) (v := .ref (aE 1)) (C := RX0) (T := TX0) (N := 6) hx hb hts hiX0 hown hK hP 0 rfl rfl 0 (by decide) f9 (fun _ h9 => h9) rfl dX0_spanX_7 ?_
  refine lv_iload_n hx hb dX0_spanX_10 rfl (lv_at hl 1 rfl) ?_
  obtain ⟨hin, h⟩ := h
  refine va_iald hx hb hK hP 1 0 rfl rfl hin dX0_spanX_11 ?_
  refine lv_isub hx hb dX0_spanX_12 ?_
  rw [hGQ]
  exact W.iret (v := ((lX p0.toNatClampNeg) - (fX p0.toNatClampNeg))) hx hb hr (fun t ht hW => ⟨_, rfl, h, ht⟩) (fun _ h => by cases h) dX0_spanX_13
set_option maxHeartbeats 4000000 in
set_option maxRecDepth 100000 in
theorem m_X0_spanY (l : Launch) (D : va_G) (k : Nat → ClassId) (aE : Nat → Nat) (fX : Nat → Int32) (fY : Nat → Int32) (lX : Nat → Int32) (lY : Nat → Int32) (oP : Nat → Int32) (nE : Int32) (p0 : Int32) (Q : Int32 → Prop) (h : wp_X0_spanY p0 fY lY Q) : Met l yX0_spanY wsX0_spanY ({ frames := 0, cells := 0, slots := 0, locals := 0 }) (Pro D k [.ref (aE 0), .int p0] (wE k aE fX fY lX lY oP nE)) (vp_Si Q) 0 0 (fun _ => False) := by
  refine Met.ofW (cc := cX0_spanY) (maxL := 2) (ret := (some .int)) (by decide) rfl ?_
  intro p e s m args below meth c s₁ B hml hv
  obtain ⟨hav, hP, hE⟩ := hv
  have hx := B.exec
  have hb := B.bytes
  have hr := B.returns
  have hts := atoms_spec (ws := wsX0_spanY) B.pre
  have hown : s.vm.findClass RX0 = some m.cls := findClass_of_methodNamed B.named
  have hlocks := B.notSynchronized
  have hK := hE.1
  have hl := lv_entry ([.ref (aE 0), .int p0]) (n := 2) (Nat.le_of_ble_eq_true rfl)
  rw [show entryFrame m args 2 = entryFrame m ([.ref (aE 0), .int p0] : List Value).toArray 2 by rw [hav]]
  rw [lg_entry_eq]
  refine W.gq (fun GQ hGQ => ?_)
  generalize (lg_sl ([.ref (aE 0), .int p0]) ++ List.replicate (2 - (lg_sl ([.ref (aE 0), .int p0])).length) Slot.unset).toArray = ls at hl ⊢
  have hl : lv_has ls 2 [(0, .ref (aE 0)), (1, .int p0)] := hl
  have hiX0 := (by decide +kernel : ∀ w ∈ wsX00, w ∈ wsX0_spanY)
  have f21 := hts (.fieldLink RX0 21 "PlaneOverlay$Edges" "lastY" "[I") (by decide +kernel)
  have f15 := hts (.fieldLink RX0 15 "PlaneOverlay$Edges" "firstY" "[I") (by decide +kernel)
  unfold wp_X0_spanY at h
  refine lv_aload_n hx hb dX0_spanY_0 rfl (lv_at hl 0 rfl) ?_
  refine va_get (D := D) (ci := 0) (v := .ref (aE 4)) (C := RX0) (T := TX0) (N := 6) hx hb hts hiX0 hown hK hP 0 rfl rfl 3 (by decide) f21 (fun _ h9 => h9) rfl dX0_spanY_1 ?_
  refine lv_iload_n hx hb dX0_spanY_4 rfl (lv_at hl 1 rfl) ?_
  obtain ⟨hin, h⟩ := h
  refine va_iald hx hb hK hP 4 0 rfl rfl hin dX0_spanY_5 ?_
  refine lv_aload_n hx hb dX0_spanY_6 rfl (lv_at hl 0 rfl) ?_
  refine va_get (D := D) (ci := 0) (v := .ref (aE 2)) (C := RX0) (T := TX0) (N := 6) hx hb hts hiX0 hown hK hP 0 rfl rfl 1 (by decide) f15 (fun _ h9 => h9) rfl dX0_spanY_7 ?_
  refine lv_iload_n hx hb dX0_spanY_10 rfl (lv_at hl 1 rfl) ?_
  obtain ⟨hin, h⟩ := h
  refine va_iald hx hb hK hP 2 0 rfl rfl hin dX0_spanY_11 ?_
  refine lv_isub hx hb dX0_spanY_12 ?_
  rw [hGQ]
  exact W.iret (v := ((lY p0.toNatClampNeg) - (fY p0.toNatClampNeg))) hx hb hr (fun t ht hW => ⟨_, rfl, h, ht⟩) (fun _ h => by cases h) dX0_spanY_13
set_option maxHeartbeats 4000000 in
set_option maxRecDepth 100000 in
theorem m_X0_turn (l : Launch) (D : va_G) (k : Nat → ClassId) (aE : Nat → Nat) (fX : Nat → Int32) (fY : Nat → Int32) (lX : Nat → Int32) (lY : Nat → Int32) (oP : Nat → Int32) (nE : Int32) (p0 : Int32) (p1 : Int64) (p2 : Int64) (p3 : Int64) (Q : Int64 → Prop) (h : wp_X0_turn p0 p1 p2 p3 fX fY lX lY Q) : Met l yX0_turn wsX0_turn ({ frames := 1, cells := 0, slots := 0, locals := 21 }) (Pro D k [.ref (aE 0), .int p0, .long p1, .long p2, .long p3] (wE k aE fX fY lX lY oP nE)) (vp_Sl Q) 0 0 (fun _ => False) := by
  refine Met.ofW (cc := cX0_turn) (maxL := 8) (ret := (some .long)) (by decide) rfl ?_
  intro p e s m args below meth c s₁ B hml hv
  obtain ⟨hav, hP, hE⟩ := hv
  have hx := B.exec
  have hb := B.bytes
  have hr := B.returns
  have hts := atoms_spec (ws := wsX0_turn) B.pre
  have hown : s.vm.findClass RX0 = some m.cls := findClass_of_methodNamed B.named
  have hlocks := B.notSynchronized
  have hK := hE.1
  have hl := lv_entry ([.ref (aE 0), .int p0, .long p1, .long p2, .long p3]) (n := 8) (Nat.le_of_ble_eq_true rfl)
  rw [show entryFrame m args 8 = entryFrame m ([.ref (aE 0), .int p0, .long p1, .long p2, .long p3] : List Value).toArray 8 by rw [hav]]
  rw [lg_entry_eq]
  refine W.gq (fun GQ hGQ => ?_)
  generalize (lg_sl ([.ref (aE 0), .int p0, .long p1, .long p2, .long p3]) ++ List.replicate (8 - (lg_sl ([.ref (aE 0), .int p0, .long p1, .long p2, .long p3])).length) Slot.unset).toArray = ls at hl ⊢
  have hl : lv_has ls 8 [(0, .ref (aE 0)), (1, .int p0), (2, .long p1), (4, .long p2), (6, .long p3)] := hl
  have hiX0 := (by decide +kernel : ∀ w ∈ wsX00, w ∈ wsX0_turn)
  have f15 := hts (.fieldLink RX0 15 "PlaneOverlay$Edges" "firstY" "[I") (by decide +kernel)
  have f9 := hts (.fieldLink RX0 9 "PlaneOverlay$Edges" "firstX" "[I") (by decide +kernel)
  unfold wp_X0_turn at h
  refine lv_aload_n hx hb dX0_turn_0 rfl (lv_at hl 0 rfl) ?_
  refine lv_iload_n hx hb dX0_turn_1 rfl (lv_at hl 1 rfl) ?_
  refine vp_callSi (W.runV (C := RX0) (b := (aE 0)) (As := [.int p0]) (rest := []) ⟨hx, hb, hml, hown, hts⟩ (m_X0_spanX l D k aE fX fY lX lY oP nE p0 _ h) (cwV 1 hts gX0_turn_X0_spanX rfl rfl rfl (by decide +kernel) ⟨Nat.le_of_ble_eq_true rfl, Nat.le_of_ble_eq_true rfl⟩) (preV_ro (ci := 0) (q0 := 0) (C := RX0) (T := TX0) (N := 6) hE hP rfl rfl) rfl rfl hl.1 rfl (lv_room (Nat.le_of_ble_eq_true rfl)) dX0_turn_2 ⟨Nat.le_of_ble_eq_true rfl, Nat.le_of_ble_eq_true rfl⟩) (fun r2 h => ?_)
  refine lv_i2l hx hb dX0_turn_5 rfl ?_
  refine lv_lload hx hb dX0_turn_6 (lv_at hl 3 rfl) ?_
  refine lv_aload_n hx hb dX0_turn_8 rfl (lv_at hl 0 rfl) ?_
  refine va_get (D := D) (ci := 0) (v := .ref (aE 2)) (C := RX0) (T := TX0) (N := 6) hx hb hts hiX0 hown hK hP 0 rfl rfl 1 (by decide) f15 (fun _ h9 => h9) rfl dX0_turn_9 ?_
  refine lv_iload_n hx hb dX0_turn_12 rfl (lv_at hl 1 rfl) ?_
  obtain ⟨hin, h⟩ := h
  refine va_iald hx hb hK hP 2 0 rfl rfl hin dX0_turn_13 ?_
  refine lv_i2l hx hb dX0_turn_14 rfl ?_
  refine lv_lload hx hb dX0_turn_15 (lv_at hl 4 rfl) ?_
  refine lv_lmul hx hb dX0_turn_17 ?_
  refine lv_lsub hx hb dX0_turn_18 ?_
  refine lv_lmul hx hb dX0_turn_19 ?_
  refine lv_aload_n hx hb dX0_turn_20 rfl (lv_at hl 0 rfl) ?_
  refine lv_iload_n hx hb dX0_turn_21 rfl (lv_at hl 1 rfl) ?_
  refine vp_callSi (W.runV (C := RX0) (b := (aE 0)) (As := [.int p0]) (rest := [.long (r2.toInt64 * (p2 - ((fY p0.toNatClampNeg).toInt64 * p3)))]) ⟨hx, hb, hml, hown, hts⟩ (m_X0_spanY l D k aE fX fY lX lY oP nE p0 _ h) (cwV 1 hts gX0_turn_X0_spanY rfl rfl rfl (by decide +kernel) ⟨Nat.le_of_ble_eq_true rfl, Nat.le_of_ble_eq_true rfl⟩) (preV_ro (ci := 0) (q0 := 0) (C := RX0) (T := TX0) (N := 6) hE hP rfl rfl) rfl rfl hl.1 rfl (lv_room (Nat.le_of_ble_eq_true rfl)) dX0_turn_22 ⟨Nat.le_of_ble_eq_true rfl, Nat.le_of_ble_eq_true rfl⟩) (fun r22 h => ?_)
  refine lv_i2l hx hb dX0_turn_25 rfl ?_
  refine lv_lload_n hx hb dX0_turn_26 rfl (lv_at hl 2 rfl) ?_
  refine lv_aload_n hx hb dX0_turn_27 rfl (lv_at hl 0 rfl) ?_
  refine va_get (D := D) (ci := 0) (v := .ref (aE 1)) (C := RX0) (T := TX0) (N := 6) hx hb hts hiX0 hown hK hP 0 rfl rfl 0 (by decide) f9 (fun _ h9 => h9) rfl dX0_turn_28 ?_
  refine lv_iload_n hx hb dX0_turn_31 rfl (lv_at hl 1 rfl) ?_
  obtain ⟨hin, h⟩ := h
  refine va_iald hx hb hK hP 1 0 rfl rfl hin dX0_turn_32 ?_
  refine lv_i2l hx hb dX0_turn_33 rfl ?_
  refine lv_lload hx hb dX0_turn_34 (lv_at hl 4 rfl) ?_
  refine lv_lmul hx hb dX0_turn_36 ?_
  refine lv_lsub hx hb dX0_turn_37 ?_
  refine lv_lmul hx hb dX0_turn_38 ?_
  refine lv_lsub hx hb dX0_turn_39 ?_
  rw [hGQ]
  exact W.lret (v := ((r2.toInt64 * (p2 - ((fY p0.toNatClampNeg).toInt64 * p3))) - (r22.toInt64 * (p1 - ((fX p0.toNatClampNeg).toInt64 * p3))))) hx hb hr (fun t ht hW => ⟨_, rfl, h, ht⟩) (fun _ h => by cases h) dX0_turn_40
set_option maxHeartbeats 4000000 in
set_option maxRecDepth 100000 in
theorem m_X0_holds (l : Launch) (D : va_G) (k : Nat → ClassId) (aE : Nat → Nat) (fX : Nat → Int32) (fY : Nat → Int32) (lX : Nat → Int32) (lY : Nat → Int32) (oP : Nat → Int32) (nE : Int32) (p0 : Int32) (p1 : Int64) (p2 : Int64) (p3 : Int64) (Q : Int32 → Prop) (h : wp_X0_holds p0 p1 p2 p3 fX fY lX lY Q) : Met l yX0_holds wsX0_holds ({ frames := 2, cells := 0, slots := 0, locals := 48 }) (Pro D k [.ref (aE 0), .int p0, .long p1, .long p2, .long p3] (wE k aE fX fY lX lY oP nE)) (vp_Si Q) 0 0 (fun _ => False) := by
  refine Met.ofW (cc := cX0_holds) (maxL := 12) (ret := (some .boolean)) (by decide) rfl ?_
  intro p e s m args below meth c s₁ B hml hv
  obtain ⟨hav, hP, hE⟩ := hv
  have hx := B.exec
  have hb := B.bytes
  have hr := B.returns
  have hts := atoms_spec (ws := wsX0_holds) B.pre
  have hown : s.vm.findClass RX0 = some m.cls := findClass_of_methodNamed B.named
  have hlocks := B.notSynchronized
  have hK := hE.1
  have hl := lv_entry ([.ref (aE 0), .int p0, .long p1, .long p2, .long p3]) (n := 12) (Nat.le_of_ble_eq_true rfl)
  rw [show entryFrame m args 12 = entryFrame m ([.ref (aE 0), .int p0, .long p1, .long p2, .long p3] : List Value).toArray 12 by rw [hav]]
  rw [lg_entry_eq]
  refine W.gq (fun GQ hGQ => ?_)
  generalize (lg_sl ([.ref (aE 0), .int p0, .long p1, .long p2, .long p3]) ++ List.replicate (12 - (lg_sl ([.ref (aE 0), .int p0, .long p1, .long p2, .long p3])).length) Slot.unset).toArray = ls at hl ⊢
  have hl : lv_has ls 12 [(0, .ref (aE 0)), (1, .int p0), (2, .long p1), (4, .long p2), (6, .long p3)] := hl
  have hiX0 := (by decide +kernel : ∀ w ∈ wsX00, w ∈ wsX0_holds)
  have f15 := hts (.fieldLink RX0 15 "PlaneOverlay$Edges" "firstY" "[I") (by decide +kernel)
  have f21 := hts (.fieldLink RX0 21 "PlaneOverlay$Edges" "lastY" "[I") (by decide +kernel)
  have mmin0 := hts (.methodLink RX0 39 Lib.Math.min.name) (by decide +kernel)
  have mmin1 := hts (.static Lib.Math.min.name) (by decide +kernel)
  have mmin2 := hts (.initialized "java/lang/Math") (by decide +kernel)
  have mmin3 := hts (.code Lib.Math.min.name Lib.Math.min.code 2 (some .int)) (by decide +kernel)
  have mmax0 := hts (.methodLink RX0 45 Lib.Math.max.name) (by decide +kernel)
  have mmax1 := hts (.static Lib.Math.max.name) (by decide +kernel)
  have mmax2 := hts (.initialized "java/lang/Math") (by decide +kernel)
  have mmax3 := hts (.code Lib.Math.max.name Lib.Math.max.code 2 (some .int)) (by decide +kernel)
  have f9 := hts (.fieldLink RX0 9 "PlaneOverlay$Edges" "firstX" "[I") (by decide +kernel)
  have f18 := hts (.fieldLink RX0 18 "PlaneOverlay$Edges" "lastX" "[I") (by decide +kernel)
  have L108 : ∀ (z0 : Int32) (ls : Array Slot), wp_X0_holds_L108 p0 p1 p2 p3 fX fY lX lY Q  z0 → lv_has ls 12 [] → W p l e (headSpec wsX0_holds ({ frames := 2, cells := 0, slots := 0, locals := 48 })).room s m args below meth c s.heap [] 0 0 GQ (F0 m 108 ls [.int z0]) := by
    intro z0 ls h hl
    unfold wp_X0_holds_L108 at h
    obtain ⟨hnr, h⟩ := h
    rw [hGQ]
    exact W.zret (v := z0) hx hb hr hnr (fun t ht hW => ⟨_, rfl, h, ht⟩) (fun _ h => by cases h) dX0_holds_108
  have L107 : ∀  (ls : Array Slot), wp_X0_holds_L107 p0 p1 p2 p3 fX fY lX lY Q   → lv_has ls 12 [] → W p l e (headSpec wsX0_holds ({ frames := 2, cells := 0, slots := 0, locals := 48 })).room s m args below meth c s.heap [] 0 0 GQ (F0 m 107 ls []) := by
    intro  ls h hl
    unfold wp_X0_holds_L107 at h
    refine lv_iconst (v := (0 : Int32)) hx hb dX0_holds_107 (by decide) ?_
    exact L108 (0 : Int32) _ h (lv_sub hl [] rfl)
  unfold wp_X0_holds at h
  refine lv_aload_n hx hb dX0_holds_0 rfl (lv_at hl 0 rfl) ?_
  refine va_get (D := D) (ci := 0) (v := .ref (aE 2)) (C := RX0) (T := TX0) (N := 6) hx hb hts hiX0 hown hK hP 0 rfl rfl 1 (by decide) f15 (fun _ h9 => h9) rfl dX0_holds_1 ?_
  refine lv_iload_n hx hb dX0_holds_4 rfl (lv_at hl 1 rfl) ?_
  obtain ⟨hin, h⟩ := h
  refine va_iald hx hb hK hP 2 0 rfl rfl hin dX0_holds_5 ?_
  refine lv_aload_n hx hb dX0_holds_6 rfl (lv_at hl 0 rfl) ?_
  refine va_get (D := D) (ci := 0) (v := .ref (aE 4)) (C := RX0) (T := TX0) (N := 6) hx hb hts hiX0 hown hK hP 0 rfl rfl 3 (by decide) f21 (fun _ h9 => h9) rfl dX0_holds_7 ?_
  refine lv_iload_n hx hb dX0_holds_10 rfl (lv_at hl 1 rfl) ?_
  obtain ⟨hin, h⟩ := h
  refine va_iald hx hb hK hP 4 0 rfl rfl hin dX0_holds_11 ?_
  refine va_mmin hx hb (hml.trans hl.1.symm) hown mmin0 mmin1 mmin2 mmin3 (Nat.le_of_ble_eq_true rfl) (Nat.le_of_ble_eq_true rfl) (Nat.le_of_ble_eq_true rfl) (Nat.le_of_ble_eq_true rfl) dX0_holds_12 ?_
  refine lv_i2l hx hb dX0_holds_15 rfl ?_
  refine lv_lload hx hb dX0_holds_16 (lv_at hl 4 rfl) ?_
  refine lv_lmul hx hb dX0_holds_18 ?_
  refine lv_topl (fun x19 ex19 => ?_)
  have h := h x19 ex19
  refine lv_lstore (lv' := [(8, .long x19), (0, .ref (aE 0)), (1, .int p0), (2, .long p1), (4, .long p2), (6, .long p3)]) hx hb dX0_holds_19 hl (by decide) rfl (fun ls hl => ?_)
  refine lv_aload_n hx hb dX0_holds_21 rfl (lv_at hl 1 rfl) ?_
  refine va_get (D := D) (ci := 0) (v := .ref (aE 2)) (C := RX0) (T := TX0) (N := 6) hx hb hts hiX0 hown hK hP 0 rfl rfl 1 (by decide) f15 (fun _ h9 => h9) rfl dX0_holds_22 ?_
  refine lv_iload_n hx hb dX0_holds_25 rfl (lv_at hl 2 rfl) ?_
  obtain ⟨hin, h⟩ := h
  refine va_iald hx hb hK hP 2 0 rfl rfl hin dX0_holds_26 ?_
  refine lv_aload_n hx hb dX0_holds_27 rfl (lv_at hl 1 rfl) ?_
  refine va_get (D := D) (ci := 0) (v := .ref (aE 4)) (C := RX0) (T := TX0) (N := 6) hx hb hts hiX0 hown hK hP 0 rfl rfl 3 (by decide) f21 (fun _ h9 => h9) rfl dX0_holds_28 ?_
  refine lv_iload_n hx hb dX0_holds_31 rfl (lv_at hl 2 rfl) ?_
  obtain ⟨hin, h⟩ := h
  refine va_iald hx hb hK hP 4 0 rfl rfl hin dX0_holds_32 ?_
  refine va_mmax hx hb (hml.trans hl.1.symm) hown mmax0 mmax1 mmax2 mmax3 (Nat.le_of_ble_eq_true rfl) (Nat.le_of_ble_eq_true rfl) (Nat.le_of_ble_eq_true rfl) (Nat.le_of_ble_eq_true rfl) dX0_holds_33 ?_
  refine lv_i2l hx hb dX0_holds_36 rfl ?_
  refine lv_lload hx hb dX0_holds_37 (lv_at hl 5 rfl) ?_
  refine lv_lmul hx hb dX0_holds_39 ?_
  refine lv_topl (fun x40 ex40 => ?_)
  have h := h x40 ex40
  refine lv_lstore (lv' := [(10, .long x40), (8, .long x19), (0, .ref (aE 0)), (1, .int p0), (2, .long p1), (4, .long p2), (6, .long p3)]) hx hb dX0_holds_40 hl (by decide) rfl (fun ls hl => ?_)
  refine lv_aload_n hx hb dX0_holds_42 rfl (lv_at hl 2 rfl) ?_
  refine va_get (D := D) (ci := 0) (v := .ref (aE 1)) (C := RX0) (T := TX0) (N := 6) hx hb hts hiX0 hown hK hP 0 rfl rfl 0 (by decide) f9 (fun _ h9 => h9) rfl dX0_holds_43 ?_
  refine lv_iload_n hx hb dX0_holds_46 rfl (lv_at hl 3 rfl) ?_
  obtain ⟨hin, h⟩ := h
  refine va_iald hx hb hK hP 1 0 rfl rfl hin dX0_holds_47 ?_
  refine lv_i2l hx hb dX0_holds_48 rfl ?_
  refine lv_lload hx hb dX0_holds_49 (lv_at hl 6 rfl) ?_
  refine lv_lmul hx hb dX0_holds_51 ?_
  refine lv_lload_n hx hb dX0_holds_52 rfl (lv_at hl 4 rfl) ?_
  refine W.lcmp hx hb dX0_holds_53 ?_
  refine lv_if_gt (tgt := 107) hx hb dX0_holds_54 (by decide) (fun cq => ?_) (fun cq => ?_)
  · have h := h.1 ((lg_cmp_gt _ _).mp cq)
    exact L107  _ h (lv_sub hl [] rfl)
  · have h := h.2 (fun q => cq ((lg_cmp_gt _ _).mpr q))
    refine lv_lload_n hx hb dX0_holds_57 rfl (lv_at hl 4 rfl) ?_
    refine lv_aload_n hx hb dX0_holds_58 rfl (lv_at hl 2 rfl) ?_
    refine va_get (D := D) (ci := 0) (v := .ref (aE 3)) (C := RX0) (T := TX0) (N := 6) hx hb hts hiX0 hown hK hP 0 rfl rfl 2 (by decide) f18 (fun _ h9 => h9) rfl dX0_holds_59 ?_
    refine lv_iload_n hx hb dX0_holds_62 rfl (lv_at hl 3 rfl) ?_
    obtain ⟨hin, h⟩ := h
    refine va_iald hx hb hK hP 3 0 rfl rfl hin dX0_holds_63 ?_
    refine lv_i2l hx hb dX0_holds_64 rfl ?_
    refine lv_lload hx hb dX0_holds_65 (lv_at hl 6 rfl) ?_
    refine lv_lmul hx hb dX0_holds_67 ?_
    refine W.lcmp hx hb dX0_holds_68 ?_
    refine lv_if_gt (tgt := 107) hx hb dX0_holds_69 (by decide) (fun cq => ?_) (fun cq => ?_)
    · have h := h.1 ((lg_cmp_gt _ _).mp cq)
      exact L107  _ h (lv_sub hl [] rfl)
    · have h := h.2 (fun q => cq ((lg_cmp_gt _ _).mpr q))
      refine lv_lload hx hb dX0_holds_72 (lv_at hl 1 rfl) ?_
      refine lv_lload hx hb dX0_holds_74 (lv_at hl 5 rfl) ?_
      refine W.lcmp hx hb dX0_holds_76 ?_
      refine lv_if_gt (tgt := 107) hx hb dX0_holds_77 (by decide) (fun cq => ?_) (fun cq => ?_)
      · have h := h.1 ((lg_cmp_gt _ _).mp cq)
        exact L107  _ h (lv_sub hl [] rfl)
      · have h := h.2 (fun q => cq ((lg_cmp_gt _ _).mpr q))
        refine lv_lload hx hb dX0_holds_80 (lv_at hl 5 rfl) ?_
        refine lv_lload hx hb dX0_holds_82 (lv_at hl 0 rfl) ?_
        refine W.lcmp hx hb dX0_holds_84 ?_
        refine lv_if_gt (tgt := 107) hx hb dX0_holds_85 (by decide) (fun cq => ?_) (fun cq => ?_)
        · have h := h.1 ((lg_cmp_gt _ _).mp cq)
          exact L107  _ h (lv_sub hl [] rfl)
        · have h := h.2 (fun q => cq ((lg_cmp_gt _ _).mpr q))
          refine lv_aload_n hx hb dX0_holds_88 rfl (lv_at hl 2 rfl) ?_
          refine lv_iload_n hx hb dX0_holds_89 rfl (lv_at hl 3 rfl) ?_
          refine lv_lload_n hx hb dX0_holds_90 rfl (lv_at hl 4 rfl) ?_
          refine lv_lload hx hb dX0_holds_91 (lv_at hl 5 rfl) ?_
          refine lv_lload hx hb dX0_holds_93 (lv_at hl 6 rfl) ?_
          refine vp_callSl (W.runV (C := RX0) (b := (aE 0)) (As := [.int p0, .long p1, .long p2, .long p3]) (rest := []) ⟨hx, hb, hml, hown, hts⟩ (m_X0_turn l D k aE fX fY lX lY oP nE p0 p1 p2 p3 _ h) (cwV 4 hts gX0_holds_X0_turn rfl rfl rfl (by decide +kernel) ⟨Nat.le_of_ble_eq_true rfl, Nat.le_of_ble_eq_true rfl⟩) (preV_ro (ci := 0) (q0 := 0) (C := RX0) (T := TX0) (N := 6) hE hP rfl rfl) rfl rfl hl.1 rfl (lv_room (Nat.le_of_ble_eq_true rfl)) dX0_holds_95 ⟨Nat.le_of_ble_eq_true rfl, Nat.le_of_ble_eq_true rfl⟩) (fun r95 h => ?_)
          refine lv_lconst (v := (0 : Int64)) hx hb dX0_holds_98 (by decide) ?_
          refine W.lcmp hx hb dX0_holds_99 ?_
          refine lv_if_ne (tgt := 107) hx hb dX0_holds_100 (by decide) (fun cq => ?_) (fun cq => ?_)
          · have h := h.1 (fun q => cq ((lg_cmp_eq _ _).mpr q))
            exact L107  _ h (lv_sub hl [] rfl)
          · have h := h.2 ((lg_cmp_eq _ _).mp cq)
            refine lv_iconst (v := (1 : Int32)) hx hb dX0_holds_103 (by decide) ?_
            refine lv_goto (tgt := 108) hx hb dX0_holds_104 (by decide) ?_
            exact L108 (1 : Int32) _ h (lv_sub hl [] rfl)
set_option maxHeartbeats 4000000 in
set_option maxRecDepth 100000 in
theorem m_X0_through (l : Launch) (D : va_G) (k : Nat → ClassId) (aE : Nat → Nat) (fX : Nat → Int32) (fY : Nat → Int32) (lX : Nat → Int32) (lY : Nat → Int32) (oP : Nat → Int32) (nE : Int32) (p0 : Int64) (p1 : Int64) (p2 : Int64) (Q : Int32 → Prop) (h : wp_X0_through p0 p1 p2 fX fY lX lY nE Q) : Met l yX0_through wsX0_through ({ frames := 3, cells := 0, slots := 0, locals := 79 }) (Pro D k [.ref (aE 0), .long p0, .long p1, .long p2] (wE k aE fX fY lX lY oP nE)) (vp_Si Q) 0 0 (fun _ => False) := by
  refine Met.ofW (cc := cX0_through) (maxL := 9) (ret := (some .int)) (by decide) rfl ?_
  intro p e s m args below meth c s₁ B hml hv
  obtain ⟨hav, hP, hE⟩ := hv
  have hx := B.exec
  have hb := B.bytes
  have hr := B.returns
  have hts := atoms_spec (ws := wsX0_through) B.pre
  have hown : s.vm.findClass RX0 = some m.cls := findClass_of_methodNamed B.named
  have hlocks := B.notSynchronized
  have hK := hE.1
  have hl := lv_entry ([.ref (aE 0), .long p0, .long p1, .long p2]) (n := 9) (Nat.le_of_ble_eq_true rfl)
  rw [show entryFrame m args 9 = entryFrame m ([.ref (aE 0), .long p0, .long p1, .long p2] : List Value).toArray 9 by rw [hav]]
  rw [lg_entry_eq]
  refine W.gq (fun GQ hGQ => ?_)
  generalize (lg_sl ([.ref (aE 0), .long p0, .long p1, .long p2]) ++ List.replicate (9 - (lg_sl ([.ref (aE 0), .long p0, .long p1, .long p2])).length) Slot.unset).toArray = ls at hl ⊢
  have hl : lv_has ls 9 [(0, .ref (aE 0)), (1, .long p0), (3, .long p1), (5, .long p2)] := hl
  have hiX0 := (by decide +kernel : ∀ w ∈ wsX00, w ∈ wsX0_through)
  have f27 := hts (.fieldLink RX0 27 "PlaneOverlay$Edges" "count" "I") (by decide +kernel)
  have L6 : ∀ (n6 : Nat) (v7 : Int32) (v8 : Int32) (ls : Array Slot), wp_X0_through_L6 p0 p1 p2 fX fY lX lY nE Q  n6 v7 v8 → lv_has ls 9 [(0, .ref (aE 0)), (1, .long p0), (3, .long p1), (5, .long p2), (7, .int v7), (8, .int v8)] → W p l e (headSpec wsX0_through ({ frames := 3, cells := 0, slots := 0, locals := 79 })).room s m args below meth c s.heap [] 0 0 GQ (F0 m 6 ls []) := by
    intro n6
    induction n6 with
    | zero => intro v7 v8 ls h hl; exact False.elim h
    | succ n6 ih6 =>
      have L37 : ∀ (v7 : Int32) (v8 : Int32) (ls : Array Slot), wp_X0_through_L37 p0 p1 p2 fX fY lX lY nE Q (wp_X0_through_L6 p0 p1 p2 fX fY lX lY nE Q  n6) v7 v8 → lv_has ls 9 [(0, .ref (aE 0)), (1, .long p0), (3, .long p1), (5, .long p2), (7, .int v7), (8, .int v8)] → W p l e (headSpec wsX0_through ({ frames := 3, cells := 0, slots := 0, locals := 79 })).room s m args below meth c s.heap [] 0 0 GQ (F0 m 37 ls []) := by
        intro v7 v8 ls h hl
        unfold wp_X0_through_L37 at h
        refine lv_iinc (v := (v8 + 1)) (lv' := [(8, .int (v8 + 1)), (0, .ref (aE 0)), (1, .long p0), (3, .long p1), (5, .long p2), (7, .int v7)]) hx hb dX0_through_37 hl (k := 5) rfl rfl (by decide) rfl (fun ls hl => ?_)
        refine lv_goto (tgt := 6) hx hb dX0_through_40 (by decide) ?_
        exact ih6 v7 (v8 + 1) _ h (lv_sub hl [1, 2, 3, 4, 5, 0] rfl)
      intro v7 v8 ls h hl
      rw [wp_X0_through_L6] at h
      refine lv_iload hx hb dX0_through_6 (lv_at hl 5 rfl) ?_
      refine lv_aload_n hx hb dX0_through_8 rfl (lv_at hl 0 rfl) ?_
      refine va_get (D := D) (ci := 0) (v := .int nE) (C := RX0) (T := TX0) (N := 6) hx hb hts hiX0 hown hK hP 0 rfl rfl 5 (by decide) f27 (fun _ h9 => h9) rfl dX0_through_9 ?_
      refine lv_icmp_ge (tgt := 43) hx hb dX0_through_12 (by decide) (fun cq => ?_) (fun cq => ?_)
      · have h := h.1 cq
        refine lv_iload hx hb dX0_through_43 (lv_at hl 4 rfl) ?_
        rw [hGQ]
        exact W.iret (v := v7) hx hb hr (fun t ht hW => ⟨_, rfl, h, ht⟩) (fun _ h => by cases h) dX0_through_45
      · have h := h.2 cq
        refine lv_aload_n hx hb dX0_through_15 rfl (lv_at hl 0 rfl) ?_
        refine lv_iload hx hb dX0_through_16 (lv_at hl 5 rfl) ?_
        refine lv_lload_n hx hb dX0_through_18 rfl (lv_at hl 1 rfl) ?_
        refine lv_lload_n hx hb dX0_through_19 rfl (lv_at hl 2 rfl) ?_
        refine lv_lload hx hb dX0_through_20 (lv_at hl 3 rfl) ?_
        refine vp_callSi (W.runV (C := RX0) (b := (aE 0)) (As := [.int v8, .long p0, .long p1, .long p2]) (rest := []) ⟨hx, hb, hml, hown, hts⟩ (m_X0_holds l D k aE fX fY lX lY oP nE v8 p0 p1 p2 _ h) (cwV 4 hts gX0_through_X0_holds rfl rfl rfl (by decide +kernel) ⟨Nat.le_of_ble_eq_true rfl, Nat.le_of_ble_eq_true rfl⟩) (preV_ro (ci := 0) (q0 := 0) (C := RX0) (T := TX0) (N := 6) hE hP rfl rfl) rfl rfl hl.1 rfl (lv_room (Nat.le_of_ble_eq_true rfl)) dX0_through_22 ⟨Nat.le_of_ble_eq_true rfl, Nat.le_of_ble_eq_true rfl⟩) (fun r22 h => ?_)
        refine lv_if_eq (tgt := 37) hx hb dX0_through_25 (by decide) (fun cq => ?_) (fun cq => ?_)
        · have h := h.1 cq
          exact L37 v7 v8 _ h (lv_sub hl [0, 1, 2, 3, 4, 5] rfl)
        · have h := h.2 cq
          refine lv_iload hx hb dX0_through_28 (lv_at hl 4 rfl) ?_
          refine lv_iconst (v := (1 : Int32)) hx hb dX0_through_30 (by decide) ?_
          refine lv_iload hx hb dX0_through_31 (lv_at hl 5 rfl) ?_
          refine lv_ishl hx hb dX0_through_33 ?_
          refine lv_ior hx hb dX0_through_34 ?_
          refine lv_topi (fun x35 ex35 => ?_)
          have h := h x35 ex35
          refine lv_istore (lv' := [(7, .int x35), (0, .ref (aE 0)), (1, .long p0), (3, .long p1), (5, .long p2), (8, .int v8)]) hx hb dX0_through_35 hl (by decide) rfl (fun ls hl => ?_)
          exact L37 x35 v8 _ h (lv_sub hl [1, 2, 3, 4, 0, 5] rfl)
  unfold wp_X0_through at h
  refine lv_iconst (v := (0 : Int32)) hx hb dX0_through_0 (by decide) ?_
  refine lv_istore (lv' := [(7, .int (0 : Int32)), (0, .ref (aE 0)), (1, .long p0), (3, .long p1), (5, .long p2)]) hx hb dX0_through_1 hl (by decide) rfl (fun ls hl => ?_)
  refine lv_iconst (v := (0 : Int32)) hx hb dX0_through_3 (by decide) ?_
  refine lv_istore (lv' := [(8, .int (0 : Int32)), (7, .int (0 : Int32)), (0, .ref (aE 0)), (1, .long p0), (3, .long p1), (5, .long p2)]) hx hb dX0_through_4 hl (by decide) rfl (fun ls hl => ?_)
  obtain ⟨n9, h⟩ := h
  exact L6 n9 (0 : Int32) (0 : Int32) _ h (lv_sub hl [2, 3, 4, 5, 1, 0] rfl)
set_option maxHeartbeats 4000000 in
set_option maxRecDepth 100000 in
theorem m_X0_above (l : Launch) (D : va_G) (k : Nat → ClassId) (aE : Nat → Nat) (fX : Nat → Int32) (fY : Nat → Int32) (lX : Nat → Int32) (lY : Nat → Int32) (oP : Nat → Int32) (nE : Int32) (p0 : Int64) (p1 : Int64) (p2 : Int64) (Q : Int32 → Prop) (h : wp_X0_above p0 p1 p2 fX fY lX lY nE Q) : Met l yX0_above wsX0_above ({ frames := 2, cells := 0, slots := 0, locals := 48 }) (Pro D k [.ref (aE 0), .long p0, .long p1, .long p2] (wE k aE fX fY lX lY oP nE)) (vp_Si Q) 0 0 (fun _ => False) := by
  refine Met.ofW (cc := cX0_above) (maxL := 9) (ret := (some .int)) (by decide) rfl ?_
  intro p e s m args below meth c s₁ B hml hv
  obtain ⟨hav, hP, hE⟩ := hv
  have hx := B.exec
  have hb := B.bytes
  have hr := B.returns
  have hts := atoms_spec (ws := wsX0_above) B.pre
  have hown : s.vm.findClass RX0 = some m.cls := findClass_of_methodNamed B.named
  have hlocks := B.notSynchronized
  have hK := hE.1
  have hl := lv_entry ([.ref (aE 0), .long p0, .long p1, .long p2]) (n := 9) (Nat.le_of_ble_eq_true rfl)
  rw [show entryFrame m args 9 = entryFrame m ([.ref (aE 0), .long p0, .long p1, .long p2] : List Value).toArray 9 by rw [hav]]
  rw [lg_entry_eq]
  refine W.gq (fun GQ hGQ => ?_)
  generalize (lg_sl ([.ref (aE 0), .long p0, .long p1, .long p2]) ++ List.replicate (9 - (lg_sl ([.ref (aE 0), .long p0, .long p1, .long p2])).length) Slot.unset).toArray = ls at hl ⊢
  have hl : lv_has ls 9 [(0, .ref (aE 0)), (1, .long p0), (3, .long p1), (5, .long p2)] := hl
  have hiX0 := (by decide +kernel : ∀ w ∈ wsX00, w ∈ wsX0_above)
  have f27 := hts (.fieldLink RX0 27 "PlaneOverlay$Edges" "count" "I") (by decide +kernel)
  have f9 := hts (.fieldLink RX0 9 "PlaneOverlay$Edges" "firstX" "[I") (by decide +kernel)
  have f18 := hts (.fieldLink RX0 18 "PlaneOverlay$Edges" "lastX" "[I") (by decide +kernel)
  have L6 : ∀ (n6 : Nat) (v7 : Int32) (v8 : Int32) (ls : Array Slot), wp_X0_above_L6 p0 p1 p2 fX fY lX lY nE Q  n6 v7 v8 → lv_has ls 9 [(0, .ref (aE 0)), (1, .long p0), (3, .long p1), (5, .long p2), (7, .int v7), (8, .int v8)] → W p l e (headSpec wsX0_above ({ frames := 2, cells := 0, slots := 0, locals := 48 })).room s m args below meth c s.heap [] 0 0 GQ (F0 m 6 ls []) := by
    intro n6
    induction n6 with
    | zero => intro v7 v8 ls h hl; exact False.elim h
    | succ n6 ih6 =>
      have L71 : ∀ (v7 : Int32) (v8 : Int32) (ls : Array Slot), wp_X0_above_L71 p0 p1 p2 fX fY lX lY nE Q (wp_X0_above_L6 p0 p1 p2 fX fY lX lY nE Q  n6) v7 v8 → lv_has ls 9 [(0, .ref (aE 0)), (1, .long p0), (3, .long p1), (5, .long p2), (7, .int v7), (8, .int v8)] → W p l e (headSpec wsX0_above ({ frames := 2, cells := 0, slots := 0, locals := 48 })).room s m args below meth c s.heap [] 0 0 GQ (F0 m 71 ls []) := by
        intro v7 v8 ls h hl
        unfold wp_X0_above_L71 at h
        refine lv_iinc (v := (v8 + 1)) (lv' := [(8, .int (v8 + 1)), (0, .ref (aE 0)), (1, .long p0), (3, .long p1), (5, .long p2), (7, .int v7)]) hx hb dX0_above_71 hl (k := 5) rfl rfl (by decide) rfl (fun ls hl => ?_)
        refine lv_goto (tgt := 6) hx hb dX0_above_74 (by decide) ?_
        exact ih6 v7 (v8 + 1) _ h (lv_sub hl [1, 2, 3, 4, 5, 0] rfl)
      intro v7 v8 ls h hl
      rw [wp_X0_above_L6] at h
      refine lv_iload hx hb dX0_above_6 (lv_at hl 5 rfl) ?_
      refine lv_aload_n hx hb dX0_above_8 rfl (lv_at hl 0 rfl) ?_
      refine va_get (D := D) (ci := 0) (v := .int nE) (C := RX0) (T := TX0) (N := 6) hx hb hts hiX0 hown hK hP 0 rfl rfl 5 (by decide) f27 (fun _ h9 => h9) rfl dX0_above_9 ?_
      refine lv_icmp_ge (tgt := 77) hx hb dX0_above_12 (by decide) (fun cq => ?_) (fun cq => ?_)
      · have h := h.1 cq
        refine lv_iload hx hb dX0_above_77 (lv_at hl 4 rfl) ?_
        rw [hGQ]
        exact W.iret (v := v7) hx hb hr (fun t ht hW => ⟨_, rfl, h, ht⟩) (fun _ h => by cases h) dX0_above_79
      · have h := h.2 cq
        refine lv_aload_n hx hb dX0_above_15 rfl (lv_at hl 0 rfl) ?_
        refine va_get (D := D) (ci := 0) (v := .ref (aE 1)) (C := RX0) (T := TX0) (N := 6) hx hb hts hiX0 hown hK hP 0 rfl rfl 0 (by decide) f9 (fun _ h9 => h9) rfl dX0_above_16 ?_
        refine lv_iload hx hb dX0_above_19 (lv_at hl 5 rfl) ?_
        obtain ⟨hin, h⟩ := h
        refine va_iald hx hb hK hP 1 0 rfl rfl hin dX0_above_21 ?_
        refine lv_i2l hx hb dX0_above_22 rfl ?_
        refine lv_lload hx hb dX0_above_23 (lv_at hl 3 rfl) ?_
        refine lv_lmul hx hb dX0_above_25 ?_
        refine lv_lload_n hx hb dX0_above_26 rfl (lv_at hl 1 rfl) ?_
        refine W.lcmp hx hb dX0_above_27 ?_
        refine lv_if_gt (tgt := 71) hx hb dX0_above_28 (by decide) (fun cq => ?_) (fun cq => ?_)
        · have h := h.1 ((lg_cmp_gt _ _).mp cq)
          exact L71 v7 v8 _ h (lv_sub hl [0, 1, 2, 3, 4, 5] rfl)
        · have h := h.2 (fun q => cq ((lg_cmp_gt _ _).mpr q))
          refine lv_lload_n hx hb dX0_above_31 rfl (lv_at hl 1 rfl) ?_
          refine lv_aload_n hx hb dX0_above_32 rfl (lv_at hl 0 rfl) ?_
          refine va_get (D := D) (ci := 0) (v := .ref (aE 3)) (C := RX0) (T := TX0) (N := 6) hx hb hts hiX0 hown hK hP 0 rfl rfl 2 (by decide) f18 (fun _ h9 => h9) rfl dX0_above_33 ?_
          refine lv_iload hx hb dX0_above_36 (lv_at hl 5 rfl) ?_
          obtain ⟨hin, h⟩ := h
          refine va_iald hx hb hK hP 3 0 rfl rfl hin dX0_above_38 ?_
          refine lv_i2l hx hb dX0_above_39 rfl ?_
          refine lv_lload hx hb dX0_above_40 (lv_at hl 3 rfl) ?_
          refine lv_lmul hx hb dX0_above_42 ?_
          refine W.lcmp hx hb dX0_above_43 ?_
          refine lv_if_ge (tgt := 71) hx hb dX0_above_44 (by decide) (fun cq => ?_) (fun cq => ?_)
          · have h := h.1 ((lg_cmp_ge _ _).mp cq)
            exact L71 v7 v8 _ h (lv_sub hl [0, 1, 2, 3, 4, 5] rfl)
          · have h := h.2 (fun q => cq ((lg_cmp_ge _ _).mpr q))
            refine lv_aload_n hx hb dX0_above_47 rfl (lv_at hl 0 rfl) ?_
            refine lv_iload hx hb dX0_above_48 (lv_at hl 5 rfl) ?_
            refine lv_lload_n hx hb dX0_above_50 rfl (lv_at hl 1 rfl) ?_
            refine lv_lload_n hx hb dX0_above_51 rfl (lv_at hl 2 rfl) ?_
            refine lv_lload hx hb dX0_above_52 (lv_at hl 3 rfl) ?_
            refine vp_callSl (W.runV (C := RX0) (b := (aE 0)) (As := [.int v8, .long p0, .long p1, .long p2]) (rest := []) ⟨hx, hb, hml, hown, hts⟩ (m_X0_turn l D k aE fX fY lX lY oP nE v8 p0 p1 p2 _ h) (cwV 4 hts gX0_above_X0_turn rfl rfl rfl (by decide +kernel) ⟨Nat.le_of_ble_eq_true rfl, Nat.le_of_ble_eq_true rfl⟩) (preV_ro (ci := 0) (q0 := 0) (C := RX0) (T := TX0) (N := 6) hE hP rfl rfl) rfl rfl hl.1 rfl (lv_room (Nat.le_of_ble_eq_true rfl)) dX0_above_54 ⟨Nat.le_of_ble_eq_true rfl, Nat.le_of_ble_eq_true rfl⟩) (fun r54 h => ?_)
            refine lv_lconst (v := (0 : Int64)) hx hb dX0_above_57 (by decide) ?_
            refine W.lcmp hx hb dX0_above_58 ?_
            refine lv_if_ge (tgt := 71) hx hb dX0_above_59 (by decide) (fun cq => ?_) (fun cq => ?_)
            · have h := h.1 ((lg_cmp_ge _ _).mp cq)
              exact L71 v7 v8 _ h (lv_sub hl [0, 1, 2, 3, 4, 5] rfl)
            · have h := h.2 (fun q => cq ((lg_cmp_ge _ _).mpr q))
              refine lv_iload hx hb dX0_above_62 (lv_at hl 4 rfl) ?_
              refine lv_iconst (v := (1 : Int32)) hx hb dX0_above_64 (by decide) ?_
              refine lv_iload hx hb dX0_above_65 (lv_at hl 5 rfl) ?_
              refine lv_ishl hx hb dX0_above_67 ?_
              refine lv_ior hx hb dX0_above_68 ?_
              refine lv_topi (fun x69 ex69 => ?_)
              have h := h x69 ex69
              refine lv_istore (lv' := [(7, .int x69), (0, .ref (aE 0)), (1, .long p0), (3, .long p1), (5, .long p2), (8, .int v8)]) hx hb dX0_above_69 hl (by decide) rfl (fun ls hl => ?_)
              exact L71 x69 v8 _ h (lv_sub hl [1, 2, 3, 4, 0, 5] rfl)
  unfold wp_X0_above at h
  refine lv_iconst (v := (0 : Int32)) hx hb dX0_above_0 (by decide) ?_
  refine lv_istore (lv' := [(7, .int (0 : Int32)), (0, .ref (aE 0)), (1, .long p0), (3, .long p1), (5, .long p2)]) hx hb dX0_above_1 hl (by decide) rfl (fun ls hl => ?_)
  refine lv_iconst (v := (0 : Int32)) hx hb dX0_above_3 (by decide) ?_
  refine lv_istore (lv' := [(8, .int (0 : Int32)), (7, .int (0 : Int32)), (0, .ref (aE 0)), (1, .long p0), (3, .long p1), (5, .long p2)]) hx hb dX0_above_4 hl (by decide) rfl (fun ls hl => ?_)
  obtain ⟨n9, h⟩ := h
  exact L6 n9 (0 : Int32) (0 : Int32) _ h (lv_sub hl [2, 3, 4, 5, 1, 0] rfl)
set_option maxHeartbeats 4000000 in
set_option maxRecDepth 100000 in
theorem m_X0_empty (l : Launch) (D : va_G) (k : Nat → ClassId) (aE : Nat → Nat) (fX : Nat → Int32) (fY : Nat → Int32) (lX : Nat → Int32) (lY : Nat → Int32) (oP : Nat → Int32) (nE : Int32)  (Q : (Nat → Int32) → (Int32) → Prop) (sz : Nat) (h : wp_X0_empty oP nE Q) : Met l yX0_empty wsX0_empty ({ frames := 0, cells := 0, slots := 0, locals := 0 }) (Prw D k [.ref (aE 0)] (wE k aE fX fY lX lY oP nE) sz) (va_Qv (fun (u : (Nat → Int32) × (Int32)) => Q u.1 u.2) (fun (u : (Nat → Int32) × (Int32)) t => va_P D vwCl (wE k aE fX fY lX lY (u.1) (u.2)) t.heap ∧ va_D (va_A (wE k aE fX fY lX lY oP nE) sz) (wE k aE fX fY lX lY (u.1) (u.2))) (va_A (wE k aE fX fY lX lY oP nE) sz)) 0 0 (va_A (wE k aE fX fY lX lY oP nE) sz) := by
  refine Met.ofW (cc := cX0_empty) (maxL := 2) (ret := none) (by decide) rfl ?_
  intro p e s m args below meth c s₁ B hml hv
  obtain ⟨hav, hsz, hP, hE, hD0⟩ := hv
  subst hsz
  have hx := B.exec
  have hb := B.bytes
  have hr := B.returns
  have hts := atoms_spec (ws := wsX0_empty) B.pre
  have hown : s.vm.findClass RX0 = some m.cls := findClass_of_methodNamed B.named
  have hlocks := B.notSynchronized
  have hK := hE.1
  have hD := hD0.self (sz := s.heap.size)
  generalize hAe : va_A (wE k aE fX fY lX lY oP nE) s.heap.size = A at hD ⊢
  have hA : ∀ q : Nat, s.heap.size ≤ q → A q := fun q h => by rw [← hAe]; exact Or.inr h
  have hS : va_S A s.heap s.heap [] := va_S.rf
  have hl := lv_entry ([.ref (aE 0)]) (n := 2) (Nat.le_of_ble_eq_true rfl)
  rw [show entryFrame m args 2 = entryFrame m ([.ref (aE 0)] : List Value).toArray 2 by rw [hav]]
  rw [lg_entry_eq]
  refine W.gq (fun GQ hGQ => ?_)
  generalize (lg_sl ([.ref (aE 0)]) ++ List.replicate (2 - (lg_sl ([.ref (aE 0)])).length) Slot.unset).toArray = ls at hl ⊢
  have hl : lv_has ls 2 [(0, .ref (aE 0))] := hl
  have hiX0 := (by decide +kernel : ∀ w ∈ wsX00, w ∈ wsX0_empty)
  have f24 := hts (.fieldLink RX0 24 "PlaneOverlay$Edges" "ofPolygon" "[I") (by decide +kernel)
  have f27 := hts (.fieldLink RX0 27 "PlaneOverlay$Edges" "count" "I") (by decide +kernel)
  have L7 : ∀ (n7 : Nat) (v1 : Int32) (oP : Nat → Int32) (nE : Int32) (H : Heap) (locs : List Loc) (ls : Array Slot), wp_X0_empty_L7  Q  n7 v1 oP nE → va_P D vwCl (wE k aE fX fY lX lY oP nE) H → va_D A (wE k aE fX fY lX lY oP nE) → va_S A s.heap H locs → lv_has ls 2 [(0, .ref (aE 0)), (1, .int v1)] → W p l e (headSpec wsX0_empty ({ frames := 0, cells := 0, slots := 0, locals := 0 })).room s m args below meth c H locs 0 0 GQ (F0 m 7 ls []) := by
    intro n7
    induction n7 with
    | zero => intro v1 oP nE H locs ls h hP hD hS hl; exact False.elim h
    | succ n7 ih7 =>
      intro v1 oP nE H locs ls h hP hD hS hl
      rw [wp_X0_empty_L7] at h
      refine lv_iload_n hx hb dX0_empty_7 rfl (lv_at hl 1 rfl) ?_
      refine lv_iconst (v := (2 : Int32)) hx hb dX0_empty_8 (by decide) ?_
      refine lv_icmp_ge (tgt := 25) hx hb dX0_empty_9 (by decide) (fun cq => ?_) (fun cq => ?_)
      · have h := h.1 cq
        rw [hGQ]
        exact W.vret hx hb hr (fun t ht hW => ⟨⟨(oP, nE), rfl, h, by rw [ht]; exact hP, hD⟩, hS.F ht⟩) hS.2.2 dX0_empty_25
      · have h := h.2 cq
        refine lv_aload_n hx hb dX0_empty_12 rfl (lv_at hl 0 rfl) ?_
        refine va_get (D := D) (ci := 0) (v := .ref (aE 5)) (C := RX0) (T := TX0) (N := 6) hx hb hts hiX0 hown hK hP 0 rfl rfl 4 (by decide) f24 (fun _ h9 => h9) rfl dX0_empty_13 ?_
        refine lv_iload_n hx hb dX0_empty_16 rfl (lv_at hl 1 rfl) ?_
        refine lv_iconst (v := (0 : Int32)) hx hb dX0_empty_17 (by decide) ?_
        obtain ⟨hin, h⟩ := h
        obtain ⟨y18, ey18⟩ : ∃ z : Nat → Int32, z = upd oP v1.toNatClampNeg (0 : Int32) := ⟨_, rfl⟩
        have h := h y18 ey18
        refine va_iast hx hb hK hP hD hS 5 0 rfl rfl hin dX0_empty_18 (fun H locs hP hD hS => ?_)
        rw [← ey18] at hP hD
        have hP : va_P D vwCl (wE k aE fX fY lX lY y18 nE) H := hP
        have hD : va_D A (wE k aE fX fY lX lY y18 nE) := hD
        refine lv_iinc (v := (v1 + 1)) (lv' := [(1, .int (v1 + 1)), (0, .ref (aE 0))]) hx hb dX0_empty_19 hl (k := 1) rfl rfl (by decide) rfl (fun ls hl => ?_)
        refine lv_goto (tgt := 7) hx hb dX0_empty_22 (by decide) ?_
        exact ih7 (v1 + 1) y18 nE _ _ _ h hP hD hS (lv_sub hl [1, 0] rfl)
  unfold wp_X0_empty at h
  refine lv_aload_n hx hb dX0_empty_0 rfl (lv_at hl 0 rfl) ?_
  refine lv_iconst (v := (0 : Int32)) hx hb dX0_empty_1 (by decide) ?_
  refine va_put (D := D) (ci := 0) (v := .int (0 : Int32)) (ty := .int) (C := RX0) (T := TX0) (N := 6) hx hb hts hiX0 tyX0 tyX0_ok nmX0 hown hK hP hD hS 0 rfl rfl 5 (by decide) f27 (fun _ h9 => h9) rfl (by decide +kernel) rfl rfl (Nat.le_of_ble_eq_true rfl) dX0_empty_2 (fun H locs hP hD hS => ?_)
  have hP : va_P D vwCl (wE k aE fX fY lX lY oP (0 : Int32)) H := hP
  have hD : va_D A (wE k aE fX fY lX lY oP (0 : Int32)) := hD
  refine lv_iconst (v := (0 : Int32)) hx hb dX0_empty_5 (by decide) ?_
  refine lv_istore_n (lv' := [(1, .int (0 : Int32)), (0, .ref (aE 0))]) hx hb dX0_empty_6 rfl hl (by decide) rfl (fun ls hl => ?_)
  obtain ⟨n9, h⟩ := h
  exact L7 n9 (0 : Int32) oP (0 : Int32) _ _ _ h hP hD hS (lv_sub hl [1, 0] rfl)
set_option maxHeartbeats 4000000 in
set_option maxRecDepth 100000 in
theorem m_X0_add (l : Launch) (D : va_G) (k : Nat → ClassId) (aE : Nat → Nat) (fX : Nat → Int32) (fY : Nat → Int32) (lX : Nat → Int32) (lY : Nat → Int32) (oP : Nat → Int32) (nE : Int32) (p0 : Int32) (p1 : Int32) (p2 : Int32) (p3 : Int32) (p4 : Int32) (Q : (Nat → Int32) → (Nat → Int32) → (Nat → Int32) → (Nat → Int32) → (Nat → Int32) → (Int32) → Prop) (sz : Nat) (h : wp_X0_add p0 p1 p2 p3 p4 fX fY lX lY oP nE Q) : Met l yX0_add wsX0_add ({ frames := 0, cells := 0, slots := 0, locals := 0 }) (Prw D k [.ref (aE 0), .int p0, .int p1, .int p2, .int p3, .int p4] (wE k aE fX fY lX lY oP nE) sz) (va_Qv (fun (u : (Nat → Int32) × (Nat → Int32) × (Nat → Int32) × (Nat → Int32) × (Nat → Int32) × (Int32)) => Q u.1 u.2.1 u.2.2.1 u.2.2.2.1 u.2.2.2.2.1 u.2.2.2.2.2) (fun (u : (Nat → Int32) × (Nat → Int32) × (Nat → Int32) × (Nat → Int32) × (Nat → Int32) × (Int32)) t => va_P D vwCl (wE k aE (u.1) (u.2.1) (u.2.2.1) (u.2.2.2.1) (u.2.2.2.2.1) (u.2.2.2.2.2)) t.heap ∧ va_D (va_A (wE k aE fX fY lX lY oP nE) sz) (wE k aE (u.1) (u.2.1) (u.2.2.1) (u.2.2.2.1) (u.2.2.2.2.1) (u.2.2.2.2.2))) (va_A (wE k aE fX fY lX lY oP nE) sz)) 0 0 (va_A (wE k aE fX fY lX lY oP nE) sz) := by
  refine Met.ofW (cc := cX0_add) (maxL := 7) (ret := none) (by decide) rfl ?_
  intro p e s m args below meth c s₁ B hml hv
  obtain ⟨hav, hsz, hP, hE, hD0⟩ := hv
  subst hsz
  have hx := B.exec
  have hb := B.bytes
  have hr := B.returns
  have hts := atoms_spec (ws := wsX0_add) B.pre
  have hown : s.vm.findClass RX0 = some m.cls := findClass_of_methodNamed B.named
  have hlocks := B.notSynchronized
  have hK := hE.1
  have hD := hD0.self (sz := s.heap.size)
  generalize hAe : va_A (wE k aE fX fY lX lY oP nE) s.heap.size = A at hD ⊢
  have hA : ∀ q : Nat, s.heap.size ≤ q → A q := fun q h => by rw [← hAe]; exact Or.inr h
  have hS : va_S A s.heap s.heap [] := va_S.rf
  have hl := lv_entry ([.ref (aE 0), .int p0, .int p1, .int p2, .int p3, .int p4]) (n := 7) (Nat.le_of_ble_eq_true rfl)
  rw [show entryFrame m args 7 = entryFrame m ([.ref (aE 0), .int p0, .int p1, .int p2, .int p3, .int p4] : List Value).toArray 7 by rw [hav]]
  rw [lg_entry_eq]
  refine W.gq (fun GQ hGQ => ?_)
  generalize (lg_sl ([.ref (aE 0), .int p0, .int p1, .int p2, .int p3, .int p4]) ++ List.replicate (7 - (lg_sl ([.ref (aE 0), .int p0, .int p1, .int p2, .int p3, .int p4])).length) Slot.unset).toArray = ls at hl ⊢
  have hl : lv_has ls 7 [(0, .ref (aE 0)), (1, .int p0), (2, .int p1), (3, .int p2), (4, .int p3), (5, .int p4)] := hl
  have hiX0 := (by decide +kernel : ∀ w ∈ wsX00, w ∈ wsX0_add)
  have f24 := hts (.fieldLink RX0 24 "PlaneOverlay$Edges" "ofPolygon" "[I") (by decide +kernel)
  have f27 := hts (.fieldLink RX0 27 "PlaneOverlay$Edges" "count" "I") (by decide +kernel)
  have f21 := hts (.fieldLink RX0 21 "PlaneOverlay$Edges" "lastY" "[I") (by decide +kernel)
  have f18 := hts (.fieldLink RX0 18 "PlaneOverlay$Edges" "lastX" "[I") (by decide +kernel)
  have f15 := hts (.fieldLink RX0 15 "PlaneOverlay$Edges" "firstY" "[I") (by decide +kernel)
  have f9 := hts (.fieldLink RX0 9 "PlaneOverlay$Edges" "firstX" "[I") (by decide +kernel)
  have L21 : ∀ (fX : Nat → Int32) (fY : Nat → Int32) (lX : Nat → Int32) (lY : Nat → Int32) (oP : Nat → Int32) (nE : Int32) (H : Heap) (locs : List Loc) (ls : Array Slot), wp_X0_add_L21 p0 p1 p2 p3 p4 Q  fX fY lX lY oP nE → va_P D vwCl (wE k aE fX fY lX lY oP nE) H → va_D A (wE k aE fX fY lX lY oP nE) → va_S A s.heap H locs → lv_has ls 7 [] → W p l e (headSpec wsX0_add ({ frames := 0, cells := 0, slots := 0, locals := 0 })).room s m args below meth c H locs 0 0 GQ (F0 m 21 ls []) := by
    intro fX fY lX lY oP nE H locs ls h hP hD hS hl
    unfold wp_X0_add_L21 at h
    rw [hGQ]
    exact W.vret hx hb hr (fun t ht hW => ⟨⟨(fX, fY, lX, lY, oP, nE), rfl, h, by rw [ht]; exact hP, hD⟩, hS.F ht⟩) hS.2.2 dX0_add_21
  have L126 : ∀ (z0 : Int32) (z1 : Int32) (fX : Nat → Int32) (fY : Nat → Int32) (lX : Nat → Int32) (lY : Nat → Int32) (oP : Nat → Int32) (nE : Int32) (H : Heap) (locs : List Loc) (ls : Array Slot), wp_X0_add_L126 p0 p1 p2 p3 p4 Q  z0 z1 fX fY lX lY oP nE → va_P D vwCl (wE k aE fX fY lX lY oP nE) H → va_D A (wE k aE fX fY lX lY oP nE) → va_S A s.heap H locs → lv_has ls 7 [(0, .ref (aE 0)), (1, .int p0)] → W p l e (headSpec wsX0_add ({ frames := 0, cells := 0, slots := 0, locals := 0 })).room s m args below meth c H locs 0 0 GQ (F0 m 126 ls [.int z0, .int z1, .ref (aE 4)]) := by
    intro z0 z1 fX fY lX lY oP nE H locs ls h hP hD hS hl
    unfold wp_X0_add_L126 at h
    obtain ⟨hin, h⟩ := h
    obtain ⟨y126, ey126⟩ : ∃ z : Nat → Int32, z = upd lY z1.toNatClampNeg z0 := ⟨_, rfl⟩
    have h := h y126 ey126
    refine va_iast hx hb hK hP hD hS 4 0 rfl rfl hin dX0_add_126 (fun H locs hP hD hS => ?_)
    rw [← ey126] at hP hD
    have hP : va_P D vwCl (wE k aE fX fY lX y126 oP nE) H := hP
    have hD : va_D A (wE k aE fX fY lX y126 oP nE) := hD
    refine lv_aload_n hx hb dX0_add_127 rfl (lv_at hl 0 rfl) ?_
    refine va_get (D := D) (ci := 0) (v := .ref (aE 5)) (C := RX0) (T := TX0) (N := 6) hx hb hts hiX0 hown hK hP 0 rfl rfl 4 (by decide) f24 (fun _ h9 => h9) rfl dX0_add_128 ?_
    refine lv_iload_n hx hb dX0_add_131 rfl (lv_at hl 1 rfl) ?_
    refine lv_aload_n hx hb dX0_add_132 rfl (lv_at hl 0 rfl) ?_
    refine va_get (D := D) (ci := 0) (v := .ref (aE 5)) (C := RX0) (T := TX0) (N := 6) hx hb hts hiX0 hown hK hP 0 rfl rfl 4 (by decide) f24 (fun _ h9 => h9) rfl dX0_add_133 ?_
    refine lv_iload_n hx hb dX0_add_136 rfl (lv_at hl 1 rfl) ?_
    obtain ⟨hin, h⟩ := h
    refine va_iald hx hb hK hP 5 0 rfl rfl hin dX0_add_137 ?_
    refine lv_iconst (v := (1 : Int32)) hx hb dX0_add_138 (by decide) ?_
    refine lv_aload_n hx hb dX0_add_139 rfl (lv_at hl 0 rfl) ?_
    refine va_get (D := D) (ci := 0) (v := .int nE) (C := RX0) (T := TX0) (N := 6) hx hb hts hiX0 hown hK hP 0 rfl rfl 5 (by decide) f27 (fun _ h9 => h9) rfl dX0_add_140 ?_
    refine lv_ishl hx hb dX0_add_143 ?_
    refine lv_ior hx hb dX0_add_144 ?_
    obtain ⟨hin, h⟩ := h
    obtain ⟨y145, ey145⟩ : ∃ z : Nat → Int32, z = upd oP p0.toNatClampNeg ((oP p0.toNatClampNeg) ||| ((1 : Int32) <<< (nE &&& 31))) := ⟨_, rfl⟩
    have h := h y145 ey145
    refine va_iast hx hb hK hP hD hS 5 0 rfl rfl hin dX0_add_145 (fun H locs hP hD hS => ?_)
    rw [← ey145] at hP hD
    have hP : va_P D vwCl (wE k aE fX fY lX y126 y145 nE) H := hP
    have hD : va_D A (wE k aE fX fY lX y126 y145 nE) := hD
    refine lv_aload_n hx hb dX0_add_146 rfl (lv_at hl 0 rfl) ?_
    refine lv_dup hx hb dX0_add_147 rfl ?_
    refine va_get (D := D) (ci := 0) (v := .int nE) (C := RX0) (T := TX0) (N := 6) hx hb hts hiX0 hown hK hP 0 rfl rfl 5 (by decide) f27 (fun _ h9 => h9) rfl dX0_add_148 ?_
    refine lv_iconst (v := (1 : Int32)) hx hb dX0_add_151 (by decide) ?_
    refine lv_iadd hx hb dX0_add_152 ?_
    refine lv_topi (fun x153 ex153 => ?_)
    have h := h x153 ex153
    refine va_put (D := D) (ci := 0) (v := .int x153) (ty := .int) (C := RX0) (T := TX0) (N := 6) hx hb hts hiX0 tyX0 tyX0_ok nmX0 hown hK hP hD hS 0 rfl rfl 5 (by decide) f27 (fun _ h9 => h9) rfl (by decide +kernel) rfl rfl (Nat.le_of_ble_eq_true rfl) dX0_add_153 (fun H locs hP hD hS => ?_)
    have hP : va_P D vwCl (wE k aE fX fY lX y126 y145 x153) H := hP
    have hD : va_D A (wE k aE fX fY lX y126 y145 x153) := hD
    rw [hGQ]
    exact W.vret hx hb hr (fun t ht hW => ⟨⟨(fX, fY, lX, y126, y145, x153), rfl, h, by rw [ht]; exact hP, hD⟩, hS.F ht⟩) hS.2.2 dX0_add_156
  have L106 : ∀ (v6 : Int32) (z0 : Int32) (z1 : Int32) (fX : Nat → Int32) (fY : Nat → Int32) (lX : Nat → Int32) (lY : Nat → Int32) (oP : Nat → Int32) (nE : Int32) (H : Heap) (locs : List Loc) (ls : Array Slot), wp_X0_add_L106 p0 p1 p2 p3 p4 Q  v6 z0 z1 fX fY lX lY oP nE → va_P D vwCl (wE k aE fX fY lX lY oP nE) H → va_D A (wE k aE fX fY lX lY oP nE) → va_S A s.heap H locs → lv_has ls 7 [(0, .ref (aE 0)), (1, .int p0), (3, .int p2), (5, .int p4), (6, .int v6)] → W p l e (headSpec wsX0_add ({ frames := 0, cells := 0, slots := 0, locals := 0 })).room s m args below meth c H locs 0 0 GQ (F0 m 106 ls [.int z0, .int z1, .ref (aE 3)]) := by
    intro v6 z0 z1 fX fY lX lY oP nE H locs ls h hP hD hS hl
    unfold wp_X0_add_L106 at h
    obtain ⟨hin, h⟩ := h
    obtain ⟨y106, ey106⟩ : ∃ z : Nat → Int32, z = upd lX z1.toNatClampNeg z0 := ⟨_, rfl⟩
    have h := h y106 ey106
    refine va_iast hx hb hK hP hD hS 3 0 rfl rfl hin dX0_add_106 (fun H locs hP hD hS => ?_)
    rw [← ey106] at hP hD
    have hP : va_P D vwCl (wE k aE fX fY y106 lY oP nE) H := hP
    have hD : va_D A (wE k aE fX fY y106 lY oP nE) := hD
    refine lv_aload_n hx hb dX0_add_107 rfl (lv_at hl 0 rfl) ?_
    refine va_get (D := D) (ci := 0) (v := .ref (aE 4)) (C := RX0) (T := TX0) (N := 6) hx hb hts hiX0 hown hK hP 0 rfl rfl 3 (by decide) f21 (fun _ h9 => h9) rfl dX0_add_108 ?_
    refine lv_aload_n hx hb dX0_add_111 rfl (lv_at hl 0 rfl) ?_
    refine va_get (D := D) (ci := 0) (v := .int nE) (C := RX0) (T := TX0) (N := 6) hx hb hts hiX0 hown hK hP 0 rfl rfl 5 (by decide) f27 (fun _ h9 => h9) rfl dX0_add_112 ?_
    refine lv_iload hx hb dX0_add_115 (lv_at hl 4 rfl) ?_
    refine lv_if_eq (tgt := 125) hx hb dX0_add_117 (by decide) (fun cq => ?_) (fun cq => ?_)
    · have h := h.1 cq
      refine lv_iload_n hx hb dX0_add_125 rfl (lv_at hl 2 rfl) ?_
      exact L126 p2 nE fX fY y106 lY oP nE _ _ _ h hP hD hS (lv_sub hl [0, 1] rfl)
    · have h := h.2 cq
      refine lv_iload hx hb dX0_add_120 (lv_at hl 3 rfl) ?_
      refine lv_goto (tgt := 126) hx hb dX0_add_122 (by decide) ?_
      exact L126 p4 nE fX fY y106 lY oP nE _ _ _ h hP hD hS (lv_sub hl [0, 1] rfl)
  have L86 : ∀ (v6 : Int32) (z0 : Int32) (z1 : Int32) (fX : Nat → Int32) (fY : Nat → Int32) (lX : Nat → Int32) (lY : Nat → Int32) (oP : Nat → Int32) (nE : Int32) (H : Heap) (locs : List Loc) (ls : Array Slot), wp_X0_add_L86 p0 p1 p2 p3 p4 Q  v6 z0 z1 fX fY lX lY oP nE → va_P D vwCl (wE k aE fX fY lX lY oP nE) H → va_D A (wE k aE fX fY lX lY oP nE) → va_S A s.heap H locs → lv_has ls 7 [(0, .ref (aE 0)), (1, .int p0), (2, .int p1), (3, .int p2), (4, .int p3), (5, .int p4), (6, .int v6)] → W p l e (headSpec wsX0_add ({ frames := 0, cells := 0, slots := 0, locals := 0 })).room s m args below meth c H locs 0 0 GQ (F0 m 86 ls [.int z0, .int z1, .ref (aE 2)]) := by
    intro v6 z0 z1 fX fY lX lY oP nE H locs ls h hP hD hS hl
    unfold wp_X0_add_L86 at h
    obtain ⟨hin, h⟩ := h
    obtain ⟨y86, ey86⟩ : ∃ z : Nat → Int32, z = upd fY z1.toNatClampNeg z0 := ⟨_, rfl⟩
    have h := h y86 ey86
    refine va_iast hx hb hK hP hD hS 2 0 rfl rfl hin dX0_add_86 (fun H locs hP hD hS => ?_)
    rw [← ey86] at hP hD
    have hP : va_P D vwCl (wE k aE fX y86 lX lY oP nE) H := hP
    have hD : va_D A (wE k aE fX y86 lX lY oP nE) := hD
    refine lv_aload_n hx hb dX0_add_87 rfl (lv_at hl 0 rfl) ?_
    refine va_get (D := D) (ci := 0) (v := .ref (aE 3)) (C := RX0) (T := TX0) (N := 6) hx hb hts hiX0 hown hK hP 0 rfl rfl 2 (by decide) f18 (fun _ h9 => h9) rfl dX0_add_88 ?_
    refine lv_aload_n hx hb dX0_add_91 rfl (lv_at hl 0 rfl) ?_
    refine va_get (D := D) (ci := 0) (v := .int nE) (C := RX0) (T := TX0) (N := 6) hx hb hts hiX0 hown hK hP 0 rfl rfl 5 (by decide) f27 (fun _ h9 => h9) rfl dX0_add_92 ?_
    refine lv_iload hx hb dX0_add_95 (lv_at hl 6 rfl) ?_
    refine lv_if_eq (tgt := 105) hx hb dX0_add_97 (by decide) (fun cq => ?_) (fun cq => ?_)
    · have h := h.1 cq
      refine lv_iload_n hx hb dX0_add_105 rfl (lv_at hl 2 rfl) ?_
      exact L106 v6 p1 nE fX y86 lX lY oP nE _ _ _ h hP hD hS (lv_sub hl [0, 1, 3, 5, 6] rfl)
    · have h := h.2 cq
      refine lv_iload hx hb dX0_add_100 (lv_at hl 4 rfl) ?_
      refine lv_goto (tgt := 106) hx hb dX0_add_102 (by decide) ?_
      exact L106 v6 p3 nE fX y86 lX lY oP nE _ _ _ h hP hD hS (lv_sub hl [0, 1, 3, 5, 6] rfl)
  have L66 : ∀ (v6 : Int32) (z0 : Int32) (z1 : Int32) (fX : Nat → Int32) (fY : Nat → Int32) (lX : Nat → Int32) (lY : Nat → Int32) (oP : Nat → Int32) (nE : Int32) (H : Heap) (locs : List Loc) (ls : Array Slot), wp_X0_add_L66 p0 p1 p2 p3 p4 Q  v6 z0 z1 fX fY lX lY oP nE → va_P D vwCl (wE k aE fX fY lX lY oP nE) H → va_D A (wE k aE fX fY lX lY oP nE) → va_S A s.heap H locs → lv_has ls 7 [(0, .ref (aE 0)), (1, .int p0), (2, .int p1), (3, .int p2), (4, .int p3), (5, .int p4), (6, .int v6)] → W p l e (headSpec wsX0_add ({ frames := 0, cells := 0, slots := 0, locals := 0 })).room s m args below meth c H locs 0 0 GQ (F0 m 66 ls [.int z0, .int z1, .ref (aE 1)]) := by
    intro v6 z0 z1 fX fY lX lY oP nE H locs ls h hP hD hS hl
    unfold wp_X0_add_L66 at h
    obtain ⟨hin, h⟩ := h
    obtain ⟨y66, ey66⟩ : ∃ z : Nat → Int32, z = upd fX z1.toNatClampNeg z0 := ⟨_, rfl⟩
    have h := h y66 ey66
    refine va_iast hx hb hK hP hD hS 1 0 rfl rfl hin dX0_add_66 (fun H locs hP hD hS => ?_)
    rw [← ey66] at hP hD
    have hP : va_P D vwCl (wE k aE y66 fY lX lY oP nE) H := hP
    have hD : va_D A (wE k aE y66 fY lX lY oP nE) := hD
    refine lv_aload_n hx hb dX0_add_67 rfl (lv_at hl 0 rfl) ?_
    refine va_get (D := D) (ci := 0) (v := .ref (aE 2)) (C := RX0) (T := TX0) (N := 6) hx hb hts hiX0 hown hK hP 0 rfl rfl 1 (by decide) f15 (fun _ h9 => h9) rfl dX0_add_68 ?_
    refine lv_aload_n hx hb dX0_add_71 rfl (lv_at hl 0 rfl) ?_
    refine va_get (D := D) (ci := 0) (v := .int nE) (C := RX0) (T := TX0) (N := 6) hx hb hts hiX0 hown hK hP 0 rfl rfl 5 (by decide) f27 (fun _ h9 => h9) rfl dX0_add_72 ?_
    refine lv_iload hx hb dX0_add_75 (lv_at hl 6 rfl) ?_
    refine lv_if_eq (tgt := 84) hx hb dX0_add_77 (by decide) (fun cq => ?_) (fun cq => ?_)
    · have h := h.1 cq
      refine lv_iload hx hb dX0_add_84 (lv_at hl 5 rfl) ?_
      exact L86 v6 p4 nE y66 fY lX lY oP nE _ _ _ h hP hD hS (lv_sub hl [0, 1, 2, 3, 4, 5, 6] rfl)
    · have h := h.2 cq
      refine lv_iload_n hx hb dX0_add_80 rfl (lv_at hl 3 rfl) ?_
      refine lv_goto (tgt := 86) hx hb dX0_add_81 (by decide) ?_
      exact L86 v6 p2 nE y66 fY lX lY oP nE _ _ _ h hP hD hS (lv_sub hl [0, 1, 2, 3, 4, 5, 6] rfl)
  have L45 : ∀ (z0 : Int32) (fX : Nat → Int32) (fY : Nat → Int32) (lX : Nat → Int32) (lY : Nat → Int32) (oP : Nat → Int32) (nE : Int32) (H : Heap) (locs : List Loc) (ls : Array Slot), wp_X0_add_L45 p0 p1 p2 p3 p4 Q  z0 fX fY lX lY oP nE → va_P D vwCl (wE k aE fX fY lX lY oP nE) H → va_D A (wE k aE fX fY lX lY oP nE) → va_S A s.heap H locs → lv_has ls 7 [(0, .ref (aE 0)), (1, .int p0), (2, .int p1), (3, .int p2), (4, .int p3), (5, .int p4)] → W p l e (headSpec wsX0_add ({ frames := 0, cells := 0, slots := 0, locals := 0 })).room s m args below meth c H locs 0 0 GQ (F0 m 45 ls [.int z0]) := by
    intro z0 fX fY lX lY oP nE H locs ls h hP hD hS hl
    unfold wp_X0_add_L45 at h
    refine lv_istore (lv' := [(6, .int z0), (0, .ref (aE 0)), (1, .int p0), (2, .int p1), (3, .int p2), (4, .int p3), (5, .int p4)]) hx hb dX0_add_45 hl (by decide) rfl (fun ls hl => ?_)
    refine lv_aload_n hx hb dX0_add_47 rfl (lv_at hl 1 rfl) ?_
    refine va_get (D := D) (ci := 0) (v := .ref (aE 1)) (C := RX0) (T := TX0) (N := 6) hx hb hts hiX0 hown hK hP 0 rfl rfl 0 (by decide) f9 (fun _ h9 => h9) rfl dX0_add_48 ?_
    refine lv_aload_n hx hb dX0_add_51 rfl (lv_at hl 1 rfl) ?_
    refine va_get (D := D) (ci := 0) (v := .int nE) (C := RX0) (T := TX0) (N := 6) hx hb hts hiX0 hown hK hP 0 rfl rfl 5 (by decide) f27 (fun _ h9 => h9) rfl dX0_add_52 ?_
    refine lv_iload hx hb dX0_add_55 (lv_at hl 0 rfl) ?_
    refine lv_if_eq (tgt := 64) hx hb dX0_add_57 (by decide) (fun cq => ?_) (fun cq => ?_)
    · have h := h.1 cq
      refine lv_iload hx hb dX0_add_64 (lv_at hl 5 rfl) ?_
      exact L66 z0 p3 nE fX fY lX lY oP nE _ _ _ h hP hD hS (lv_sub hl [1, 2, 3, 4, 5, 6, 0] rfl)
    · have h := h.2 cq
      refine lv_iload_n hx hb dX0_add_60 rfl (lv_at hl 3 rfl) ?_
      refine lv_goto (tgt := 66) hx hb dX0_add_61 (by decide) ?_
      exact L66 z0 p1 nE fX fY lX lY oP nE _ _ _ h hP hD hS (lv_sub hl [1, 2, 3, 4, 5, 6, 0] rfl)
  have L40 : ∀ (fX : Nat → Int32) (fY : Nat → Int32) (lX : Nat → Int32) (lY : Nat → Int32) (oP : Nat → Int32) (nE : Int32) (H : Heap) (locs : List Loc) (ls : Array Slot), wp_X0_add_L40 p0 p1 p2 p3 p4 Q  fX fY lX lY oP nE → va_P D vwCl (wE k aE fX fY lX lY oP nE) H → va_D A (wE k aE fX fY lX lY oP nE) → va_S A s.heap H locs → lv_has ls 7 [(0, .ref (aE 0)), (1, .int p0), (2, .int p1), (3, .int p2), (4, .int p3), (5, .int p4)] → W p l e (headSpec wsX0_add ({ frames := 0, cells := 0, slots := 0, locals := 0 })).room s m args below meth c H locs 0 0 GQ (F0 m 40 ls []) := by
    intro fX fY lX lY oP nE H locs ls h hP hD hS hl
    unfold wp_X0_add_L40 at h
    refine lv_iconst (v := (1 : Int32)) hx hb dX0_add_40 (by decide) ?_
    refine lv_goto (tgt := 45) hx hb dX0_add_41 (by decide) ?_
    exact L45 (1 : Int32) fX fY lX lY oP nE _ _ _ h hP hD hS (lv_sub hl [0, 1, 2, 3, 4, 5] rfl)
  have L44 : ∀ (fX : Nat → Int32) (fY : Nat → Int32) (lX : Nat → Int32) (lY : Nat → Int32) (oP : Nat → Int32) (nE : Int32) (H : Heap) (locs : List Loc) (ls : Array Slot), wp_X0_add_L44 p0 p1 p2 p3 p4 Q  fX fY lX lY oP nE → va_P D vwCl (wE k aE fX fY lX lY oP nE) H → va_D A (wE k aE fX fY lX lY oP nE) → va_S A s.heap H locs → lv_has ls 7 [(0, .ref (aE 0)), (1, .int p0), (2, .int p1), (3, .int p2), (4, .int p3), (5, .int p4)] → W p l e (headSpec wsX0_add ({ frames := 0, cells := 0, slots := 0, locals := 0 })).room s m args below meth c H locs 0 0 GQ (F0 m 44 ls []) := by
    intro fX fY lX lY oP nE H locs ls h hP hD hS hl
    unfold wp_X0_add_L44 at h
    refine lv_iconst (v := (0 : Int32)) hx hb dX0_add_44 (by decide) ?_
    exact L45 (0 : Int32) fX fY lX lY oP nE _ _ _ h hP hD hS (lv_sub hl [0, 1, 2, 3, 4, 5] rfl)
  have L22 : ∀ (fX : Nat → Int32) (fY : Nat → Int32) (lX : Nat → Int32) (lY : Nat → Int32) (oP : Nat → Int32) (nE : Int32) (H : Heap) (locs : List Loc) (ls : Array Slot), wp_X0_add_L22 p0 p1 p2 p3 p4 Q  fX fY lX lY oP nE → va_P D vwCl (wE k aE fX fY lX lY oP nE) H → va_D A (wE k aE fX fY lX lY oP nE) → va_S A s.heap H locs → lv_has ls 7 [(0, .ref (aE 0)), (1, .int p0), (2, .int p1), (3, .int p2), (4, .int p3), (5, .int p4)] → W p l e (headSpec wsX0_add ({ frames := 0, cells := 0, slots := 0, locals := 0 })).room s m args below meth c H locs 0 0 GQ (F0 m 22 ls []) := by
    intro fX fY lX lY oP nE H locs ls h hP hD hS hl
    unfold wp_X0_add_L22 at h
    refine lv_iload_n hx hb dX0_add_22 rfl (lv_at hl 2 rfl) ?_
    refine lv_iload hx hb dX0_add_23 (lv_at hl 4 rfl) ?_
    refine lv_icmp_lt (tgt := 40) hx hb dX0_add_25 (by decide) (fun cq => ?_) (fun cq => ?_)
    · have h := h.1 cq
      exact L40 fX fY lX lY oP nE _ _ _ h hP hD hS (lv_sub hl [0, 1, 2, 3, 4, 5] rfl)
    · have h := h.2 cq
      refine lv_iload_n hx hb dX0_add_28 rfl (lv_at hl 2 rfl) ?_
      refine lv_iload hx hb dX0_add_29 (lv_at hl 4 rfl) ?_
      refine lv_icmp_ne (tgt := 44) hx hb dX0_add_31 (by decide) (fun cq => ?_) (fun cq => ?_)
      · have h := h.1 cq
        exact L44 fX fY lX lY oP nE _ _ _ h hP hD hS (lv_sub hl [0, 1, 2, 3, 4, 5] rfl)
      · have h := h.2 cq
        refine lv_iload_n hx hb dX0_add_34 rfl (lv_at hl 3 rfl) ?_
        refine lv_iload hx hb dX0_add_35 (lv_at hl 5 rfl) ?_
        refine lv_icmp_ge (tgt := 44) hx hb dX0_add_37 (by decide) (fun cq => ?_) (fun cq => ?_)
        · have h := h.1 cq
          exact L44 fX fY lX lY oP nE _ _ _ h hP hD hS (lv_sub hl [0, 1, 2, 3, 4, 5] rfl)
        · have h := h.2 cq
          exact L40 fX fY lX lY oP nE _ _ _ h hP hD hS (lv_sub hl [0, 1, 2, 3, 4, 5] rfl)
  unfold wp_X0_add at h
  refine lv_aload_n hx hb dX0_add_0 rfl (lv_at hl 0 rfl) ?_
  refine va_get (D := D) (ci := 0) (v := .int nE) (C := RX0) (T := TX0) (N := 6) hx hb hts hiX0 hown hK hP 0 rfl rfl 5 (by decide) f27 (fun _ h9 => h9) rfl dX0_add_1 ?_
  refine lv_bipush (v := (12 : Int32)) hx hb dX0_add_4 (by decide) ?_
  refine lv_icmp_ge (tgt := 21) hx hb dX0_add_6 (by decide) (fun cq => ?_) (fun cq => ?_)
  · have h := h.1 cq
    exact L21 fX fY lX lY oP nE _ _ _ h hP hD hS (lv_sub hl [] rfl)
  · have h := h.2 cq
    refine lv_iload_n hx hb dX0_add_9 rfl (lv_at hl 2 rfl) ?_
    refine lv_iload hx hb dX0_add_10 (lv_at hl 4 rfl) ?_
    refine lv_icmp_ne (tgt := 22) hx hb dX0_add_12 (by decide) (fun cq => ?_) (fun cq => ?_)
    · have h := h.1 cq
      exact L22 fX fY lX lY oP nE _ _ _ h hP hD hS (lv_sub hl [0, 1, 2, 3, 4, 5] rfl)
    · have h := h.2 cq
      refine lv_iload_n hx hb dX0_add_15 rfl (lv_at hl 3 rfl) ?_
      refine lv_iload hx hb dX0_add_16 (lv_at hl 5 rfl) ?_
      refine lv_icmp_ne (tgt := 22) hx hb dX0_add_18 (by decide) (fun cq => ?_) (fun cq => ?_)
      · have h := h.1 cq
        exact L22 fX fY lX lY oP nE _ _ _ h hP hD hS (lv_sub hl [0, 1, 2, 3, 4, 5] rfl)
      · have h := h.2 cq
        exact L21 fX fY lX lY oP nE _ _ _ h hP hD hS (lv_sub hl [] rfl)
