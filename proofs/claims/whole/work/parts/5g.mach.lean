set_option maxHeartbeats 4000000 in
set_option maxRecDepth 100000 in
theorem m_X4_isWithin (l : Launch) (D : va_G) (k : Nat → ClassId)   (p0 : Int32) (p1 : Int32) (Q : Int32 → Prop) (h : wp_X4_isWithin p0 p1 Q) : Met l yX4_isWithin wsX4_isWithin ({ frames := 0, cells := 0, slots := 0, locals := 0 }) (Pro D k [.int p0, .int p1] (([] : va_W))) (vp_Si Q) 0 0 (fun _ => False) := by
  refine Met.ofW (cc := cX4_isWithin) (maxL := 2) (ret := (some .boolean)) (by decide) rfl ?_
  intro p e s m args below meth c s₁ B hml hv
  obtain ⟨hav, hP, hE⟩ := hv
  have hx := B.exec
  have hb := B.bytes
  have hr := B.returns
  have hts := atoms_spec (ws := wsX4_isWithin) B.pre
  have hown : s.vm.findClass RX4 = some m.cls := findClass_of_methodNamed B.named
  have hlocks := B.notSynchronized
  have hK := hE.1
  have hl := lv_entry ([.int p0, .int p1]) (n := 2) (Nat.le_of_ble_eq_true rfl)
  rw [show entryFrame m args 2 = entryFrame m ([.int p0, .int p1] : List Value).toArray 2 by rw [hav]]
  rw [lg_entry_eq]
  refine W.gq (fun GQ hGQ => ?_)
  generalize (lg_sl ([.int p0, .int p1]) ++ List.replicate (2 - (lg_sl ([.int p0, .int p1])).length) Slot.unset).toArray = ls at hl ⊢
  have hl : lv_has ls 2 [(0, .int p0), (1, .int p1)] := hl
  have L16 : ∀ (z0 : Int32) (ls : Array Slot), wp_X4_isWithin_L16 p0 p1 Q  z0 → lv_has ls 2 [] → W p l e (headSpec wsX4_isWithin ({ frames := 0, cells := 0, slots := 0, locals := 0 })).room s m args below meth c s.heap [] 0 0 GQ (F0 m 16 ls [.int z0]) := by
    intro z0 ls h hl
    unfold wp_X4_isWithin_L16 at h
    obtain ⟨hnr, h⟩ := h
    rw [hGQ]
    exact W.zret (v := z0) hx hb hr hnr (fun t ht hW => ⟨_, rfl, h, ht⟩) (fun _ h => by cases h) dX4_isWithin_16
  have L15 : ∀  (ls : Array Slot), wp_X4_isWithin_L15 p0 p1 Q   → lv_has ls 2 [] → W p l e (headSpec wsX4_isWithin ({ frames := 0, cells := 0, slots := 0, locals := 0 })).room s m args below meth c s.heap [] 0 0 GQ (F0 m 15 ls []) := by
    intro  ls h hl
    unfold wp_X4_isWithin_L15 at h
    refine lv_iconst (v := (0 : Int32)) hx hb dX4_isWithin_15 (by decide) ?_
    exact L16 (0 : Int32) _ h (lv_sub hl [] rfl)
  unfold wp_X4_isWithin at h
  refine lv_iload_n hx hb dX4_isWithin_0 rfl (lv_at hl 0 rfl) ?_
  refine lv_iload_n hx hb dX4_isWithin_1 rfl (lv_at hl 1 rfl) ?_
  refine lv_ineg hx hb dX4_isWithin_2 ?_
  refine lv_icmp_lt (tgt := 15) hx hb dX4_isWithin_3 (by decide) (fun cq => ?_) (fun cq => ?_)
  · have h := h.1 cq
    exact L15  _ h (lv_sub hl [] rfl)
  · have h := h.2 cq
    refine lv_iload_n hx hb dX4_isWithin_6 rfl (lv_at hl 0 rfl) ?_
    refine lv_iload_n hx hb dX4_isWithin_7 rfl (lv_at hl 1 rfl) ?_
    refine lv_icmp_gt (tgt := 15) hx hb dX4_isWithin_8 (by decide) (fun cq => ?_) (fun cq => ?_)
    · have h := h.1 cq
      exact L15  _ h (lv_sub hl [] rfl)
    · have h := h.2 cq
      refine lv_iconst (v := (1 : Int32)) hx hb dX4_isWithin_11 (by decide) ?_
      refine lv_goto (tgt := 16) hx hb dX4_isWithin_12 (by decide) ?_
      exact L16 (1 : Int32) _ h (lv_sub hl [] rfl)
set_option maxHeartbeats 4000000 in
set_option maxRecDepth 100000 in
theorem m_X4_needOverlay (l : Launch) (D : va_G) (k : Nat → ClassId) (aC : Nat → Nat) (aE : Nat → Nat) (aP : Nat → Nat) (aQ : Nat → Nat) (aM : Nat → Nat) (cX : Nat → Nat → Int32) (cY : Nat → Nat → Int32) (cN : Nat → Int32) (cM : Int32)  (Q : Prop) (X : String → Prop) (sz : Nat) (hlt : l.stackTraces = false) (h : wp_X4_needOverlay cM Q X) : vx_Met l yX4_needOverlay wsX4_needOverlay ({ frames := 6, cells := 1, slots := 6, locals := 90 }) (Pth D k [.ref (aC 0)] (wC k aC aE aP aQ aM cX cY cN cM) sz) (va_Qv (fun (u : Unit) => Q ) (fun (u : Unit) t => va_P D vwCl (wC k aC aE aP aQ aM cX cY cN cM) t.heap ∧ va_D (va_A (wC k aC aE aP aQ aM cX cY cN cM) sz) (wC k aC aE aP aQ aM cX cY cN cM)) (va_A (wC k aC aE aP aQ aM cX cY cN cM) sz)) (vx_X (fun (_ : Unit) => True) (fun E9 u t => X E9  ∧ va_P D vwCl (wC k aC aE aP aQ aM cX cY cN cM) t.heap ∧ va_D (va_A (wC k aC aE aP aQ aM cX cY cN cM) sz) (wC k aC aE aP aQ aM cX cY cN cM)) (va_A (wC k aC aE aP aQ aM cX cY cN cM) sz)) 1 6 (va_A (wC k aC aE aP aQ aM cX cY cN cM) sz) := by
  refine vx_ofW (cc := cX4_needOverlay) (maxL := 1) (ret := none) (by decide) rfl ?_
  intro p e s m args below meth c s₁ B hml hxt hv
  obtain ⟨hav, hsz, hP, hE, hD0, hT⟩ := hv
  subst hsz
  have hx := B.exec
  have hb := B.bytes
  have hr := B.returns
  have hts := atoms_spec (ws := wsX4_needOverlay) B.pre
  have hown : s.vm.findClass RX4 = some m.cls := findClass_of_methodNamed B.named
  have hlocks := B.notSynchronized
  have hK := hE.1
  have hD := hD0.self (sz := s.heap.size)
  generalize hAe : va_A (wC k aC aE aP aQ aM cX cY cN cM) s.heap.size = A at hD hT ⊢
  have hA : ∀ q : Nat, s.heap.size ≤ q → A q := fun q h => by rw [← hAe]; exact Or.inr h
  have hS : va_S A s.heap s.heap [] := va_S.rf
  have hl := lv_entry ([.ref (aC 0)]) (n := 1) (Nat.le_of_ble_eq_true rfl)
  rw [show entryFrame m args 1 = entryFrame m ([.ref (aC 0)] : List Value).toArray 1 by rw [hav]]
  rw [lg_entry_eq]
  refine W.gq (fun GQ hGQ => ?_)
  generalize (lg_sl ([.ref (aC 0)]) ++ List.replicate (1 - (lg_sl ([.ref (aC 0)])).length) Slot.unset).toArray = ls at hl ⊢
  have hl : lv_has ls 1 [(0, .ref (aC 0))] := hl
  have hiX4 := (by decide +kernel : ∀ w ∈ wsX40, w ∈ wsX4_needOverlay)
  have f49 := hts (.fieldLink RX4 49 "PlaneOverlay" "isMade" "Z") (by decide +kernel)
  have hatxIS := (fun w hw => hts w (by simp only [wsX4_needOverlay, List.mem_cons, List.mem_append, hw, true_or, or_true]) : ∀ w ∈ (vx_atS RX4 72 "java/lang/IllegalStateException" ["java/lang/RuntimeException", "java/lang/Exception"]).filter goodWord, w.before args s = true)
  have cl68 := hts (.classLink RX4 68 "java/lang/IllegalStateException") (by decide +kernel)
  have inxIS := hts (.initialized "java/lang/IllegalStateException") (by decide +kernel)
  unfold wp_X4_needOverlay at h
  refine lv_aload_n hx hb dX4_needOverlay_0 rfl (lv_at hl 0 rfl) ?_
  refine va_get (D := D) (ci := 4) (v := .int cM) (C := RX4) (T := TX4) (N := 8) hx hb hts hiX4 hown hK hP 0 rfl rfl 7 (by decide) f49 (fun _ h9 => h9) rfl dX4_needOverlay_1 ?_
  refine lv_if_ne (tgt := 17) hx hb dX4_needOverlay_4 (by decide) (fun cq => ?_) (fun cq => ?_)
  · have h := h.1 cq
    refine W.widen (k := 1) (n := 6) (by decide) (by decide) ?_
    rw [hGQ]
    refine vx_ret ?_
    exact W.vret hx hb hr (fun t ht hW => ⟨⟨(), rfl, h, by rw [ht]; exact hP, hD⟩, hS.F ht⟩) hS.2.2 dX4_needOverlay_17
  · have h := h.2 cq
    rw [hGQ]
    obtain ⟨sa, hstr⟩ := hT.2.2.1 (185, "there is no overlay") (by decide)
    exact vx_throwS (own := RX4) (cls := "java/lang/IllegalStateException") (names := ["java/lang/RuntimeException", "java/lang/Exception"]) (A := A) hx hb hlt hown (by decide) (by decide) cl68 inxIS hstr (vx_hat hatxIS (th_bad "java/lang/IllegalStateException" 72 (by decide) (by decide)) (th_b3 hT (by decide))) (by decide +kernel) hT.1 hT.2.1 hS (hl.1.trans hml.symm) dX4_needOverlay_7 dX4_needOverlay_10 dX4_needOverlay_11 dX4_needOverlay_13 dX4_needOverlay_16 (fun x hx => (hxt x hx).elim) (Nat.le_of_ble_eq_true rfl) (Nat.le_of_ble_eq_true rfl) (Nat.le_of_ble_eq_true rfl) (Nat.le_of_ble_eq_true rfl) hlocks (fun t hvm hz hq => ⟨(), trivial, ⟨h, P_ext hP hq, hD⟩, F_ext hS hz hq⟩) hS.2.2 (Nat.le_of_ble_eq_true rfl) (Nat.le_of_ble_eq_true rfl)
set_option maxHeartbeats 4000000 in
set_option maxRecDepth 100000 in
theorem m_X4_needPolygon (l : Launch) (D : va_G) (k : Nat → ClassId)   (p0 : Int32) (Q : Prop) (X : String → Prop) (sz : Nat) (hlt : l.stackTraces = false) (h : wp_X4_needPolygon p0 Q X) : vx_Met l yX4_needPolygon wsX4_needPolygon ({ frames := 6, cells := 1, slots := 6, locals := 90 }) (Pth D k [.int p0] (([] : va_W)) sz) (va_Qv (fun (u : Unit) => Q ) (fun (u : Unit) t => va_P D vwCl (([] : va_W)) t.heap ∧ va_D (va_A (([] : va_W)) sz) (([] : va_W))) (va_A (([] : va_W)) sz)) (vx_X (fun (_ : Unit) => True) (fun E9 u t => X E9  ∧ va_P D vwCl (([] : va_W)) t.heap ∧ va_D (va_A (([] : va_W)) sz) (([] : va_W))) (va_A (([] : va_W)) sz)) 1 6 (va_A (([] : va_W)) sz) := by
  refine vx_ofW (cc := cX4_needPolygon) (maxL := 1) (ret := none) (by decide) rfl ?_
  intro p e s m args below meth c s₁ B hml hxt hv
  obtain ⟨hav, hsz, hP, hE, hD0, hT⟩ := hv
  subst hsz
  have hx := B.exec
  have hb := B.bytes
  have hr := B.returns
  have hts := atoms_spec (ws := wsX4_needPolygon) B.pre
  have hown : s.vm.findClass RX4 = some m.cls := findClass_of_methodNamed B.named
  have hlocks := B.notSynchronized
  have hK := hE.1
  have hD := hD0.self (sz := s.heap.size)
  generalize hAe : va_A (([] : va_W)) s.heap.size = A at hD hT ⊢
  have hA : ∀ q : Nat, s.heap.size ≤ q → A q := fun q h => by rw [← hAe]; exact Or.inr h
  have hS : va_S A s.heap s.heap [] := va_S.rf
  have hl := lv_entry ([.int p0]) (n := 1) (Nat.le_of_ble_eq_true rfl)
  rw [show entryFrame m args 1 = entryFrame m ([.int p0] : List Value).toArray 1 by rw [hav]]
  rw [lg_entry_eq]
  refine W.gq (fun GQ hGQ => ?_)
  generalize (lg_sl ([.int p0]) ++ List.replicate (1 - (lg_sl ([.int p0])).length) Slot.unset).toArray = ls at hl ⊢
  have hl : lv_has ls 1 [(0, .int p0)] := hl
  have hatxIA := (fun w hw => hts w (by simp only [wsX4_needPolygon, List.mem_cons, List.mem_append, hw, true_or, or_true]) : ∀ w ∈ (vx_atS RX4 65 "java/lang/IllegalArgumentException" ["java/lang/RuntimeException", "java/lang/Exception"]).filter goodWord, w.before args s = true)
  have cl61 := hts (.classLink RX4 61 "java/lang/IllegalArgumentException") (by decide +kernel)
  have inxIA := hts (.initialized "java/lang/IllegalArgumentException") (by decide +kernel)
  have L9 : ∀  (H : Heap) (locs : List Loc) (ls : Array Slot), wp_X4_needPolygon_L9 p0 Q X   → va_P D vwCl (([] : va_W)) H → va_D A (([] : va_W)) → va_S A s.heap H locs → lv_has ls 1 [] → W p l e (headSpec wsX4_needPolygon ({ frames := 6, cells := 1, slots := 6, locals := 90 })).room s m args below meth c H locs 0 0 GQ (F0 m 9 ls []) := by
    intro  H locs ls h hP hD hS hl
    unfold wp_X4_needPolygon_L9 at h
    rw [hGQ]
    obtain ⟨sa, hstr⟩ := hT.2.2.1 (187, "there is no such polygon") (by decide)
    exact vx_throwS (own := RX4) (cls := "java/lang/IllegalArgumentException") (names := ["java/lang/RuntimeException", "java/lang/Exception"]) (A := A) hx hb hlt hown (by decide) (by decide) cl61 inxIA hstr (vx_hat hatxIA (th_bad "java/lang/IllegalArgumentException" 65 (by decide) (by decide)) (th_b3 hT (by decide))) (by decide +kernel) hT.1 hT.2.1 hS (hl.1.trans hml.symm) dX4_needPolygon_9 dX4_needPolygon_12 dX4_needPolygon_13 dX4_needPolygon_15 dX4_needPolygon_18 (fun x hx => (hxt x hx).elim) (Nat.le_of_ble_eq_true rfl) (Nat.le_of_ble_eq_true rfl) (Nat.le_of_ble_eq_true rfl) (Nat.le_of_ble_eq_true rfl) hlocks (fun t hvm hz hq => ⟨(), trivial, ⟨h, P_ext hP hq, hD⟩, F_ext hS hz hq⟩) hS.2.2 (Nat.le_of_ble_eq_true rfl) (Nat.le_of_ble_eq_true rfl)
  unfold wp_X4_needPolygon at h
  refine lv_iload_n hx hb dX4_needPolygon_0 rfl (lv_at hl 0 rfl) ?_
  refine lv_if_lt (tgt := 9) hx hb dX4_needPolygon_1 (by decide) (fun cq => ?_) (fun cq => ?_)
  · have h := h.1 cq
    exact L9  _ _ _ h hP hD hS (lv_sub hl [] rfl)
  · have h := h.2 cq
    refine lv_iload_n hx hb dX4_needPolygon_4 rfl (lv_at hl 0 rfl) ?_
    refine lv_iconst (v := (2 : Int32)) hx hb dX4_needPolygon_5 (by decide) ?_
    refine lv_icmp_lt (tgt := 19) hx hb dX4_needPolygon_6 (by decide) (fun cq => ?_) (fun cq => ?_)
    · have h := h.1 cq
      refine W.widen (k := 1) (n := 6) (by decide) (by decide) ?_
      rw [hGQ]
      refine vx_ret ?_
      exact W.vret hx hb hr (fun t ht hW => ⟨⟨(), rfl, h, by rw [ht]; exact hP, hD⟩, hS.F ht⟩) hS.2.2 dX4_needPolygon_19
    · have h := h.2 cq
      exact L9  _ _ _ h hP hD hS (lv_sub hl [] rfl)
set_option maxHeartbeats 4000000 in
set_option maxRecDepth 100000 in
theorem m_X4_needResult (l : Launch) (D : va_G) (k : Nat → ClassId)   (p0 : Int32) (Q : Prop) (X : String → Prop) (sz : Nat) (hlt : l.stackTraces = false) (h : wp_X4_needResult p0 Q X) : vx_Met l yX4_needResult wsX4_needResult ({ frames := 6, cells := 1, slots := 6, locals := 90 }) (Pth D k [.int p0] (([] : va_W)) sz) (va_Qv (fun (u : Unit) => Q ) (fun (u : Unit) t => va_P D vwCl (([] : va_W)) t.heap ∧ va_D (va_A (([] : va_W)) sz) (([] : va_W))) (va_A (([] : va_W)) sz)) (vx_X (fun (_ : Unit) => True) (fun E9 u t => X E9  ∧ va_P D vwCl (([] : va_W)) t.heap ∧ va_D (va_A (([] : va_W)) sz) (([] : va_W))) (va_A (([] : va_W)) sz)) 1 6 (va_A (([] : va_W)) sz) := by
  refine vx_ofW (cc := cX4_needResult) (maxL := 1) (ret := none) (by decide) rfl ?_
  intro p e s m args below meth c s₁ B hml hxt hv
  obtain ⟨hav, hsz, hP, hE, hD0, hT⟩ := hv
  subst hsz
  have hx := B.exec
  have hb := B.bytes
  have hr := B.returns
  have hts := atoms_spec (ws := wsX4_needResult) B.pre
  have hown : s.vm.findClass RX4 = some m.cls := findClass_of_methodNamed B.named
  have hlocks := B.notSynchronized
  have hK := hE.1
  have hD := hD0.self (sz := s.heap.size)
  generalize hAe : va_A (([] : va_W)) s.heap.size = A at hD hT ⊢
  have hA : ∀ q : Nat, s.heap.size ≤ q → A q := fun q h => by rw [← hAe]; exact Or.inr h
  have hS : va_S A s.heap s.heap [] := va_S.rf
  have hl := lv_entry ([.int p0]) (n := 1) (Nat.le_of_ble_eq_true rfl)
  rw [show entryFrame m args 1 = entryFrame m ([.int p0] : List Value).toArray 1 by rw [hav]]
  rw [lg_entry_eq]
  refine W.gq (fun GQ hGQ => ?_)
  generalize (lg_sl ([.int p0]) ++ List.replicate (1 - (lg_sl ([.int p0])).length) Slot.unset).toArray = ls at hl ⊢
  have hl : lv_has ls 1 [(0, .int p0)] := hl
  have hatxIA := (fun w hw => hts w (by simp only [wsX4_needResult, List.mem_cons, List.mem_append, hw, true_or, or_true]) : ∀ w ∈ (vx_atS RX4 65 "java/lang/IllegalArgumentException" ["java/lang/RuntimeException", "java/lang/Exception"]).filter goodWord, w.before args s = true)
  have cl61 := hts (.classLink RX4 61 "java/lang/IllegalArgumentException") (by decide +kernel)
  have inxIA := hts (.initialized "java/lang/IllegalArgumentException") (by decide +kernel)
  have L9 : ∀  (H : Heap) (locs : List Loc) (ls : Array Slot), wp_X4_needResult_L9 p0 Q X   → va_P D vwCl (([] : va_W)) H → va_D A (([] : va_W)) → va_S A s.heap H locs → lv_has ls 1 [] → W p l e (headSpec wsX4_needResult ({ frames := 6, cells := 1, slots := 6, locals := 90 })).room s m args below meth c H locs 0 0 GQ (F0 m 9 ls []) := by
    intro  H locs ls h hP hD hS hl
    unfold wp_X4_needResult_L9 at h
    rw [hGQ]
    obtain ⟨sa, hstr⟩ := hT.2.2.1 (189, "there is no such result") (by decide)
    exact vx_throwS (own := RX4) (cls := "java/lang/IllegalArgumentException") (names := ["java/lang/RuntimeException", "java/lang/Exception"]) (A := A) hx hb hlt hown (by decide) (by decide) cl61 inxIA hstr (vx_hat hatxIA (th_bad "java/lang/IllegalArgumentException" 65 (by decide) (by decide)) (th_b3 hT (by decide))) (by decide +kernel) hT.1 hT.2.1 hS (hl.1.trans hml.symm) dX4_needResult_9 dX4_needResult_12 dX4_needResult_13 dX4_needResult_15 dX4_needResult_18 (fun x hx => (hxt x hx).elim) (Nat.le_of_ble_eq_true rfl) (Nat.le_of_ble_eq_true rfl) (Nat.le_of_ble_eq_true rfl) (Nat.le_of_ble_eq_true rfl) hlocks (fun t hvm hz hq => ⟨(), trivial, ⟨h, P_ext hP hq, hD⟩, F_ext hS hz hq⟩) hS.2.2 (Nat.le_of_ble_eq_true rfl) (Nat.le_of_ble_eq_true rfl)
  unfold wp_X4_needResult at h
  refine lv_iload_n hx hb dX4_needResult_0 rfl (lv_at hl 0 rfl) ?_
  refine lv_if_lt (tgt := 9) hx hb dX4_needResult_1 (by decide) (fun cq => ?_) (fun cq => ?_)
  · have h := h.1 cq
    exact L9  _ _ _ h hP hD hS (lv_sub hl [] rfl)
  · have h := h.2 cq
    refine lv_iload_n hx hb dX4_needResult_4 rfl (lv_at hl 0 rfl) ?_
    refine lv_iconst (v := (4 : Int32)) hx hb dX4_needResult_5 (by decide) ?_
    refine lv_icmp_lt (tgt := 19) hx hb dX4_needResult_6 (by decide) (fun cq => ?_) (fun cq => ?_)
    · have h := h.1 cq
      refine W.widen (k := 1) (n := 6) (by decide) (by decide) ?_
      rw [hGQ]
      refine vx_ret ?_
      exact W.vret hx hb hr (fun t ht hW => ⟨⟨(), rfl, h, by rw [ht]; exact hP, hD⟩, hS.F ht⟩) hS.2.2 dX4_needResult_19
    · have h := h.2 cq
      exact L9  _ _ _ h hP hD hS (lv_sub hl [] rfl)
set_option maxHeartbeats 4000000 in
set_option maxRecDepth 100000 in
theorem m_X4_needEdges (l : Launch) (D : va_G) (k : Nat → ClassId) (aC : Nat → Nat) (aE : Nat → Nat) (aP : Nat → Nat) (aQ : Nat → Nat) (aM : Nat → Nat) (cX : Nat → Nat → Int32) (cY : Nat → Nat → Int32) (cN : Nat → Int32) (cM : Int32) (fX : Nat → Int32) (fY : Nat → Int32) (lX : Nat → Int32) (lY : Nat → Int32) (oP : Nat → Int32) (nE : Int32) (p0 : Int32) (p1 : Int32) (Q : Prop) (X : String → Prop) (sz : Nat) (hlt : l.stackTraces = false) (h : wp_X4_needEdges p0 p1 nE Q X) : vx_Met l yX4_needEdges wsX4_needEdges ({ frames := 6, cells := 1, slots := 6, locals := 90 }) (Pth D k [.ref (aC 0), .int p0, .int p1] (wC k aC aE aP aQ aM cX cY cN cM ++ wE k aE fX fY lX lY oP nE) sz) (va_Qv (fun (u : Unit) => Q ) (fun (u : Unit) t => va_P D vwCl (wC k aC aE aP aQ aM cX cY cN cM ++ wE k aE fX fY lX lY oP nE) t.heap ∧ va_D (va_A (wC k aC aE aP aQ aM cX cY cN cM ++ wE k aE fX fY lX lY oP nE) sz) (wC k aC aE aP aQ aM cX cY cN cM ++ wE k aE fX fY lX lY oP nE)) (va_A (wC k aC aE aP aQ aM cX cY cN cM ++ wE k aE fX fY lX lY oP nE) sz)) (vx_X (fun (_ : Unit) => True) (fun E9 u t => X E9  ∧ va_P D vwCl (wC k aC aE aP aQ aM cX cY cN cM ++ wE k aE fX fY lX lY oP nE) t.heap ∧ va_D (va_A (wC k aC aE aP aQ aM cX cY cN cM ++ wE k aE fX fY lX lY oP nE) sz) (wC k aC aE aP aQ aM cX cY cN cM ++ wE k aE fX fY lX lY oP nE)) (va_A (wC k aC aE aP aQ aM cX cY cN cM ++ wE k aE fX fY lX lY oP nE) sz)) 1 6 (va_A (wC k aC aE aP aQ aM cX cY cN cM ++ wE k aE fX fY lX lY oP nE) sz) := by
  refine vx_ofW (cc := cX4_needEdges) (maxL := 3) (ret := none) (by decide) rfl ?_
  intro p e s m args below meth c s₁ B hml hxt hv
  obtain ⟨hav, hsz, hP, hE, hD0, hT⟩ := hv
  subst hsz
  have hx := B.exec
  have hb := B.bytes
  have hr := B.returns
  have hts := atoms_spec (ws := wsX4_needEdges) B.pre
  have hown : s.vm.findClass RX4 = some m.cls := findClass_of_methodNamed B.named
  have hlocks := B.notSynchronized
  have hK := hE.1
  have hD := hD0.self (sz := s.heap.size)
  generalize hAe : va_A (wC k aC aE aP aQ aM cX cY cN cM ++ wE k aE fX fY lX lY oP nE) s.heap.size = A at hD hT ⊢
  have hA : ∀ q : Nat, s.heap.size ≤ q → A q := fun q h => by rw [← hAe]; exact Or.inr h
  have hS : va_S A s.heap s.heap [] := va_S.rf
  have hl := lv_entry ([.ref (aC 0), .int p0, .int p1]) (n := 3) (Nat.le_of_ble_eq_true rfl)
  rw [show entryFrame m args 3 = entryFrame m ([.ref (aC 0), .int p0, .int p1] : List Value).toArray 3 by rw [hav]]
  rw [lg_entry_eq]
  refine W.gq (fun GQ hGQ => ?_)
  generalize (lg_sl ([.ref (aC 0), .int p0, .int p1]) ++ List.replicate (3 - (lg_sl ([.ref (aC 0), .int p0, .int p1])).length) Slot.unset).toArray = ls at hl ⊢
  have hl : lv_has ls 3 [(0, .ref (aC 0)), (1, .int p0), (2, .int p1)] := hl
  have hatxIO := (fun w hw => hts w (by simp only [wsX4_needEdges, List.mem_cons, List.mem_append, hw, true_or, or_true]) : ∀ w ∈ (vx_atS RX4 112 "java/lang/IndexOutOfBoundsException" ["java/lang/RuntimeException", "java/lang/Exception"]).filter goodWord, w.before args s = true)
  have cl108 := hts (.classLink RX4 108 "java/lang/IndexOutOfBoundsException") (by decide +kernel)
  have inxIO := hts (.initialized "java/lang/IndexOutOfBoundsException") (by decide +kernel)
  have hiX4 := (by decide +kernel : ∀ w ∈ wsX40, w ∈ wsX4_needEdges)
  have f24 := hts (.fieldLink RX4 24 "PlaneOverlay" "edges" "LPlaneOverlay$Edges;") (by decide +kernel)
  have hiX0 := (by decide +kernel : ∀ w ∈ wsX00, w ∈ wsX4_needEdges)
  have f87 := fun A => hE.nf (A := A) (RX4, 87, "PlaneOverlay$Edges", "count", "I") (by decide +kernel)
  have L30 : ∀  (H : Heap) (locs : List Loc) (ls : Array Slot), wp_X4_needEdges_L30 p0 p1 nE Q X   → va_P D vwCl (wC k aC aE aP aQ aM cX cY cN cM ++ wE k aE fX fY lX lY oP nE) H → va_D A (wC k aC aE aP aQ aM cX cY cN cM ++ wE k aE fX fY lX lY oP nE) → va_S A s.heap H locs → lv_has ls 3 [] → W p l e (headSpec wsX4_needEdges ({ frames := 6, cells := 1, slots := 6, locals := 90 })).room s m args below meth c H locs 0 0 GQ (F0 m 30 ls []) := by
    intro  H locs ls h hP hD hS hl
    unfold wp_X4_needEdges_L30 at h
    rw [hGQ]
    obtain ⟨sa, hstr⟩ := hT.2.2.1 (191, "there is no such edge") (by decide)
    exact vx_throwS (own := RX4) (cls := "java/lang/IndexOutOfBoundsException") (names := ["java/lang/RuntimeException", "java/lang/Exception"]) (A := A) hx hb hlt hown (by decide) (by decide) cl108 inxIO hstr (vx_hat hatxIO (th_bad "java/lang/IndexOutOfBoundsException" 112 (by decide) (by decide)) (th_b3 hT (by decide))) (by decide +kernel) hT.1 hT.2.1 hS (hl.1.trans hml.symm) dX4_needEdges_30 dX4_needEdges_33 dX4_needEdges_34 dX4_needEdges_36 dX4_needEdges_39 (fun x hx => (hxt x hx).elim) (Nat.le_of_ble_eq_true rfl) (Nat.le_of_ble_eq_true rfl) (Nat.le_of_ble_eq_true rfl) (Nat.le_of_ble_eq_true rfl) hlocks (fun t hvm hz hq => ⟨(), trivial, ⟨h, P_ext hP hq, hD⟩, F_ext hS hz hq⟩) hS.2.2 (Nat.le_of_ble_eq_true rfl) (Nat.le_of_ble_eq_true rfl)
  unfold wp_X4_needEdges at h
  refine lv_iload_n hx hb dX4_needEdges_0 rfl (lv_at hl 1 rfl) ?_
  refine lv_if_lt (tgt := 30) hx hb dX4_needEdges_1 (by decide) (fun cq => ?_) (fun cq => ?_)
  · have h := h.1 cq
    exact L30  _ _ _ h hP hD hS (lv_sub hl [] rfl)
  · have h := h.2 cq
    refine lv_iload_n hx hb dX4_needEdges_4 rfl (lv_at hl 1 rfl) ?_
    refine lv_aload_n hx hb dX4_needEdges_5 rfl (lv_at hl 0 rfl) ?_
    refine va_get (D := D) (ci := 4) (v := .ref (aE 0)) (C := RX4) (T := TX4) (N := 8) hx hb hts hiX4 hown hK hP 0 rfl rfl 3 (by decide) f24 (fun _ h9 => h9) rfl dX4_needEdges_6 ?_
    refine va_getN (D := D) (ci := 0) (v := .int nE) (C := RX0) (T := TX0) (N := 6) (host := "PlaneOverlay") hx hb hts hiX0 hown hK hP 8 rfl rfl 5 (by decide) (f87 _) (fun _ h9 => h9) rfl dX4_needEdges_9 ?_
    refine lv_icmp_ge (tgt := 30) hx hb dX4_needEdges_12 (by decide) (fun cq => ?_) (fun cq => ?_)
    · have h := h.1 cq
      exact L30  _ _ _ h hP hD hS (lv_sub hl [] rfl)
    · have h := h.2 cq
      refine lv_iload_n hx hb dX4_needEdges_15 rfl (lv_at hl 2 rfl) ?_
      refine lv_if_lt (tgt := 30) hx hb dX4_needEdges_16 (by decide) (fun cq => ?_) (fun cq => ?_)
      · have h := h.1 cq
        exact L30  _ _ _ h hP hD hS (lv_sub hl [] rfl)
      · have h := h.2 cq
        refine lv_iload_n hx hb dX4_needEdges_19 rfl (lv_at hl 2 rfl) ?_
        refine lv_aload_n hx hb dX4_needEdges_20 rfl (lv_at hl 0 rfl) ?_
        refine va_get (D := D) (ci := 4) (v := .ref (aE 0)) (C := RX4) (T := TX4) (N := 8) hx hb hts hiX4 hown hK hP 0 rfl rfl 3 (by decide) f24 (fun _ h9 => h9) rfl dX4_needEdges_21 ?_
        refine va_getN (D := D) (ci := 0) (v := .int nE) (C := RX0) (T := TX0) (N := 6) (host := "PlaneOverlay") hx hb hts hiX0 hown hK hP 8 rfl rfl 5 (by decide) (f87 _) (fun _ h9 => h9) rfl dX4_needEdges_24 ?_
        refine lv_icmp_lt (tgt := 40) hx hb dX4_needEdges_27 (by decide) (fun cq => ?_) (fun cq => ?_)
        · have h := h.1 cq
          refine W.widen (k := 1) (n := 6) (by decide) (by decide) ?_
          rw [hGQ]
          refine vx_ret ?_
          exact W.vret hx hb hr (fun t ht hW => ⟨⟨(), rfl, h, by rw [ht]; exact hP, hD⟩, hS.F ht⟩) hS.2.2 dX4_needEdges_40
        · have h := h.2 cq
          exact L30  _ _ _ h hP hD hS (lv_sub hl [] rfl)
set_option maxHeartbeats 4000000 in
set_option maxRecDepth 100000 in
theorem m_X4_takeEdges (l : Launch) (D : va_G) (k : Nat → ClassId) (aC : Nat → Nat) (aE : Nat → Nat) (aP : Nat → Nat) (aQ : Nat → Nat) (aM : Nat → Nat) (cX : Nat → Nat → Int32) (cY : Nat → Nat → Int32) (cN : Nat → Int32) (cM : Int32) (fX : Nat → Int32) (fY : Nat → Int32) (lX : Nat → Int32) (lY : Nat → Int32) (oP : Nat → Int32) (nE : Int32) (p0 : Int32) (Q : (Nat → Int32) → (Nat → Int32) → (Nat → Int32) → (Nat → Int32) → (Nat → Int32) → (Int32) → Prop) (sz : Nat) (h : wp_X4_takeEdges p0 cX cY cN fX fY lX lY oP nE Q) : Met l yX4_takeEdges wsX4_takeEdges ({ frames := 1, cells := 0, slots := 0, locals := 26 }) (Prw D k [.ref (aC 0), .int p0] (wC k aC aE aP aQ aM cX cY cN cM ++ wE k aE fX fY lX lY oP nE) sz) (va_Qv (fun (u : (Nat → Int32) × (Nat → Int32) × (Nat → Int32) × (Nat → Int32) × (Nat → Int32) × (Int32)) => Q u.1 u.2.1 u.2.2.1 u.2.2.2.1 u.2.2.2.2.1 u.2.2.2.2.2) (fun (u : (Nat → Int32) × (Nat → Int32) × (Nat → Int32) × (Nat → Int32) × (Nat → Int32) × (Int32)) t => va_P D vwCl (wC k aC aE aP aQ aM cX cY cN cM ++ wE k aE (u.1) (u.2.1) (u.2.2.1) (u.2.2.2.1) (u.2.2.2.2.1) (u.2.2.2.2.2)) t.heap ∧ va_D (va_A (wC k aC aE aP aQ aM cX cY cN cM ++ wE k aE fX fY lX lY oP nE) sz) (wC k aC aE aP aQ aM cX cY cN cM ++ wE k aE (u.1) (u.2.1) (u.2.2.1) (u.2.2.2.1) (u.2.2.2.2.1) (u.2.2.2.2.2))) (va_A (wC k aC aE aP aQ aM cX cY cN cM ++ wE k aE fX fY lX lY oP nE) sz)) 0 0 (va_A (wC k aC aE aP aQ aM cX cY cN cM ++ wE k aE fX fY lX lY oP nE) sz) := by
  refine Met.ofW (cc := cX4_takeEdges) (maxL := 7) (ret := none) (by decide) rfl ?_
  intro p e s m args below meth c s₁ B hml hv
  obtain ⟨hav, hsz, hP, hE, hD0⟩ := hv
  subst hsz
  have hx := B.exec
  have hb := B.bytes
  have hr := B.returns
  have hts := atoms_spec (ws := wsX4_takeEdges) B.pre
  have hown : s.vm.findClass RX4 = some m.cls := findClass_of_methodNamed B.named
  have hlocks := B.notSynchronized
  have hK := hE.1
  have hD := hD0.self (sz := s.heap.size)
  generalize hAe : va_A (wC k aC aE aP aQ aM cX cY cN cM ++ wE k aE fX fY lX lY oP nE) s.heap.size = A at hD ⊢
  have hA : ∀ q : Nat, s.heap.size ≤ q → A q := fun q h => by rw [← hAe]; exact Or.inr h
  have hS : va_S A s.heap s.heap [] := va_S.rf
  have hl := lv_entry ([.ref (aC 0), .int p0]) (n := 7) (Nat.le_of_ble_eq_true rfl)
  rw [show entryFrame m args 7 = entryFrame m ([.ref (aC 0), .int p0] : List Value).toArray 7 by rw [hav]]
  rw [lg_entry_eq]
  refine W.gq (fun GQ hGQ => ?_)
  generalize (lg_sl ([.ref (aC 0), .int p0]) ++ List.replicate (7 - (lg_sl ([.ref (aC 0), .int p0])).length) Slot.unset).toArray = ls at hl ⊢
  have hl : lv_has ls 7 [(0, .ref (aC 0)), (1, .int p0)] := hl
  have hiX4 := (by decide +kernel : ∀ w ∈ wsX40, w ∈ wsX4_takeEdges)
  have f24 := hts (.fieldLink RX4 24 "PlaneOverlay" "edges" "LPlaneOverlay$Edges;") (by decide +kernel)
  have f17 := hts (.fieldLink RX4 17 "PlaneOverlay" "vertexCount" "[I") (by decide +kernel)
  have f11 := hts (.fieldLink RX4 11 "PlaneOverlay" "vertexX" "[[I") (by decide +kernel)
  have f14 := hts (.fieldLink RX4 14 "PlaneOverlay" "vertexY" "[[I") (by decide +kernel)
  have L25 : ∀ (n25 : Nat) (v2 : Int32) (v5 : Int32) (fX : Nat → Int32) (fY : Nat → Int32) (lX : Nat → Int32) (lY : Nat → Int32) (oP : Nat → Int32) (nE : Int32) (H : Heap) (locs : List Loc) (ls : Array Slot), wp_X4_takeEdges_L25 p0 cX cY cN Q  n25 v2 v5 fX fY lX lY oP nE → va_P D vwCl (wC k aC aE aP aQ aM cX cY cN cM ++ wE k aE fX fY lX lY oP nE) H → va_D A (wC k aC aE aP aQ aM cX cY cN cM ++ wE k aE fX fY lX lY oP nE) → va_S A s.heap H locs → lv_has ls 7 [(0, .ref (aC 0)), (1, .int p0), (2, .int v2), (3, .ref (aC (2 + p0.toNatClampNeg))), (4, .ref (aC (5 + p0.toNatClampNeg))), (5, .int v5)] → W p l e (headSpec wsX4_takeEdges ({ frames := 1, cells := 0, slots := 0, locals := 26 })).room s m args below meth c H locs 0 0 GQ (F0 m 25 ls []) := by
    intro n25
    induction n25 with
    | zero => intro v2 v5 fX fY lX lY oP nE H locs ls h hP hD hS hl; exact False.elim h
    | succ n25 ih25 =>
      have L47 : ∀ (v2 : Int32) (v5 : Int32) (z0 : Int32) (fX : Nat → Int32) (fY : Nat → Int32) (lX : Nat → Int32) (lY : Nat → Int32) (oP : Nat → Int32) (nE : Int32) (H : Heap) (locs : List Loc) (ls : Array Slot), wp_X4_takeEdges_L47 p0 cX cY cN Q (wp_X4_takeEdges_L25 p0 cX cY cN Q  n25) v2 v5 z0 fX fY lX lY oP nE → va_P D vwCl (wC k aC aE aP aQ aM cX cY cN cM ++ wE k aE fX fY lX lY oP nE) H → va_D A (wC k aC aE aP aQ aM cX cY cN cM ++ wE k aE fX fY lX lY oP nE) → va_S A s.heap H locs → lv_has ls 7 [(0, .ref (aC 0)), (1, .int p0), (2, .int v2), (3, .ref (aC (2 + p0.toNatClampNeg))), (4, .ref (aC (5 + p0.toNatClampNeg))), (5, .int v5)] → W p l e (headSpec wsX4_takeEdges ({ frames := 1, cells := 0, slots := 0, locals := 26 })).room s m args below meth c H locs 0 0 GQ (F0 m 47 ls [.int z0]) := by
        intro v2 v5 z0 fX fY lX lY oP nE H locs ls h hP hD hS hl
        unfold wp_X4_takeEdges_L47 at h
        refine lv_istore (lv' := [(6, .int z0), (0, .ref (aC 0)), (1, .int p0), (2, .int v2), (3, .ref (aC (2 + p0.toNatClampNeg))), (4, .ref (aC (5 + p0.toNatClampNeg))), (5, .int v5)]) hx hb dX4_takeEdges_47 hl (by decide) rfl (fun ls hl => ?_)
        refine lv_aload_n hx hb dX4_takeEdges_49 rfl (lv_at hl 1 rfl) ?_
        refine va_get (D := D) (ci := 4) (v := .ref (aE 0)) (C := RX4) (T := TX4) (N := 8) hx hb hts hiX4 hown hK hP 0 rfl rfl 3 (by decide) f24 (fun _ h9 => h9) rfl dX4_takeEdges_50 ?_
        refine lv_iload_n hx hb dX4_takeEdges_53 rfl (lv_at hl 2 rfl) ?_
        refine lv_aload_n hx hb dX4_takeEdges_54 rfl (lv_at hl 4 rfl) ?_
        refine lv_iload hx hb dX4_takeEdges_55 (lv_at hl 6 rfl) ?_
        obtain ⟨hk57, h⟩ := h
        obtain ⟨hin, h⟩ := h
        refine va_iald hx hb hK hP (2 + p0.toNatClampNeg) 0 (co_2 (P := fun j => (wC k aC aE aP aQ aM cX cY cN cM ++ wE k aE fX fY lX lY oP nE)[2 + j]? = some (aC (2 + j), .inl (k 0, 6, .inl (cX j)))) rfl rfl (vp_lt hk57)) rfl hin dX4_takeEdges_57 ?_
        refine lv_aload hx hb dX4_takeEdges_58 (lv_at hl 5 rfl) ?_
        refine lv_iload hx hb dX4_takeEdges_60 (lv_at hl 6 rfl) ?_
        obtain ⟨hk62, h⟩ := h
        obtain ⟨hin, h⟩ := h
        refine va_iald hx hb hK hP (5 + p0.toNatClampNeg) 0 (co_2 (P := fun j => (wC k aC aE aP aQ aM cX cY cN cM ++ wE k aE fX fY lX lY oP nE)[5 + j]? = some (aC (5 + j), .inl (k 0, 6, .inl (cY j)))) rfl rfl (vp_lt hk62)) rfl hin dX4_takeEdges_62 ?_
        refine lv_aload_n hx hb dX4_takeEdges_63 rfl (lv_at hl 4 rfl) ?_
        refine lv_iload hx hb dX4_takeEdges_64 (lv_at hl 0 rfl) ?_
        obtain ⟨hk66, h⟩ := h
        obtain ⟨hin, h⟩ := h
        refine va_iald hx hb hK hP (2 + p0.toNatClampNeg) 0 (co_2 (P := fun j => (wC k aC aE aP aQ aM cX cY cN cM ++ wE k aE fX fY lX lY oP nE)[2 + j]? = some (aC (2 + j), .inl (k 0, 6, .inl (cX j)))) rfl rfl (vp_lt hk66)) rfl hin dX4_takeEdges_66 ?_
        refine lv_aload hx hb dX4_takeEdges_67 (lv_at hl 5 rfl) ?_
        refine lv_iload hx hb dX4_takeEdges_69 (lv_at hl 0 rfl) ?_
        obtain ⟨hk71, h⟩ := h
        obtain ⟨hin, h⟩ := h
        refine va_iald hx hb hK hP (5 + p0.toNatClampNeg) 0 (co_2 (P := fun j => (wC k aC aE aP aQ aM cX cY cN cM ++ wE k aE fX fY lX lY oP nE)[5 + j]? = some (aC (5 + j), .inl (k 0, 6, .inl (cY j)))) rfl rfl (vp_lt hk71)) rfl hin dX4_takeEdges_71 ?_
        have hPc := hP.sub (ws' := wE k aE fX fY lX lY oP nE) [8, 9, 10, 11, 12, 13] rfl
        have hDc := hD.sub (ws' := wE k aE fX fY lX lY oP nE) [8, 9, 10, 11, 12, 13] (by decide) rfl
        have hFc := va_free (wc := wE k aE fX fY lX lY oP nE) hD hS hA [8, 9, 10, 11, 12, 13] rfl
        refine va_callv (va_runV (C := RX0) (b := (aE 0)) (As := [.int p0, .int (cX p0.toNatClampNeg v5.toNatClampNeg), .int (cY p0.toNatClampNeg v5.toNatClampNeg), .int (cX p0.toNatClampNeg z0.toNatClampNeg), .int (cY p0.toNatClampNeg z0.toNatClampNeg)]) (rest := []) ⟨hx, hb, hml, hown, hts⟩ (m_X0_add l D k aE fX fY lX lY oP nE p0 (cX p0.toNatClampNeg v5.toNatClampNeg) (cY p0.toNatClampNeg v5.toNatClampNeg) (cX p0.toNatClampNeg z0.toNatClampNeg) (cY p0.toNatClampNeg z0.toNatClampNeg) _ _ h) (cwV 5 hts gX4_takeEdges_X0_add rfl rfl rfl (by decide +kernel) ⟨Nat.le_of_ble_eq_true rfl, Nat.le_of_ble_eq_true rfl⟩) (preV_rw (ci := 0) (q0 := 0) (C := RX0) (T := TX0) (N := 6) hE hPc hDc rfl rfl) rfl rfl hl.1 rfl (lv_room (Nat.le_of_ble_eq_true rfl)) dX4_takeEdges_72 ⟨Nat.le_of_ble_eq_true rfl, Nat.le_of_ble_eq_true rfl⟩) hS (fun q _ h => hFc q h) hFc (fun u t H1 locs ht hvm h hB hz1 hk1 hS => ?_)
        obtain ⟨fX_72, fY_72, lX_72, lY_72, oP_72, nE_72⟩ := u
        obtain ⟨hP1, hD1⟩ := hB
        rw [ht] at hP1
        obtain ⟨hP, hD⟩ := va_join (wr := wC k aC aE aP aQ aM cX cY cN cM) (w1 := wE k aE fX_72 fY_72 lX_72 lY_72 oP_72 nE_72) hP hD [8, 9, 10, 11, 12, 13] [0, 1, 2, 3, 4, 5, 6, 7] rfl rfl (by decide) (by decide) hk1 hFc hP1 hD1
        generalize H1 = H at hP hS ⊢
        have hP : va_P D vwCl (wC k aC aE aP aQ aM cX cY cN cM ++ wE k aE fX_72 fY_72 lX_72 lY_72 oP_72 nE_72) H := hP.sub [0, 1, 2, 3, 4, 5, 6, 7, 8, 9, 10, 11, 12, 13] rfl
        have hD : va_D A (wC k aC aE aP aQ aM cX cY cN cM ++ wE k aE fX_72 fY_72 lX_72 lY_72 oP_72 nE_72) := hD.sub [0, 1, 2, 3, 4, 5, 6, 7, 8, 9, 10, 11, 12, 13] (by decide) rfl
        refine lv_iinc (v := (v5 + 1)) (lv' := [(5, .int (v5 + 1)), (6, .int z0), (0, .ref (aC 0)), (1, .int p0), (2, .int v2), (3, .ref (aC (2 + p0.toNatClampNeg))), (4, .ref (aC (5 + p0.toNatClampNeg)))]) hx hb dX4_takeEdges_75 hl (k := 6) rfl rfl (by decide) rfl (fun ls hl => ?_)
        refine lv_goto (tgt := 25) hx hb dX4_takeEdges_78 (by decide) ?_
        exact ih25 v2 (v5 + 1) fX_72 fY_72 lX_72 lY_72 oP_72 nE_72 _ _ _ h hP hD hS (lv_sub hl [2, 3, 4, 5, 6, 0] rfl)
      intro v2 v5 fX fY lX lY oP nE H locs ls h hP hD hS hl
      rw [wp_X4_takeEdges_L25] at h
      refine lv_iload hx hb dX4_takeEdges_25 (lv_at hl 5 rfl) ?_
      refine lv_iload_n hx hb dX4_takeEdges_27 rfl (lv_at hl 2 rfl) ?_
      refine lv_icmp_ge (tgt := 81) hx hb dX4_takeEdges_28 (by decide) (fun cq => ?_) (fun cq => ?_)
      · have h := h.1 cq
        rw [hGQ]
        exact W.vret hx hb hr (fun t ht hW => ⟨⟨(fX, fY, lX, lY, oP, nE), rfl, h, by rw [ht]; exact hP, hD⟩, hS.F ht⟩) hS.2.2 dX4_takeEdges_81
      · have h := h.2 cq
        refine lv_iload hx hb dX4_takeEdges_31 (lv_at hl 5 rfl) ?_
        refine lv_iconst (v := (1 : Int32)) hx hb dX4_takeEdges_33 (by decide) ?_
        refine lv_iadd hx hb dX4_takeEdges_34 ?_
        refine lv_iload_n hx hb dX4_takeEdges_35 rfl (lv_at hl 2 rfl) ?_
        refine lv_icmp_ge (tgt := 46) hx hb dX4_takeEdges_36 (by decide) (fun cq => ?_) (fun cq => ?_)
        · have h := h.1 cq
          refine lv_iconst (v := (0 : Int32)) hx hb dX4_takeEdges_46 (by decide) ?_
          exact L47 v2 v5 (0 : Int32) fX fY lX lY oP nE _ _ _ h hP hD hS (lv_sub hl [0, 1, 2, 3, 4, 5] rfl)
        · have h := h.2 cq
          refine lv_iload hx hb dX4_takeEdges_39 (lv_at hl 5 rfl) ?_
          refine lv_iconst (v := (1 : Int32)) hx hb dX4_takeEdges_41 (by decide) ?_
          refine lv_iadd hx hb dX4_takeEdges_42 ?_
          refine lv_goto (tgt := 47) hx hb dX4_takeEdges_43 (by decide) ?_
          exact L47 v2 v5 (v5 + (1 : Int32)) fX fY lX lY oP nE _ _ _ h hP hD hS (lv_sub hl [0, 1, 2, 3, 4, 5] rfl)
  unfold wp_X4_takeEdges at h
  refine lv_aload_n hx hb dX4_takeEdges_0 rfl (lv_at hl 0 rfl) ?_
  refine va_get (D := D) (ci := 4) (v := .ref (aC 7)) (C := RX4) (T := TX4) (N := 8) hx hb hts hiX4 hown hK hP 0 rfl rfl 2 (by decide) f17 (fun _ h9 => h9) rfl dX4_takeEdges_1 ?_
  refine lv_iload_n hx hb dX4_takeEdges_4 rfl (lv_at hl 1 rfl) ?_
  obtain ⟨hin, h⟩ := h
  refine va_iald hx hb hK hP 7 0 rfl rfl hin dX4_takeEdges_5 ?_
  refine lv_topi (fun x6 ex6 => ?_)
  have h := h x6 ex6
  refine lv_istore_n (lv' := [(2, .int x6), (0, .ref (aC 0)), (1, .int p0)]) hx hb dX4_takeEdges_6 rfl hl (by decide) rfl (fun ls hl => ?_)
  refine lv_aload_n hx hb dX4_takeEdges_7 rfl (lv_at hl 1 rfl) ?_
  refine va_get (D := D) (ci := 4) (v := .ref (aC 1)) (C := RX4) (T := TX4) (N := 8) hx hb hts hiX4 hown hK hP 0 rfl rfl 0 (by decide) f11 (fun _ h9 => h9) rfl dX4_takeEdges_8 ?_
  refine lv_iload_n hx hb dX4_takeEdges_11 rfl (lv_at hl 2 rfl) ?_
  obtain ⟨hj12, h⟩ := h
  refine ra_ald (a := aC) (b := 2) hx hb hK hP 1 4 rfl rfl hj12 dX4_takeEdges_12 ?_
  refine lv_astore_n (lv' := [(3, .ref (aC (2 + p0.toNatClampNeg))), (2, .int x6), (0, .ref (aC 0)), (1, .int p0)]) hx hb dX4_takeEdges_13 rfl hl (by decide) rfl (fun ls hl => ?_)
  refine lv_aload_n hx hb dX4_takeEdges_14 rfl (lv_at hl 2 rfl) ?_
  refine va_get (D := D) (ci := 4) (v := .ref (aC 4)) (C := RX4) (T := TX4) (N := 8) hx hb hts hiX4 hown hK hP 0 rfl rfl 1 (by decide) f14 (fun _ h9 => h9) rfl dX4_takeEdges_15 ?_
  refine lv_iload_n hx hb dX4_takeEdges_18 rfl (lv_at hl 3 rfl) ?_
  obtain ⟨hj19, h⟩ := h
  refine ra_ald (a := aC) (b := 5) hx hb hK hP 4 4 rfl rfl hj19 dX4_takeEdges_19 ?_
  refine lv_astore (lv' := [(4, .ref (aC (5 + p0.toNatClampNeg))), (3, .ref (aC (2 + p0.toNatClampNeg))), (2, .int x6), (0, .ref (aC 0)), (1, .int p0)]) hx hb dX4_takeEdges_20 hl (by decide) rfl (fun ls hl => ?_)
  refine lv_iconst (v := (0 : Int32)) hx hb dX4_takeEdges_22 (by decide) ?_
  refine lv_istore (lv' := [(5, .int (0 : Int32)), (4, .ref (aC (5 + p0.toNatClampNeg))), (3, .ref (aC (2 + p0.toNatClampNeg))), (2, .int x6), (0, .ref (aC 0)), (1, .int p0)]) hx hb dX4_takeEdges_23 hl (by decide) rfl (fun ls hl => ?_)
  obtain ⟨n9, h⟩ := h
  exact L25 n9 x6 (0 : Int32) fX fY lX lY oP nE _ _ _ h hP hD hS (lv_sub hl [4, 5, 3, 2, 1, 0] rfl)
set_option maxHeartbeats 4000000 in
set_option maxRecDepth 100000 in
theorem m_X4_vertex (l : Launch) (D : va_G) (k : Nat → ClassId) (aC : Nat → Nat) (aE : Nat → Nat) (aP : Nat → Nat) (aQ : Nat → Nat) (aM : Nat → Nat) (cX : Nat → Nat → Int32) (cY : Nat → Nat → Int32) (cN : Nat → Int32) (cM : Int32) (p0 : Int32) (p1 : Int32) (p2 : Int32) (Q : Int32 → (Nat → Nat → Int32) → (Nat → Nat → Int32) → (Nat → Int32) → Prop) (X : String → (Nat → Nat → Int32) → (Nat → Nat → Int32) → (Nat → Int32) → Prop) (sz : Nat) (hlt : l.stackTraces = false) (h : wp_X4_vertex p0 p1 p2 cX cY cN Q X) : vx_Met l yX4_vertex wsX4_vertex ({ frames := 7, cells := 2, slots := 12, locals := 110 }) (Pth D k [.ref (aC 0), .int p0, .int p1, .int p2] (wC k aC aE aP aQ aM cX cY cN cM) sz) (va_Qi (fun (r : Int32) (u : (Nat → Nat → Int32) × (Nat → Nat → Int32) × (Nat → Int32)) => Q r u.1 u.2.1 u.2.2) (fun (u : (Nat → Nat → Int32) × (Nat → Nat → Int32) × (Nat → Int32)) t => va_P D vwCl (wC k aC aE aP aQ aM (u.1) (u.2.1) (u.2.2) cM) t.heap ∧ va_D (va_A (wC k aC aE aP aQ aM cX cY cN cM) sz) (wC k aC aE aP aQ aM (u.1) (u.2.1) (u.2.2) cM)) (va_A (wC k aC aE aP aQ aM cX cY cN cM) sz)) (vx_X (fun (_ : (Nat → Nat → Int32) × (Nat → Nat → Int32) × (Nat → Int32)) => True) (fun E9 u t => X E9 u.1 u.2.1 u.2.2 ∧ va_P D vwCl (wC k aC aE aP aQ aM (u.1) (u.2.1) (u.2.2) cM) t.heap ∧ va_D (va_A (wC k aC aE aP aQ aM cX cY cN cM) sz) (wC k aC aE aP aQ aM (u.1) (u.2.1) (u.2.2) cM)) (va_A (wC k aC aE aP aQ aM cX cY cN cM) sz)) 2 12 (va_A (wC k aC aE aP aQ aM cX cY cN cM) sz) := by
  refine vx_ofW (cc := cX4_vertex) (maxL := 5) (ret := (some .int)) (by decide) rfl ?_
  intro p e s m args below meth c s₁ B hml hxt hv
  obtain ⟨hav, hsz, hP, hE, hD0, hT⟩ := hv
  subst hsz
  have hx := B.exec
  have hb := B.bytes
  have hr := B.returns
  have hts := atoms_spec (ws := wsX4_vertex) B.pre
  have hown : s.vm.findClass RX4 = some m.cls := findClass_of_methodNamed B.named
  have hlocks := B.notSynchronized
  have hK := hE.1
  have hD := hD0.self (sz := s.heap.size)
  generalize hAe : va_A (wC k aC aE aP aQ aM cX cY cN cM) s.heap.size = A at hD hT ⊢
  have hA : ∀ q : Nat, s.heap.size ≤ q → A q := fun q h => by rw [← hAe]; exact Or.inr h
  have hS : va_S A s.heap s.heap [] := va_S.rf
  have hl := lv_entry ([.ref (aC 0), .int p0, .int p1, .int p2]) (n := 5) (Nat.le_of_ble_eq_true rfl)
  rw [show entryFrame m args 5 = entryFrame m ([.ref (aC 0), .int p0, .int p1, .int p2] : List Value).toArray 5 by rw [hav]]
  rw [lg_entry_eq]
  refine W.gq (fun GQ hGQ => ?_)
  generalize (lg_sl ([.ref (aC 0), .int p0, .int p1, .int p2]) ++ List.replicate (5 - (lg_sl ([.ref (aC 0), .int p0, .int p1, .int p2])).length) Slot.unset).toArray = ls at hl ⊢
  have hl : lv_has ls 5 [(0, .ref (aC 0)), (1, .int p0), (2, .int p1), (3, .int p2)] := hl
  have hatxIA := (fun w hw => hts w (by simp only [wsX4_vertex, List.mem_cons, List.mem_append, hw, true_or, or_true]) : ∀ w ∈ (vx_atS RX4 65 "java/lang/IllegalArgumentException" ["java/lang/RuntimeException", "java/lang/Exception"]).filter goodWord, w.before args s = true)
  have cl61 := hts (.classLink RX4 61 "java/lang/IllegalArgumentException") (by decide +kernel)
  have inxIA := hts (.initialized "java/lang/IllegalArgumentException") (by decide +kernel)
  have hiX4 := (by decide +kernel : ∀ w ∈ wsX40, w ∈ wsX4_vertex)
  have f17 := hts (.fieldLink RX4 17 "PlaneOverlay" "vertexCount" "[I") (by decide +kernel)
  have f11 := hts (.fieldLink RX4 11 "PlaneOverlay" "vertexX" "[[I") (by decide +kernel)
  have f14 := hts (.fieldLink RX4 14 "PlaneOverlay" "vertexY" "[[I") (by decide +kernel)
  have hatxIS := (fun w hw => hts w (by simp only [wsX4_vertex, List.mem_cons, List.mem_append, hw, true_or, or_true]) : ∀ w ∈ (vx_atS RX4 72 "java/lang/IllegalStateException" ["java/lang/RuntimeException", "java/lang/Exception"]).filter goodWord, w.before args s = true)
  have cl68 := hts (.classLink RX4 68 "java/lang/IllegalStateException") (by decide +kernel)
  have inxIS := hts (.initialized "java/lang/IllegalStateException") (by decide +kernel)
  have L22 : ∀ (cX : Nat → Nat → Int32) (cY : Nat → Nat → Int32) (cN : Nat → Int32) (H : Heap) (locs : List Loc) (ls : Array Slot), wp_X4_vertex_L22 p0 p1 p2 Q X  cX cY cN → va_P D vwCl (wC k aC aE aP aQ aM cX cY cN cM) H → va_D A (wC k aC aE aP aQ aM cX cY cN cM) → va_S A s.heap H locs → lv_has ls 5 [] → W p l e (headSpec wsX4_vertex ({ frames := 7, cells := 2, slots := 12, locals := 110 })).room s m args below meth c H locs 1 6 GQ (F0 m 22 ls []) := by
    intro cX cY cN H locs ls h hP hD hS hl
    unfold wp_X4_vertex_L22 at h
    rw [hGQ]
    obtain ⟨sa, hstr⟩ := hT.2.2.1 (63, "a coordinate is out of range") (by decide)
    exact vx_throwS (own := RX4) (cls := "java/lang/IllegalArgumentException") (names := ["java/lang/RuntimeException", "java/lang/Exception"]) (A := A) hx hb hlt hown (by decide) (by decide) cl61 inxIA hstr (vx_hat hatxIA (th_bad "java/lang/IllegalArgumentException" 65 (by decide) (by decide)) (th_b3 hT (by decide))) (by decide +kernel) hT.1 hT.2.1 hS (hl.1.trans hml.symm) dX4_vertex_22 dX4_vertex_25 dX4_vertex_26 dX4_vertex_28 dX4_vertex_31 (fun x hx => (hxt x hx).elim) (Nat.le_of_ble_eq_true rfl) (Nat.le_of_ble_eq_true rfl) (Nat.le_of_ble_eq_true rfl) (Nat.le_of_ble_eq_true rfl) hlocks (fun t hvm hz hq => ⟨(cX, cY, cN), trivial, ⟨h, P_ext hP hq, hD⟩, F_ext hS hz hq⟩) hS.2.2 (Nat.le_of_ble_eq_true rfl) (Nat.le_of_ble_eq_true rfl)
  unfold wp_X4_vertex at h
  refine lv_iload_n hx hb dX4_vertex_0 rfl (lv_at hl 1 rfl) ?_
  have hPc := hP.sub (ws' := ([] : va_W)) [] rfl
  have hDc := hD.sub (ws' := ([] : va_W)) [] (by decide) rfl
  have hFc := va_free (wc := ([] : va_W)) hD hS hA [] rfl
  refine vx_callv (vx_runS (As := [.int p0]) (rest := []) ⟨hx, hb, hml, hown, hts⟩ (m_X4_needPolygon l D k   p0 _ _ _ hlt h) (va_cwS 1 hts gX4_vertex_X4_needPolygon rfl rfl rfl (by decide +kernel) ⟨Nat.le_of_ble_eq_true rfl, Nat.le_of_ble_eq_true rfl⟩) (preS_th hE hT hS hFc vaP0 vaD0) rfl rfl hl.1 rfl (lv_room (Nat.le_of_ble_eq_true rfl)) dX4_vertex_1 ⟨Nat.le_of_ble_eq_true rfl, Nat.le_of_ble_eq_true rfl⟩) hS (fun q _ h => hFc q h) hFc (fun q _ h => hFc q h) (fun E9 ce q9 u t H1 locs ht hvm hpx hB hz1 hk1 hS hce hcv hcl => ?_) (fun u t H1 locs ht hvm h hB hz1 hk1 hS => ?_)
  · obtain ⟨h, hP1, hD1⟩ := hB
    rw [ht] at hP1
    obtain ⟨hP, hD⟩ := va_join (wr := wC k aC aE aP aQ aM cX cY cN cM) (w1 := ([] : va_W)) hP hD [] [0, 1, 2, 3, 4, 5, 6, 7] rfl rfl (by decide) (by decide) hk1 hFc hP1 hD1
    generalize H1 = H at hP hS hce ⊢
    have hP : va_P D vwCl (wC k aC aE aP aQ aM cX cY cN cM) H := hP.sub [0, 1, 2, 3, 4, 5, 6, 7] rfl
    have hD : va_D A (wC k aC aE aP aQ aM cX cY cN cM) := hD.sub [0, 1, 2, 3, 4, 5, 6, 7] (by decide) rfl
    rw [hGQ]
    exact vx_out (fun x hx => (hxt x hx).elim) hlocks hce hcv hcl (fun t9 ht9 hvm9 => ⟨(cX, cY, cN), trivial, ⟨h, by rw [ht9]; exact hP, hD⟩, hS.F ht9⟩) hS.2.2 (Nat.le_of_ble_eq_true rfl) (Nat.le_of_ble_eq_true rfl)
  obtain ⟨hP1, hD1⟩ := hB
  rw [ht] at hP1
  obtain ⟨hP, hD⟩ := va_join (wr := wC k aC aE aP aQ aM cX cY cN cM) (w1 := ([] : va_W)) hP hD [] [0, 1, 2, 3, 4, 5, 6, 7] rfl rfl (by decide) (by decide) hk1 hFc hP1 hD1
  generalize H1 = H at hP hS ⊢
  have hP : va_P D vwCl (wC k aC aE aP aQ aM cX cY cN cM) H := hP.sub [0, 1, 2, 3, 4, 5, 6, 7] rfl
  have hD : va_D A (wC k aC aE aP aQ aM cX cY cN cM) := hD.sub [0, 1, 2, 3, 4, 5, 6, 7] (by decide) rfl
  refine lv_iload_n hx hb dX4_vertex_4 rfl (lv_at hl 2 rfl) ?_
  refine lv_bipush (v := (30 : Int32)) hx hb dX4_vertex_5 (by decide) ?_
  refine vp_callSi (W.runS (As := [.int p1, .int (30 : Int32)]) (rest := []) ⟨hx, hb, hml, hown, hts⟩ (m_X4_isWithin l D k   p1 (30 : Int32) _ h) (va_cwS 2 hts gX4_vertex_X4_isWithin rfl rfl rfl (by decide +kernel) ⟨Nat.le_of_ble_eq_true rfl, Nat.le_of_ble_eq_true rfl⟩) (preS_ro hE vaP0) rfl rfl hl.1 rfl (lv_room (Nat.le_of_ble_eq_true rfl)) dX4_vertex_7 ⟨Nat.le_of_ble_eq_true rfl, Nat.le_of_ble_eq_true rfl⟩) (fun r7 h => ?_)
  refine lv_if_eq (tgt := 22) hx hb dX4_vertex_10 (by decide) (fun cq => ?_) (fun cq => ?_)
  · have h := h.1 cq
    exact L22 cX cY cN _ _ _ h hP hD hS (lv_sub hl [] rfl)
  · have h := h.2 cq
    refine lv_iload_n hx hb dX4_vertex_13 rfl (lv_at hl 3 rfl) ?_
    refine lv_bipush (v := (30 : Int32)) hx hb dX4_vertex_14 (by decide) ?_
    refine vp_callSi (W.runS (As := [.int p2, .int (30 : Int32)]) (rest := []) ⟨hx, hb, hml, hown, hts⟩ (m_X4_isWithin l D k   p2 (30 : Int32) _ h) (va_cwS 2 hts gX4_vertex_X4_isWithin rfl rfl rfl (by decide +kernel) ⟨Nat.le_of_ble_eq_true rfl, Nat.le_of_ble_eq_true rfl⟩) (preS_ro hE vaP0) rfl rfl hl.1 rfl (lv_room (Nat.le_of_ble_eq_true rfl)) dX4_vertex_16 ⟨Nat.le_of_ble_eq_true rfl, Nat.le_of_ble_eq_true rfl⟩) (fun r16 h => ?_)
    refine lv_if_ne (tgt := 32) hx hb dX4_vertex_19 (by decide) (fun cq => ?_) (fun cq => ?_)
    · have h := h.1 cq
      refine lv_aload_n hx hb dX4_vertex_32 rfl (lv_at hl 0 rfl) ?_
      refine va_get (D := D) (ci := 4) (v := .ref (aC 7)) (C := RX4) (T := TX4) (N := 8) hx hb hts hiX4 hown hK hP 0 rfl rfl 2 (by decide) f17 (fun _ h9 => h9) rfl dX4_vertex_33 ?_
      refine lv_iload_n hx hb dX4_vertex_36 rfl (lv_at hl 1 rfl) ?_
      obtain ⟨hin, h⟩ := h
      refine va_iald hx hb hK hP 7 0 rfl rfl hin dX4_vertex_37 ?_
      refine lv_topi (fun x38 ex38 => ?_)
      have h := h x38 ex38
      refine lv_istore (lv' := [(4, .int x38), (0, .ref (aC 0)), (1, .int p0), (2, .int p1), (3, .int p2)]) hx hb dX4_vertex_38 hl (by decide) rfl (fun ls hl => ?_)
      refine lv_iload hx hb dX4_vertex_40 (lv_at hl 0 rfl) ?_
      refine lv_bipush (v := (6 : Int32)) hx hb dX4_vertex_42 (by decide) ?_
      refine lv_icmp_lt (tgt := 57) hx hb dX4_vertex_44 (by decide) (fun cq => ?_) (fun cq => ?_)
      · have h := h.1 cq
        refine lv_aload_n hx hb dX4_vertex_57 rfl (lv_at hl 1 rfl) ?_
        refine va_get (D := D) (ci := 4) (v := .ref (aC 1)) (C := RX4) (T := TX4) (N := 8) hx hb hts hiX4 hown hK hP 0 rfl rfl 0 (by decide) f11 (fun _ h9 => h9) rfl dX4_vertex_58 ?_
        refine lv_iload_n hx hb dX4_vertex_61 rfl (lv_at hl 2 rfl) ?_
        obtain ⟨hj62, h⟩ := h
        refine ra_ald (a := aC) (b := 2) hx hb hK hP 1 4 rfl rfl hj62 dX4_vertex_62 ?_
        refine lv_iload hx hb dX4_vertex_63 (lv_at hl 0 rfl) ?_
        refine lv_iload_n hx hb dX4_vertex_65 rfl (lv_at hl 3 rfl) ?_
        obtain ⟨hin, h⟩ := h
        obtain ⟨y66, ey66⟩ : ∃ z : Nat → Nat → Int32, z = va_up cX p0.toNatClampNeg (upd (cX p0.toNatClampNeg) x38.toNatClampNeg p1) := ⟨_, rfl⟩
        have h := h y66 ey66
        refine va_iast hx hb hK hP hD hS (2 + p0.toNatClampNeg) 0 (co_2 (P := fun j => (wC k aC aE aP aQ aM cX cY cN cM)[2 + j]? = some (aC (2 + j), .inl (k 0, 6, .inl (cX j)))) rfl rfl (vp_lt hj62)) rfl hin dX4_vertex_66 (fun H locs hP hD hS => ?_)
        rw [co_2 (P := fun j => (wC k aC aE aP aQ aM cX cY cN cM).set (2 + j) (aC (2 + j), .inl (k 0, 6, .inl (upd (cX j) x38.toNatClampNeg p1))) = wC k aC aE aP aQ aM (va_up cX j (upd (cX j) x38.toNatClampNeg p1)) cY cN cM) rfl rfl (vp_lt hj62), ← ey66] at hP hD
        refine lv_aload_n hx hb dX4_vertex_67 rfl (lv_at hl 1 rfl) ?_
        refine va_get (D := D) (ci := 4) (v := .ref (aC 4)) (C := RX4) (T := TX4) (N := 8) hx hb hts hiX4 hown hK hP 0 rfl rfl 1 (by decide) f14 (fun _ h9 => h9) rfl dX4_vertex_68 ?_
        refine lv_iload_n hx hb dX4_vertex_71 rfl (lv_at hl 2 rfl) ?_
        obtain ⟨hj72, h⟩ := h
        refine ra_ald (a := aC) (b := 5) hx hb hK hP 4 4 rfl rfl hj72 dX4_vertex_72 ?_
        refine lv_iload hx hb dX4_vertex_73 (lv_at hl 0 rfl) ?_
        refine lv_iload_n hx hb dX4_vertex_75 rfl (lv_at hl 4 rfl) ?_
        obtain ⟨hin, h⟩ := h
        obtain ⟨y76, ey76⟩ : ∃ z : Nat → Nat → Int32, z = va_up cY p0.toNatClampNeg (upd (cY p0.toNatClampNeg) x38.toNatClampNeg p2) := ⟨_, rfl⟩
        have h := h y76 ey76
        refine va_iast hx hb hK hP hD hS (5 + p0.toNatClampNeg) 0 (co_2 (P := fun j => (wC k aC aE aP aQ aM y66 cY cN cM)[5 + j]? = some (aC (5 + j), .inl (k 0, 6, .inl (cY j)))) rfl rfl (vp_lt hj72)) rfl hin dX4_vertex_76 (fun H locs hP hD hS => ?_)
        rw [co_2 (P := fun j => (wC k aC aE aP aQ aM y66 cY cN cM).set (5 + j) (aC (5 + j), .inl (k 0, 6, .inl (upd (cY j) x38.toNatClampNeg p2))) = wC k aC aE aP aQ aM y66 (va_up cY j (upd (cY j) x38.toNatClampNeg p2)) cN cM) rfl rfl (vp_lt hj72), ← ey76] at hP hD
        refine lv_aload_n hx hb dX4_vertex_77 rfl (lv_at hl 1 rfl) ?_
        refine va_get (D := D) (ci := 4) (v := .ref (aC 7)) (C := RX4) (T := TX4) (N := 8) hx hb hts hiX4 hown hK hP 0 rfl rfl 2 (by decide) f17 (fun _ h9 => h9) rfl dX4_vertex_78 ?_
        refine lv_iload_n hx hb dX4_vertex_81 rfl (lv_at hl 2 rfl) ?_
        refine lv_iload hx hb dX4_vertex_82 (lv_at hl 0 rfl) ?_
        refine lv_iconst (v := (1 : Int32)) hx hb dX4_vertex_84 (by decide) ?_
        refine lv_iadd hx hb dX4_vertex_85 ?_
        obtain ⟨hin, h⟩ := h
        obtain ⟨y86, ey86⟩ : ∃ z : Nat → Int32, z = upd cN p0.toNatClampNeg (x38 + (1 : Int32)) := ⟨_, rfl⟩
        have h := h y86 ey86
        refine va_iast hx hb hK hP hD hS 7 0 rfl rfl hin dX4_vertex_86 (fun H locs hP hD hS => ?_)
        rw [← ey86] at hP hD
        have hP : va_P D vwCl (wC k aC aE aP aQ aM y66 y76 y86 cM) H := hP
        have hD : va_D A (wC k aC aE aP aQ aM y66 y76 y86 cM) := hD
        refine lv_iload hx hb dX4_vertex_87 (lv_at hl 0 rfl) ?_
        refine lv_iconst (v := (1 : Int32)) hx hb dX4_vertex_89 (by decide) ?_
        refine lv_iadd hx hb dX4_vertex_90 ?_
        refine W.widen (k := 2) (n := 12) (by decide) (by decide) ?_
        rw [hGQ]
        refine vx_ret ?_
        exact W.iret (v := (x38 + (1 : Int32))) hx hb hr (fun t ht hW => ⟨⟨_, (y66, y76, y86), rfl, h, by rw [ht]; exact hP, hD⟩, hS.F ht⟩) hS.2.2 dX4_vertex_91
      · have h := h.2 cq
        rw [hGQ]
        obtain ⟨sa, hstr⟩ := hT.2.2.1 (70, "the polygon is full") (by decide)
        exact vx_throwS (own := RX4) (cls := "java/lang/IllegalStateException") (names := ["java/lang/RuntimeException", "java/lang/Exception"]) (A := A) hx hb hlt hown (by decide) (by decide) cl68 inxIS hstr (vx_hat hatxIS (th_bad "java/lang/IllegalStateException" 72 (by decide) (by decide)) (th_b3 hT (by decide))) (by decide +kernel) hT.1 hT.2.1 hS (hl.1.trans hml.symm) dX4_vertex_47 dX4_vertex_50 dX4_vertex_51 dX4_vertex_53 dX4_vertex_56 (fun x hx => (hxt x hx).elim) (Nat.le_of_ble_eq_true rfl) (Nat.le_of_ble_eq_true rfl) (Nat.le_of_ble_eq_true rfl) (Nat.le_of_ble_eq_true rfl) hlocks (fun t hvm hz hq => ⟨(cX, cY, cN), trivial, ⟨h, P_ext hP hq, hD⟩, F_ext hS hz hq⟩) hS.2.2 (Nat.le_of_ble_eq_true rfl) (Nat.le_of_ble_eq_true rfl)
    · have h := h.2 cq
      exact L22 cX cY cN _ _ _ h hP hD hS (lv_sub hl [] rfl)
set_option maxHeartbeats 4000000 in
set_option maxRecDepth 100000 in
theorem m_X4_clear (l : Launch) (D : va_G) (k : Nat → ClassId) (aC : Nat → Nat) (aE : Nat → Nat) (aP : Nat → Nat) (aQ : Nat → Nat) (aM : Nat → Nat) (cX : Nat → Nat → Int32) (cY : Nat → Nat → Int32) (cN : Nat → Int32) (cM : Int32) (p0 : Int32) (Q : Int32 → (Nat → Int32) → Prop) (X : String → (Nat → Int32) → Prop) (sz : Nat) (hlt : l.stackTraces = false) (h : wp_X4_clear p0 cN Q X) : vx_Met l yX4_clear wsX4_clear ({ frames := 7, cells := 1, slots := 6, locals := 110 }) (Pth D k [.ref (aC 0), .int p0] (wC k aC aE aP aQ aM cX cY cN cM) sz) (va_Qi (fun (r : Int32) (u : (Nat → Int32)) => Q r u) (fun (u : (Nat → Int32)) t => va_P D vwCl (wC k aC aE aP aQ aM cX cY u cM) t.heap ∧ va_D (va_A (wC k aC aE aP aQ aM cX cY cN cM) sz) (wC k aC aE aP aQ aM cX cY u cM)) (va_A (wC k aC aE aP aQ aM cX cY cN cM) sz)) (vx_X (fun (_ : (Nat → Int32)) => True) (fun E9 u t => X E9 u ∧ va_P D vwCl (wC k aC aE aP aQ aM cX cY u cM) t.heap ∧ va_D (va_A (wC k aC aE aP aQ aM cX cY cN cM) sz) (wC k aC aE aP aQ aM cX cY u cM)) (va_A (wC k aC aE aP aQ aM cX cY cN cM) sz)) 1 6 (va_A (wC k aC aE aP aQ aM cX cY cN cM) sz) := by
  refine vx_ofW (cc := cX4_clear) (maxL := 3) (ret := (some .int)) (by decide) rfl ?_
  intro p e s m args below meth c s₁ B hml hxt hv
  obtain ⟨hav, hsz, hP, hE, hD0, hT⟩ := hv
  subst hsz
  have hx := B.exec
  have hb := B.bytes
  have hr := B.returns
  have hts := atoms_spec (ws := wsX4_clear) B.pre
  have hown : s.vm.findClass RX4 = some m.cls := findClass_of_methodNamed B.named
  have hlocks := B.notSynchronized
  have hK := hE.1
  have hD := hD0.self (sz := s.heap.size)
  generalize hAe : va_A (wC k aC aE aP aQ aM cX cY cN cM) s.heap.size = A at hD hT ⊢
  have hA : ∀ q : Nat, s.heap.size ≤ q → A q := fun q h => by rw [← hAe]; exact Or.inr h
  have hS : va_S A s.heap s.heap [] := va_S.rf
  have hl := lv_entry ([.ref (aC 0), .int p0]) (n := 3) (Nat.le_of_ble_eq_true rfl)
  rw [show entryFrame m args 3 = entryFrame m ([.ref (aC 0), .int p0] : List Value).toArray 3 by rw [hav]]
  rw [lg_entry_eq]
  refine W.gq (fun GQ hGQ => ?_)
  generalize (lg_sl ([.ref (aC 0), .int p0]) ++ List.replicate (3 - (lg_sl ([.ref (aC 0), .int p0])).length) Slot.unset).toArray = ls at hl ⊢
  have hl : lv_has ls 3 [(0, .ref (aC 0)), (1, .int p0)] := hl
  have hiX4 := (by decide +kernel : ∀ w ∈ wsX40, w ∈ wsX4_clear)
  have f17 := hts (.fieldLink RX4 17 "PlaneOverlay" "vertexCount" "[I") (by decide +kernel)
  unfold wp_X4_clear at h
  refine lv_iload_n hx hb dX4_clear_0 rfl (lv_at hl 1 rfl) ?_
  have hPc := hP.sub (ws' := ([] : va_W)) [] rfl
  have hDc := hD.sub (ws' := ([] : va_W)) [] (by decide) rfl
  have hFc := va_free (wc := ([] : va_W)) hD hS hA [] rfl
  refine vx_callv (vx_runS (As := [.int p0]) (rest := []) ⟨hx, hb, hml, hown, hts⟩ (m_X4_needPolygon l D k   p0 _ _ _ hlt h) (va_cwS 1 hts gX4_clear_X4_needPolygon rfl rfl rfl (by decide +kernel) ⟨Nat.le_of_ble_eq_true rfl, Nat.le_of_ble_eq_true rfl⟩) (preS_th hE hT hS hFc vaP0 vaD0) rfl rfl hl.1 rfl (lv_room (Nat.le_of_ble_eq_true rfl)) dX4_clear_1 ⟨Nat.le_of_ble_eq_true rfl, Nat.le_of_ble_eq_true rfl⟩) hS (fun q _ h => hFc q h) hFc (fun q _ h => hFc q h) (fun E9 ce q9 u t H1 locs ht hvm hpx hB hz1 hk1 hS hce hcv hcl => ?_) (fun u t H1 locs ht hvm h hB hz1 hk1 hS => ?_)
  · obtain ⟨h, hP1, hD1⟩ := hB
    rw [ht] at hP1
    obtain ⟨hP, hD⟩ := va_join (wr := wC k aC aE aP aQ aM cX cY cN cM) (w1 := ([] : va_W)) hP hD [] [0, 1, 2, 3, 4, 5, 6, 7] rfl rfl (by decide) (by decide) hk1 hFc hP1 hD1
    generalize H1 = H at hP hS hce ⊢
    have hP : va_P D vwCl (wC k aC aE aP aQ aM cX cY cN cM) H := hP.sub [0, 1, 2, 3, 4, 5, 6, 7] rfl
    have hD : va_D A (wC k aC aE aP aQ aM cX cY cN cM) := hD.sub [0, 1, 2, 3, 4, 5, 6, 7] (by decide) rfl
    rw [hGQ]
    exact vx_out (fun x hx => (hxt x hx).elim) hlocks hce hcv hcl (fun t9 ht9 hvm9 => ⟨(cN), trivial, ⟨h, by rw [ht9]; exact hP, hD⟩, hS.F ht9⟩) hS.2.2 (Nat.le_of_ble_eq_true rfl) (Nat.le_of_ble_eq_true rfl)
  obtain ⟨hP1, hD1⟩ := hB
  rw [ht] at hP1
  obtain ⟨hP, hD⟩ := va_join (wr := wC k aC aE aP aQ aM cX cY cN cM) (w1 := ([] : va_W)) hP hD [] [0, 1, 2, 3, 4, 5, 6, 7] rfl rfl (by decide) (by decide) hk1 hFc hP1 hD1
  generalize H1 = H at hP hS ⊢
  have hP : va_P D vwCl (wC k aC aE aP aQ aM cX cY cN cM) H := hP.sub [0, 1, 2, 3, 4, 5, 6, 7] rfl
  have hD : va_D A (wC k aC aE aP aQ aM cX cY cN cM) := hD.sub [0, 1, 2, 3, 4, 5, 6, 7] (by decide) rfl
  refine lv_aload_n hx hb dX4_clear_4 rfl (lv_at hl 0 rfl) ?_
  refine va_get (D := D) (ci := 4) (v := .ref (aC 7)) (C := RX4) (T := TX4) (N := 8) hx hb hts hiX4 hown hK hP 0 rfl rfl 2 (by decide) f17 (fun _ h9 => h9) rfl dX4_clear_5 ?_
  refine lv_iload_n hx hb dX4_clear_8 rfl (lv_at hl 1 rfl) ?_
  obtain ⟨hin, h⟩ := h
  refine va_iald hx hb hK hP 7 0 rfl rfl hin dX4_clear_9 ?_
  refine lv_topi (fun x10 ex10 => ?_)
  have h := h x10 ex10
  refine lv_istore_n (lv' := [(2, .int x10), (0, .ref (aC 0)), (1, .int p0)]) hx hb dX4_clear_10 rfl hl (by decide) rfl (fun ls hl => ?_)
  refine lv_aload_n hx hb dX4_clear_11 rfl (lv_at hl 1 rfl) ?_
  refine va_get (D := D) (ci := 4) (v := .ref (aC 7)) (C := RX4) (T := TX4) (N := 8) hx hb hts hiX4 hown hK hP 0 rfl rfl 2 (by decide) f17 (fun _ h9 => h9) rfl dX4_clear_12 ?_
  refine lv_iload_n hx hb dX4_clear_15 rfl (lv_at hl 2 rfl) ?_
  refine lv_iconst (v := (0 : Int32)) hx hb dX4_clear_16 (by decide) ?_
  obtain ⟨hin, h⟩ := h
  obtain ⟨y17, ey17⟩ : ∃ z : Nat → Int32, z = upd cN p0.toNatClampNeg (0 : Int32) := ⟨_, rfl⟩
  have h := h y17 ey17
  refine va_iast hx hb hK hP hD hS 7 0 rfl rfl hin dX4_clear_17 (fun H locs hP hD hS => ?_)
  rw [← ey17] at hP hD
  have hP : va_P D vwCl (wC k aC aE aP aQ aM cX cY y17 cM) H := hP
  have hD : va_D A (wC k aC aE aP aQ aM cX cY y17 cM) := hD
  refine lv_iload_n hx hb dX4_clear_18 rfl (lv_at hl 0 rfl) ?_
  rw [hGQ]
  refine vx_ret ?_
  exact W.iret (v := x10) hx hb hr (fun t ht hW => ⟨⟨_, (y17), rfl, h, by rw [ht]; exact hP, hD⟩, hS.F ht⟩) hS.2.2 dX4_clear_19
set_option maxHeartbeats 4000000 in
set_option maxRecDepth 100000 in
theorem m_X4_overlay (l : Launch) (D : va_G) (k : Nat → ClassId) (aC : Nat → Nat) (aE : Nat → Nat) (aP : Nat → Nat) (aQ : Nat → Nat) (aM : Nat → Nat) (cX : Nat → Nat → Int32) (cY : Nat → Nat → Int32) (cN : Nat → Int32) (cM : Int32) (fX : Nat → Int32) (fY : Nat → Int32) (lX : Nat → Int32) (lY : Nat → Int32) (oP : Nat → Int32) (nE : Int32) (pX : Nat → Int32) (pY : Nat → Int32) (pD : Nat → Int32) (pO : Nat → Int32) (nP : Int32) (qF : Nat → Nat → Int32) (nQ : Int32) (mR : Nat → Int32) (mQ : Int32) (mN : Int32)  (Q : Int32 → (Int32) → (Nat → Int32) → (Nat → Int32) → (Nat → Int32) → (Nat → Int32) → (Nat → Int32) → (Int32) → (Nat → Int32) → (Nat → Int32) → (Nat → Int32) → (Nat → Int32) → (Int32) → (Nat → Nat → Int32) → (Int32) → (Nat → Int32) → (Int32) → (Int32) → Prop) (sz : Nat) (h : wp_X4_overlay cX cY cN cM fX fY lX lY oP nE pX pY pD pO nP qF nQ mR mQ mN Q) : Met l yX4_overlay wsX4_overlay ({ frames := 5, cells := 0, slots := 0, locals := 145 }) (Prw D k [.ref (aC 0)] (wC k aC aE aP aQ aM cX cY cN cM ++ wE k aE fX fY lX lY oP nE ++ wP k aP pX pY pD pO nP ++ wQ k aQ qF nQ ++ wM k aM mR mQ mN) sz) (va_Qi (fun (r : Int32) (u : (Int32) × (Nat → Int32) × (Nat → Int32) × (Nat → Int32) × (Nat → Int32) × (Nat → Int32) × (Int32) × (Nat → Int32) × (Nat → Int32) × (Nat → Int32) × (Nat → Int32) × (Int32) × (Nat → Nat → Int32) × (Int32) × (Nat → Int32) × (Int32) × (Int32)) => Q r u.1 u.2.1 u.2.2.1 u.2.2.2.1 u.2.2.2.2.1 u.2.2.2.2.2.1 u.2.2.2.2.2.2.1 u.2.2.2.2.2.2.2.1 u.2.2.2.2.2.2.2.2.1 u.2.2.2.2.2.2.2.2.2.1 u.2.2.2.2.2.2.2.2.2.2.1 u.2.2.2.2.2.2.2.2.2.2.2.1 u.2.2.2.2.2.2.2.2.2.2.2.2.1 u.2.2.2.2.2.2.2.2.2.2.2.2.2.1 u.2.2.2.2.2.2.2.2.2.2.2.2.2.2.1 u.2.2.2.2.2.2.2.2.2.2.2.2.2.2.2.1 u.2.2.2.2.2.2.2.2.2.2.2.2.2.2.2.2) (fun (u : (Int32) × (Nat → Int32) × (Nat → Int32) × (Nat → Int32) × (Nat → Int32) × (Nat → Int32) × (Int32) × (Nat → Int32) × (Nat → Int32) × (Nat → Int32) × (Nat → Int32) × (Int32) × (Nat → Nat → Int32) × (Int32) × (Nat → Int32) × (Int32) × (Int32)) t => va_P D vwCl (wC k aC aE aP aQ aM cX cY cN (u.1) ++ wE k aE (u.2.1) (u.2.2.1) (u.2.2.2.1) (u.2.2.2.2.1) (u.2.2.2.2.2.1) (u.2.2.2.2.2.2.1) ++ wP k aP (u.2.2.2.2.2.2.2.1) (u.2.2.2.2.2.2.2.2.1) (u.2.2.2.2.2.2.2.2.2.1) (u.2.2.2.2.2.2.2.2.2.2.1) (u.2.2.2.2.2.2.2.2.2.2.2.1) ++ wQ k aQ (u.2.2.2.2.2.2.2.2.2.2.2.2.1) (u.2.2.2.2.2.2.2.2.2.2.2.2.2.1) ++ wM k aM (u.2.2.2.2.2.2.2.2.2.2.2.2.2.2.1) (u.2.2.2.2.2.2.2.2.2.2.2.2.2.2.2.1) (u.2.2.2.2.2.2.2.2.2.2.2.2.2.2.2.2)) t.heap ∧ va_D (va_A (wC k aC aE aP aQ aM cX cY cN cM ++ wE k aE fX fY lX lY oP nE ++ wP k aP pX pY pD pO nP ++ wQ k aQ qF nQ ++ wM k aM mR mQ mN) sz) (wC k aC aE aP aQ aM cX cY cN (u.1) ++ wE k aE (u.2.1) (u.2.2.1) (u.2.2.2.1) (u.2.2.2.2.1) (u.2.2.2.2.2.1) (u.2.2.2.2.2.2.1) ++ wP k aP (u.2.2.2.2.2.2.2.1) (u.2.2.2.2.2.2.2.2.1) (u.2.2.2.2.2.2.2.2.2.1) (u.2.2.2.2.2.2.2.2.2.2.1) (u.2.2.2.2.2.2.2.2.2.2.2.1) ++ wQ k aQ (u.2.2.2.2.2.2.2.2.2.2.2.2.1) (u.2.2.2.2.2.2.2.2.2.2.2.2.2.1) ++ wM k aM (u.2.2.2.2.2.2.2.2.2.2.2.2.2.2.1) (u.2.2.2.2.2.2.2.2.2.2.2.2.2.2.2.1) (u.2.2.2.2.2.2.2.2.2.2.2.2.2.2.2.2))) (va_A (wC k aC aE aP aQ aM cX cY cN cM ++ wE k aE fX fY lX lY oP nE ++ wP k aP pX pY pD pO nP ++ wQ k aQ qF nQ ++ wM k aM mR mQ mN) sz)) 0 0 (va_A (wC k aC aE aP aQ aM cX cY cN cM ++ wE k aE fX fY lX lY oP nE ++ wP k aP pX pY pD pO nP ++ wQ k aQ qF nQ ++ wM k aM mR mQ mN) sz) := by
  refine Met.ofW (cc := cX4_overlay) (maxL := 2) (ret := (some .int)) (by decide) rfl ?_
  intro p e s m args below meth c s₁ B hml hv
  obtain ⟨hav, hsz, hP, hE, hD0⟩ := hv
  subst hsz
  have hx := B.exec
  have hb := B.bytes
  have hr := B.returns
  have hts := atoms_spec (ws := wsX4_overlay) B.pre
  have hown : s.vm.findClass RX4 = some m.cls := findClass_of_methodNamed B.named
  have hlocks := B.notSynchronized
  have hK := hE.1
  have hD := hD0.self (sz := s.heap.size)
  generalize hAe : va_A (wC k aC aE aP aQ aM cX cY cN cM ++ wE k aE fX fY lX lY oP nE ++ wP k aP pX pY pD pO nP ++ wQ k aQ qF nQ ++ wM k aM mR mQ mN) s.heap.size = A at hD ⊢
  have hA : ∀ q : Nat, s.heap.size ≤ q → A q := fun q h => by rw [← hAe]; exact Or.inr h
  have hS : va_S A s.heap s.heap [] := va_S.rf
  have hl := lv_entry ([.ref (aC 0)]) (n := 2) (Nat.le_of_ble_eq_true rfl)
  rw [show entryFrame m args 2 = entryFrame m ([.ref (aC 0)] : List Value).toArray 2 by rw [hav]]
  rw [lg_entry_eq]
  refine W.gq (fun GQ hGQ => ?_)
  generalize (lg_sl ([.ref (aC 0)]) ++ List.replicate (2 - (lg_sl ([.ref (aC 0)])).length) Slot.unset).toArray = ls at hl ⊢
  have hl : lv_has ls 2 [(0, .ref (aC 0))] := hl
  have hiX4 := (by decide +kernel : ∀ w ∈ wsX40, w ∈ wsX4_overlay)
  have f31 := hts (.fieldLink RX4 31 "PlaneOverlay" "points" "LPlaneOverlay$Points;") (by decide +kernel)
  have f24 := hts (.fieldLink RX4 24 "PlaneOverlay" "edges" "LPlaneOverlay$Edges;") (by decide +kernel)
  have f38 := hts (.fieldLink RX4 38 "PlaneOverlay" "pieces" "LPlaneOverlay$Pieces;") (by decide +kernel)
  have f45 := hts (.fieldLink RX4 45 "PlaneOverlay" "meetings" "LPlaneOverlay$Meetings;") (by decide +kernel)
  have hiX0 := (by decide +kernel : ∀ w ∈ wsX00, w ∈ wsX4_overlay)
  have f87 := fun A => hE.nf (A := A) (RX4, 87, "PlaneOverlay$Edges", "count", "I") (by decide +kernel)
  have f49 := hts (.fieldLink RX4 49 "PlaneOverlay" "isMade" "Z") (by decide +kernel)
  have hiX2 := (by decide +kernel : ∀ w ∈ wsX20, w ∈ wsX4_overlay)
  have f95 := fun A => hE.nf (A := A) (RX4, 95, "PlaneOverlay$Pieces", "count", "I") (by decide +kernel)
  have L9 : ∀ (n9 : Nat) (v1 : Int32) (cM : Int32) (fX : Nat → Int32) (fY : Nat → Int32) (lX : Nat → Int32) (lY : Nat → Int32) (oP : Nat → Int32) (nE : Int32) (pX : Nat → Int32) (pY : Nat → Int32) (pD : Nat → Int32) (pO : Nat → Int32) (nP : Int32) (qF : Nat → Nat → Int32) (nQ : Int32) (mR : Nat → Int32) (mQ : Int32) (mN : Int32) (H : Heap) (locs : List Loc) (ls : Array Slot), wp_X4_overlay_L9 cX cY cN Q  n9 v1 cM fX fY lX lY oP nE pX pY pD pO nP qF nQ mR mQ mN → va_P D vwCl (wC k aC aE aP aQ aM cX cY cN cM ++ wE k aE fX fY lX lY oP nE ++ wP k aP pX pY pD pO nP ++ wQ k aQ qF nQ ++ wM k aM mR mQ mN) H → va_D A (wC k aC aE aP aQ aM cX cY cN cM ++ wE k aE fX fY lX lY oP nE ++ wP k aP pX pY pD pO nP ++ wQ k aQ qF nQ ++ wM k aM mR mQ mN) → va_S A s.heap H locs → lv_has ls 2 [(0, .ref (aC 0)), (1, .int v1)] → W p l e (headSpec wsX4_overlay ({ frames := 5, cells := 0, slots := 0, locals := 145 })).room s m args below meth c H locs 0 0 GQ (F0 m 9 ls []) := by
    intro n9
    induction n9 with
    | zero => intro v1 cM fX fY lX lY oP nE pX pY pD pO nP qF nQ mR mQ mN H locs ls h hP hD hS hl; exact False.elim h
    | succ n9 ih9 =>
      intro v1 cM fX fY lX lY oP nE pX pY pD pO nP qF nQ mR mQ mN H locs ls h hP hD hS hl
      rw [wp_X4_overlay_L9] at h
      refine lv_iload_n hx hb dX4_overlay_9 rfl (lv_at hl 1 rfl) ?_
      refine lv_iconst (v := (2 : Int32)) hx hb dX4_overlay_10 (by decide) ?_
      refine lv_icmp_ge (tgt := 25) hx hb dX4_overlay_11 (by decide) (fun cq => ?_) (fun cq => ?_)
      · have h := h.1 cq
        refine lv_aload_n hx hb dX4_overlay_25 rfl (lv_at hl 0 rfl) ?_
        refine va_get (D := D) (ci := 4) (v := .ref (aP 0)) (C := RX4) (T := TX4) (N := 8) hx hb hts hiX4 hown hK hP 0 rfl rfl 4 (by decide) f31 (fun _ h9 => h9) rfl dX4_overlay_26 ?_
        refine lv_aload_n hx hb dX4_overlay_29 rfl (lv_at hl 0 rfl) ?_
        refine va_get (D := D) (ci := 4) (v := .ref (aE 0)) (C := RX4) (T := TX4) (N := 8) hx hb hts hiX4 hown hK hP 0 rfl rfl 3 (by decide) f24 (fun _ h9 => h9) rfl dX4_overlay_30 ?_
        have hPc := hP.sub (ws' := wP k aP pX pY pD pO nP ++ wE k aE fX fY lX lY oP nE) [14, 15, 16, 17, 18, 8, 9, 10, 11, 12, 13] rfl
        have hDc := hD.sub (ws' := wP k aP pX pY pD pO nP ++ wE k aE fX fY lX lY oP nE) [14, 15, 16, 17, 18, 8, 9, 10, 11, 12, 13] (by decide) rfl
        have hFc := va_free (wc := wP k aP pX pY pD pO nP ++ wE k aE fX fY lX lY oP nE) hD hS hA [14, 15, 16, 17, 18, 8, 9, 10, 11, 12, 13] rfl
        refine va_callv (va_runV (C := RX3) (b := (aP 0)) (As := [.ref (aE 0)]) (rest := []) ⟨hx, hb, hml, hown, hts⟩ (m_X3_gather l D k aE aP pX pY pD pO nP fX fY lX lY oP nE  _ _ h) (cwV 1 hts gX4_overlay_X3_gather rfl rfl rfl (by decide +kernel) ⟨Nat.le_of_ble_eq_true rfl, Nat.le_of_ble_eq_true rfl⟩) (preV_rw (ci := 3) (q0 := 0) (C := RX3) (T := TX3) (N := 5) hE hPc hDc rfl rfl) rfl rfl hl.1 rfl (lv_room (Nat.le_of_ble_eq_true rfl)) dX4_overlay_33 ⟨Nat.le_of_ble_eq_true rfl, Nat.le_of_ble_eq_true rfl⟩) hS (fun q _ h => hFc q h) hFc (fun u t H1 locs ht hvm h hB hz1 hk1 hS => ?_)
        obtain ⟨pX_33, pY_33, pD_33, pO_33, nP_33⟩ := u
        obtain ⟨hP1, hD1⟩ := hB
        rw [ht] at hP1
        obtain ⟨hP, hD⟩ := va_join (wr := wC k aC aE aP aQ aM cX cY cN cM ++ wQ k aQ qF nQ ++ wM k aM mR mQ mN) (w1 := wP k aP pX_33 pY_33 pD_33 pO_33 nP_33 ++ wE k aE fX fY lX lY oP nE) hP hD [14, 15, 16, 17, 18, 8, 9, 10, 11, 12, 13] [0, 1, 2, 3, 4, 5, 6, 7, 19, 20, 21, 22, 23, 24, 25, 26, 27, 28, 29, 30] rfl rfl (by decide) (by decide) hk1 hFc hP1 hD1
        generalize H1 = H at hP hS ⊢
        have hP : va_P D vwCl (wC k aC aE aP aQ aM cX cY cN cM ++ wE k aE fX fY lX lY oP nE ++ wP k aP pX_33 pY_33 pD_33 pO_33 nP_33 ++ wQ k aQ qF nQ ++ wM k aM mR mQ mN) H := hP.sub [0, 1, 2, 3, 4, 5, 6, 7, 25, 26, 27, 28, 29, 30, 20, 21, 22, 23, 24, 8, 9, 10, 11, 12, 13, 14, 15, 16, 17, 18, 19] rfl
        have hD : va_D A (wC k aC aE aP aQ aM cX cY cN cM ++ wE k aE fX fY lX lY oP nE ++ wP k aP pX_33 pY_33 pD_33 pO_33 nP_33 ++ wQ k aQ qF nQ ++ wM k aM mR mQ mN) := hD.sub [0, 1, 2, 3, 4, 5, 6, 7, 25, 26, 27, 28, 29, 30, 20, 21, 22, 23, 24, 8, 9, 10, 11, 12, 13, 14, 15, 16, 17, 18, 19] (by decide) rfl
        refine lv_aload_n hx hb dX4_overlay_36 rfl (lv_at hl 0 rfl) ?_
        refine va_get (D := D) (ci := 4) (v := .ref (aQ 0)) (C := RX4) (T := TX4) (N := 8) hx hb hts hiX4 hown hK hP 0 rfl rfl 5 (by decide) f38 (fun _ h9 => h9) rfl dX4_overlay_37 ?_
        refine lv_aload_n hx hb dX4_overlay_40 rfl (lv_at hl 0 rfl) ?_
        refine va_get (D := D) (ci := 4) (v := .ref (aE 0)) (C := RX4) (T := TX4) (N := 8) hx hb hts hiX4 hown hK hP 0 rfl rfl 3 (by decide) f24 (fun _ h9 => h9) rfl dX4_overlay_41 ?_
        refine lv_aload_n hx hb dX4_overlay_44 rfl (lv_at hl 0 rfl) ?_
        refine va_get (D := D) (ci := 4) (v := .ref (aP 0)) (C := RX4) (T := TX4) (N := 8) hx hb hts hiX4 hown hK hP 0 rfl rfl 4 (by decide) f31 (fun _ h9 => h9) rfl dX4_overlay_45 ?_
        have hPc := hP.sub (ws' := wQ k aQ qF nQ ++ wE k aE fX fY lX lY oP nE ++ wP k aP pX_33 pY_33 pD_33 pO_33 nP_33) [19, 20, 21, 22, 23, 24, 25, 26, 27, 28, 8, 9, 10, 11, 12, 13, 14, 15, 16, 17, 18] rfl
        have hDc := hD.sub (ws' := wQ k aQ qF nQ ++ wE k aE fX fY lX lY oP nE ++ wP k aP pX_33 pY_33 pD_33 pO_33 nP_33) [19, 20, 21, 22, 23, 24, 25, 26, 27, 28, 8, 9, 10, 11, 12, 13, 14, 15, 16, 17, 18] (by decide) rfl
        have hFc := va_free (wc := wQ k aQ qF nQ ++ wE k aE fX fY lX lY oP nE ++ wP k aP pX_33 pY_33 pD_33 pO_33 nP_33) hD hS hA [19, 20, 21, 22, 23, 24, 25, 26, 27, 28, 8, 9, 10, 11, 12, 13, 14, 15, 16, 17, 18] rfl
        refine va_callv (va_runV (C := RX2) (b := (aQ 0)) (As := [.ref (aE 0), .ref (aP 0)]) (rest := []) ⟨hx, hb, hml, hown, hts⟩ (m_X2_cut l D k aE aP aQ qF nQ fX fY lX lY oP nE pX_33 pY_33 pD_33 pO_33 nP_33  _ _ h) (cwV 2 hts gX4_overlay_X2_cut rfl rfl rfl (by decide +kernel) ⟨Nat.le_of_ble_eq_true rfl, Nat.le_of_ble_eq_true rfl⟩) (preV_rw (ci := 2) (q0 := 0) (C := RX2) (T := TX2) (N := 2) hE hPc hDc rfl rfl) rfl rfl hl.1 rfl (lv_room (Nat.le_of_ble_eq_true rfl)) dX4_overlay_48 ⟨Nat.le_of_ble_eq_true rfl, Nat.le_of_ble_eq_true rfl⟩) hS (fun q _ h => hFc q h) hFc (fun u t H1 locs ht hvm h hB hz1 hk1 hS => ?_)
        obtain ⟨qF_48, nQ_48⟩ := u
        obtain ⟨hP1, hD1⟩ := hB
        rw [ht] at hP1
        obtain ⟨hP, hD⟩ := va_join (wr := wC k aC aE aP aQ aM cX cY cN cM ++ wM k aM mR mQ mN) (w1 := wQ k aQ qF_48 nQ_48 ++ wE k aE fX fY lX lY oP nE ++ wP k aP pX_33 pY_33 pD_33 pO_33 nP_33) hP hD [19, 20, 21, 22, 23, 24, 25, 26, 27, 28, 8, 9, 10, 11, 12, 13, 14, 15, 16, 17, 18] [0, 1, 2, 3, 4, 5, 6, 7, 29, 30] rfl rfl (by decide) (by decide) hk1 hFc hP1 hD1
        generalize H1 = H at hP hS ⊢
        have hP : va_P D vwCl (wC k aC aE aP aQ aM cX cY cN cM ++ wE k aE fX fY lX lY oP nE ++ wP k aP pX_33 pY_33 pD_33 pO_33 nP_33 ++ wQ k aQ qF_48 nQ_48 ++ wM k aM mR mQ mN) H := hP.sub [0, 1, 2, 3, 4, 5, 6, 7, 20, 21, 22, 23, 24, 25, 26, 27, 28, 29, 30, 10, 11, 12, 13, 14, 15, 16, 17, 18, 19, 8, 9] rfl
        have hD : va_D A (wC k aC aE aP aQ aM cX cY cN cM ++ wE k aE fX fY lX lY oP nE ++ wP k aP pX_33 pY_33 pD_33 pO_33 nP_33 ++ wQ k aQ qF_48 nQ_48 ++ wM k aM mR mQ mN) := hD.sub [0, 1, 2, 3, 4, 5, 6, 7, 20, 21, 22, 23, 24, 25, 26, 27, 28, 29, 30, 10, 11, 12, 13, 14, 15, 16, 17, 18, 19, 8, 9] (by decide) rfl
        refine lv_aload_n hx hb dX4_overlay_51 rfl (lv_at hl 0 rfl) ?_
        refine va_get (D := D) (ci := 4) (v := .ref (aM 0)) (C := RX4) (T := TX4) (N := 8) hx hb hts hiX4 hown hK hP 0 rfl rfl 6 (by decide) f45 (fun _ h9 => h9) rfl dX4_overlay_52 ?_
        refine lv_aload_n hx hb dX4_overlay_55 rfl (lv_at hl 0 rfl) ?_
        refine va_get (D := D) (ci := 4) (v := .ref (aE 0)) (C := RX4) (T := TX4) (N := 8) hx hb hts hiX4 hown hK hP 0 rfl rfl 3 (by decide) f24 (fun _ h9 => h9) rfl dX4_overlay_56 ?_
        refine va_getN (D := D) (ci := 0) (v := .int nE) (C := RX0) (T := TX0) (N := 6) (host := "PlaneOverlay") hx hb hts hiX0 hown hK hP 8 rfl rfl 5 (by decide) (f87 _) (fun _ h9 => h9) rfl dX4_overlay_59 ?_
        refine lv_aload_n hx hb dX4_overlay_62 rfl (lv_at hl 0 rfl) ?_
        refine va_get (D := D) (ci := 4) (v := .ref (aP 0)) (C := RX4) (T := TX4) (N := 8) hx hb hts hiX4 hown hK hP 0 rfl rfl 4 (by decide) f31 (fun _ h9 => h9) rfl dX4_overlay_63 ?_
        have hPc := hP.sub (ws' := wM k aM mR mQ mN ++ wP k aP pX_33 pY_33 pD_33 pO_33 nP_33) [29, 30, 14, 15, 16, 17, 18] rfl
        have hDc := hD.sub (ws' := wM k aM mR mQ mN ++ wP k aP pX_33 pY_33 pD_33 pO_33 nP_33) [29, 30, 14, 15, 16, 17, 18] (by decide) rfl
        have hFc := va_free (wc := wM k aM mR mQ mN ++ wP k aP pX_33 pY_33 pD_33 pO_33 nP_33) hD hS hA [29, 30, 14, 15, 16, 17, 18] rfl
        refine va_callv (va_runV (C := RX1) (b := (aM 0)) (As := [.int nE, .ref (aP 0)]) (rest := []) ⟨hx, hb, hml, hown, hts⟩ (m_X1_find l D k aP aM mR mQ mN pX_33 pY_33 pD_33 pO_33 nP_33 nE _ _ h) (cwV 2 hts gX4_overlay_X1_find rfl rfl rfl (by decide +kernel) ⟨Nat.le_of_ble_eq_true rfl, Nat.le_of_ble_eq_true rfl⟩) (preV_rw (ci := 1) (q0 := 0) (C := RX1) (T := TX1) (N := 3) hE hPc hDc rfl rfl) rfl rfl hl.1 rfl (lv_room (Nat.le_of_ble_eq_true rfl)) dX4_overlay_66 ⟨Nat.le_of_ble_eq_true rfl, Nat.le_of_ble_eq_true rfl⟩) hS (fun q _ h => hFc q h) hFc (fun u t H1 locs ht hvm h hB hz1 hk1 hS => ?_)
        obtain ⟨mR_66, mQ_66, mN_66⟩ := u
        obtain ⟨hP1, hD1⟩ := hB
        rw [ht] at hP1
        obtain ⟨hP, hD⟩ := va_join (wr := wC k aC aE aP aQ aM cX cY cN cM ++ wE k aE fX fY lX lY oP nE ++ wQ k aQ qF_48 nQ_48) (w1 := wM k aM mR_66 mQ_66 mN_66 ++ wP k aP pX_33 pY_33 pD_33 pO_33 nP_33) hP hD [29, 30, 14, 15, 16, 17, 18] [0, 1, 2, 3, 4, 5, 6, 7, 8, 9, 10, 11, 12, 13, 19, 20, 21, 22, 23, 24, 25, 26, 27, 28] rfl rfl (by decide) (by decide) hk1 hFc hP1 hD1
        generalize H1 = H at hP hS ⊢
        have hP : va_P D vwCl (wC k aC aE aP aQ aM cX cY cN cM ++ wE k aE fX fY lX lY oP nE ++ wP k aP pX_33 pY_33 pD_33 pO_33 nP_33 ++ wQ k aQ qF_48 nQ_48 ++ wM k aM mR_66 mQ_66 mN_66) H := hP.sub [0, 1, 2, 3, 4, 5, 6, 7, 8, 9, 10, 11, 12, 13, 26, 27, 28, 29, 30, 14, 15, 16, 17, 18, 19, 20, 21, 22, 23, 24, 25] rfl
        have hD : va_D A (wC k aC aE aP aQ aM cX cY cN cM ++ wE k aE fX fY lX lY oP nE ++ wP k aP pX_33 pY_33 pD_33 pO_33 nP_33 ++ wQ k aQ qF_48 nQ_48 ++ wM k aM mR_66 mQ_66 mN_66) := hD.sub [0, 1, 2, 3, 4, 5, 6, 7, 8, 9, 10, 11, 12, 13, 26, 27, 28, 29, 30, 14, 15, 16, 17, 18, 19, 20, 21, 22, 23, 24, 25] (by decide) rfl
        refine lv_aload_n hx hb dX4_overlay_69 rfl (lv_at hl 0 rfl) ?_
        refine lv_iconst (v := (1 : Int32)) hx hb dX4_overlay_70 (by decide) ?_
        refine va_put (D := D) (ci := 4) (v := .int (1 : Int32)) (ty := .boolean) (C := RX4) (T := TX4) (N := 8) hx hb hts hiX4 tyX4 tyX4_ok nmX4 hown hK hP hD hS 0 rfl rfl 7 (by decide) f49 (fun _ h9 => h9) rfl (by decide +kernel) rfl rfl (Nat.le_of_ble_eq_true rfl) dX4_overlay_71 (fun H locs hP hD hS => ?_)
        have hP : va_P D vwCl (wC k aC aE aP aQ aM cX cY cN (1 : Int32) ++ wE k aE fX fY lX lY oP nE ++ wP k aP pX_33 pY_33 pD_33 pO_33 nP_33 ++ wQ k aQ qF_48 nQ_48 ++ wM k aM mR_66 mQ_66 mN_66) H := hP
        have hD : va_D A (wC k aC aE aP aQ aM cX cY cN (1 : Int32) ++ wE k aE fX fY lX lY oP nE ++ wP k aP pX_33 pY_33 pD_33 pO_33 nP_33 ++ wQ k aQ qF_48 nQ_48 ++ wM k aM mR_66 mQ_66 mN_66) := hD
        refine lv_aload_n hx hb dX4_overlay_74 rfl (lv_at hl 0 rfl) ?_
        refine va_get (D := D) (ci := 4) (v := .ref (aQ 0)) (C := RX4) (T := TX4) (N := 8) hx hb hts hiX4 hown hK hP 0 rfl rfl 5 (by decide) f38 (fun _ h9 => h9) rfl dX4_overlay_75 ?_
        refine va_getN (D := D) (ci := 2) (v := .int nQ_48) (C := RX2) (T := TX2) (N := 2) (host := "PlaneOverlay") hx hb hts hiX2 hown hK hP 19 rfl rfl 1 (by decide) (f95 _) (fun _ h9 => h9) rfl dX4_overlay_78 ?_
        rw [hGQ]
        exact W.iret (v := nQ_48) hx hb hr (fun t ht hW => ⟨⟨_, ((1 : Int32), fX, fY, lX, lY, oP, nE, pX_33, pY_33, pD_33, pO_33, nP_33, qF_48, nQ_48, mR_66, mQ_66, mN_66), rfl, h, by rw [ht]; exact hP, hD⟩, hS.F ht⟩) hS.2.2 dX4_overlay_81
      · have h := h.2 cq
        refine lv_aload_n hx hb dX4_overlay_14 rfl (lv_at hl 0 rfl) ?_
        refine lv_iload_n hx hb dX4_overlay_15 rfl (lv_at hl 1 rfl) ?_
        have hPc := hP.sub (ws' := wC k aC aE aP aQ aM cX cY cN cM ++ wE k aE fX fY lX lY oP nE) [0, 1, 2, 3, 4, 5, 6, 7, 8, 9, 10, 11, 12, 13] rfl
        have hDc := hD.sub (ws' := wC k aC aE aP aQ aM cX cY cN cM ++ wE k aE fX fY lX lY oP nE) [0, 1, 2, 3, 4, 5, 6, 7, 8, 9, 10, 11, 12, 13] (by decide) rfl
        have hFc := va_free (wc := wC k aC aE aP aQ aM cX cY cN cM ++ wE k aE fX fY lX lY oP nE) hD hS hA [0, 1, 2, 3, 4, 5, 6, 7, 8, 9, 10, 11, 12, 13] rfl
        refine va_callv (va_runV (C := RX4) (b := (aC 0)) (As := [.int v1]) (rest := []) ⟨hx, hb, hml, hown, hts⟩ (m_X4_takeEdges l D k aC aE aP aQ aM cX cY cN cM fX fY lX lY oP nE v1 _ _ h) (cwV 1 hts gX4_overlay_X4_takeEdges rfl rfl rfl (by decide +kernel) ⟨Nat.le_of_ble_eq_true rfl, Nat.le_of_ble_eq_true rfl⟩) (preV_rw (ci := 4) (q0 := 0) (C := RX4) (T := TX4) (N := 8) hE hPc hDc rfl rfl) rfl rfl hl.1 rfl (lv_room (Nat.le_of_ble_eq_true rfl)) dX4_overlay_16 ⟨Nat.le_of_ble_eq_true rfl, Nat.le_of_ble_eq_true rfl⟩) hS (fun q _ h => hFc q h) hFc (fun u t H1 locs ht hvm h hB hz1 hk1 hS => ?_)
        obtain ⟨fX_16, fY_16, lX_16, lY_16, oP_16, nE_16⟩ := u
        obtain ⟨hP1, hD1⟩ := hB
        rw [ht] at hP1
        obtain ⟨hP, hD⟩ := va_join (wr := wP k aP pX pY pD pO nP ++ wQ k aQ qF nQ ++ wM k aM mR mQ mN) (w1 := wC k aC aE aP aQ aM cX cY cN cM ++ wE k aE fX_16 fY_16 lX_16 lY_16 oP_16 nE_16) hP hD [0, 1, 2, 3, 4, 5, 6, 7, 8, 9, 10, 11, 12, 13] [14, 15, 16, 17, 18, 19, 20, 21, 22, 23, 24, 25, 26, 27, 28, 29, 30] rfl rfl (by decide) (by decide) hk1 hFc hP1 hD1
        generalize H1 = H at hP hS ⊢
        have hP : va_P D vwCl (wC k aC aE aP aQ aM cX cY cN cM ++ wE k aE fX_16 fY_16 lX_16 lY_16 oP_16 nE_16 ++ wP k aP pX pY pD pO nP ++ wQ k aQ qF nQ ++ wM k aM mR mQ mN) H := hP.sub [17, 18, 19, 20, 21, 22, 23, 24, 25, 26, 27, 28, 29, 30, 0, 1, 2, 3, 4, 5, 6, 7, 8, 9, 10, 11, 12, 13, 14, 15, 16] rfl
        have hD : va_D A (wC k aC aE aP aQ aM cX cY cN cM ++ wE k aE fX_16 fY_16 lX_16 lY_16 oP_16 nE_16 ++ wP k aP pX pY pD pO nP ++ wQ k aQ qF nQ ++ wM k aM mR mQ mN) := hD.sub [17, 18, 19, 20, 21, 22, 23, 24, 25, 26, 27, 28, 29, 30, 0, 1, 2, 3, 4, 5, 6, 7, 8, 9, 10, 11, 12, 13, 14, 15, 16] (by decide) rfl
        refine lv_iinc (v := (v1 + 1)) (lv' := [(1, .int (v1 + 1)), (0, .ref (aC 0))]) hx hb dX4_overlay_19 hl (k := 1) rfl rfl (by decide) rfl (fun ls hl => ?_)
        refine lv_goto (tgt := 9) hx hb dX4_overlay_22 (by decide) ?_
        exact ih9 (v1 + 1) cM fX_16 fY_16 lX_16 lY_16 oP_16 nE_16 pX pY pD pO nP qF nQ mR mQ mN _ _ _ h hP hD hS (lv_sub hl [1, 0] rfl)
  unfold wp_X4_overlay at h
  refine lv_aload_n hx hb dX4_overlay_0 rfl (lv_at hl 0 rfl) ?_
  refine va_get (D := D) (ci := 4) (v := .ref (aE 0)) (C := RX4) (T := TX4) (N := 8) hx hb hts hiX4 hown hK hP 0 rfl rfl 3 (by decide) f24 (fun _ h9 => h9) rfl dX4_overlay_1 ?_
  have hPc := hP.sub (ws' := wE k aE fX fY lX lY oP nE) [8, 9, 10, 11, 12, 13] rfl
  have hDc := hD.sub (ws' := wE k aE fX fY lX lY oP nE) [8, 9, 10, 11, 12, 13] (by decide) rfl
  have hFc := va_free (wc := wE k aE fX fY lX lY oP nE) hD hS hA [8, 9, 10, 11, 12, 13] rfl
  refine va_callv (va_runV (C := RX0) (b := (aE 0)) (As := []) (rest := []) ⟨hx, hb, hml, hown, hts⟩ (m_X0_empty l D k aE fX fY lX lY oP nE  _ _ h) (cwV 0 hts gX4_overlay_X0_empty rfl rfl rfl (by decide +kernel) ⟨Nat.le_of_ble_eq_true rfl, Nat.le_of_ble_eq_true rfl⟩) (preV_rw (ci := 0) (q0 := 0) (C := RX0) (T := TX0) (N := 6) hE hPc hDc rfl rfl) rfl rfl hl.1 rfl (lv_room (Nat.le_of_ble_eq_true rfl)) dX4_overlay_4 ⟨Nat.le_of_ble_eq_true rfl, Nat.le_of_ble_eq_true rfl⟩) hS (fun q _ h => hFc q h) hFc (fun u t H1 locs ht hvm h hB hz1 hk1 hS => ?_)
  obtain ⟨oP_4, nE_4⟩ := u
  obtain ⟨hP1, hD1⟩ := hB
  rw [ht] at hP1
  obtain ⟨hP, hD⟩ := va_join (wr := wC k aC aE aP aQ aM cX cY cN cM ++ wP k aP pX pY pD pO nP ++ wQ k aQ qF nQ ++ wM k aM mR mQ mN) (w1 := wE k aE fX fY lX lY oP_4 nE_4) hP hD [8, 9, 10, 11, 12, 13] [0, 1, 2, 3, 4, 5, 6, 7, 14, 15, 16, 17, 18, 19, 20, 21, 22, 23, 24, 25, 26, 27, 28, 29, 30] rfl rfl (by decide) (by decide) hk1 hFc hP1 hD1
  generalize H1 = H at hP hS ⊢
  have hP : va_P D vwCl (wC k aC aE aP aQ aM cX cY cN cM ++ wE k aE fX fY lX lY oP_4 nE_4 ++ wP k aP pX pY pD pO nP ++ wQ k aQ qF nQ ++ wM k aM mR mQ mN) H := hP.sub [0, 1, 2, 3, 4, 5, 6, 7, 25, 26, 27, 28, 29, 30, 8, 9, 10, 11, 12, 13, 14, 15, 16, 17, 18, 19, 20, 21, 22, 23, 24] rfl
  have hD : va_D A (wC k aC aE aP aQ aM cX cY cN cM ++ wE k aE fX fY lX lY oP_4 nE_4 ++ wP k aP pX pY pD pO nP ++ wQ k aQ qF nQ ++ wM k aM mR mQ mN) := hD.sub [0, 1, 2, 3, 4, 5, 6, 7, 25, 26, 27, 28, 29, 30, 8, 9, 10, 11, 12, 13, 14, 15, 16, 17, 18, 19, 20, 21, 22, 23, 24] (by decide) rfl
  refine lv_iconst (v := (0 : Int32)) hx hb dX4_overlay_7 (by decide) ?_
  refine lv_istore_n (lv' := [(1, .int (0 : Int32)), (0, .ref (aC 0))]) hx hb dX4_overlay_8 rfl hl (by decide) rfl (fun ls hl => ?_)
  obtain ⟨n9, h⟩ := h
  exact L9 n9 (0 : Int32) cM fX fY lX lY oP_4 nE_4 pX pY pD pO nP qF nQ mR mQ mN _ _ _ h hP hD hS (lv_sub hl [1, 0] rfl)
