set_option maxHeartbeats 4000000 in
set_option maxRecDepth 100000 in
theorem m_X5_isPolygon (l : Launch) (D : va_G) (k : Nat → ClassId)   (p0 : Int32) (Q : Int32 → Prop) (h : wp_X5_isPolygon p0 Q) : Met l yX5_isPolygon wsX5_isPolygon ({ frames := 0, cells := 0, slots := 0, locals := 0 }) (Pro D k [.int p0] (([] : va_W))) (vp_Si Q) 0 0 (fun _ => False) := by
  refine Met.ofW (cc := cX5_isPolygon) (maxL := 1) (ret := (some .boolean)) (by decide) rfl ?_
  intro p e s m args below meth c s₁ B hml hv
  obtain ⟨hav, hP, hE⟩ := hv
  have hx := B.exec
  have hb := B.bytes
  have hr := B.returns
  have hts := atoms_spec (ws := wsX5_isPolygon) B.pre
  have hown : s.vm.findClass RX5 = some m.cls := findClass_of_methodNamed B.named
  have hlocks := B.notSynchronized
  have hK := hE.1
  have hl := lv_entry ([.int p0]) (n := 1) (Nat.le_of_ble_eq_true rfl)
  rw [show entryFrame m args 1 = entryFrame m ([.int p0] : List Value).toArray 1 by rw [hav]]
  rw [lg_entry_eq]
  refine W.gq (fun GQ hGQ => ?_)
  generalize (lg_sl ([.int p0]) ++ List.replicate (1 - (lg_sl ([.int p0])).length) Slot.unset).toArray = ls at hl ⊢
  have hl : lv_has ls 1 [(0, .int p0)] := hl
  have L14 : ∀ (z0 : Int32) (ls : Array Slot), wp_X5_isPolygon_L14 p0 Q  z0 → lv_has ls 1 [] → W p l e (headSpec wsX5_isPolygon ({ frames := 0, cells := 0, slots := 0, locals := 0 })).room s m args below meth c s.heap [] 0 0 GQ (F0 m 14 ls [.int z0]) := by
    intro z0 ls h hl
    unfold wp_X5_isPolygon_L14 at h
    obtain ⟨hnr, h⟩ := h
    rw [hGQ]
    exact W.zret (v := z0) hx hb hr hnr (fun t ht hW => ⟨_, rfl, h, ht⟩) (fun _ h => by cases h) dX5_isPolygon_14
  have L9 : ∀  (ls : Array Slot), wp_X5_isPolygon_L9 p0 Q   → lv_has ls 1 [] → W p l e (headSpec wsX5_isPolygon ({ frames := 0, cells := 0, slots := 0, locals := 0 })).room s m args below meth c s.heap [] 0 0 GQ (F0 m 9 ls []) := by
    intro  ls h hl
    unfold wp_X5_isPolygon_L9 at h
    refine lv_iconst (v := (1 : Int32)) hx hb dX5_isPolygon_9 (by decide) ?_
    refine lv_goto (tgt := 14) hx hb dX5_isPolygon_10 (by decide) ?_
    exact L14 (1 : Int32) _ h (lv_sub hl [] rfl)
  unfold wp_X5_isPolygon at h
  refine lv_iload_n hx hb dX5_isPolygon_0 rfl (lv_at hl 0 rfl) ?_
  refine lv_if_eq (tgt := 9) hx hb dX5_isPolygon_1 (by decide) (fun cq => ?_) (fun cq => ?_)
  · have h := h.1 cq
    exact L9  _ h (lv_sub hl [] rfl)
  · have h := h.2 cq
    refine lv_iload_n hx hb dX5_isPolygon_4 rfl (lv_at hl 0 rfl) ?_
    refine lv_iconst (v := (1 : Int32)) hx hb dX5_isPolygon_5 (by decide) ?_
    refine lv_icmp_ne (tgt := 13) hx hb dX5_isPolygon_6 (by decide) (fun cq => ?_) (fun cq => ?_)
    · have h := h.1 cq
      refine lv_iconst (v := (0 : Int32)) hx hb dX5_isPolygon_13 (by decide) ?_
      exact L14 (0 : Int32) _ h (lv_sub hl [] rfl)
    · have h := h.2 cq
      exact L9  _ h (lv_sub hl [] rfl)
set_option maxHeartbeats 4000000 in
set_option maxRecDepth 100000 in
theorem m_X5_order (l : Launch) (D : va_G) (k : Nat → ClassId)   (p0 : Int64) (p1 : Int64) (p2 : Int64) (p3 : Int64) (p4 : Int64) (p5 : Int64) (Q : Int32 → Prop) (h : wp_X5_order p0 p1 p2 p3 p4 p5 Q) : Met l yX5_order wsX5_order ({ frames := 0, cells := 0, slots := 0, locals := 0 }) (Pro D k [.long p0, .long p1, .long p2, .long p3, .long p4, .long p5] (([] : va_W))) (vp_Si Q) 0 0 (fun _ => False) := by
  refine Met.ofW (cc := cX5_order) (maxL := 16) (ret := (some .int)) (by decide) rfl ?_
  intro p e s m args below meth c s₁ B hml hv
  obtain ⟨hav, hP, hE⟩ := hv
  have hx := B.exec
  have hb := B.bytes
  have hr := B.returns
  have hts := atoms_spec (ws := wsX5_order) B.pre
  have hown : s.vm.findClass RX5 = some m.cls := findClass_of_methodNamed B.named
  have hlocks := B.notSynchronized
  have hK := hE.1
  have hl := lv_entry ([.long p0, .long p1, .long p2, .long p3, .long p4, .long p5]) (n := 16) (Nat.le_of_ble_eq_true rfl)
  rw [show entryFrame m args 16 = entryFrame m ([.long p0, .long p1, .long p2, .long p3, .long p4, .long p5] : List Value).toArray 16 by rw [hav]]
  rw [lg_entry_eq]
  refine W.gq (fun GQ hGQ => ?_)
  generalize (lg_sl ([.long p0, .long p1, .long p2, .long p3, .long p4, .long p5]) ++ List.replicate (16 - (lg_sl ([.long p0, .long p1, .long p2, .long p3, .long p4, .long p5])).length) Slot.unset).toArray = ls at hl ⊢
  have hl : lv_has ls 16 [(0, .long p0), (2, .long p1), (4, .long p2), (6, .long p3), (8, .long p4), (10, .long p5)] := hl
  have L69 : ∀ (z0 : Int32) (ls : Array Slot), wp_X5_order_L69 p0 p1 p2 p3 p4 p5 Q  z0 → lv_has ls 16 [] → W p l e (headSpec wsX5_order ({ frames := 0, cells := 0, slots := 0, locals := 0 })).room s m args below meth c s.heap [] 0 0 GQ (F0 m 69 ls [.int z0]) := by
    intro z0 ls h hl
    unfold wp_X5_order_L69 at h
    rw [hGQ]
    exact W.iret (v := z0) hx hb hr (fun t ht hW => ⟨_, rfl, h, ht⟩) (fun _ h => by cases h) dX5_order_69
  unfold wp_X5_order at h
  refine lv_lload_n hx hb dX5_order_0 rfl (lv_at hl 0 rfl) ?_
  refine lv_lload hx hb dX5_order_1 (lv_at hl 5 rfl) ?_
  refine lv_lmul hx hb dX5_order_3 ?_
  refine lv_lload hx hb dX5_order_4 (lv_at hl 3 rfl) ?_
  refine lv_lload hx hb dX5_order_6 (lv_at hl 2 rfl) ?_
  refine lv_lmul hx hb dX5_order_8 ?_
  refine lv_lsub hx hb dX5_order_9 ?_
  refine lv_topl (fun x10 ex10 => ?_)
  have h := h x10 ex10
  refine lv_lstore (lv' := [(12, .long x10), (0, .long p0), (2, .long p1), (4, .long p2), (6, .long p3), (8, .long p4), (10, .long p5)]) hx hb dX5_order_10 hl (by decide) rfl (fun ls hl => ?_)
  refine lv_lload_n hx hb dX5_order_12 rfl (lv_at hl 2 rfl) ?_
  refine lv_lload hx hb dX5_order_13 (lv_at hl 6 rfl) ?_
  refine lv_lmul hx hb dX5_order_15 ?_
  refine lv_lload hx hb dX5_order_16 (lv_at hl 5 rfl) ?_
  refine lv_lload hx hb dX5_order_18 (lv_at hl 3 rfl) ?_
  refine lv_lmul hx hb dX5_order_20 ?_
  refine lv_lsub hx hb dX5_order_21 ?_
  refine lv_topl (fun x22 ex22 => ?_)
  have h := h x22 ex22
  refine lv_lstore (lv' := [(14, .long x22), (12, .long x10), (0, .long p0), (2, .long p1), (4, .long p2), (6, .long p3), (8, .long p4), (10, .long p5)]) hx hb dX5_order_22 hl (by decide) rfl (fun ls hl => ?_)
  refine lv_lload hx hb dX5_order_24 (lv_at hl 1 rfl) ?_
  refine lv_lconst (v := (0 : Int64)) hx hb dX5_order_26 (by decide) ?_
  refine W.lcmp hx hb dX5_order_27 ?_
  refine lv_if_eq (tgt := 46) hx hb dX5_order_28 (by decide) (fun cq => ?_) (fun cq => ?_)
  · have h := h.1 ((lg_cmp_eq _ _).mp cq)
    refine lv_lload hx hb dX5_order_46 (lv_at hl 0 rfl) ?_
    refine lv_lconst (v := (0 : Int64)) hx hb dX5_order_48 (by decide) ?_
    refine W.lcmp hx hb dX5_order_49 ?_
    refine lv_if_ne (tgt := 57) hx hb dX5_order_50 (by decide) (fun cq => ?_) (fun cq => ?_)
    · have h := h.1 (fun q => cq ((lg_cmp_eq _ _).mpr q))
      refine lv_lload hx hb dX5_order_57 (lv_at hl 0 rfl) ?_
      refine lv_lconst (v := (0 : Int64)) hx hb dX5_order_59 (by decide) ?_
      refine W.lcmp hx hb dX5_order_60 ?_
      refine lv_if_ge (tgt := 68) hx hb dX5_order_61 (by decide) (fun cq => ?_) (fun cq => ?_)
      · have h := h.1 ((lg_cmp_ge _ _).mp cq)
        refine lv_iconst (v := (1 : Int32)) hx hb dX5_order_68 (by decide) ?_
        exact L69 (1 : Int32) _ h (lv_sub hl [] rfl)
      · have h := h.2 (fun q => cq ((lg_cmp_ge _ _).mpr q))
        refine lv_iconst (v := (-1 : Int32)) hx hb dX5_order_64 (by decide) ?_
        refine lv_goto (tgt := 69) hx hb dX5_order_65 (by decide) ?_
        exact L69 (-1 : Int32) _ h (lv_sub hl [] rfl)
    · have h := h.2 ((lg_cmp_eq _ _).mp cq)
      refine lv_iconst (v := (0 : Int32)) hx hb dX5_order_53 (by decide) ?_
      refine lv_goto (tgt := 69) hx hb dX5_order_54 (by decide) ?_
      exact L69 (0 : Int32) _ h (lv_sub hl [] rfl)
  · have h := h.2 (fun q => cq ((lg_cmp_eq _ _).mpr q))
    refine lv_lload hx hb dX5_order_31 (lv_at hl 1 rfl) ?_
    refine lv_lconst (v := (0 : Int64)) hx hb dX5_order_33 (by decide) ?_
    refine W.lcmp hx hb dX5_order_34 ?_
    refine lv_if_ge (tgt := 42) hx hb dX5_order_35 (by decide) (fun cq => ?_) (fun cq => ?_)
    · have h := h.1 ((lg_cmp_ge _ _).mp cq)
      refine lv_iconst (v := (1 : Int32)) hx hb dX5_order_42 (by decide) ?_
      refine lv_goto (tgt := 69) hx hb dX5_order_43 (by decide) ?_
      exact L69 (1 : Int32) _ h (lv_sub hl [] rfl)
    · have h := h.2 (fun q => cq ((lg_cmp_ge _ _).mpr q))
      refine lv_iconst (v := (-1 : Int32)) hx hb dX5_order_38 (by decide) ?_
      refine lv_goto (tgt := 69) hx hb dX5_order_39 (by decide) ?_
      exact L69 (-1 : Int32) _ h (lv_sub hl [] rfl)
set_option maxHeartbeats 4000000 in
set_option maxRecDepth 100000 in
theorem m_X5_gcd (l : Launch) (D : va_G) (k : Nat → ClassId)   (p0 : Int64) (p1 : Int64) (Q : Int64 → Prop) (h : wp_X5_gcd p0 p1 Q) : Met l yX5_gcd wsX5_gcd ({ frames := 0, cells := 0, slots := 0, locals := 0 }) (Pro D k [.long p0, .long p1] (([] : va_W))) (vp_Sl Q) 0 0 (fun _ => False) := by
  refine Met.ofW (cc := cX5_gcd) (maxL := 10) (ret := (some .long)) (by decide) rfl ?_
  intro p e s m args below meth c s₁ B hml hv
  obtain ⟨hav, hP, hE⟩ := hv
  have hx := B.exec
  have hb := B.bytes
  have hr := B.returns
  have hts := atoms_spec (ws := wsX5_gcd) B.pre
  have hown : s.vm.findClass RX5 = some m.cls := findClass_of_methodNamed B.named
  have hlocks := B.notSynchronized
  have hK := hE.1
  have hl := lv_entry ([.long p0, .long p1]) (n := 10) (Nat.le_of_ble_eq_true rfl)
  rw [show entryFrame m args 10 = entryFrame m ([.long p0, .long p1] : List Value).toArray 10 by rw [hav]]
  rw [lg_entry_eq]
  refine W.gq (fun GQ hGQ => ?_)
  generalize (lg_sl ([.long p0, .long p1]) ++ List.replicate (10 - (lg_sl ([.long p0, .long p1])).length) Slot.unset).toArray = ls at hl ⊢
  have hl : lv_has ls 10 [(0, .long p0), (2, .long p1)] := hl
  have L28 : ∀ (n28 : Nat) (v4 : Int64) (v6 : Int64) (ls : Array Slot), wp_X5_gcd_L28 p0 p1 Q  n28 v4 v6 → lv_has ls 10 [(4, .long v4), (6, .long v6)] → W p l e (headSpec wsX5_gcd ({ frames := 0, cells := 0, slots := 0, locals := 0 })).room s m args below meth c s.heap [] 0 0 GQ (F0 m 28 ls []) := by
    intro n28
    induction n28 with
    | zero => intro v4 v6 ls h hl; exact False.elim h
    | succ n28 ih28 =>
      intro v4 v6 ls h hl
      rw [wp_X5_gcd_L28] at h
      refine lv_lload hx hb dX5_gcd_28 (lv_at hl 1 rfl) ?_
      refine lv_lconst (v := (0 : Int64)) hx hb dX5_gcd_30 (by decide) ?_
      refine W.lcmp hx hb dX5_gcd_31 ?_
      refine lv_if_eq (tgt := 53) hx hb dX5_gcd_32 (by decide) (fun cq => ?_) (fun cq => ?_)
      · have h := h.1 ((lg_cmp_eq _ _).mp cq)
        refine lv_lload hx hb dX5_gcd_53 (lv_at hl 0 rfl) ?_
        rw [hGQ]
        exact W.lret (v := v4) hx hb hr (fun t ht hW => ⟨_, rfl, h, ht⟩) (fun _ h => by cases h) dX5_gcd_55
      · have h := h.2 (fun q => cq ((lg_cmp_eq _ _).mpr q))
        refine lv_lload hx hb dX5_gcd_35 (lv_at hl 0 rfl) ?_
        refine lv_lload hx hb dX5_gcd_37 (lv_at hl 1 rfl) ?_
        obtain ⟨hne, h⟩ := h
        refine lv_lrem hx hb dX5_gcd_39 hne ?_
        refine lv_topl (fun x40 ex40 => ?_)
        have h := h x40 ex40
        refine lv_lstore (lv' := [(8, .long x40), (4, .long v4), (6, .long v6)]) hx hb dX5_gcd_40 hl (by decide) rfl (fun ls hl => ?_)
        refine lv_lload hx hb dX5_gcd_42 (lv_at hl 2 rfl) ?_
        refine lv_lstore (lv' := [(4, .long v6), (8, .long x40), (6, .long v6)]) hx hb dX5_gcd_44 hl (by decide) rfl (fun ls hl => ?_)
        refine lv_lload hx hb dX5_gcd_46 (lv_at hl 1 rfl) ?_
        refine lv_lstore (lv' := [(6, .long x40), (4, .long v6), (8, .long x40)]) hx hb dX5_gcd_48 hl (by decide) rfl (fun ls hl => ?_)
        refine lv_goto (tgt := 28) hx hb dX5_gcd_50 (by decide) ?_
        exact ih28 v6 x40 _ h (lv_sub hl [1, 0] rfl)
  have L26 : ∀ (v4 : Int64) (z0 : Int64) (ls : Array Slot), wp_X5_gcd_L26 p0 p1 Q  v4 z0 → lv_has ls 10 [(4, .long v4)] → W p l e (headSpec wsX5_gcd ({ frames := 0, cells := 0, slots := 0, locals := 0 })).room s m args below meth c s.heap [] 0 0 GQ (F0 m 26 ls [.long z0]) := by
    intro v4 z0 ls h hl
    unfold wp_X5_gcd_L26 at h
    refine lv_lstore (lv' := [(6, .long z0), (4, .long v4)]) hx hb dX5_gcd_26 hl (by decide) rfl (fun ls hl => ?_)
    obtain ⟨n9, h⟩ := h
    exact L28 n9 v4 z0 _ h (lv_sub hl [1, 0] rfl)
  have L12 : ∀ (z0 : Int64) (ls : Array Slot), wp_X5_gcd_L12 p0 p1 Q  z0 → lv_has ls 10 [(2, .long p1)] → W p l e (headSpec wsX5_gcd ({ frames := 0, cells := 0, slots := 0, locals := 0 })).room s m args below meth c s.heap [] 0 0 GQ (F0 m 12 ls [.long z0]) := by
    intro z0 ls h hl
    unfold wp_X5_gcd_L12 at h
    refine lv_lstore (lv' := [(4, .long z0), (2, .long p1)]) hx hb dX5_gcd_12 hl (by decide) rfl (fun ls hl => ?_)
    refine lv_lload_n hx hb dX5_gcd_14 rfl (lv_at hl 1 rfl) ?_
    refine lv_lconst (v := (0 : Int64)) hx hb dX5_gcd_15 (by decide) ?_
    refine W.lcmp hx hb dX5_gcd_16 ?_
    refine lv_if_ge (tgt := 25) hx hb dX5_gcd_17 (by decide) (fun cq => ?_) (fun cq => ?_)
    · have h := h.1 ((lg_cmp_ge _ _).mp cq)
      refine lv_lload_n hx hb dX5_gcd_25 rfl (lv_at hl 1 rfl) ?_
      exact L26 z0 p1 _ h (lv_sub hl [0] rfl)
    · have h := h.2 (fun q => cq ((lg_cmp_ge _ _).mpr q))
      refine lv_lload_n hx hb dX5_gcd_20 rfl (lv_at hl 1 rfl) ?_
      refine lv_lneg hx hb dX5_gcd_21 ?_
      refine lv_goto (tgt := 26) hx hb dX5_gcd_22 (by decide) ?_
      exact L26 z0 (-p1) _ h (lv_sub hl [0] rfl)
  unfold wp_X5_gcd at h
  refine lv_lload_n hx hb dX5_gcd_0 rfl (lv_at hl 0 rfl) ?_
  refine lv_lconst (v := (0 : Int64)) hx hb dX5_gcd_1 (by decide) ?_
  refine W.lcmp hx hb dX5_gcd_2 ?_
  refine lv_if_ge (tgt := 11) hx hb dX5_gcd_3 (by decide) (fun cq => ?_) (fun cq => ?_)
  · have h := h.1 ((lg_cmp_ge _ _).mp cq)
    refine lv_lload_n hx hb dX5_gcd_11 rfl (lv_at hl 0 rfl) ?_
    exact L12 p0 _ h (lv_sub hl [1] rfl)
  · have h := h.2 (fun q => cq ((lg_cmp_ge _ _).mpr q))
    refine lv_lload_n hx hb dX5_gcd_6 rfl (lv_at hl 0 rfl) ?_
    refine lv_lneg hx hb dX5_gcd_7 ?_
    refine lv_goto (tgt := 12) hx hb dX5_gcd_8 (by decide) ?_
    exact L12 (-p0) _ h (lv_sub hl [1] rfl)
set_option maxHeartbeats 4000000 in
set_option maxRecDepth 100000 in
theorem m_X5_in (l : Launch) (D : va_G) (k : Nat → ClassId)   (p0 : Int64) (p1 : Int64) (p2 : Int32) (Q : Int32 → Prop) (h : wp_X5_in p0 p1 p2 Q) : Met l yX5_in wsX5_in ({ frames := 0, cells := 0, slots := 0, locals := 0 }) (Pro D k [.long p0, .long p1, .int p2] (([] : va_W))) (vp_Si Q) 0 0 (fun _ => False) := by
  refine Met.ofW (cc := cX5_in) (maxL := 5) (ret := (some .boolean)) (by decide) rfl ?_
  intro p e s m args below meth c s₁ B hml hv
  obtain ⟨hav, hP, hE⟩ := hv
  have hx := B.exec
  have hb := B.bytes
  have hr := B.returns
  have hts := atoms_spec (ws := wsX5_in) B.pre
  have hown : s.vm.findClass RX5 = some m.cls := findClass_of_methodNamed B.named
  have hlocks := B.notSynchronized
  have hK := hE.1
  have hl := lv_entry ([.long p0, .long p1, .int p2]) (n := 5) (Nat.le_of_ble_eq_true rfl)
  rw [show entryFrame m args 5 = entryFrame m ([.long p0, .long p1, .int p2] : List Value).toArray 5 by rw [hav]]
  rw [lg_entry_eq]
  refine W.gq (fun GQ hGQ => ?_)
  generalize (lg_sl ([.long p0, .long p1, .int p2]) ++ List.replicate (5 - (lg_sl ([.long p0, .long p1, .int p2])).length) Slot.unset).toArray = ls at hl ⊢
  have hl : lv_has ls 5 [(0, .long p0), (2, .long p1), (4, .int p2)] := hl
  have L45 : ∀ (z0 : Int32) (ls : Array Slot), wp_X5_in_L45 p0 p1 p2 Q  z0 → lv_has ls 5 [] → W p l e (headSpec wsX5_in ({ frames := 0, cells := 0, slots := 0, locals := 0 })).room s m args below meth c s.heap [] 0 0 GQ (F0 m 45 ls [.int z0]) := by
    intro z0 ls h hl
    unfold wp_X5_in_L45 at h
    obtain ⟨hnr, h⟩ := h
    rw [hGQ]
    exact W.zret (v := z0) hx hb hr hnr (fun t ht hW => ⟨_, rfl, h, ht⟩) (fun _ h => by cases h) dX5_in_45
  unfold wp_X5_in at h
  refine lv_iload hx hb dX5_in_0 (lv_at hl 2 rfl) ?_
  refine lv_bipush (v := (64 : Int32)) hx hb dX5_in_2 (by decide) ?_
  refine lv_icmp_ge (tgt := 26) hx hb dX5_in_4 (by decide) (fun cq => ?_) (fun cq => ?_)
  · have h := h.1 cq
    refine lv_lload_n hx hb dX5_in_26 rfl (lv_at hl 1 rfl) ?_
    refine lv_iload hx hb dX5_in_27 (lv_at hl 2 rfl) ?_
    refine lv_bipush (v := (64 : Int32)) hx hb dX5_in_29 (by decide) ?_
    refine lv_isub hx hb dX5_in_31 ?_
    refine lv_lshr hx hb dX5_in_32 rfl ?_
    refine lv_lconst (v := (1 : Int64)) hx hb dX5_in_33 (by decide) ?_
    refine lv_land hx hb dX5_in_34 ?_
    refine lv_lconst (v := (1 : Int64)) hx hb dX5_in_35 (by decide) ?_
    refine W.lcmp hx hb dX5_in_36 ?_
    refine lv_if_ne (tgt := 44) hx hb dX5_in_37 (by decide) (fun cq => ?_) (fun cq => ?_)
    · have h := h.1 (fun q => cq ((lg_cmp_eq _ _).mpr q))
      refine lv_iconst (v := (0 : Int32)) hx hb dX5_in_44 (by decide) ?_
      exact L45 (0 : Int32) _ h (lv_sub hl [] rfl)
    · have h := h.2 ((lg_cmp_eq _ _).mp cq)
      refine lv_iconst (v := (1 : Int32)) hx hb dX5_in_40 (by decide) ?_
      refine lv_goto (tgt := 45) hx hb dX5_in_41 (by decide) ?_
      exact L45 (1 : Int32) _ h (lv_sub hl [] rfl)
  · have h := h.2 cq
    refine lv_lload_n hx hb dX5_in_7 rfl (lv_at hl 0 rfl) ?_
    refine lv_iload hx hb dX5_in_8 (lv_at hl 2 rfl) ?_
    refine lv_lshr hx hb dX5_in_10 rfl ?_
    refine lv_lconst (v := (1 : Int64)) hx hb dX5_in_11 (by decide) ?_
    refine lv_land hx hb dX5_in_12 ?_
    refine lv_lconst (v := (1 : Int64)) hx hb dX5_in_13 (by decide) ?_
    refine W.lcmp hx hb dX5_in_14 ?_
    refine lv_if_ne (tgt := 22) hx hb dX5_in_15 (by decide) (fun cq => ?_) (fun cq => ?_)
    · have h := h.1 (fun q => cq ((lg_cmp_eq _ _).mpr q))
      refine lv_iconst (v := (0 : Int32)) hx hb dX5_in_22 (by decide) ?_
      refine lv_goto (tgt := 45) hx hb dX5_in_23 (by decide) ?_
      exact L45 (0 : Int32) _ h (lv_sub hl [] rfl)
    · have h := h.2 ((lg_cmp_eq _ _).mp cq)
      refine lv_iconst (v := (1 : Int32)) hx hb dX5_in_18 (by decide) ?_
      refine lv_goto (tgt := 45) hx hb dX5_in_19 (by decide) ?_
      exact L45 (1 : Int32) _ h (lv_sub hl [] rfl)
set_option maxHeartbeats 4000000 in
set_option maxRecDepth 100000 in
theorem m_X5_inside (l : Launch) (D : va_G) (k : Nat → ClassId)   (p0 : Int32) (p1 : Int32) (p2 : Int32) (Q : Int32 → Prop) (h : wp_X5_inside p0 p1 p2 Q) : Met l yX5_inside wsX5_inside ({ frames := 0, cells := 0, slots := 0, locals := 0 }) (Pro D k [.int p0, .int p1, .int p2] (([] : va_W))) (vp_Si Q) 0 0 (fun _ => False) := by
  refine Met.ofW (cc := cX5_inside) (maxL := 3) (ret := (some .boolean)) (by decide) rfl ?_
  intro p e s m args below meth c s₁ B hml hv
  obtain ⟨hav, hP, hE⟩ := hv
  have hx := B.exec
  have hb := B.bytes
  have hr := B.returns
  have hts := atoms_spec (ws := wsX5_inside) B.pre
  have hown : s.vm.findClass RX5 = some m.cls := findClass_of_methodNamed B.named
  have hlocks := B.notSynchronized
  have hK := hE.1
  have hl := lv_entry ([.int p0, .int p1, .int p2]) (n := 3) (Nat.le_of_ble_eq_true rfl)
  rw [show entryFrame m args 3 = entryFrame m ([.int p0, .int p1, .int p2] : List Value).toArray 3 by rw [hav]]
  rw [lg_entry_eq]
  refine W.gq (fun GQ hGQ => ?_)
  generalize (lg_sl ([.int p0, .int p1, .int p2]) ++ List.replicate (3 - (lg_sl ([.int p0, .int p1, .int p2])).length) Slot.unset).toArray = ls at hl ⊢
  have hl : lv_has ls 3 [(0, .int p0), (1, .int p1), (2, .int p2)] := hl
  have L72 : ∀ (z0 : Int32) (ls : Array Slot), wp_X5_inside_L72 p0 p1 p2 Q  z0 → lv_has ls 3 [] → W p l e (headSpec wsX5_inside ({ frames := 0, cells := 0, slots := 0, locals := 0 })).room s m args below meth c s.heap [] 0 0 GQ (F0 m 72 ls [.int z0]) := by
    intro z0 ls h hl
    unfold wp_X5_inside_L72 at h
    obtain ⟨hnr, h⟩ := h
    rw [hGQ]
    exact W.zret (v := z0) hx hb hr hnr (fun t ht hW => ⟨_, rfl, h, ht⟩) (fun _ h => by cases h) dX5_inside_72
  have L12 : ∀  (ls : Array Slot), wp_X5_inside_L12 p0 p1 p2 Q   → lv_has ls 3 [] → W p l e (headSpec wsX5_inside ({ frames := 0, cells := 0, slots := 0, locals := 0 })).room s m args below meth c s.heap [] 0 0 GQ (F0 m 12 ls []) := by
    intro  ls h hl
    unfold wp_X5_inside_L12 at h
    refine lv_iconst (v := (1 : Int32)) hx hb dX5_inside_12 (by decide) ?_
    refine lv_goto (tgt := 72) hx hb dX5_inside_13 (by decide) ?_
    exact L72 (1 : Int32) _ h (lv_sub hl [] rfl)
  have L37 : ∀  (ls : Array Slot), wp_X5_inside_L37 p0 p1 p2 Q   → lv_has ls 3 [] → W p l e (headSpec wsX5_inside ({ frames := 0, cells := 0, slots := 0, locals := 0 })).room s m args below meth c s.heap [] 0 0 GQ (F0 m 37 ls []) := by
    intro  ls h hl
    unfold wp_X5_inside_L37 at h
    refine lv_iconst (v := (0 : Int32)) hx hb dX5_inside_37 (by decide) ?_
    refine lv_goto (tgt := 72) hx hb dX5_inside_38 (by decide) ?_
    exact L72 (0 : Int32) _ h (lv_sub hl [] rfl)
  have L58 : ∀  (ls : Array Slot), wp_X5_inside_L58 p0 p1 p2 Q   → lv_has ls 3 [] → W p l e (headSpec wsX5_inside ({ frames := 0, cells := 0, slots := 0, locals := 0 })).room s m args below meth c s.heap [] 0 0 GQ (F0 m 58 ls []) := by
    intro  ls h hl
    unfold wp_X5_inside_L58 at h
    refine lv_iconst (v := (0 : Int32)) hx hb dX5_inside_58 (by decide) ?_
    refine lv_goto (tgt := 72) hx hb dX5_inside_59 (by decide) ?_
    exact L72 (0 : Int32) _ h (lv_sub hl [] rfl)
  unfold wp_X5_inside at h
  refine lv_iload_n hx hb dX5_inside_0 rfl (lv_at hl 0 rfl) ?_
  refine lv_if_ne (tgt := 20) hx hb dX5_inside_1 (by decide) (fun cq => ?_) (fun cq => ?_)
  · have h := h.1 cq
    refine lv_iload_n hx hb dX5_inside_20 rfl (lv_at hl 0 rfl) ?_
    refine lv_iconst (v := (1 : Int32)) hx hb dX5_inside_21 (by decide) ?_
    refine lv_icmp_ne (tgt := 41) hx hb dX5_inside_22 (by decide) (fun cq => ?_) (fun cq => ?_)
    · have h := h.1 cq
      refine lv_iload_n hx hb dX5_inside_41 rfl (lv_at hl 0 rfl) ?_
      refine lv_iconst (v := (2 : Int32)) hx hb dX5_inside_42 (by decide) ?_
      refine lv_icmp_ne (tgt := 62) hx hb dX5_inside_43 (by decide) (fun cq => ?_) (fun cq => ?_)
      · have h := h.1 cq
        refine lv_iload_n hx hb dX5_inside_62 rfl (lv_at hl 1 rfl) ?_
        refine lv_iload_n hx hb dX5_inside_63 rfl (lv_at hl 2 rfl) ?_
        refine lv_icmp_eq (tgt := 71) hx hb dX5_inside_64 (by decide) (fun cq => ?_) (fun cq => ?_)
        · have h := h.1 cq
          refine lv_iconst (v := (0 : Int32)) hx hb dX5_inside_71 (by decide) ?_
          exact L72 (0 : Int32) _ h (lv_sub hl [] rfl)
        · have h := h.2 cq
          refine lv_iconst (v := (1 : Int32)) hx hb dX5_inside_67 (by decide) ?_
          refine lv_goto (tgt := 72) hx hb dX5_inside_68 (by decide) ?_
          exact L72 (1 : Int32) _ h (lv_sub hl [] rfl)
      · have h := h.2 cq
        refine lv_iload_n hx hb dX5_inside_46 rfl (lv_at hl 1 rfl) ?_
        refine lv_if_eq (tgt := 58) hx hb dX5_inside_47 (by decide) (fun cq => ?_) (fun cq => ?_)
        · have h := h.1 cq
          exact L58  _ h (lv_sub hl [] rfl)
        · have h := h.2 cq
          refine lv_iload_n hx hb dX5_inside_50 rfl (lv_at hl 2 rfl) ?_
          refine lv_if_ne (tgt := 58) hx hb dX5_inside_51 (by decide) (fun cq => ?_) (fun cq => ?_)
          · have h := h.1 cq
            exact L58  _ h (lv_sub hl [] rfl)
          · have h := h.2 cq
            refine lv_iconst (v := (1 : Int32)) hx hb dX5_inside_54 (by decide) ?_
            refine lv_goto (tgt := 72) hx hb dX5_inside_55 (by decide) ?_
            exact L72 (1 : Int32) _ h (lv_sub hl [] rfl)
    · have h := h.2 cq
      refine lv_iload_n hx hb dX5_inside_25 rfl (lv_at hl 1 rfl) ?_
      refine lv_if_eq (tgt := 37) hx hb dX5_inside_26 (by decide) (fun cq => ?_) (fun cq => ?_)
      · have h := h.1 cq
        exact L37  _ h (lv_sub hl [] rfl)
      · have h := h.2 cq
        refine lv_iload_n hx hb dX5_inside_29 rfl (lv_at hl 2 rfl) ?_
        refine lv_if_eq (tgt := 37) hx hb dX5_inside_30 (by decide) (fun cq => ?_) (fun cq => ?_)
        · have h := h.1 cq
          exact L37  _ h (lv_sub hl [] rfl)
        · have h := h.2 cq
          refine lv_iconst (v := (1 : Int32)) hx hb dX5_inside_33 (by decide) ?_
          refine lv_goto (tgt := 72) hx hb dX5_inside_34 (by decide) ?_
          exact L72 (1 : Int32) _ h (lv_sub hl [] rfl)
  · have h := h.2 cq
    refine lv_iload_n hx hb dX5_inside_4 rfl (lv_at hl 1 rfl) ?_
    refine lv_if_ne (tgt := 12) hx hb dX5_inside_5 (by decide) (fun cq => ?_) (fun cq => ?_)
    · have h := h.1 cq
      exact L12  _ h (lv_sub hl [] rfl)
    · have h := h.2 cq
      refine lv_iload_n hx hb dX5_inside_8 rfl (lv_at hl 2 rfl) ?_
      refine lv_if_eq (tgt := 16) hx hb dX5_inside_9 (by decide) (fun cq => ?_) (fun cq => ?_)
      · have h := h.1 cq
        refine lv_iconst (v := (0 : Int32)) hx hb dX5_inside_16 (by decide) ?_
        refine lv_goto (tgt := 72) hx hb dX5_inside_17 (by decide) ?_
        exact L72 (0 : Int32) _ h (lv_sub hl [] rfl)
      · have h := h.2 cq
        exact L12  _ h (lv_sub hl [] rfl)
set_option maxHeartbeats 4000000 in
set_option maxRecDepth 100000 in
theorem m_X5_thrown (l : Launch) (D : va_G) (k : Nat → ClassId) (aR : Nat → Nat) (rF : Int32) (rS : Nat → Int32) (rVx : Nat → Int32) (rVy : Nat → Int32) (rMd : Int32) (rE : Int32) (rAx : Nat → Int32) (rAy : Nat → Int32) (rBx : Nat → Int32) (rBy : Nat → Int32) (rO : Nat → Int32) (rP : Int32) (rPx : Nat → Int32) (rPy : Nat → Int32) (rPd : Nat → Int32) (rQ : Int32) (rFi : Nat → Int32) (rLa : Nat → Int32) (rOn : Nat → Int32) (rLe : Nat → Int32) (rRi : Nat → Int32) (rHx : Int64) (rHy : Int64) (rHd : Int64) (rKx : Int64) (rKy : Int64) (rKd : Int64)  (Q : Int32 → Prop) (h : wp_X5_thrown rF Q) : Met l yX5_thrown wsX5_thrown ({ frames := 0, cells := 0, slots := 0, locals := 0 }) (Pro D k [.ref (aR 0)] (wR k aR rF rS rVx rVy rMd rE rAx rAy rBx rBy rO rP rPx rPy rPd rQ rFi rLa rOn rLe rRi rHx rHy rHd rKx rKy rKd)) (vp_Si Q) 0 0 (fun _ => False) := by
  refine Met.ofW (cc := cX5_thrown) (maxL := 1) (ret := (some .int)) (by decide) rfl ?_
  intro p e s m args below meth c s₁ B hml hv
  obtain ⟨hav, hP, hE⟩ := hv
  have hx := B.exec
  have hb := B.bytes
  have hr := B.returns
  have hts := atoms_spec (ws := wsX5_thrown) B.pre
  have hown : s.vm.findClass RX5 = some m.cls := findClass_of_methodNamed B.named
  have hlocks := B.notSynchronized
  have hK := hE.1
  have hl := lv_entry ([.ref (aR 0)]) (n := 1) (Nat.le_of_ble_eq_true rfl)
  rw [show entryFrame m args 1 = entryFrame m ([.ref (aR 0)] : List Value).toArray 1 by rw [hav]]
  rw [lg_entry_eq]
  refine W.gq (fun GQ hGQ => ?_)
  generalize (lg_sl ([.ref (aR 0)]) ++ List.replicate (1 - (lg_sl ([.ref (aR 0)])).length) Slot.unset).toArray = ls at hl ⊢
  have hl : lv_has ls 1 [(0, .ref (aR 0))] := hl
  have hiX5 := (by decide +kernel : ∀ w ∈ wsX50, w ∈ wsX5_thrown)
  have f59 := hts (.fieldLink RX5 59 "PlaneOverlayModel" "fault" "I") (by decide +kernel)
  unfold wp_X5_thrown at h
  refine lv_aload_n hx hb dX5_thrown_0 rfl (lv_at hl 0 rfl) ?_
  refine va_get (D := D) (ci := 5) (v := .int rF) (C := RX5) (T := TX5) (N := 27) hx hb hts hiX5 hown hK hP 0 rfl rfl 0 (by decide) f59 (fun _ h9 => h9) rfl dX5_thrown_1 ?_
  rw [hGQ]
  exact W.iret (v := rF) hx hb hr (fun t ht hW => ⟨_, rfl, h, ht⟩) (fun _ h => by cases h) dX5_thrown_4
set_option maxHeartbeats 4000000 in
set_option maxRecDepth 100000 in
theorem m_X5_vertex (l : Launch) (D : va_G) (k : Nat → ClassId) (aR : Nat → Nat) (rF : Int32) (rS : Nat → Int32) (rVx : Nat → Int32) (rVy : Nat → Int32) (rMd : Int32) (rE : Int32) (rAx : Nat → Int32) (rAy : Nat → Int32) (rBx : Nat → Int32) (rBy : Nat → Int32) (rO : Nat → Int32) (rP : Int32) (rPx : Nat → Int32) (rPy : Nat → Int32) (rPd : Nat → Int32) (rQ : Int32) (rFi : Nat → Int32) (rLa : Nat → Int32) (rOn : Nat → Int32) (rLe : Nat → Int32) (rRi : Nat → Int32) (rHx : Int64) (rHy : Int64) (rHd : Int64) (rKx : Int64) (rKy : Int64) (rKd : Int64) (p0 : Int32) (p1 : Int32) (p2 : Int32) (Q : Int32 → (Int32) → (Nat → Int32) → (Nat → Int32) → (Nat → Int32) → Prop) (sz : Nat) (h : wp_X5_vertex p0 p1 p2 rF rS rVx rVy Q) : Met l yX5_vertex wsX5_vertex ({ frames := 1, cells := 0, slots := 0, locals := 20 }) (Prw D k [.ref (aR 0), .int p0, .int p1, .int p2] (wR k aR rF rS rVx rVy rMd rE rAx rAy rBx rBy rO rP rPx rPy rPd rQ rFi rLa rOn rLe rRi rHx rHy rHd rKx rKy rKd) sz) (va_Qi (fun (r : Int32) (u : (Int32) × (Nat → Int32) × (Nat → Int32) × (Nat → Int32)) => Q r u.1 u.2.1 u.2.2.1 u.2.2.2) (fun (u : (Int32) × (Nat → Int32) × (Nat → Int32) × (Nat → Int32)) t => va_P D vwCl (wR k aR (u.1) (u.2.1) (u.2.2.1) (u.2.2.2) rMd rE rAx rAy rBx rBy rO rP rPx rPy rPd rQ rFi rLa rOn rLe rRi rHx rHy rHd rKx rKy rKd) t.heap ∧ va_D (va_A (wR k aR rF rS rVx rVy rMd rE rAx rAy rBx rBy rO rP rPx rPy rPd rQ rFi rLa rOn rLe rRi rHx rHy rHd rKx rKy rKd) sz) (wR k aR (u.1) (u.2.1) (u.2.2.1) (u.2.2.2) rMd rE rAx rAy rBx rBy rO rP rPx rPy rPd rQ rFi rLa rOn rLe rRi rHx rHy rHd rKx rKy rKd)) (va_A (wR k aR rF rS rVx rVy rMd rE rAx rAy rBx rBy rO rP rPx rPy rPd rQ rFi rLa rOn rLe rRi rHx rHy rHd rKx rKy rKd) sz)) 0 0 (va_A (wR k aR rF rS rVx rVy rMd rE rAx rAy rBx rBy rO rP rPx rPy rPd rQ rFi rLa rOn rLe rRi rHx rHy rHd rKx rKy rKd) sz) := by
  refine Met.ofW (cc := cX5_vertex) (maxL := 5) (ret := (some .int)) (by decide) rfl ?_
  intro p e s m args below meth c s₁ B hml hv
  obtain ⟨hav, hsz, hP, hE, hD0⟩ := hv
  subst hsz
  have hx := B.exec
  have hb := B.bytes
  have hr := B.returns
  have hts := atoms_spec (ws := wsX5_vertex) B.pre
  have hown : s.vm.findClass RX5 = some m.cls := findClass_of_methodNamed B.named
  have hlocks := B.notSynchronized
  have hK := hE.1
  have hD := hD0.self (sz := s.heap.size)
  generalize hAe : va_A (wR k aR rF rS rVx rVy rMd rE rAx rAy rBx rBy rO rP rPx rPy rPd rQ rFi rLa rOn rLe rRi rHx rHy rHd rKx rKy rKd) s.heap.size = A at hD ⊢
  have hA : ∀ q : Nat, s.heap.size ≤ q → A q := fun q h => by rw [← hAe]; exact Or.inr h
  have hS : va_S A s.heap s.heap [] := va_S.rf
  have hl := lv_entry ([.ref (aR 0), .int p0, .int p1, .int p2]) (n := 5) (Nat.le_of_ble_eq_true rfl)
  rw [show entryFrame m args 5 = entryFrame m ([.ref (aR 0), .int p0, .int p1, .int p2] : List Value).toArray 5 by rw [hav]]
  rw [lg_entry_eq]
  refine W.gq (fun GQ hGQ => ?_)
  generalize (lg_sl ([.ref (aR 0), .int p0, .int p1, .int p2]) ++ List.replicate (5 - (lg_sl ([.ref (aR 0), .int p0, .int p1, .int p2])).length) Slot.unset).toArray = ls at hl ⊢
  have hl : lv_has ls 5 [(0, .ref (aR 0)), (1, .int p0), (2, .int p1), (3, .int p2)] := hl
  have hiX5 := (by decide +kernel : ∀ w ∈ wsX50, w ∈ wsX5_vertex)
  have f59 := hts (.fieldLink RX5 59 "PlaneOverlayModel" "fault" "I") (by decide +kernel)
  have f13 := hts (.fieldLink RX5 13 "PlaneOverlayModel" "vx" "[I") (by decide +kernel)
  have f7 := hts (.fieldLink RX5 7 "PlaneOverlayModel" "size" "[I") (by decide +kernel)
  have f16 := hts (.fieldLink RX5 16 "PlaneOverlayModel" "vy" "[I") (by decide +kernel)
  have L64 : ∀ (z0 : Int32) (rF : Int32) (rS : Nat → Int32) (rVx : Nat → Int32) (rVy : Nat → Int32) (H : Heap) (locs : List Loc) (ls : Array Slot), wp_X5_vertex_L64 p0 p1 p2 Q  z0 rF rS rVx rVy → va_P D vwCl (wR k aR rF rS rVx rVy rMd rE rAx rAy rBx rBy rO rP rPx rPy rPd rQ rFi rLa rOn rLe rRi rHx rHy rHd rKx rKy rKd) H → va_D A (wR k aR rF rS rVx rVy rMd rE rAx rAy rBx rBy rO rP rPx rPy rPd rQ rFi rLa rOn rLe rRi rHx rHy rHd rKx rKy rKd) → va_S A s.heap H locs → lv_has ls 5 [(0, .ref (aR 0)), (1, .int p0), (2, .int p1), (3, .int p2)] → W p l e (headSpec wsX5_vertex ({ frames := 1, cells := 0, slots := 0, locals := 20 })).room s m args below meth c H locs 0 0 GQ (F0 m 64 ls [.int z0, .ref (aR 0)]) := by
    intro z0 rF rS rVx rVy H locs ls h hP hD hS hl
    unfold wp_X5_vertex_L64 at h
    refine va_put (D := D) (ci := 5) (v := .int z0) (ty := .int) (C := RX5) (T := TX5) (N := 27) hx hb hts hiX5 tyX5 tyX5_ok nmX5 hown hK hP hD hS 0 rfl rfl 0 (by decide) f59 (fun _ h9 => h9) rfl (by decide +kernel) rfl rfl (Nat.le_of_ble_eq_true rfl) dX5_vertex_64 (fun H locs hP hD hS => ?_)
    have hP : va_P D vwCl (wR k aR z0 rS rVx rVy rMd rE rAx rAy rBx rBy rO rP rPx rPy rPd rQ rFi rLa rOn rLe rRi rHx rHy rHd rKx rKy rKd) H := hP
    have hD : va_D A (wR k aR z0 rS rVx rVy rMd rE rAx rAy rBx rBy rO rP rPx rPy rPd rQ rFi rLa rOn rLe rRi rHx rHy rHd rKx rKy rKd) := hD
    refine lv_aload_n hx hb dX5_vertex_67 rfl (lv_at hl 0 rfl) ?_
    refine va_get (D := D) (ci := 5) (v := .int z0) (C := RX5) (T := TX5) (N := 27) hx hb hts hiX5 hown hK hP 0 rfl rfl 0 (by decide) f59 (fun _ h9 => h9) rfl dX5_vertex_68 ?_
    refine lv_if_le (tgt := 76) hx hb dX5_vertex_71 (by decide) (fun cq => ?_) (fun cq => ?_)
    · have h := h.1 cq
      refine lv_aload_n hx hb dX5_vertex_76 rfl (lv_at hl 0 rfl) ?_
      refine va_get (D := D) (ci := 5) (v := .ref (aR 2)) (C := RX5) (T := TX5) (N := 27) hx hb hts hiX5 hown hK hP 0 rfl rfl 2 (by decide) f13 (fun _ h9 => h9) rfl dX5_vertex_77 ?_
      refine lv_bipush (v := (6 : Int32)) hx hb dX5_vertex_80 (by decide) ?_
      refine lv_iload_n hx hb dX5_vertex_82 rfl (lv_at hl 1 rfl) ?_
      refine lv_imul hx hb dX5_vertex_83 ?_
      refine lv_aload_n hx hb dX5_vertex_84 rfl (lv_at hl 0 rfl) ?_
      refine va_get (D := D) (ci := 5) (v := .ref (aR 1)) (C := RX5) (T := TX5) (N := 27) hx hb hts hiX5 hown hK hP 0 rfl rfl 1 (by decide) f7 (fun _ h9 => h9) rfl dX5_vertex_85 ?_
      refine lv_iload_n hx hb dX5_vertex_88 rfl (lv_at hl 1 rfl) ?_
      obtain ⟨hin, h⟩ := h
      refine va_iald hx hb hK hP 1 0 rfl rfl hin dX5_vertex_89 ?_
      refine lv_iadd hx hb dX5_vertex_90 ?_
      refine lv_iload_n hx hb dX5_vertex_91 rfl (lv_at hl 2 rfl) ?_
      obtain ⟨hin, h⟩ := h
      obtain ⟨y92, ey92⟩ : ∃ z : Nat → Int32, z = upd rVx (((6 : Int32) * p0) + (rS p0.toNatClampNeg)).toNatClampNeg p1 := ⟨_, rfl⟩
      have h := h y92 ey92
      refine va_iast hx hb hK hP hD hS 2 0 rfl rfl hin dX5_vertex_92 (fun H locs hP hD hS => ?_)
      rw [← ey92] at hP hD
      have hP : va_P D vwCl (wR k aR z0 rS y92 rVy rMd rE rAx rAy rBx rBy rO rP rPx rPy rPd rQ rFi rLa rOn rLe rRi rHx rHy rHd rKx rKy rKd) H := hP
      have hD : va_D A (wR k aR z0 rS y92 rVy rMd rE rAx rAy rBx rBy rO rP rPx rPy rPd rQ rFi rLa rOn rLe rRi rHx rHy rHd rKx rKy rKd) := hD
      refine lv_aload_n hx hb dX5_vertex_93 rfl (lv_at hl 0 rfl) ?_
      refine va_get (D := D) (ci := 5) (v := .ref (aR 3)) (C := RX5) (T := TX5) (N := 27) hx hb hts hiX5 hown hK hP 0 rfl rfl 3 (by decide) f16 (fun _ h9 => h9) rfl dX5_vertex_94 ?_
      refine lv_bipush (v := (6 : Int32)) hx hb dX5_vertex_97 (by decide) ?_
      refine lv_iload_n hx hb dX5_vertex_99 rfl (lv_at hl 1 rfl) ?_
      refine lv_imul hx hb dX5_vertex_100 ?_
      refine lv_aload_n hx hb dX5_vertex_101 rfl (lv_at hl 0 rfl) ?_
      refine va_get (D := D) (ci := 5) (v := .ref (aR 1)) (C := RX5) (T := TX5) (N := 27) hx hb hts hiX5 hown hK hP 0 rfl rfl 1 (by decide) f7 (fun _ h9 => h9) rfl dX5_vertex_102 ?_
      refine lv_iload_n hx hb dX5_vertex_105 rfl (lv_at hl 1 rfl) ?_
      obtain ⟨hin, h⟩ := h
      refine va_iald hx hb hK hP 1 0 rfl rfl hin dX5_vertex_106 ?_
      refine lv_iadd hx hb dX5_vertex_107 ?_
      refine lv_iload_n hx hb dX5_vertex_108 rfl (lv_at hl 3 rfl) ?_
      obtain ⟨hin, h⟩ := h
      obtain ⟨y109, ey109⟩ : ∃ z : Nat → Int32, z = upd rVy (((6 : Int32) * p0) + (rS p0.toNatClampNeg)).toNatClampNeg p2 := ⟨_, rfl⟩
      have h := h y109 ey109
      refine va_iast hx hb hK hP hD hS 3 0 rfl rfl hin dX5_vertex_109 (fun H locs hP hD hS => ?_)
      rw [← ey109] at hP hD
      have hP : va_P D vwCl (wR k aR z0 rS y92 y109 rMd rE rAx rAy rBx rBy rO rP rPx rPy rPd rQ rFi rLa rOn rLe rRi rHx rHy rHd rKx rKy rKd) H := hP
      have hD : va_D A (wR k aR z0 rS y92 y109 rMd rE rAx rAy rBx rBy rO rP rPx rPy rPd rQ rFi rLa rOn rLe rRi rHx rHy rHd rKx rKy rKd) := hD
      refine lv_aload_n hx hb dX5_vertex_110 rfl (lv_at hl 0 rfl) ?_
      refine va_get (D := D) (ci := 5) (v := .ref (aR 1)) (C := RX5) (T := TX5) (N := 27) hx hb hts hiX5 hown hK hP 0 rfl rfl 1 (by decide) f7 (fun _ h9 => h9) rfl dX5_vertex_111 ?_
      refine lv_iload_n hx hb dX5_vertex_114 rfl (lv_at hl 1 rfl) ?_
      refine lv_dup2_11 hx hb dX5_vertex_115 rfl rfl ?_
      obtain ⟨hin, h⟩ := h
      refine va_iald hx hb hK hP 1 0 rfl rfl hin dX5_vertex_116 ?_
      refine lv_iconst (v := (1 : Int32)) hx hb dX5_vertex_117 (by decide) ?_
      refine lv_iadd hx hb dX5_vertex_118 ?_
      obtain ⟨hin, h⟩ := h
      obtain ⟨y119, ey119⟩ : ∃ z : Nat → Int32, z = upd rS p0.toNatClampNeg ((rS p0.toNatClampNeg) + (1 : Int32)) := ⟨_, rfl⟩
      have h := h y119 ey119
      refine va_iast hx hb hK hP hD hS 1 0 rfl rfl hin dX5_vertex_119 (fun H locs hP hD hS => ?_)
      rw [← ey119] at hP hD
      have hP : va_P D vwCl (wR k aR z0 y119 y92 y109 rMd rE rAx rAy rBx rBy rO rP rPx rPy rPd rQ rFi rLa rOn rLe rRi rHx rHy rHd rKx rKy rKd) H := hP
      have hD : va_D A (wR k aR z0 y119 y92 y109 rMd rE rAx rAy rBx rBy rO rP rPx rPy rPd rQ rFi rLa rOn rLe rRi rHx rHy rHd rKx rKy rKd) := hD
      refine lv_aload_n hx hb dX5_vertex_120 rfl (lv_at hl 0 rfl) ?_
      refine va_get (D := D) (ci := 5) (v := .ref (aR 1)) (C := RX5) (T := TX5) (N := 27) hx hb hts hiX5 hown hK hP 0 rfl rfl 1 (by decide) f7 (fun _ h9 => h9) rfl dX5_vertex_121 ?_
      refine lv_iload_n hx hb dX5_vertex_124 rfl (lv_at hl 1 rfl) ?_
      obtain ⟨hin, h⟩ := h
      refine va_iald hx hb hK hP 1 0 rfl rfl hin dX5_vertex_125 ?_
      rw [hGQ]
      exact W.iret (v := (y119 p0.toNatClampNeg)) hx hb hr (fun t ht hW => ⟨⟨_, (z0, y119, y92, y109), rfl, h, by rw [ht]; exact hP, hD⟩, hS.F ht⟩) hS.2.2 dX5_vertex_126
    · have h := h.2 cq
      refine lv_iconst (v := (0 : Int32)) hx hb dX5_vertex_74 (by decide) ?_
      rw [hGQ]
      exact W.iret (v := (0 : Int32)) hx hb hr (fun t ht hW => ⟨⟨_, (z0, rS, rVx, rVy), rfl, h, by rw [ht]; exact hP, hD⟩, hS.F ht⟩) hS.2.2 dX5_vertex_75
  have L36 : ∀ (z0 : Int32) (rF : Int32) (rS : Nat → Int32) (rVx : Nat → Int32) (rVy : Nat → Int32) (H : Heap) (locs : List Loc) (ls : Array Slot), wp_X5_vertex_L36 p0 p1 p2 Q  z0 rF rS rVx rVy → va_P D vwCl (wR k aR rF rS rVx rVy rMd rE rAx rAy rBx rBy rO rP rPx rPy rPd rQ rFi rLa rOn rLe rRi rHx rHy rHd rKx rKy rKd) H → va_D A (wR k aR rF rS rVx rVy rMd rE rAx rAy rBx rBy rO rP rPx rPy rPd rQ rFi rLa rOn rLe rRi rHx rHy rHd rKx rKy rKd) → va_S A s.heap H locs → lv_has ls 5 [(0, .ref (aR 0)), (1, .int p0), (2, .int p1), (3, .int p2)] → W p l e (headSpec wsX5_vertex ({ frames := 1, cells := 0, slots := 0, locals := 20 })).room s m args below meth c H locs 0 0 GQ (F0 m 36 ls [.int z0]) := by
    intro z0 rF rS rVx rVy H locs ls h hP hD hS hl
    unfold wp_X5_vertex_L36 at h
    refine lv_istore (lv' := [(4, .int z0), (0, .ref (aR 0)), (1, .int p0), (2, .int p1), (3, .int p2)]) hx hb dX5_vertex_36 hl (by decide) rfl (fun ls hl => ?_)
    refine lv_aload_n hx hb dX5_vertex_38 rfl (lv_at hl 1 rfl) ?_
    refine lv_iload hx hb dX5_vertex_39 (lv_at hl 0 rfl) ?_
    refine lv_if_ne (tgt := 48) hx hb dX5_vertex_41 (by decide) (fun cq => ?_) (fun cq => ?_)
    · have h := h.1 cq
      refine lv_aload_n hx hb dX5_vertex_48 rfl (lv_at hl 1 rfl) ?_
      refine va_get (D := D) (ci := 5) (v := .ref (aR 1)) (C := RX5) (T := TX5) (N := 27) hx hb hts hiX5 hown hK hP 0 rfl rfl 1 (by decide) f7 (fun _ h9 => h9) rfl dX5_vertex_49 ?_
      refine lv_iload_n hx hb dX5_vertex_52 rfl (lv_at hl 2 rfl) ?_
      obtain ⟨hin, h⟩ := h
      refine va_iald hx hb hK hP 1 0 rfl rfl hin dX5_vertex_53 ?_
      refine lv_bipush (v := (6 : Int32)) hx hb dX5_vertex_54 (by decide) ?_
      refine lv_icmp_ne (tgt := 63) hx hb dX5_vertex_56 (by decide) (fun cq => ?_) (fun cq => ?_)
      · have h := h.1 cq
        refine lv_iconst (v := (0 : Int32)) hx hb dX5_vertex_63 (by decide) ?_
        exact L64 (0 : Int32) rF rS rVx rVy _ _ _ h hP hD hS (lv_sub hl [1, 2, 3, 4] rfl)
      · have h := h.2 cq
        refine lv_iconst (v := (2 : Int32)) hx hb dX5_vertex_59 (by decide) ?_
        refine lv_goto (tgt := 64) hx hb dX5_vertex_60 (by decide) ?_
        exact L64 (2 : Int32) rF rS rVx rVy _ _ _ h hP hD hS (lv_sub hl [1, 2, 3, 4] rfl)
    · have h := h.2 cq
      refine lv_iconst (v := (1 : Int32)) hx hb dX5_vertex_44 (by decide) ?_
      refine lv_goto (tgt := 64) hx hb dX5_vertex_45 (by decide) ?_
      exact L64 (1 : Int32) rF rS rVx rVy _ _ _ h hP hD hS (lv_sub hl [1, 2, 3, 4] rfl)
  have L35 : ∀ (rF : Int32) (rS : Nat → Int32) (rVx : Nat → Int32) (rVy : Nat → Int32) (H : Heap) (locs : List Loc) (ls : Array Slot), wp_X5_vertex_L35 p0 p1 p2 Q  rF rS rVx rVy → va_P D vwCl (wR k aR rF rS rVx rVy rMd rE rAx rAy rBx rBy rO rP rPx rPy rPd rQ rFi rLa rOn rLe rRi rHx rHy rHd rKx rKy rKd) H → va_D A (wR k aR rF rS rVx rVy rMd rE rAx rAy rBx rBy rO rP rPx rPy rPd rQ rFi rLa rOn rLe rRi rHx rHy rHd rKx rKy rKd) → va_S A s.heap H locs → lv_has ls 5 [(0, .ref (aR 0)), (1, .int p0), (2, .int p1), (3, .int p2)] → W p l e (headSpec wsX5_vertex ({ frames := 1, cells := 0, slots := 0, locals := 20 })).room s m args below meth c H locs 0 0 GQ (F0 m 35 ls []) := by
    intro rF rS rVx rVy H locs ls h hP hD hS hl
    unfold wp_X5_vertex_L35 at h
    refine lv_iconst (v := (0 : Int32)) hx hb dX5_vertex_35 (by decide) ?_
    exact L36 (0 : Int32) rF rS rVx rVy _ _ _ h hP hD hS (lv_sub hl [0, 1, 2, 3] rfl)
  unfold wp_X5_vertex at h
  refine lv_iload_n hx hb dX5_vertex_0 rfl (lv_at hl 1 rfl) ?_
  refine vp_callSi (W.runS (As := [.int p0]) (rest := []) ⟨hx, hb, hml, hown, hts⟩ (m_X5_isPolygon l D k   p0 _ h) (va_cwS 1 hts gX5_vertex_X5_isPolygon rfl rfl rfl (by decide +kernel) ⟨Nat.le_of_ble_eq_true rfl, Nat.le_of_ble_eq_true rfl⟩) (preS_ro hE vaP0) rfl rfl hl.1 rfl (lv_room (Nat.le_of_ble_eq_true rfl)) dX5_vertex_1 ⟨Nat.le_of_ble_eq_true rfl, Nat.le_of_ble_eq_true rfl⟩) (fun r1 h => ?_)
  refine lv_if_eq (tgt := 35) hx hb dX5_vertex_4 (by decide) (fun cq => ?_) (fun cq => ?_)
  · have h := h.1 cq
    exact L35 rF rS rVx rVy _ _ _ h hP hD hS (lv_sub hl [0, 1, 2, 3] rfl)
  · have h := h.2 cq
    refine lv_iload_n hx hb dX5_vertex_7 rfl (lv_at hl 2 rfl) ?_
    refine lv_bipush (v := (-30 : Int32)) hx hb dX5_vertex_8 (by decide) ?_
    refine lv_icmp_lt (tgt := 35) hx hb dX5_vertex_10 (by decide) (fun cq => ?_) (fun cq => ?_)
    · have h := h.1 cq
      exact L35 rF rS rVx rVy _ _ _ h hP hD hS (lv_sub hl [0, 1, 2, 3] rfl)
    · have h := h.2 cq
      refine lv_iload_n hx hb dX5_vertex_13 rfl (lv_at hl 2 rfl) ?_
      refine lv_bipush (v := (30 : Int32)) hx hb dX5_vertex_14 (by decide) ?_
      refine lv_icmp_gt (tgt := 35) hx hb dX5_vertex_16 (by decide) (fun cq => ?_) (fun cq => ?_)
      · have h := h.1 cq
        exact L35 rF rS rVx rVy _ _ _ h hP hD hS (lv_sub hl [0, 1, 2, 3] rfl)
      · have h := h.2 cq
        refine lv_iload_n hx hb dX5_vertex_19 rfl (lv_at hl 3 rfl) ?_
        refine lv_bipush (v := (-30 : Int32)) hx hb dX5_vertex_20 (by decide) ?_
        refine lv_icmp_lt (tgt := 35) hx hb dX5_vertex_22 (by decide) (fun cq => ?_) (fun cq => ?_)
        · have h := h.1 cq
          exact L35 rF rS rVx rVy _ _ _ h hP hD hS (lv_sub hl [0, 1, 2, 3] rfl)
        · have h := h.2 cq
          refine lv_iload_n hx hb dX5_vertex_25 rfl (lv_at hl 3 rfl) ?_
          refine lv_bipush (v := (30 : Int32)) hx hb dX5_vertex_26 (by decide) ?_
          refine lv_icmp_gt (tgt := 35) hx hb dX5_vertex_28 (by decide) (fun cq => ?_) (fun cq => ?_)
          · have h := h.1 cq
            exact L35 rF rS rVx rVy _ _ _ h hP hD hS (lv_sub hl [0, 1, 2, 3] rfl)
          · have h := h.2 cq
            refine lv_iconst (v := (1 : Int32)) hx hb dX5_vertex_31 (by decide) ?_
            refine lv_goto (tgt := 36) hx hb dX5_vertex_32 (by decide) ?_
            exact L36 (1 : Int32) rF rS rVx rVy _ _ _ h hP hD hS (lv_sub hl [0, 1, 2, 3] rfl)
set_option maxHeartbeats 4000000 in
set_option maxRecDepth 100000 in
theorem m_X5_clear (l : Launch) (D : va_G) (k : Nat → ClassId) (aR : Nat → Nat) (rF : Int32) (rS : Nat → Int32) (rVx : Nat → Int32) (rVy : Nat → Int32) (rMd : Int32) (rE : Int32) (rAx : Nat → Int32) (rAy : Nat → Int32) (rBx : Nat → Int32) (rBy : Nat → Int32) (rO : Nat → Int32) (rP : Int32) (rPx : Nat → Int32) (rPy : Nat → Int32) (rPd : Nat → Int32) (rQ : Int32) (rFi : Nat → Int32) (rLa : Nat → Int32) (rOn : Nat → Int32) (rLe : Nat → Int32) (rRi : Nat → Int32) (rHx : Int64) (rHy : Int64) (rHd : Int64) (rKx : Int64) (rKy : Int64) (rKd : Int64) (p0 : Int32) (Q : Int32 → (Int32) → (Nat → Int32) → Prop) (sz : Nat) (h : wp_X5_clear p0 rF rS Q) : Met l yX5_clear wsX5_clear ({ frames := 1, cells := 0, slots := 0, locals := 20 }) (Prw D k [.ref (aR 0), .int p0] (wR k aR rF rS rVx rVy rMd rE rAx rAy rBx rBy rO rP rPx rPy rPd rQ rFi rLa rOn rLe rRi rHx rHy rHd rKx rKy rKd) sz) (va_Qi (fun (r : Int32) (u : (Int32) × (Nat → Int32)) => Q r u.1 u.2) (fun (u : (Int32) × (Nat → Int32)) t => va_P D vwCl (wR k aR (u.1) (u.2) rVx rVy rMd rE rAx rAy rBx rBy rO rP rPx rPy rPd rQ rFi rLa rOn rLe rRi rHx rHy rHd rKx rKy rKd) t.heap ∧ va_D (va_A (wR k aR rF rS rVx rVy rMd rE rAx rAy rBx rBy rO rP rPx rPy rPd rQ rFi rLa rOn rLe rRi rHx rHy rHd rKx rKy rKd) sz) (wR k aR (u.1) (u.2) rVx rVy rMd rE rAx rAy rBx rBy rO rP rPx rPy rPd rQ rFi rLa rOn rLe rRi rHx rHy rHd rKx rKy rKd)) (va_A (wR k aR rF rS rVx rVy rMd rE rAx rAy rBx rBy rO rP rPx rPy rPd rQ rFi rLa rOn rLe rRi rHx rHy rHd rKx rKy rKd) sz)) 0 0 (va_A (wR k aR rF rS rVx rVy rMd rE rAx rAy rBx rBy rO rP rPx rPy rPd rQ rFi rLa rOn rLe rRi rHx rHy rHd rKx rKy rKd) sz) := by
  refine Met.ofW (cc := cX5_clear) (maxL := 3) (ret := (some .int)) (by decide) rfl ?_
  intro p e s m args below meth c s₁ B hml hv
  obtain ⟨hav, hsz, hP, hE, hD0⟩ := hv
  subst hsz
  have hx := B.exec
  have hb := B.bytes
  have hr := B.returns
  have hts := atoms_spec (ws := wsX5_clear) B.pre
  have hown : s.vm.findClass RX5 = some m.cls := findClass_of_methodNamed B.named
  have hlocks := B.notSynchronized
  have hK := hE.1
  have hD := hD0.self (sz := s.heap.size)
  generalize hAe : va_A (wR k aR rF rS rVx rVy rMd rE rAx rAy rBx rBy rO rP rPx rPy rPd rQ rFi rLa rOn rLe rRi rHx rHy rHd rKx rKy rKd) s.heap.size = A at hD ⊢
  have hA : ∀ q : Nat, s.heap.size ≤ q → A q := fun q h => by rw [← hAe]; exact Or.inr h
  have hS : va_S A s.heap s.heap [] := va_S.rf
  have hl := lv_entry ([.ref (aR 0), .int p0]) (n := 3) (Nat.le_of_ble_eq_true rfl)
  rw [show entryFrame m args 3 = entryFrame m ([.ref (aR 0), .int p0] : List Value).toArray 3 by rw [hav]]
  rw [lg_entry_eq]
  refine W.gq (fun GQ hGQ => ?_)
  generalize (lg_sl ([.ref (aR 0), .int p0]) ++ List.replicate (3 - (lg_sl ([.ref (aR 0), .int p0])).length) Slot.unset).toArray = ls at hl ⊢
  have hl : lv_has ls 3 [(0, .ref (aR 0)), (1, .int p0)] := hl
  have hiX5 := (by decide +kernel : ∀ w ∈ wsX50, w ∈ wsX5_clear)
  have f59 := hts (.fieldLink RX5 59 "PlaneOverlayModel" "fault" "I") (by decide +kernel)
  have f7 := hts (.fieldLink RX5 7 "PlaneOverlayModel" "size" "[I") (by decide +kernel)
  have L13 : ∀ (z0 : Int32) (rF : Int32) (rS : Nat → Int32) (H : Heap) (locs : List Loc) (ls : Array Slot), wp_X5_clear_L13 p0 Q  z0 rF rS → va_P D vwCl (wR k aR rF rS rVx rVy rMd rE rAx rAy rBx rBy rO rP rPx rPy rPd rQ rFi rLa rOn rLe rRi rHx rHy rHd rKx rKy rKd) H → va_D A (wR k aR rF rS rVx rVy rMd rE rAx rAy rBx rBy rO rP rPx rPy rPd rQ rFi rLa rOn rLe rRi rHx rHy rHd rKx rKy rKd) → va_S A s.heap H locs → lv_has ls 3 [(0, .ref (aR 0)), (1, .int p0)] → W p l e (headSpec wsX5_clear ({ frames := 1, cells := 0, slots := 0, locals := 20 })).room s m args below meth c H locs 0 0 GQ (F0 m 13 ls [.int z0, .ref (aR 0)]) := by
    intro z0 rF rS H locs ls h hP hD hS hl
    unfold wp_X5_clear_L13 at h
    refine va_put (D := D) (ci := 5) (v := .int z0) (ty := .int) (C := RX5) (T := TX5) (N := 27) hx hb hts hiX5 tyX5 tyX5_ok nmX5 hown hK hP hD hS 0 rfl rfl 0 (by decide) f59 (fun _ h9 => h9) rfl (by decide +kernel) rfl rfl (Nat.le_of_ble_eq_true rfl) dX5_clear_13 (fun H locs hP hD hS => ?_)
    have hP : va_P D vwCl (wR k aR z0 rS rVx rVy rMd rE rAx rAy rBx rBy rO rP rPx rPy rPd rQ rFi rLa rOn rLe rRi rHx rHy rHd rKx rKy rKd) H := hP
    have hD : va_D A (wR k aR z0 rS rVx rVy rMd rE rAx rAy rBx rBy rO rP rPx rPy rPd rQ rFi rLa rOn rLe rRi rHx rHy rHd rKx rKy rKd) := hD
    refine lv_aload_n hx hb dX5_clear_16 rfl (lv_at hl 0 rfl) ?_
    refine va_get (D := D) (ci := 5) (v := .int z0) (C := RX5) (T := TX5) (N := 27) hx hb hts hiX5 hown hK hP 0 rfl rfl 0 (by decide) f59 (fun _ h9 => h9) rfl dX5_clear_17 ?_
    refine lv_if_le (tgt := 25) hx hb dX5_clear_20 (by decide) (fun cq => ?_) (fun cq => ?_)
    · have h := h.1 cq
      refine lv_aload_n hx hb dX5_clear_25 rfl (lv_at hl 0 rfl) ?_
      refine va_get (D := D) (ci := 5) (v := .ref (aR 1)) (C := RX5) (T := TX5) (N := 27) hx hb hts hiX5 hown hK hP 0 rfl rfl 1 (by decide) f7 (fun _ h9 => h9) rfl dX5_clear_26 ?_
      refine lv_iload_n hx hb dX5_clear_29 rfl (lv_at hl 1 rfl) ?_
      obtain ⟨hin, h⟩ := h
      refine va_iald hx hb hK hP 1 0 rfl rfl hin dX5_clear_30 ?_
      refine lv_topi (fun x31 ex31 => ?_)
      have h := h x31 ex31
      refine lv_istore_n (lv' := [(2, .int x31), (0, .ref (aR 0)), (1, .int p0)]) hx hb dX5_clear_31 rfl hl (by decide) rfl (fun ls hl => ?_)
      refine lv_aload_n hx hb dX5_clear_32 rfl (lv_at hl 1 rfl) ?_
      refine va_get (D := D) (ci := 5) (v := .ref (aR 1)) (C := RX5) (T := TX5) (N := 27) hx hb hts hiX5 hown hK hP 0 rfl rfl 1 (by decide) f7 (fun _ h9 => h9) rfl dX5_clear_33 ?_
      refine lv_iload_n hx hb dX5_clear_36 rfl (lv_at hl 2 rfl) ?_
      refine lv_iconst (v := (0 : Int32)) hx hb dX5_clear_37 (by decide) ?_
      obtain ⟨hin, h⟩ := h
      obtain ⟨y38, ey38⟩ : ∃ z : Nat → Int32, z = upd rS p0.toNatClampNeg (0 : Int32) := ⟨_, rfl⟩
      have h := h y38 ey38
      refine va_iast hx hb hK hP hD hS 1 0 rfl rfl hin dX5_clear_38 (fun H locs hP hD hS => ?_)
      rw [← ey38] at hP hD
      have hP : va_P D vwCl (wR k aR z0 y38 rVx rVy rMd rE rAx rAy rBx rBy rO rP rPx rPy rPd rQ rFi rLa rOn rLe rRi rHx rHy rHd rKx rKy rKd) H := hP
      have hD : va_D A (wR k aR z0 y38 rVx rVy rMd rE rAx rAy rBx rBy rO rP rPx rPy rPd rQ rFi rLa rOn rLe rRi rHx rHy rHd rKx rKy rKd) := hD
      refine lv_iload_n hx hb dX5_clear_39 rfl (lv_at hl 0 rfl) ?_
      rw [hGQ]
      exact W.iret (v := x31) hx hb hr (fun t ht hW => ⟨⟨_, (z0, y38), rfl, h, by rw [ht]; exact hP, hD⟩, hS.F ht⟩) hS.2.2 dX5_clear_40
    · have h := h.2 cq
      refine lv_iconst (v := (0 : Int32)) hx hb dX5_clear_23 (by decide) ?_
      rw [hGQ]
      exact W.iret (v := (0 : Int32)) hx hb hr (fun t ht hW => ⟨⟨_, (z0, rS), rfl, h, by rw [ht]; exact hP, hD⟩, hS.F ht⟩) hS.2.2 dX5_clear_24
  unfold wp_X5_clear at h
  refine lv_aload_n hx hb dX5_clear_0 rfl (lv_at hl 0 rfl) ?_
  refine lv_iload_n hx hb dX5_clear_1 rfl (lv_at hl 1 rfl) ?_
  refine vp_callSi (W.runS (As := [.int p0]) (rest := [.ref (aR 0)]) ⟨hx, hb, hml, hown, hts⟩ (m_X5_isPolygon l D k   p0 _ h) (va_cwS 1 hts gX5_clear_X5_isPolygon rfl rfl rfl (by decide +kernel) ⟨Nat.le_of_ble_eq_true rfl, Nat.le_of_ble_eq_true rfl⟩) (preS_ro hE vaP0) rfl rfl hl.1 rfl (lv_room (Nat.le_of_ble_eq_true rfl)) dX5_clear_2 ⟨Nat.le_of_ble_eq_true rfl, Nat.le_of_ble_eq_true rfl⟩) (fun r2 h => ?_)
  refine lv_if_eq (tgt := 12) hx hb dX5_clear_5 (by decide) (fun cq => ?_) (fun cq => ?_)
  · have h := h.1 cq
    refine lv_iconst (v := (1 : Int32)) hx hb dX5_clear_12 (by decide) ?_
    exact L13 (1 : Int32) rF rS _ _ _ h hP hD hS (lv_sub hl [0, 1] rfl)
  · have h := h.2 cq
    refine lv_iconst (v := (0 : Int32)) hx hb dX5_clear_8 (by decide) ?_
    refine lv_goto (tgt := 13) hx hb dX5_clear_9 (by decide) ?_
    exact L13 (0 : Int32) rF rS _ _ _ h hP hD hS (lv_sub hl [0, 1] rfl)
set_option maxHeartbeats 4000000 in
set_option maxRecDepth 100000 in
theorem m_X5_find (l : Launch) (D : va_G) (k : Nat → ClassId) (aR : Nat → Nat) (rF : Int32) (rS : Nat → Int32) (rVx : Nat → Int32) (rVy : Nat → Int32) (rMd : Int32) (rE : Int32) (rAx : Nat → Int32) (rAy : Nat → Int32) (rBx : Nat → Int32) (rBy : Nat → Int32) (rO : Nat → Int32) (rP : Int32) (rPx : Nat → Int32) (rPy : Nat → Int32) (rPd : Nat → Int32) (rQ : Int32) (rFi : Nat → Int32) (rLa : Nat → Int32) (rOn : Nat → Int32) (rLe : Nat → Int32) (rRi : Nat → Int32) (rHx : Int64) (rHy : Int64) (rHd : Int64) (rKx : Int64) (rKy : Int64) (rKd : Int64)  (Q : Int32 → Prop) (h : wp_X5_find rP rPx rPy rPd rHx rHy rHd Q) : Met l yX5_find wsX5_find ({ frames := 1, cells := 0, slots := 0, locals := 35 }) (Pro D k [.ref (aR 0)] (wR k aR rF rS rVx rVy rMd rE rAx rAy rBx rBy rO rP rPx rPy rPd rQ rFi rLa rOn rLe rRi rHx rHy rHd rKx rKy rKd)) (vp_Si Q) 0 0 (fun _ => False) := by
  refine Met.ofW (cc := cX5_find) (maxL := 3) (ret := (some .int)) (by decide) rfl ?_
  intro p e s m args below meth c s₁ B hml hv
  obtain ⟨hav, hP, hE⟩ := hv
  have hx := B.exec
  have hb := B.bytes
  have hr := B.returns
  have hts := atoms_spec (ws := wsX5_find) B.pre
  have hown : s.vm.findClass RX5 = some m.cls := findClass_of_methodNamed B.named
  have hlocks := B.notSynchronized
  have hK := hE.1
  have hl := lv_entry ([.ref (aR 0)]) (n := 3) (Nat.le_of_ble_eq_true rfl)
  rw [show entryFrame m args 3 = entryFrame m ([.ref (aR 0)] : List Value).toArray 3 by rw [hav]]
  rw [lg_entry_eq]
  refine W.gq (fun GQ hGQ => ?_)
  generalize (lg_sl ([.ref (aR 0)]) ++ List.replicate (3 - (lg_sl ([.ref (aR 0)])).length) Slot.unset).toArray = ls at hl ⊢
  have hl : lv_has ls 3 [(0, .ref (aR 0))] := hl
  have hiX5 := (by decide +kernel : ∀ w ∈ wsX50, w ∈ wsX5_find)
  have f67 := hts (.fieldLink RX5 67 "PlaneOverlayModel" "points" "I") (by decide +kernel)
  have f34 := hts (.fieldLink RX5 34 "PlaneOverlayModel" "px" "[I") (by decide +kernel)
  have f37 := hts (.fieldLink RX5 37 "PlaneOverlayModel" "py" "[I") (by decide +kernel)
  have f40 := hts (.fieldLink RX5 40 "PlaneOverlayModel" "pd" "[I") (by decide +kernel)
  have f70 := hts (.fieldLink RX5 70 "PlaneOverlayModel" "hx" "J") (by decide +kernel)
  have f74 := hts (.fieldLink RX5 74 "PlaneOverlayModel" "hy" "J") (by decide +kernel)
  have f77 := hts (.fieldLink RX5 77 "PlaneOverlayModel" "hd" "J") (by decide +kernel)
  have L62 : ∀ (z0 : Int32) (ls : Array Slot), wp_X5_find_L62 rP rPx rPy rPd rHx rHy rHd Q  z0 → lv_has ls 3 [] → W p l e (headSpec wsX5_find ({ frames := 1, cells := 0, slots := 0, locals := 35 })).room s m args below meth c s.heap [] 0 0 GQ (F0 m 62 ls [.int z0]) := by
    intro z0 ls h hl
    unfold wp_X5_find_L62 at h
    rw [hGQ]
    exact W.iret (v := z0) hx hb hr (fun t ht hW => ⟨_, rfl, h, ht⟩) (fun _ h => by cases h) dX5_find_62
  have L51 : ∀ (v1 : Int32) (v2 : Int32) (ls : Array Slot), wp_X5_find_L51 rP rPx rPy rPd rHx rHy rHd Q  v1 v2 → lv_has ls 3 [(1, .int v1), (2, .int v2)] → W p l e (headSpec wsX5_find ({ frames := 1, cells := 0, slots := 0, locals := 35 })).room s m args below meth c s.heap [] 0 0 GQ (F0 m 51 ls []) := by
    intro v1 v2 ls h hl
    unfold wp_X5_find_L51 at h
    refine lv_iload_n hx hb dX5_find_51 rfl (lv_at hl 1 rfl) ?_
    refine lv_if_ne (tgt := 59) hx hb dX5_find_52 (by decide) (fun cq => ?_) (fun cq => ?_)
    · have h := h.1 cq
      refine lv_iconst (v := (-1 : Int32)) hx hb dX5_find_59 (by decide) ?_
      refine lv_iload_n hx hb dX5_find_60 rfl (lv_at hl 0 rfl) ?_
      refine lv_isub hx hb dX5_find_61 ?_
      exact L62 ((-1 : Int32) - v1) _ h (lv_sub hl [] rfl)
    · have h := h.2 cq
      refine lv_iload_n hx hb dX5_find_55 rfl (lv_at hl 0 rfl) ?_
      refine lv_goto (tgt := 62) hx hb dX5_find_56 (by decide) ?_
      exact L62 v1 _ h (lv_sub hl [] rfl)
  have L2 : ∀ (n2 : Nat) (v1 : Int32) (ls : Array Slot), wp_X5_find_L2 rP rPx rPy rPd rHx rHy rHd Q (fun v1 v2 => (wp_X5_find_L51 rP rPx rPy rPd rHx rHy rHd Q  v1 v2)) n2 v1 → lv_has ls 3 [(0, .ref (aR 0)), (1, .int v1)] → W p l e (headSpec wsX5_find ({ frames := 1, cells := 0, slots := 0, locals := 35 })).room s m args below meth c s.heap [] 0 0 GQ (F0 m 2 ls []) := by
    intro n2
    induction n2 with
    | zero => intro v1 ls h hl; exact False.elim h
    | succ n2 ih2 =>
      intro v1 ls h hl
      rw [wp_X5_find_L2] at h
      refine lv_iload_n hx hb dX5_find_2 rfl (lv_at hl 1 rfl) ?_
      refine lv_aload_n hx hb dX5_find_3 rfl (lv_at hl 0 rfl) ?_
      refine va_get (D := D) (ci := 5) (v := .int rP) (C := RX5) (T := TX5) (N := 27) hx hb hts hiX5 hown hK hP 0 rfl rfl 11 (by decide) f67 (fun _ h9 => h9) rfl dX5_find_4 ?_
      refine lv_icmp_ge (tgt := 69) hx hb dX5_find_7 (by decide) (fun cq => ?_) (fun cq => ?_)
      · have h := h.1 cq
        refine lv_iconst (v := (-1 : Int32)) hx hb dX5_find_69 (by decide) ?_
        refine lv_aload_n hx hb dX5_find_70 rfl (lv_at hl 0 rfl) ?_
        refine va_get (D := D) (ci := 5) (v := .int rP) (C := RX5) (T := TX5) (N := 27) hx hb hts hiX5 hown hK hP 0 rfl rfl 11 (by decide) f67 (fun _ h9 => h9) rfl dX5_find_71 ?_
        refine lv_isub hx hb dX5_find_74 ?_
        rw [hGQ]
        exact W.iret (v := ((-1 : Int32) - rP)) hx hb hr (fun t ht hW => ⟨_, rfl, h, ht⟩) (fun _ h => by cases h) dX5_find_75
      · have h := h.2 cq
        refine lv_aload_n hx hb dX5_find_10 rfl (lv_at hl 0 rfl) ?_
        refine va_get (D := D) (ci := 5) (v := .ref (aR 9)) (C := RX5) (T := TX5) (N := 27) hx hb hts hiX5 hown hK hP 0 rfl rfl 12 (by decide) f34 (fun _ h9 => h9) rfl dX5_find_11 ?_
        refine lv_iload_n hx hb dX5_find_14 rfl (lv_at hl 1 rfl) ?_
        obtain ⟨hin, h⟩ := h
        refine va_iald hx hb hK hP 9 0 rfl rfl hin dX5_find_15 ?_
        refine lv_i2l hx hb dX5_find_16 rfl ?_
        refine lv_aload_n hx hb dX5_find_17 rfl (lv_at hl 0 rfl) ?_
        refine va_get (D := D) (ci := 5) (v := .ref (aR 10)) (C := RX5) (T := TX5) (N := 27) hx hb hts hiX5 hown hK hP 0 rfl rfl 13 (by decide) f37 (fun _ h9 => h9) rfl dX5_find_18 ?_
        refine lv_iload_n hx hb dX5_find_21 rfl (lv_at hl 1 rfl) ?_
        obtain ⟨hin, h⟩ := h
        refine va_iald hx hb hK hP 10 0 rfl rfl hin dX5_find_22 ?_
        refine lv_i2l hx hb dX5_find_23 rfl ?_
        refine lv_aload_n hx hb dX5_find_24 rfl (lv_at hl 0 rfl) ?_
        refine va_get (D := D) (ci := 5) (v := .ref (aR 11)) (C := RX5) (T := TX5) (N := 27) hx hb hts hiX5 hown hK hP 0 rfl rfl 14 (by decide) f40 (fun _ h9 => h9) rfl dX5_find_25 ?_
        refine lv_iload_n hx hb dX5_find_28 rfl (lv_at hl 1 rfl) ?_
        obtain ⟨hin, h⟩ := h
        refine va_iald hx hb hK hP 11 0 rfl rfl hin dX5_find_29 ?_
        refine lv_i2l hx hb dX5_find_30 rfl ?_
        refine lv_aload_n hx hb dX5_find_31 rfl (lv_at hl 0 rfl) ?_
        refine va_get (D := D) (ci := 5) (v := .long rHx) (C := RX5) (T := TX5) (N := 27) hx hb hts hiX5 hown hK hP 0 rfl rfl 21 (by decide) f70 (fun _ h9 => h9) rfl dX5_find_32 ?_
        refine lv_aload_n hx hb dX5_find_35 rfl (lv_at hl 0 rfl) ?_
        refine va_get (D := D) (ci := 5) (v := .long rHy) (C := RX5) (T := TX5) (N := 27) hx hb hts hiX5 hown hK hP 0 rfl rfl 22 (by decide) f74 (fun _ h9 => h9) rfl dX5_find_36 ?_
        refine lv_aload_n hx hb dX5_find_39 rfl (lv_at hl 0 rfl) ?_
        refine va_get (D := D) (ci := 5) (v := .long rHd) (C := RX5) (T := TX5) (N := 27) hx hb hts hiX5 hown hK hP 0 rfl rfl 23 (by decide) f77 (fun _ h9 => h9) rfl dX5_find_40 ?_
        refine vp_callSi (W.runS (As := [.long ((rPx v1.toNatClampNeg).toInt64), .long ((rPy v1.toNatClampNeg).toInt64), .long ((rPd v1.toNatClampNeg).toInt64), .long rHx, .long rHy, .long rHd]) (rest := []) ⟨hx, hb, hml, hown, hts⟩ (m_X5_order l D k   ((rPx v1.toNatClampNeg).toInt64) ((rPy v1.toNatClampNeg).toInt64) ((rPd v1.toNatClampNeg).toInt64) rHx rHy rHd _ h) (va_cwS 6 hts gX5_find_X5_order rfl rfl rfl (by decide +kernel) ⟨Nat.le_of_ble_eq_true rfl, Nat.le_of_ble_eq_true rfl⟩) (preS_ro hE vaP0) rfl rfl hl.1 rfl (lv_room (Nat.le_of_ble_eq_true rfl)) dX5_find_43 ⟨Nat.le_of_ble_eq_true rfl, Nat.le_of_ble_eq_true rfl⟩) (fun r43 h => ?_)
        refine lv_istore_n (lv' := [(2, .int r43), (0, .ref (aR 0)), (1, .int v1)]) hx hb dX5_find_46 rfl hl (by decide) rfl (fun ls hl => ?_)
        refine lv_iload_n hx hb dX5_find_47 rfl (lv_at hl 0 rfl) ?_
        refine lv_if_lt (tgt := 63) hx hb dX5_find_48 (by decide) (fun cq => ?_) (fun cq => ?_)
        · have h := h.1 cq
          refine lv_iinc (v := (v1 + 1)) (lv' := [(1, .int (v1 + 1)), (2, .int r43), (0, .ref (aR 0))]) hx hb dX5_find_63 hl (k := 2) rfl rfl (by decide) rfl (fun ls hl => ?_)
          refine lv_goto (tgt := 2) hx hb dX5_find_66 (by decide) ?_
          exact ih2 (v1 + 1) _ h (lv_sub hl [2, 0] rfl)
        · have h := h.2 cq
          exact L51 v1 r43 _ h (lv_sub hl [2, 0] rfl)
  unfold wp_X5_find at h
  refine lv_iconst (v := (0 : Int32)) hx hb dX5_find_0 (by decide) ?_
  refine lv_istore_n (lv' := [(1, .int (0 : Int32)), (0, .ref (aR 0))]) hx hb dX5_find_1 rfl hl (by decide) rfl (fun ls hl => ?_)
  obtain ⟨n9, h⟩ := h
  exact L2 n9 (0 : Int32) _ h (lv_sub hl [1, 0] rfl)
set_option maxHeartbeats 4000000 in
set_option maxRecDepth 100000 in
theorem m_X5_addPoint (l : Launch) (D : va_G) (k : Nat → ClassId) (aR : Nat → Nat) (rF : Int32) (rS : Nat → Int32) (rVx : Nat → Int32) (rVy : Nat → Int32) (rMd : Int32) (rE : Int32) (rAx : Nat → Int32) (rAy : Nat → Int32) (rBx : Nat → Int32) (rBy : Nat → Int32) (rO : Nat → Int32) (rP : Int32) (rPx : Nat → Int32) (rPy : Nat → Int32) (rPd : Nat → Int32) (rQ : Int32) (rFi : Nat → Int32) (rLa : Nat → Int32) (rOn : Nat → Int32) (rLe : Nat → Int32) (rRi : Nat → Int32) (rHx : Int64) (rHy : Int64) (rHd : Int64) (rKx : Int64) (rKy : Int64) (rKd : Int64)  (Q : (Int32) → (Nat → Int32) → (Nat → Int32) → (Nat → Int32) → (Int64) → (Int64) → (Int64) → Prop) (sz : Nat) (h : wp_X5_addPoint rP rPx rPy rPd rHx rHy rHd Q) : Met l yX5_addPoint wsX5_addPoint ({ frames := 2, cells := 0, slots := 0, locals := 57 }) (Prw D k [.ref (aR 0)] (wR k aR rF rS rVx rVy rMd rE rAx rAy rBx rBy rO rP rPx rPy rPd rQ rFi rLa rOn rLe rRi rHx rHy rHd rKx rKy rKd) sz) (va_Qv (fun (u : (Int32) × (Nat → Int32) × (Nat → Int32) × (Nat → Int32) × (Int64) × (Int64) × (Int64)) => Q u.1 u.2.1 u.2.2.1 u.2.2.2.1 u.2.2.2.2.1 u.2.2.2.2.2.1 u.2.2.2.2.2.2) (fun (u : (Int32) × (Nat → Int32) × (Nat → Int32) × (Nat → Int32) × (Int64) × (Int64) × (Int64)) t => va_P D vwCl (wR k aR rF rS rVx rVy rMd rE rAx rAy rBx rBy rO (u.1) (u.2.1) (u.2.2.1) (u.2.2.2.1) rQ rFi rLa rOn rLe rRi (u.2.2.2.2.1) (u.2.2.2.2.2.1) (u.2.2.2.2.2.2) rKx rKy rKd) t.heap ∧ va_D (va_A (wR k aR rF rS rVx rVy rMd rE rAx rAy rBx rBy rO rP rPx rPy rPd rQ rFi rLa rOn rLe rRi rHx rHy rHd rKx rKy rKd) sz) (wR k aR rF rS rVx rVy rMd rE rAx rAy rBx rBy rO (u.1) (u.2.1) (u.2.2.1) (u.2.2.2.1) rQ rFi rLa rOn rLe rRi (u.2.2.2.2.1) (u.2.2.2.2.2.1) (u.2.2.2.2.2.2) rKx rKy rKd)) (va_A (wR k aR rF rS rVx rVy rMd rE rAx rAy rBx rBy rO rP rPx rPy rPd rQ rFi rLa rOn rLe rRi rHx rHy rHd rKx rKy rKd) sz)) 0 0 (va_A (wR k aR rF rS rVx rVy rMd rE rAx rAy rBx rBy rO rP rPx rPy rPd rQ rFi rLa rOn rLe rRi rHx rHy rHd rKx rKy rKd) sz) := by
  refine Met.ofW (cc := cX5_addPoint) (maxL := 6) (ret := none) (by decide) rfl ?_
  intro p e s m args below meth c s₁ B hml hv
  obtain ⟨hav, hsz, hP, hE, hD0⟩ := hv
  subst hsz
  have hx := B.exec
  have hb := B.bytes
  have hr := B.returns
  have hts := atoms_spec (ws := wsX5_addPoint) B.pre
  have hown : s.vm.findClass RX5 = some m.cls := findClass_of_methodNamed B.named
  have hlocks := B.notSynchronized
  have hK := hE.1
  have hD := hD0.self (sz := s.heap.size)
  generalize hAe : va_A (wR k aR rF rS rVx rVy rMd rE rAx rAy rBx rBy rO rP rPx rPy rPd rQ rFi rLa rOn rLe rRi rHx rHy rHd rKx rKy rKd) s.heap.size = A at hD ⊢
  have hA : ∀ q : Nat, s.heap.size ≤ q → A q := fun q h => by rw [← hAe]; exact Or.inr h
  have hS : va_S A s.heap s.heap [] := va_S.rf
  have hl := lv_entry ([.ref (aR 0)]) (n := 6) (Nat.le_of_ble_eq_true rfl)
  rw [show entryFrame m args 6 = entryFrame m ([.ref (aR 0)] : List Value).toArray 6 by rw [hav]]
  rw [lg_entry_eq]
  refine W.gq (fun GQ hGQ => ?_)
  generalize (lg_sl ([.ref (aR 0)]) ++ List.replicate (6 - (lg_sl ([.ref (aR 0)])).length) Slot.unset).toArray = ls at hl ⊢
  have hl : lv_has ls 6 [(0, .ref (aR 0))] := hl
  have hiX5 := (by decide +kernel : ∀ w ∈ wsX50, w ∈ wsX5_addPoint)
  have f34 := hts (.fieldLink RX5 34 "PlaneOverlayModel" "px" "[I") (by decide +kernel)
  have f70 := hts (.fieldLink RX5 70 "PlaneOverlayModel" "hx" "J") (by decide +kernel)
  have f37 := hts (.fieldLink RX5 37 "PlaneOverlayModel" "py" "[I") (by decide +kernel)
  have f74 := hts (.fieldLink RX5 74 "PlaneOverlayModel" "hy" "J") (by decide +kernel)
  have f40 := hts (.fieldLink RX5 40 "PlaneOverlayModel" "pd" "[I") (by decide +kernel)
  have f77 := hts (.fieldLink RX5 77 "PlaneOverlayModel" "hd" "J") (by decide +kernel)
  have f67 := hts (.fieldLink RX5 67 "PlaneOverlayModel" "points" "I") (by decide +kernel)
  have L72 : ∀ (n72 : Nat) (v4 : Int32) (v5 : Int32) (rP : Int32) (rPx : Nat → Int32) (rPy : Nat → Int32) (rPd : Nat → Int32) (rHx : Int64) (rHy : Int64) (rHd : Int64) (H : Heap) (locs : List Loc) (ls : Array Slot), wp_X5_addPoint_L72  Q  n72 v4 v5 rP rPx rPy rPd rHx rHy rHd → va_P D vwCl (wR k aR rF rS rVx rVy rMd rE rAx rAy rBx rBy rO rP rPx rPy rPd rQ rFi rLa rOn rLe rRi rHx rHy rHd rKx rKy rKd) H → va_D A (wR k aR rF rS rVx rVy rMd rE rAx rAy rBx rBy rO rP rPx rPy rPd rQ rFi rLa rOn rLe rRi rHx rHy rHd rKx rKy rKd) → va_S A s.heap H locs → lv_has ls 6 [(0, .ref (aR 0)), (4, .int v4), (5, .int v5)] → W p l e (headSpec wsX5_addPoint ({ frames := 2, cells := 0, slots := 0, locals := 57 })).room s m args below meth c H locs 0 0 GQ (F0 m 72 ls []) := by
    intro n72
    induction n72 with
    | zero => intro v4 v5 rP rPx rPy rPd rHx rHy rHd H locs ls h hP hD hS hl; exact False.elim h
    | succ n72 ih72 =>
      intro v4 v5 rP rPx rPy rPd rHx rHy rHd H locs ls h hP hD hS hl
      rw [wp_X5_addPoint_L72] at h
      refine lv_iload hx hb dX5_addPoint_72 (lv_at hl 2 rfl) ?_
      refine lv_iload hx hb dX5_addPoint_74 (lv_at hl 1 rfl) ?_
      refine lv_icmp_le (tgt := 133) hx hb dX5_addPoint_76 (by decide) (fun cq => ?_) (fun cq => ?_)
      · have h := h.1 cq
        refine lv_aload_n hx hb dX5_addPoint_133 rfl (lv_at hl 0 rfl) ?_
        refine va_get (D := D) (ci := 5) (v := .ref (aR 9)) (C := RX5) (T := TX5) (N := 27) hx hb hts hiX5 hown hK hP 0 rfl rfl 12 (by decide) f34 (fun _ h9 => h9) rfl dX5_addPoint_134 ?_
        refine lv_iload hx hb dX5_addPoint_137 (lv_at hl 1 rfl) ?_
        refine lv_aload_n hx hb dX5_addPoint_139 rfl (lv_at hl 0 rfl) ?_
        refine va_get (D := D) (ci := 5) (v := .long rHx) (C := RX5) (T := TX5) (N := 27) hx hb hts hiX5 hown hK hP 0 rfl rfl 21 (by decide) f70 (fun _ h9 => h9) rfl dX5_addPoint_140 ?_
        refine lv_l2i hx hb dX5_addPoint_143 rfl ?_
        obtain ⟨hin, h⟩ := h
        obtain ⟨y144, ey144⟩ : ∃ z : Nat → Int32, z = upd rPx v4.toNatClampNeg (rHx.toInt32) := ⟨_, rfl⟩
        have h := h y144 ey144
        refine va_iast hx hb hK hP hD hS 9 0 rfl rfl hin dX5_addPoint_144 (fun H locs hP hD hS => ?_)
        rw [← ey144] at hP hD
        have hP : va_P D vwCl (wR k aR rF rS rVx rVy rMd rE rAx rAy rBx rBy rO rP y144 rPy rPd rQ rFi rLa rOn rLe rRi rHx rHy rHd rKx rKy rKd) H := hP
        have hD : va_D A (wR k aR rF rS rVx rVy rMd rE rAx rAy rBx rBy rO rP y144 rPy rPd rQ rFi rLa rOn rLe rRi rHx rHy rHd rKx rKy rKd) := hD
        refine lv_aload_n hx hb dX5_addPoint_145 rfl (lv_at hl 0 rfl) ?_
        refine va_get (D := D) (ci := 5) (v := .ref (aR 10)) (C := RX5) (T := TX5) (N := 27) hx hb hts hiX5 hown hK hP 0 rfl rfl 13 (by decide) f37 (fun _ h9 => h9) rfl dX5_addPoint_146 ?_
        refine lv_iload hx hb dX5_addPoint_149 (lv_at hl 1 rfl) ?_
        refine lv_aload_n hx hb dX5_addPoint_151 rfl (lv_at hl 0 rfl) ?_
        refine va_get (D := D) (ci := 5) (v := .long rHy) (C := RX5) (T := TX5) (N := 27) hx hb hts hiX5 hown hK hP 0 rfl rfl 22 (by decide) f74 (fun _ h9 => h9) rfl dX5_addPoint_152 ?_
        refine lv_l2i hx hb dX5_addPoint_155 rfl ?_
        obtain ⟨hin, h⟩ := h
        obtain ⟨y156, ey156⟩ : ∃ z : Nat → Int32, z = upd rPy v4.toNatClampNeg (rHy.toInt32) := ⟨_, rfl⟩
        have h := h y156 ey156
        refine va_iast hx hb hK hP hD hS 10 0 rfl rfl hin dX5_addPoint_156 (fun H locs hP hD hS => ?_)
        rw [← ey156] at hP hD
        have hP : va_P D vwCl (wR k aR rF rS rVx rVy rMd rE rAx rAy rBx rBy rO rP y144 y156 rPd rQ rFi rLa rOn rLe rRi rHx rHy rHd rKx rKy rKd) H := hP
        have hD : va_D A (wR k aR rF rS rVx rVy rMd rE rAx rAy rBx rBy rO rP y144 y156 rPd rQ rFi rLa rOn rLe rRi rHx rHy rHd rKx rKy rKd) := hD
        refine lv_aload_n hx hb dX5_addPoint_157 rfl (lv_at hl 0 rfl) ?_
        refine va_get (D := D) (ci := 5) (v := .ref (aR 11)) (C := RX5) (T := TX5) (N := 27) hx hb hts hiX5 hown hK hP 0 rfl rfl 14 (by decide) f40 (fun _ h9 => h9) rfl dX5_addPoint_158 ?_
        refine lv_iload hx hb dX5_addPoint_161 (lv_at hl 1 rfl) ?_
        refine lv_aload_n hx hb dX5_addPoint_163 rfl (lv_at hl 0 rfl) ?_
        refine va_get (D := D) (ci := 5) (v := .long rHd) (C := RX5) (T := TX5) (N := 27) hx hb hts hiX5 hown hK hP 0 rfl rfl 23 (by decide) f77 (fun _ h9 => h9) rfl dX5_addPoint_164 ?_
        refine lv_l2i hx hb dX5_addPoint_167 rfl ?_
        obtain ⟨hin, h⟩ := h
        obtain ⟨y168, ey168⟩ : ∃ z : Nat → Int32, z = upd rPd v4.toNatClampNeg (rHd.toInt32) := ⟨_, rfl⟩
        have h := h y168 ey168
        refine va_iast hx hb hK hP hD hS 11 0 rfl rfl hin dX5_addPoint_168 (fun H locs hP hD hS => ?_)
        rw [← ey168] at hP hD
        have hP : va_P D vwCl (wR k aR rF rS rVx rVy rMd rE rAx rAy rBx rBy rO rP y144 y156 y168 rQ rFi rLa rOn rLe rRi rHx rHy rHd rKx rKy rKd) H := hP
        have hD : va_D A (wR k aR rF rS rVx rVy rMd rE rAx rAy rBx rBy rO rP y144 y156 y168 rQ rFi rLa rOn rLe rRi rHx rHy rHd rKx rKy rKd) := hD
        refine lv_aload_n hx hb dX5_addPoint_169 rfl (lv_at hl 0 rfl) ?_
        refine lv_dup hx hb dX5_addPoint_170 rfl ?_
        refine va_get (D := D) (ci := 5) (v := .int rP) (C := RX5) (T := TX5) (N := 27) hx hb hts hiX5 hown hK hP 0 rfl rfl 11 (by decide) f67 (fun _ h9 => h9) rfl dX5_addPoint_171 ?_
        refine lv_iconst (v := (1 : Int32)) hx hb dX5_addPoint_174 (by decide) ?_
        refine lv_iadd hx hb dX5_addPoint_175 ?_
        refine lv_topi (fun x176 ex176 => ?_)
        have h := h x176 ex176
        refine va_put (D := D) (ci := 5) (v := .int x176) (ty := .int) (C := RX5) (T := TX5) (N := 27) hx hb hts hiX5 tyX5 tyX5_ok nmX5 hown hK hP hD hS 0 rfl rfl 11 (by decide) f67 (fun _ h9 => h9) rfl (by decide +kernel) rfl rfl (Nat.le_of_ble_eq_true rfl) dX5_addPoint_176 (fun H locs hP hD hS => ?_)
        have hP : va_P D vwCl (wR k aR rF rS rVx rVy rMd rE rAx rAy rBx rBy rO x176 y144 y156 y168 rQ rFi rLa rOn rLe rRi rHx rHy rHd rKx rKy rKd) H := hP
        have hD : va_D A (wR k aR rF rS rVx rVy rMd rE rAx rAy rBx rBy rO x176 y144 y156 y168 rQ rFi rLa rOn rLe rRi rHx rHy rHd rKx rKy rKd) := hD
        rw [hGQ]
        exact W.vret hx hb hr (fun t ht hW => ⟨⟨(x176, y144, y156, y168, rHx, rHy, rHd), rfl, h, by rw [ht]; exact hP, hD⟩, hS.F ht⟩) hS.2.2 dX5_addPoint_179
      · have h := h.2 cq
        refine lv_aload_n hx hb dX5_addPoint_79 rfl (lv_at hl 0 rfl) ?_
        refine va_get (D := D) (ci := 5) (v := .ref (aR 9)) (C := RX5) (T := TX5) (N := 27) hx hb hts hiX5 hown hK hP 0 rfl rfl 12 (by decide) f34 (fun _ h9 => h9) rfl dX5_addPoint_80 ?_
        refine lv_iload hx hb dX5_addPoint_83 (lv_at hl 2 rfl) ?_
        refine lv_aload_n hx hb dX5_addPoint_85 rfl (lv_at hl 0 rfl) ?_
        refine va_get (D := D) (ci := 5) (v := .ref (aR 9)) (C := RX5) (T := TX5) (N := 27) hx hb hts hiX5 hown hK hP 0 rfl rfl 12 (by decide) f34 (fun _ h9 => h9) rfl dX5_addPoint_86 ?_
        refine lv_iload hx hb dX5_addPoint_89 (lv_at hl 2 rfl) ?_
        refine lv_iconst (v := (1 : Int32)) hx hb dX5_addPoint_91 (by decide) ?_
        refine lv_isub hx hb dX5_addPoint_92 ?_
        obtain ⟨hin, h⟩ := h
        refine va_iald hx hb hK hP 9 0 rfl rfl hin dX5_addPoint_93 ?_
        obtain ⟨hin, h⟩ := h
        obtain ⟨y94, ey94⟩ : ∃ z : Nat → Int32, z = upd rPx v5.toNatClampNeg (rPx (v5 - (1 : Int32)).toNatClampNeg) := ⟨_, rfl⟩
        have h := h y94 ey94
        refine va_iast hx hb hK hP hD hS 9 0 rfl rfl hin dX5_addPoint_94 (fun H locs hP hD hS => ?_)
        rw [← ey94] at hP hD
        have hP : va_P D vwCl (wR k aR rF rS rVx rVy rMd rE rAx rAy rBx rBy rO rP y94 rPy rPd rQ rFi rLa rOn rLe rRi rHx rHy rHd rKx rKy rKd) H := hP
        have hD : va_D A (wR k aR rF rS rVx rVy rMd rE rAx rAy rBx rBy rO rP y94 rPy rPd rQ rFi rLa rOn rLe rRi rHx rHy rHd rKx rKy rKd) := hD
        refine lv_aload_n hx hb dX5_addPoint_95 rfl (lv_at hl 0 rfl) ?_
        refine va_get (D := D) (ci := 5) (v := .ref (aR 10)) (C := RX5) (T := TX5) (N := 27) hx hb hts hiX5 hown hK hP 0 rfl rfl 13 (by decide) f37 (fun _ h9 => h9) rfl dX5_addPoint_96 ?_
        refine lv_iload hx hb dX5_addPoint_99 (lv_at hl 2 rfl) ?_
        refine lv_aload_n hx hb dX5_addPoint_101 rfl (lv_at hl 0 rfl) ?_
        refine va_get (D := D) (ci := 5) (v := .ref (aR 10)) (C := RX5) (T := TX5) (N := 27) hx hb hts hiX5 hown hK hP 0 rfl rfl 13 (by decide) f37 (fun _ h9 => h9) rfl dX5_addPoint_102 ?_
        refine lv_iload hx hb dX5_addPoint_105 (lv_at hl 2 rfl) ?_
        refine lv_iconst (v := (1 : Int32)) hx hb dX5_addPoint_107 (by decide) ?_
        refine lv_isub hx hb dX5_addPoint_108 ?_
        obtain ⟨hin, h⟩ := h
        refine va_iald hx hb hK hP 10 0 rfl rfl hin dX5_addPoint_109 ?_
        obtain ⟨hin, h⟩ := h
        obtain ⟨y110, ey110⟩ : ∃ z : Nat → Int32, z = upd rPy v5.toNatClampNeg (rPy (v5 - (1 : Int32)).toNatClampNeg) := ⟨_, rfl⟩
        have h := h y110 ey110
        refine va_iast hx hb hK hP hD hS 10 0 rfl rfl hin dX5_addPoint_110 (fun H locs hP hD hS => ?_)
        rw [← ey110] at hP hD
        have hP : va_P D vwCl (wR k aR rF rS rVx rVy rMd rE rAx rAy rBx rBy rO rP y94 y110 rPd rQ rFi rLa rOn rLe rRi rHx rHy rHd rKx rKy rKd) H := hP
        have hD : va_D A (wR k aR rF rS rVx rVy rMd rE rAx rAy rBx rBy rO rP y94 y110 rPd rQ rFi rLa rOn rLe rRi rHx rHy rHd rKx rKy rKd) := hD
        refine lv_aload_n hx hb dX5_addPoint_111 rfl (lv_at hl 0 rfl) ?_
        refine va_get (D := D) (ci := 5) (v := .ref (aR 11)) (C := RX5) (T := TX5) (N := 27) hx hb hts hiX5 hown hK hP 0 rfl rfl 14 (by decide) f40 (fun _ h9 => h9) rfl dX5_addPoint_112 ?_
        refine lv_iload hx hb dX5_addPoint_115 (lv_at hl 2 rfl) ?_
        refine lv_aload_n hx hb dX5_addPoint_117 rfl (lv_at hl 0 rfl) ?_
        refine va_get (D := D) (ci := 5) (v := .ref (aR 11)) (C := RX5) (T := TX5) (N := 27) hx hb hts hiX5 hown hK hP 0 rfl rfl 14 (by decide) f40 (fun _ h9 => h9) rfl dX5_addPoint_118 ?_
        refine lv_iload hx hb dX5_addPoint_121 (lv_at hl 2 rfl) ?_
        refine lv_iconst (v := (1 : Int32)) hx hb dX5_addPoint_123 (by decide) ?_
        refine lv_isub hx hb dX5_addPoint_124 ?_
        obtain ⟨hin, h⟩ := h
        refine va_iald hx hb hK hP 11 0 rfl rfl hin dX5_addPoint_125 ?_
        obtain ⟨hin, h⟩ := h
        obtain ⟨y126, ey126⟩ : ∃ z : Nat → Int32, z = upd rPd v5.toNatClampNeg (rPd (v5 - (1 : Int32)).toNatClampNeg) := ⟨_, rfl⟩
        have h := h y126 ey126
        refine va_iast hx hb hK hP hD hS 11 0 rfl rfl hin dX5_addPoint_126 (fun H locs hP hD hS => ?_)
        rw [← ey126] at hP hD
        have hP : va_P D vwCl (wR k aR rF rS rVx rVy rMd rE rAx rAy rBx rBy rO rP y94 y110 y126 rQ rFi rLa rOn rLe rRi rHx rHy rHd rKx rKy rKd) H := hP
        have hD : va_D A (wR k aR rF rS rVx rVy rMd rE rAx rAy rBx rBy rO rP y94 y110 y126 rQ rFi rLa rOn rLe rRi rHx rHy rHd rKx rKy rKd) := hD
        refine lv_iinc (v := (v5 + (-1))) (lv' := [(5, .int (v5 + (-1))), (0, .ref (aR 0)), (4, .int v4)]) hx hb dX5_addPoint_127 hl (k := 2) rfl (by rw [show Int32.ofInt (-1) = -1 by decide]) (by decide) rfl (fun ls hl => ?_)
        refine lv_goto (tgt := 72) hx hb dX5_addPoint_130 (by decide) ?_
        exact ih72 v4 (v5 + (-1)) rP y94 y110 y126 rHx rHy rHd _ _ _ h hP hD hS (lv_sub hl [1, 2, 0] rfl)
  unfold wp_X5_addPoint at h
  refine lv_aload_n hx hb dX5_addPoint_0 rfl (lv_at hl 0 rfl) ?_
  refine va_get (D := D) (ci := 5) (v := .long rHx) (C := RX5) (T := TX5) (N := 27) hx hb hts hiX5 hown hK hP 0 rfl rfl 21 (by decide) f70 (fun _ h9 => h9) rfl dX5_addPoint_1 ?_
  refine lv_aload_n hx hb dX5_addPoint_4 rfl (lv_at hl 0 rfl) ?_
  refine va_get (D := D) (ci := 5) (v := .long rHy) (C := RX5) (T := TX5) (N := 27) hx hb hts hiX5 hown hK hP 0 rfl rfl 22 (by decide) f74 (fun _ h9 => h9) rfl dX5_addPoint_5 ?_
  refine vp_callSl (W.runS (As := [.long rHx, .long rHy]) (rest := []) ⟨hx, hb, hml, hown, hts⟩ (m_X5_gcd l D k   rHx rHy _ h) (va_cwS 2 hts gX5_addPoint_X5_gcd rfl rfl rfl (by decide +kernel) ⟨Nat.le_of_ble_eq_true rfl, Nat.le_of_ble_eq_true rfl⟩) (preS_ro hE vaP0) rfl rfl hl.1 rfl (lv_room (Nat.le_of_ble_eq_true rfl)) dX5_addPoint_8 ⟨Nat.le_of_ble_eq_true rfl, Nat.le_of_ble_eq_true rfl⟩) (fun r8 h => ?_)
  refine lv_lstore_n (lv' := [(1, .long r8), (0, .ref (aR 0))]) hx hb dX5_addPoint_11 rfl hl (by decide) rfl (fun ls hl => ?_)
  refine lv_lload_n hx hb dX5_addPoint_12 rfl (lv_at hl 0 rfl) ?_
  refine lv_aload_n hx hb dX5_addPoint_13 rfl (lv_at hl 1 rfl) ?_
  refine va_get (D := D) (ci := 5) (v := .long rHd) (C := RX5) (T := TX5) (N := 27) hx hb hts hiX5 hown hK hP 0 rfl rfl 23 (by decide) f77 (fun _ h9 => h9) rfl dX5_addPoint_14 ?_
  refine vp_callSl (W.runS (As := [.long r8, .long rHd]) (rest := []) ⟨hx, hb, hml, hown, hts⟩ (m_X5_gcd l D k   r8 rHd _ h) (va_cwS 2 hts gX5_addPoint_X5_gcd rfl rfl rfl (by decide +kernel) ⟨Nat.le_of_ble_eq_true rfl, Nat.le_of_ble_eq_true rfl⟩) (preS_ro hE vaP0) rfl rfl hl.1 rfl (lv_room (Nat.le_of_ble_eq_true rfl)) dX5_addPoint_17 ⟨Nat.le_of_ble_eq_true rfl, Nat.le_of_ble_eq_true rfl⟩) (fun r17 h => ?_)
  refine lv_lstore_n (lv' := [(1, .long r17), (0, .ref (aR 0))]) hx hb dX5_addPoint_20 rfl hl (by decide) rfl (fun ls hl => ?_)
  refine lv_aload_n hx hb dX5_addPoint_21 rfl (lv_at hl 1 rfl) ?_
  refine lv_aload_n hx hb dX5_addPoint_22 rfl (lv_at hl 1 rfl) ?_
  refine va_get (D := D) (ci := 5) (v := .long rHx) (C := RX5) (T := TX5) (N := 27) hx hb hts hiX5 hown hK hP 0 rfl rfl 21 (by decide) f70 (fun _ h9 => h9) rfl dX5_addPoint_23 ?_
  refine lv_lload_n hx hb dX5_addPoint_26 rfl (lv_at hl 0 rfl) ?_
  obtain ⟨hne, h⟩ := h
  refine lv_ldiv hx hb dX5_addPoint_27 hne ?_
  refine lv_topl (fun x28 ex28 => ?_)
  have h := h x28 ex28
  refine va_put (D := D) (ci := 5) (v := .long x28) (ty := .long) (C := RX5) (T := TX5) (N := 27) hx hb hts hiX5 tyX5 tyX5_ok nmX5 hown hK hP hD hS 0 rfl rfl 21 (by decide) f70 (fun _ h9 => h9) rfl (by decide +kernel) rfl rfl (Nat.le_of_ble_eq_true rfl) dX5_addPoint_28 (fun H locs hP hD hS => ?_)
  have hP : va_P D vwCl (wR k aR rF rS rVx rVy rMd rE rAx rAy rBx rBy rO rP rPx rPy rPd rQ rFi rLa rOn rLe rRi x28 rHy rHd rKx rKy rKd) H := hP
  have hD : va_D A (wR k aR rF rS rVx rVy rMd rE rAx rAy rBx rBy rO rP rPx rPy rPd rQ rFi rLa rOn rLe rRi x28 rHy rHd rKx rKy rKd) := hD
  refine lv_aload_n hx hb dX5_addPoint_31 rfl (lv_at hl 1 rfl) ?_
  refine lv_aload_n hx hb dX5_addPoint_32 rfl (lv_at hl 1 rfl) ?_
  refine va_get (D := D) (ci := 5) (v := .long rHy) (C := RX5) (T := TX5) (N := 27) hx hb hts hiX5 hown hK hP 0 rfl rfl 22 (by decide) f74 (fun _ h9 => h9) rfl dX5_addPoint_33 ?_
  refine lv_lload_n hx hb dX5_addPoint_36 rfl (lv_at hl 0 rfl) ?_
  obtain ⟨hne, h⟩ := h
  refine lv_ldiv hx hb dX5_addPoint_37 hne ?_
  refine lv_topl (fun x38 ex38 => ?_)
  have h := h x38 ex38
  refine va_put (D := D) (ci := 5) (v := .long x38) (ty := .long) (C := RX5) (T := TX5) (N := 27) hx hb hts hiX5 tyX5 tyX5_ok nmX5 hown hK hP hD hS 0 rfl rfl 22 (by decide) f74 (fun _ h9 => h9) rfl (by decide +kernel) rfl rfl (Nat.le_of_ble_eq_true rfl) dX5_addPoint_38 (fun H locs hP hD hS => ?_)
  have hP : va_P D vwCl (wR k aR rF rS rVx rVy rMd rE rAx rAy rBx rBy rO rP rPx rPy rPd rQ rFi rLa rOn rLe rRi x28 x38 rHd rKx rKy rKd) H := hP
  have hD : va_D A (wR k aR rF rS rVx rVy rMd rE rAx rAy rBx rBy rO rP rPx rPy rPd rQ rFi rLa rOn rLe rRi x28 x38 rHd rKx rKy rKd) := hD
  refine lv_aload_n hx hb dX5_addPoint_41 rfl (lv_at hl 1 rfl) ?_
  refine lv_aload_n hx hb dX5_addPoint_42 rfl (lv_at hl 1 rfl) ?_
  refine va_get (D := D) (ci := 5) (v := .long rHd) (C := RX5) (T := TX5) (N := 27) hx hb hts hiX5 hown hK hP 0 rfl rfl 23 (by decide) f77 (fun _ h9 => h9) rfl dX5_addPoint_43 ?_
  refine lv_lload_n hx hb dX5_addPoint_46 rfl (lv_at hl 0 rfl) ?_
  obtain ⟨hne, h⟩ := h
  refine lv_ldiv hx hb dX5_addPoint_47 hne ?_
  refine lv_topl (fun x48 ex48 => ?_)
  have h := h x48 ex48
  refine va_put (D := D) (ci := 5) (v := .long x48) (ty := .long) (C := RX5) (T := TX5) (N := 27) hx hb hts hiX5 tyX5 tyX5_ok nmX5 hown hK hP hD hS 0 rfl rfl 23 (by decide) f77 (fun _ h9 => h9) rfl (by decide +kernel) rfl rfl (Nat.le_of_ble_eq_true rfl) dX5_addPoint_48 (fun H locs hP hD hS => ?_)
  have hP : va_P D vwCl (wR k aR rF rS rVx rVy rMd rE rAx rAy rBx rBy rO rP rPx rPy rPd rQ rFi rLa rOn rLe rRi x28 x38 x48 rKx rKy rKd) H := hP
  have hD : va_D A (wR k aR rF rS rVx rVy rMd rE rAx rAy rBx rBy rO rP rPx rPy rPd rQ rFi rLa rOn rLe rRi x28 x38 x48 rKx rKy rKd) := hD
  refine lv_aload_n hx hb dX5_addPoint_51 rfl (lv_at hl 1 rfl) ?_
  refine vp_callSi (W.runV (C := RX5) (b := (aR 0)) (As := []) (rest := []) ⟨hx, hb, hml, hown, hts⟩ (m_X5_find l D k aR rF rS rVx rVy rMd rE rAx rAy rBx rBy rO rP rPx rPy rPd rQ rFi rLa rOn rLe rRi x28 x38 x48 rKx rKy rKd  _ h) (cwV 0 hts gX5_addPoint_X5_find rfl rfl rfl (by decide +kernel) ⟨Nat.le_of_ble_eq_true rfl, Nat.le_of_ble_eq_true rfl⟩) (preV_ro (ci := 5) (q0 := 0) (C := RX5) (T := TX5) (N := 27) hE hP rfl rfl) rfl rfl hl.1 rfl (lv_room (Nat.le_of_ble_eq_true rfl)) dX5_addPoint_52 ⟨Nat.le_of_ble_eq_true rfl, Nat.le_of_ble_eq_true rfl⟩) (fun r52 h => ?_)
  refine lv_istore_n (lv' := [(3, .int r52), (1, .long r17), (0, .ref (aR 0))]) hx hb dX5_addPoint_55 rfl hl (by decide) rfl (fun ls hl => ?_)
  refine lv_iload_n hx hb dX5_addPoint_56 rfl (lv_at hl 0 rfl) ?_
  refine lv_if_lt (tgt := 61) hx hb dX5_addPoint_57 (by decide) (fun cq => ?_) (fun cq => ?_)
  · have h := h.1 cq
    refine lv_iconst (v := (-1 : Int32)) hx hb dX5_addPoint_61 (by decide) ?_
    refine lv_iload_n hx hb dX5_addPoint_62 rfl (lv_at hl 0 rfl) ?_
    refine lv_isub hx hb dX5_addPoint_63 ?_
    refine lv_topi (fun x64 ex64 => ?_)
    have h := h x64 ex64
    refine lv_istore (lv' := [(4, .int x64), (3, .int r52), (1, .long r17), (0, .ref (aR 0))]) hx hb dX5_addPoint_64 hl (by decide) rfl (fun ls hl => ?_)
    refine lv_aload_n hx hb dX5_addPoint_66 rfl (lv_at hl 3 rfl) ?_
    refine va_get (D := D) (ci := 5) (v := .int rP) (C := RX5) (T := TX5) (N := 27) hx hb hts hiX5 hown hK hP 0 rfl rfl 11 (by decide) f67 (fun _ h9 => h9) rfl dX5_addPoint_67 ?_
    refine lv_istore (lv' := [(5, .int rP), (4, .int x64), (3, .int r52), (1, .long r17), (0, .ref (aR 0))]) hx hb dX5_addPoint_70 hl (by decide) rfl (fun ls hl => ?_)
    obtain ⟨n9, h⟩ := h
    exact L72 n9 x64 rP rP rPx rPy rPd x28 x38 x48 _ _ _ h hP hD hS (lv_sub hl [4, 1, 0] rfl)
  · have h := h.2 cq
    rw [hGQ]
    exact W.vret hx hb hr (fun t ht hW => ⟨⟨(rP, rPx, rPy, rPd, x28, x38, x48), rfl, h, by rw [ht]; exact hP, hD⟩, hS.F ht⟩) hS.2.2 dX5_addPoint_60
set_option maxHeartbeats 4000000 in
set_option maxRecDepth 100000 in
theorem m_X5_addEdge (l : Launch) (D : va_G) (k : Nat → ClassId) (aR : Nat → Nat) (rF : Int32) (rS : Nat → Int32) (rVx : Nat → Int32) (rVy : Nat → Int32) (rMd : Int32) (rE : Int32) (rAx : Nat → Int32) (rAy : Nat → Int32) (rBx : Nat → Int32) (rBy : Nat → Int32) (rO : Nat → Int32) (rP : Int32) (rPx : Nat → Int32) (rPy : Nat → Int32) (rPd : Nat → Int32) (rQ : Int32) (rFi : Nat → Int32) (rLa : Nat → Int32) (rOn : Nat → Int32) (rLe : Nat → Int32) (rRi : Nat → Int32) (rHx : Int64) (rHy : Int64) (rHd : Int64) (rKx : Int64) (rKy : Int64) (rKd : Int64) (p0 : Int32) (p1 : Int32) (p2 : Int32) (Q : (Int32) → (Nat → Int32) → (Nat → Int32) → (Nat → Int32) → (Nat → Int32) → (Nat → Int32) → Prop) (sz : Nat) (h : wp_X5_addEdge p0 p1 p2 rVx rVy rE rAx rAy rBx rBy rO Q) : Met l yX5_addEdge wsX5_addEdge ({ frames := 0, cells := 0, slots := 0, locals := 0 }) (Prw D k [.ref (aR 0), .int p0, .int p1, .int p2] (wR k aR rF rS rVx rVy rMd rE rAx rAy rBx rBy rO rP rPx rPy rPd rQ rFi rLa rOn rLe rRi rHx rHy rHd rKx rKy rKd) sz) (va_Qv (fun (u : (Int32) × (Nat → Int32) × (Nat → Int32) × (Nat → Int32) × (Nat → Int32) × (Nat → Int32)) => Q u.1 u.2.1 u.2.2.1 u.2.2.2.1 u.2.2.2.2.1 u.2.2.2.2.2) (fun (u : (Int32) × (Nat → Int32) × (Nat → Int32) × (Nat → Int32) × (Nat → Int32) × (Nat → Int32)) t => va_P D vwCl (wR k aR rF rS rVx rVy rMd (u.1) (u.2.1) (u.2.2.1) (u.2.2.2.1) (u.2.2.2.2.1) (u.2.2.2.2.2) rP rPx rPy rPd rQ rFi rLa rOn rLe rRi rHx rHy rHd rKx rKy rKd) t.heap ∧ va_D (va_A (wR k aR rF rS rVx rVy rMd rE rAx rAy rBx rBy rO rP rPx rPy rPd rQ rFi rLa rOn rLe rRi rHx rHy rHd rKx rKy rKd) sz) (wR k aR rF rS rVx rVy rMd (u.1) (u.2.1) (u.2.2.1) (u.2.2.2.1) (u.2.2.2.2.1) (u.2.2.2.2.2) rP rPx rPy rPd rQ rFi rLa rOn rLe rRi rHx rHy rHd rKx rKy rKd)) (va_A (wR k aR rF rS rVx rVy rMd rE rAx rAy rBx rBy rO rP rPx rPy rPd rQ rFi rLa rOn rLe rRi rHx rHy rHd rKx rKy rKd) sz)) 0 0 (va_A (wR k aR rF rS rVx rVy rMd rE rAx rAy rBx rBy rO rP rPx rPy rPd rQ rFi rLa rOn rLe rRi rHx rHy rHd rKx rKy rKd) sz) := by
  refine Met.ofW (cc := cX5_addEdge) (maxL := 9) (ret := none) (by decide) rfl ?_
  intro p e s m args below meth c s₁ B hml hv
  obtain ⟨hav, hsz, hP, hE, hD0⟩ := hv
  subst hsz
  have hx := B.exec
  have hb := B.bytes
  have hr := B.returns
  have hts := atoms_spec (ws := wsX5_addEdge) B.pre
  have hown : s.vm.findClass RX5 = some m.cls := findClass_of_methodNamed B.named
  have hlocks := B.notSynchronized
  have hK := hE.1
  have hD := hD0.self (sz := s.heap.size)
  generalize hAe : va_A (wR k aR rF rS rVx rVy rMd rE rAx rAy rBx rBy rO rP rPx rPy rPd rQ rFi rLa rOn rLe rRi rHx rHy rHd rKx rKy rKd) s.heap.size = A at hD ⊢
  have hA : ∀ q : Nat, s.heap.size ≤ q → A q := fun q h => by rw [← hAe]; exact Or.inr h
  have hS : va_S A s.heap s.heap [] := va_S.rf
  have hl := lv_entry ([.ref (aR 0), .int p0, .int p1, .int p2]) (n := 9) (Nat.le_of_ble_eq_true rfl)
  rw [show entryFrame m args 9 = entryFrame m ([.ref (aR 0), .int p0, .int p1, .int p2] : List Value).toArray 9 by rw [hav]]
  rw [lg_entry_eq]
  refine W.gq (fun GQ hGQ => ?_)
  generalize (lg_sl ([.ref (aR 0), .int p0, .int p1, .int p2]) ++ List.replicate (9 - (lg_sl ([.ref (aR 0), .int p0, .int p1, .int p2])).length) Slot.unset).toArray = ls at hl ⊢
  have hl : lv_has ls 9 [(0, .ref (aR 0)), (1, .int p0), (2, .int p1), (3, .int p2)] := hl
  have hiX5 := (by decide +kernel : ∀ w ∈ wsX50, w ∈ wsX5_addEdge)
  have f31 := hts (.fieldLink RX5 31 "PlaneOverlayModel" "owner" "[I") (by decide +kernel)
  have f92 := hts (.fieldLink RX5 92 "PlaneOverlayModel" "edges" "I") (by decide +kernel)
  have f28 := hts (.fieldLink RX5 28 "PlaneOverlayModel" "by" "[I") (by decide +kernel)
  have f25 := hts (.fieldLink RX5 25 "PlaneOverlayModel" "bx" "[I") (by decide +kernel)
  have f22 := hts (.fieldLink RX5 22 "PlaneOverlayModel" "ay" "[I") (by decide +kernel)
  have f19 := hts (.fieldLink RX5 19 "PlaneOverlayModel" "ax" "[I") (by decide +kernel)
  have f13 := hts (.fieldLink RX5 13 "PlaneOverlayModel" "vx" "[I") (by decide +kernel)
  have f16 := hts (.fieldLink RX5 16 "PlaneOverlayModel" "vy" "[I") (by decide +kernel)
  have L158 : ∀ (z0 : Int32) (z1 : Int32) (rE : Int32) (rAx : Nat → Int32) (rAy : Nat → Int32) (rBx : Nat → Int32) (rBy : Nat → Int32) (rO : Nat → Int32) (H : Heap) (locs : List Loc) (ls : Array Slot), wp_X5_addEdge_L158 p0 p1 p2 rVx rVy Q  z0 z1 rE rAx rAy rBx rBy rO → va_P D vwCl (wR k aR rF rS rVx rVy rMd rE rAx rAy rBx rBy rO rP rPx rPy rPd rQ rFi rLa rOn rLe rRi rHx rHy rHd rKx rKy rKd) H → va_D A (wR k aR rF rS rVx rVy rMd rE rAx rAy rBx rBy rO rP rPx rPy rPd rQ rFi rLa rOn rLe rRi rHx rHy rHd rKx rKy rKd) → va_S A s.heap H locs → lv_has ls 9 [(0, .ref (aR 0)), (1, .int p0)] → W p l e (headSpec wsX5_addEdge ({ frames := 0, cells := 0, slots := 0, locals := 0 })).room s m args below meth c H locs 0 0 GQ (F0 m 158 ls [.int z0, .int z1, .ref (aR 7)]) := by
    intro z0 z1 rE rAx rAy rBx rBy rO H locs ls h hP hD hS hl
    unfold wp_X5_addEdge_L158 at h
    obtain ⟨hin, h⟩ := h
    obtain ⟨y158, ey158⟩ : ∃ z : Nat → Int32, z = upd rBy z1.toNatClampNeg z0 := ⟨_, rfl⟩
    have h := h y158 ey158
    refine va_iast hx hb hK hP hD hS 7 0 rfl rfl hin dX5_addEdge_158 (fun H locs hP hD hS => ?_)
    rw [← ey158] at hP hD
    have hP : va_P D vwCl (wR k aR rF rS rVx rVy rMd rE rAx rAy rBx y158 rO rP rPx rPy rPd rQ rFi rLa rOn rLe rRi rHx rHy rHd rKx rKy rKd) H := hP
    have hD : va_D A (wR k aR rF rS rVx rVy rMd rE rAx rAy rBx y158 rO rP rPx rPy rPd rQ rFi rLa rOn rLe rRi rHx rHy rHd rKx rKy rKd) := hD
    refine lv_aload_n hx hb dX5_addEdge_159 rfl (lv_at hl 0 rfl) ?_
    refine va_get (D := D) (ci := 5) (v := .ref (aR 8)) (C := RX5) (T := TX5) (N := 27) hx hb hts hiX5 hown hK hP 0 rfl rfl 10 (by decide) f31 (fun _ h9 => h9) rfl dX5_addEdge_160 ?_
    refine lv_aload_n hx hb dX5_addEdge_163 rfl (lv_at hl 0 rfl) ?_
    refine va_get (D := D) (ci := 5) (v := .int rE) (C := RX5) (T := TX5) (N := 27) hx hb hts hiX5 hown hK hP 0 rfl rfl 5 (by decide) f92 (fun _ h9 => h9) rfl dX5_addEdge_164 ?_
    refine lv_iload_n hx hb dX5_addEdge_167 rfl (lv_at hl 1 rfl) ?_
    obtain ⟨hin, h⟩ := h
    obtain ⟨y168, ey168⟩ : ∃ z : Nat → Int32, z = upd rO rE.toNatClampNeg p0 := ⟨_, rfl⟩
    have h := h y168 ey168
    refine va_iast hx hb hK hP hD hS 8 0 rfl rfl hin dX5_addEdge_168 (fun H locs hP hD hS => ?_)
    rw [← ey168] at hP hD
    have hP : va_P D vwCl (wR k aR rF rS rVx rVy rMd rE rAx rAy rBx y158 y168 rP rPx rPy rPd rQ rFi rLa rOn rLe rRi rHx rHy rHd rKx rKy rKd) H := hP
    have hD : va_D A (wR k aR rF rS rVx rVy rMd rE rAx rAy rBx y158 y168 rP rPx rPy rPd rQ rFi rLa rOn rLe rRi rHx rHy rHd rKx rKy rKd) := hD
    refine lv_aload_n hx hb dX5_addEdge_169 rfl (lv_at hl 0 rfl) ?_
    refine lv_dup hx hb dX5_addEdge_170 rfl ?_
    refine va_get (D := D) (ci := 5) (v := .int rE) (C := RX5) (T := TX5) (N := 27) hx hb hts hiX5 hown hK hP 0 rfl rfl 5 (by decide) f92 (fun _ h9 => h9) rfl dX5_addEdge_171 ?_
    refine lv_iconst (v := (1 : Int32)) hx hb dX5_addEdge_174 (by decide) ?_
    refine lv_iadd hx hb dX5_addEdge_175 ?_
    refine lv_topi (fun x176 ex176 => ?_)
    have h := h x176 ex176
    refine va_put (D := D) (ci := 5) (v := .int x176) (ty := .int) (C := RX5) (T := TX5) (N := 27) hx hb hts hiX5 tyX5 tyX5_ok nmX5 hown hK hP hD hS 0 rfl rfl 5 (by decide) f92 (fun _ h9 => h9) rfl (by decide +kernel) rfl rfl (Nat.le_of_ble_eq_true rfl) dX5_addEdge_176 (fun H locs hP hD hS => ?_)
    have hP : va_P D vwCl (wR k aR rF rS rVx rVy rMd x176 rAx rAy rBx y158 y168 rP rPx rPy rPd rQ rFi rLa rOn rLe rRi rHx rHy rHd rKx rKy rKd) H := hP
    have hD : va_D A (wR k aR rF rS rVx rVy rMd x176 rAx rAy rBx y158 y168 rP rPx rPy rPd rQ rFi rLa rOn rLe rRi rHx rHy rHd rKx rKy rKd) := hD
    rw [hGQ]
    exact W.vret hx hb hr (fun t ht hW => ⟨⟨(x176, rAx, rAy, rBx, y158, y168), rfl, h, by rw [ht]; exact hP, hD⟩, hS.F ht⟩) hS.2.2 dX5_addEdge_179
  have L137 : ∀ (v5 : Int32) (v7 : Int32) (v8 : Int32) (z0 : Int32) (z1 : Int32) (rE : Int32) (rAx : Nat → Int32) (rAy : Nat → Int32) (rBx : Nat → Int32) (rBy : Nat → Int32) (rO : Nat → Int32) (H : Heap) (locs : List Loc) (ls : Array Slot), wp_X5_addEdge_L137 p0 p1 p2 rVx rVy Q  v5 v7 v8 z0 z1 rE rAx rAy rBx rBy rO → va_P D vwCl (wR k aR rF rS rVx rVy rMd rE rAx rAy rBx rBy rO rP rPx rPy rPd rQ rFi rLa rOn rLe rRi rHx rHy rHd rKx rKy rKd) H → va_D A (wR k aR rF rS rVx rVy rMd rE rAx rAy rBx rBy rO rP rPx rPy rPd rQ rFi rLa rOn rLe rRi rHx rHy rHd rKx rKy rKd) → va_S A s.heap H locs → lv_has ls 9 [(0, .ref (aR 0)), (1, .int p0), (5, .int v5), (7, .int v7), (8, .int v8)] → W p l e (headSpec wsX5_addEdge ({ frames := 0, cells := 0, slots := 0, locals := 0 })).room s m args below meth c H locs 0 0 GQ (F0 m 137 ls [.int z0, .int z1, .ref (aR 6)]) := by
    intro v5 v7 v8 z0 z1 rE rAx rAy rBx rBy rO H locs ls h hP hD hS hl
    unfold wp_X5_addEdge_L137 at h
    obtain ⟨hin, h⟩ := h
    obtain ⟨y137, ey137⟩ : ∃ z : Nat → Int32, z = upd rBx z1.toNatClampNeg z0 := ⟨_, rfl⟩
    have h := h y137 ey137
    refine va_iast hx hb hK hP hD hS 6 0 rfl rfl hin dX5_addEdge_137 (fun H locs hP hD hS => ?_)
    rw [← ey137] at hP hD
    have hP : va_P D vwCl (wR k aR rF rS rVx rVy rMd rE rAx rAy y137 rBy rO rP rPx rPy rPd rQ rFi rLa rOn rLe rRi rHx rHy rHd rKx rKy rKd) H := hP
    have hD : va_D A (wR k aR rF rS rVx rVy rMd rE rAx rAy y137 rBy rO rP rPx rPy rPd rQ rFi rLa rOn rLe rRi rHx rHy rHd rKx rKy rKd) := hD
    refine lv_aload_n hx hb dX5_addEdge_138 rfl (lv_at hl 0 rfl) ?_
    refine va_get (D := D) (ci := 5) (v := .ref (aR 7)) (C := RX5) (T := TX5) (N := 27) hx hb hts hiX5 hown hK hP 0 rfl rfl 9 (by decide) f28 (fun _ h9 => h9) rfl dX5_addEdge_139 ?_
    refine lv_aload_n hx hb dX5_addEdge_142 rfl (lv_at hl 0 rfl) ?_
    refine va_get (D := D) (ci := 5) (v := .int rE) (C := RX5) (T := TX5) (N := 27) hx hb hts hiX5 hown hK hP 0 rfl rfl 5 (by decide) f92 (fun _ h9 => h9) rfl dX5_addEdge_143 ?_
    refine lv_iload hx hb dX5_addEdge_146 (lv_at hl 4 rfl) ?_
    refine lv_if_eq (tgt := 156) hx hb dX5_addEdge_148 (by decide) (fun cq => ?_) (fun cq => ?_)
    · have h := h.1 cq
      refine lv_iload hx hb dX5_addEdge_156 (lv_at hl 2 rfl) ?_
      exact L158 v5 rE rE rAx rAy y137 rBy rO _ _ _ h hP hD hS (lv_sub hl [0, 1] rfl)
    · have h := h.2 cq
      refine lv_iload hx hb dX5_addEdge_151 (lv_at hl 3 rfl) ?_
      refine lv_goto (tgt := 158) hx hb dX5_addEdge_153 (by decide) ?_
      exact L158 v7 rE rE rAx rAy y137 rBy rO _ _ _ h hP hD hS (lv_sub hl [0, 1] rfl)
  have L116 : ∀ (v4 : Int32) (v5 : Int32) (v6 : Int32) (v7 : Int32) (v8 : Int32) (z0 : Int32) (z1 : Int32) (rE : Int32) (rAx : Nat → Int32) (rAy : Nat → Int32) (rBx : Nat → Int32) (rBy : Nat → Int32) (rO : Nat → Int32) (H : Heap) (locs : List Loc) (ls : Array Slot), wp_X5_addEdge_L116 p0 p1 p2 rVx rVy Q  v4 v5 v6 v7 v8 z0 z1 rE rAx rAy rBx rBy rO → va_P D vwCl (wR k aR rF rS rVx rVy rMd rE rAx rAy rBx rBy rO rP rPx rPy rPd rQ rFi rLa rOn rLe rRi rHx rHy rHd rKx rKy rKd) H → va_D A (wR k aR rF rS rVx rVy rMd rE rAx rAy rBx rBy rO rP rPx rPy rPd rQ rFi rLa rOn rLe rRi rHx rHy rHd rKx rKy rKd) → va_S A s.heap H locs → lv_has ls 9 [(0, .ref (aR 0)), (1, .int p0), (4, .int v4), (5, .int v5), (6, .int v6), (7, .int v7), (8, .int v8)] → W p l e (headSpec wsX5_addEdge ({ frames := 0, cells := 0, slots := 0, locals := 0 })).room s m args below meth c H locs 0 0 GQ (F0 m 116 ls [.int z0, .int z1, .ref (aR 5)]) := by
    intro v4 v5 v6 v7 v8 z0 z1 rE rAx rAy rBx rBy rO H locs ls h hP hD hS hl
    unfold wp_X5_addEdge_L116 at h
    obtain ⟨hin, h⟩ := h
    obtain ⟨y116, ey116⟩ : ∃ z : Nat → Int32, z = upd rAy z1.toNatClampNeg z0 := ⟨_, rfl⟩
    have h := h y116 ey116
    refine va_iast hx hb hK hP hD hS 5 0 rfl rfl hin dX5_addEdge_116 (fun H locs hP hD hS => ?_)
    rw [← ey116] at hP hD
    have hP : va_P D vwCl (wR k aR rF rS rVx rVy rMd rE rAx y116 rBx rBy rO rP rPx rPy rPd rQ rFi rLa rOn rLe rRi rHx rHy rHd rKx rKy rKd) H := hP
    have hD : va_D A (wR k aR rF rS rVx rVy rMd rE rAx y116 rBx rBy rO rP rPx rPy rPd rQ rFi rLa rOn rLe rRi rHx rHy rHd rKx rKy rKd) := hD
    refine lv_aload_n hx hb dX5_addEdge_117 rfl (lv_at hl 0 rfl) ?_
    refine va_get (D := D) (ci := 5) (v := .ref (aR 6)) (C := RX5) (T := TX5) (N := 27) hx hb hts hiX5 hown hK hP 0 rfl rfl 8 (by decide) f25 (fun _ h9 => h9) rfl dX5_addEdge_118 ?_
    refine lv_aload_n hx hb dX5_addEdge_121 rfl (lv_at hl 0 rfl) ?_
    refine va_get (D := D) (ci := 5) (v := .int rE) (C := RX5) (T := TX5) (N := 27) hx hb hts hiX5 hown hK hP 0 rfl rfl 5 (by decide) f92 (fun _ h9 => h9) rfl dX5_addEdge_122 ?_
    refine lv_iload hx hb dX5_addEdge_125 (lv_at hl 6 rfl) ?_
    refine lv_if_eq (tgt := 135) hx hb dX5_addEdge_127 (by decide) (fun cq => ?_) (fun cq => ?_)
    · have h := h.1 cq
      refine lv_iload hx hb dX5_addEdge_135 (lv_at hl 2 rfl) ?_
      exact L137 v5 v7 v8 v4 rE rE rAx y116 rBx rBy rO _ _ _ h hP hD hS (lv_sub hl [0, 1, 3, 5, 6] rfl)
    · have h := h.2 cq
      refine lv_iload hx hb dX5_addEdge_130 (lv_at hl 4 rfl) ?_
      refine lv_goto (tgt := 137) hx hb dX5_addEdge_132 (by decide) ?_
      exact L137 v5 v7 v8 v6 rE rE rAx y116 rBx rBy rO _ _ _ h hP hD hS (lv_sub hl [0, 1, 3, 5, 6] rfl)
  have L95 : ∀ (v4 : Int32) (v5 : Int32) (v6 : Int32) (v7 : Int32) (v8 : Int32) (z0 : Int32) (z1 : Int32) (rE : Int32) (rAx : Nat → Int32) (rAy : Nat → Int32) (rBx : Nat → Int32) (rBy : Nat → Int32) (rO : Nat → Int32) (H : Heap) (locs : List Loc) (ls : Array Slot), wp_X5_addEdge_L95 p0 p1 p2 rVx rVy Q  v4 v5 v6 v7 v8 z0 z1 rE rAx rAy rBx rBy rO → va_P D vwCl (wR k aR rF rS rVx rVy rMd rE rAx rAy rBx rBy rO rP rPx rPy rPd rQ rFi rLa rOn rLe rRi rHx rHy rHd rKx rKy rKd) H → va_D A (wR k aR rF rS rVx rVy rMd rE rAx rAy rBx rBy rO rP rPx rPy rPd rQ rFi rLa rOn rLe rRi rHx rHy rHd rKx rKy rKd) → va_S A s.heap H locs → lv_has ls 9 [(0, .ref (aR 0)), (1, .int p0), (4, .int v4), (5, .int v5), (6, .int v6), (7, .int v7), (8, .int v8)] → W p l e (headSpec wsX5_addEdge ({ frames := 0, cells := 0, slots := 0, locals := 0 })).room s m args below meth c H locs 0 0 GQ (F0 m 95 ls [.int z0, .int z1, .ref (aR 4)]) := by
    intro v4 v5 v6 v7 v8 z0 z1 rE rAx rAy rBx rBy rO H locs ls h hP hD hS hl
    unfold wp_X5_addEdge_L95 at h
    obtain ⟨hin, h⟩ := h
    obtain ⟨y95, ey95⟩ : ∃ z : Nat → Int32, z = upd rAx z1.toNatClampNeg z0 := ⟨_, rfl⟩
    have h := h y95 ey95
    refine va_iast hx hb hK hP hD hS 4 0 rfl rfl hin dX5_addEdge_95 (fun H locs hP hD hS => ?_)
    rw [← ey95] at hP hD
    have hP : va_P D vwCl (wR k aR rF rS rVx rVy rMd rE y95 rAy rBx rBy rO rP rPx rPy rPd rQ rFi rLa rOn rLe rRi rHx rHy rHd rKx rKy rKd) H := hP
    have hD : va_D A (wR k aR rF rS rVx rVy rMd rE y95 rAy rBx rBy rO rP rPx rPy rPd rQ rFi rLa rOn rLe rRi rHx rHy rHd rKx rKy rKd) := hD
    refine lv_aload_n hx hb dX5_addEdge_96 rfl (lv_at hl 0 rfl) ?_
    refine va_get (D := D) (ci := 5) (v := .ref (aR 5)) (C := RX5) (T := TX5) (N := 27) hx hb hts hiX5 hown hK hP 0 rfl rfl 7 (by decide) f22 (fun _ h9 => h9) rfl dX5_addEdge_97 ?_
    refine lv_aload_n hx hb dX5_addEdge_100 rfl (lv_at hl 0 rfl) ?_
    refine va_get (D := D) (ci := 5) (v := .int rE) (C := RX5) (T := TX5) (N := 27) hx hb hts hiX5 hown hK hP 0 rfl rfl 5 (by decide) f92 (fun _ h9 => h9) rfl dX5_addEdge_101 ?_
    refine lv_iload hx hb dX5_addEdge_104 (lv_at hl 6 rfl) ?_
    refine lv_if_eq (tgt := 114) hx hb dX5_addEdge_106 (by decide) (fun cq => ?_) (fun cq => ?_)
    · have h := h.1 cq
      refine lv_iload hx hb dX5_addEdge_114 (lv_at hl 5 rfl) ?_
      exact L116 v4 v5 v6 v7 v8 v7 rE rE y95 rAy rBx rBy rO _ _ _ h hP hD hS (lv_sub hl [0, 1, 2, 3, 4, 5, 6] rfl)
    · have h := h.2 cq
      refine lv_iload hx hb dX5_addEdge_109 (lv_at hl 3 rfl) ?_
      refine lv_goto (tgt := 116) hx hb dX5_addEdge_111 (by decide) ?_
      exact L116 v4 v5 v6 v7 v8 v5 rE rE y95 rAy rBx rBy rO _ _ _ h hP hD hS (lv_sub hl [0, 1, 2, 3, 4, 5, 6] rfl)
  have L73 : ∀ (v4 : Int32) (v5 : Int32) (v6 : Int32) (v7 : Int32) (z0 : Int32) (rE : Int32) (rAx : Nat → Int32) (rAy : Nat → Int32) (rBx : Nat → Int32) (rBy : Nat → Int32) (rO : Nat → Int32) (H : Heap) (locs : List Loc) (ls : Array Slot), wp_X5_addEdge_L73 p0 p1 p2 rVx rVy Q  v4 v5 v6 v7 z0 rE rAx rAy rBx rBy rO → va_P D vwCl (wR k aR rF rS rVx rVy rMd rE rAx rAy rBx rBy rO rP rPx rPy rPd rQ rFi rLa rOn rLe rRi rHx rHy rHd rKx rKy rKd) H → va_D A (wR k aR rF rS rVx rVy rMd rE rAx rAy rBx rBy rO rP rPx rPy rPd rQ rFi rLa rOn rLe rRi rHx rHy rHd rKx rKy rKd) → va_S A s.heap H locs → lv_has ls 9 [(0, .ref (aR 0)), (1, .int p0), (4, .int v4), (5, .int v5), (6, .int v6), (7, .int v7)] → W p l e (headSpec wsX5_addEdge ({ frames := 0, cells := 0, slots := 0, locals := 0 })).room s m args below meth c H locs 0 0 GQ (F0 m 73 ls [.int z0]) := by
    intro v4 v5 v6 v7 z0 rE rAx rAy rBx rBy rO H locs ls h hP hD hS hl
    unfold wp_X5_addEdge_L73 at h
    refine lv_istore (lv' := [(8, .int z0), (0, .ref (aR 0)), (1, .int p0), (4, .int v4), (5, .int v5), (6, .int v6), (7, .int v7)]) hx hb dX5_addEdge_73 hl (by decide) rfl (fun ls hl => ?_)
    refine lv_aload_n hx hb dX5_addEdge_75 rfl (lv_at hl 1 rfl) ?_
    refine va_get (D := D) (ci := 5) (v := .ref (aR 4)) (C := RX5) (T := TX5) (N := 27) hx hb hts hiX5 hown hK hP 0 rfl rfl 6 (by decide) f19 (fun _ h9 => h9) rfl dX5_addEdge_76 ?_
    refine lv_aload_n hx hb dX5_addEdge_79 rfl (lv_at hl 1 rfl) ?_
    refine va_get (D := D) (ci := 5) (v := .int rE) (C := RX5) (T := TX5) (N := 27) hx hb hts hiX5 hown hK hP 0 rfl rfl 5 (by decide) f92 (fun _ h9 => h9) rfl dX5_addEdge_80 ?_
    refine lv_iload hx hb dX5_addEdge_83 (lv_at hl 0 rfl) ?_
    refine lv_if_eq (tgt := 93) hx hb dX5_addEdge_85 (by decide) (fun cq => ?_) (fun cq => ?_)
    · have h := h.1 cq
      refine lv_iload hx hb dX5_addEdge_93 (lv_at hl 5 rfl) ?_
      exact L95 v4 v5 v6 v7 z0 v6 rE rE rAx rAy rBx rBy rO _ _ _ h hP hD hS (lv_sub hl [1, 2, 3, 4, 5, 6, 0] rfl)
    · have h := h.2 cq
      refine lv_iload hx hb dX5_addEdge_88 (lv_at hl 3 rfl) ?_
      refine lv_goto (tgt := 95) hx hb dX5_addEdge_90 (by decide) ?_
      exact L95 v4 v5 v6 v7 z0 v4 rE rE rAx rAy rBx rBy rO _ _ _ h hP hD hS (lv_sub hl [1, 2, 3, 4, 5, 6, 0] rfl)
  have L68 : ∀ (v4 : Int32) (v5 : Int32) (v6 : Int32) (v7 : Int32) (rE : Int32) (rAx : Nat → Int32) (rAy : Nat → Int32) (rBx : Nat → Int32) (rBy : Nat → Int32) (rO : Nat → Int32) (H : Heap) (locs : List Loc) (ls : Array Slot), wp_X5_addEdge_L68 p0 p1 p2 rVx rVy Q  v4 v5 v6 v7 rE rAx rAy rBx rBy rO → va_P D vwCl (wR k aR rF rS rVx rVy rMd rE rAx rAy rBx rBy rO rP rPx rPy rPd rQ rFi rLa rOn rLe rRi rHx rHy rHd rKx rKy rKd) H → va_D A (wR k aR rF rS rVx rVy rMd rE rAx rAy rBx rBy rO rP rPx rPy rPd rQ rFi rLa rOn rLe rRi rHx rHy rHd rKx rKy rKd) → va_S A s.heap H locs → lv_has ls 9 [(0, .ref (aR 0)), (1, .int p0), (4, .int v4), (5, .int v5), (6, .int v6), (7, .int v7)] → W p l e (headSpec wsX5_addEdge ({ frames := 0, cells := 0, slots := 0, locals := 0 })).room s m args below meth c H locs 0 0 GQ (F0 m 68 ls []) := by
    intro v4 v5 v6 v7 rE rAx rAy rBx rBy rO H locs ls h hP hD hS hl
    unfold wp_X5_addEdge_L68 at h
    refine lv_iconst (v := (1 : Int32)) hx hb dX5_addEdge_68 (by decide) ?_
    refine lv_goto (tgt := 73) hx hb dX5_addEdge_69 (by decide) ?_
    exact L73 v4 v5 v6 v7 (1 : Int32) rE rAx rAy rBx rBy rO _ _ _ h hP hD hS (lv_sub hl [0, 1, 2, 3, 4, 5] rfl)
  have L72 : ∀ (v4 : Int32) (v5 : Int32) (v6 : Int32) (v7 : Int32) (rE : Int32) (rAx : Nat → Int32) (rAy : Nat → Int32) (rBx : Nat → Int32) (rBy : Nat → Int32) (rO : Nat → Int32) (H : Heap) (locs : List Loc) (ls : Array Slot), wp_X5_addEdge_L72 p0 p1 p2 rVx rVy Q  v4 v5 v6 v7 rE rAx rAy rBx rBy rO → va_P D vwCl (wR k aR rF rS rVx rVy rMd rE rAx rAy rBx rBy rO rP rPx rPy rPd rQ rFi rLa rOn rLe rRi rHx rHy rHd rKx rKy rKd) H → va_D A (wR k aR rF rS rVx rVy rMd rE rAx rAy rBx rBy rO rP rPx rPy rPd rQ rFi rLa rOn rLe rRi rHx rHy rHd rKx rKy rKd) → va_S A s.heap H locs → lv_has ls 9 [(0, .ref (aR 0)), (1, .int p0), (4, .int v4), (5, .int v5), (6, .int v6), (7, .int v7)] → W p l e (headSpec wsX5_addEdge ({ frames := 0, cells := 0, slots := 0, locals := 0 })).room s m args below meth c H locs 0 0 GQ (F0 m 72 ls []) := by
    intro v4 v5 v6 v7 rE rAx rAy rBx rBy rO H locs ls h hP hD hS hl
    unfold wp_X5_addEdge_L72 at h
    refine lv_iconst (v := (0 : Int32)) hx hb dX5_addEdge_72 (by decide) ?_
    exact L73 v4 v5 v6 v7 (0 : Int32) rE rAx rAy rBx rBy rO _ _ _ h hP hD hS (lv_sub hl [0, 1, 2, 3, 4, 5] rfl)
  have L47 : ∀ (v4 : Int32) (v5 : Int32) (v6 : Int32) (v7 : Int32) (rE : Int32) (rAx : Nat → Int32) (rAy : Nat → Int32) (rBx : Nat → Int32) (rBy : Nat → Int32) (rO : Nat → Int32) (H : Heap) (locs : List Loc) (ls : Array Slot), wp_X5_addEdge_L47 p0 p1 p2 rVx rVy Q  v4 v5 v6 v7 rE rAx rAy rBx rBy rO → va_P D vwCl (wR k aR rF rS rVx rVy rMd rE rAx rAy rBx rBy rO rP rPx rPy rPd rQ rFi rLa rOn rLe rRi rHx rHy rHd rKx rKy rKd) H → va_D A (wR k aR rF rS rVx rVy rMd rE rAx rAy rBx rBy rO rP rPx rPy rPd rQ rFi rLa rOn rLe rRi rHx rHy rHd rKx rKy rKd) → va_S A s.heap H locs → lv_has ls 9 [(0, .ref (aR 0)), (1, .int p0), (4, .int v4), (5, .int v5), (6, .int v6), (7, .int v7)] → W p l e (headSpec wsX5_addEdge ({ frames := 0, cells := 0, slots := 0, locals := 0 })).room s m args below meth c H locs 0 0 GQ (F0 m 47 ls []) := by
    intro v4 v5 v6 v7 rE rAx rAy rBx rBy rO H locs ls h hP hD hS hl
    unfold wp_X5_addEdge_L47 at h
    refine lv_iload hx hb dX5_addEdge_47 (lv_at hl 2 rfl) ?_
    refine lv_iload hx hb dX5_addEdge_49 (lv_at hl 4 rfl) ?_
    refine lv_icmp_lt (tgt := 68) hx hb dX5_addEdge_51 (by decide) (fun cq => ?_) (fun cq => ?_)
    · have h := h.1 cq
      exact L68 v4 v5 v6 v7 rE rAx rAy rBx rBy rO _ _ _ h hP hD hS (lv_sub hl [0, 1, 2, 3, 4, 5] rfl)
    · have h := h.2 cq
      refine lv_iload hx hb dX5_addEdge_54 (lv_at hl 2 rfl) ?_
      refine lv_iload hx hb dX5_addEdge_56 (lv_at hl 4 rfl) ?_
      refine lv_icmp_ne (tgt := 72) hx hb dX5_addEdge_58 (by decide) (fun cq => ?_) (fun cq => ?_)
      · have h := h.1 cq
        exact L72 v4 v5 v6 v7 rE rAx rAy rBx rBy rO _ _ _ h hP hD hS (lv_sub hl [0, 1, 2, 3, 4, 5] rfl)
      · have h := h.2 cq
        refine lv_iload hx hb dX5_addEdge_61 (lv_at hl 3 rfl) ?_
        refine lv_iload hx hb dX5_addEdge_63 (lv_at hl 5 rfl) ?_
        refine lv_icmp_ge (tgt := 72) hx hb dX5_addEdge_65 (by decide) (fun cq => ?_) (fun cq => ?_)
        · have h := h.1 cq
          exact L72 v4 v5 v6 v7 rE rAx rAy rBx rBy rO _ _ _ h hP hD hS (lv_sub hl [0, 1, 2, 3, 4, 5] rfl)
        · have h := h.2 cq
          exact L68 v4 v5 v6 v7 rE rAx rAy rBx rBy rO _ _ _ h hP hD hS (lv_sub hl [0, 1, 2, 3, 4, 5] rfl)
  unfold wp_X5_addEdge at h
  refine lv_aload_n hx hb dX5_addEdge_0 rfl (lv_at hl 0 rfl) ?_
  refine va_get (D := D) (ci := 5) (v := .ref (aR 2)) (C := RX5) (T := TX5) (N := 27) hx hb hts hiX5 hown hK hP 0 rfl rfl 2 (by decide) f13 (fun _ h9 => h9) rfl dX5_addEdge_1 ?_
  refine lv_iload_n hx hb dX5_addEdge_4 rfl (lv_at hl 2 rfl) ?_
  obtain ⟨hin, h⟩ := h
  refine va_iald hx hb hK hP 2 0 rfl rfl hin dX5_addEdge_5 ?_
  refine lv_topi (fun x6 ex6 => ?_)
  have h := h x6 ex6
  refine lv_istore (lv' := [(4, .int x6), (0, .ref (aR 0)), (1, .int p0), (2, .int p1), (3, .int p2)]) hx hb dX5_addEdge_6 hl (by decide) rfl (fun ls hl => ?_)
  refine lv_aload_n hx hb dX5_addEdge_8 rfl (lv_at hl 1 rfl) ?_
  refine va_get (D := D) (ci := 5) (v := .ref (aR 3)) (C := RX5) (T := TX5) (N := 27) hx hb hts hiX5 hown hK hP 0 rfl rfl 3 (by decide) f16 (fun _ h9 => h9) rfl dX5_addEdge_9 ?_
  refine lv_iload_n hx hb dX5_addEdge_12 rfl (lv_at hl 3 rfl) ?_
  obtain ⟨hin, h⟩ := h
  refine va_iald hx hb hK hP 3 0 rfl rfl hin dX5_addEdge_13 ?_
  refine lv_topi (fun x14 ex14 => ?_)
  have h := h x14 ex14
  refine lv_istore (lv' := [(5, .int x14), (4, .int x6), (0, .ref (aR 0)), (1, .int p0), (2, .int p1), (3, .int p2)]) hx hb dX5_addEdge_14 hl (by decide) rfl (fun ls hl => ?_)
  refine lv_aload_n hx hb dX5_addEdge_16 rfl (lv_at hl 2 rfl) ?_
  refine va_get (D := D) (ci := 5) (v := .ref (aR 2)) (C := RX5) (T := TX5) (N := 27) hx hb hts hiX5 hown hK hP 0 rfl rfl 2 (by decide) f13 (fun _ h9 => h9) rfl dX5_addEdge_17 ?_
  refine lv_iload_n hx hb dX5_addEdge_20 rfl (lv_at hl 5 rfl) ?_
  obtain ⟨hin, h⟩ := h
  refine va_iald hx hb hK hP 2 0 rfl rfl hin dX5_addEdge_21 ?_
  refine lv_topi (fun x22 ex22 => ?_)
  have h := h x22 ex22
  refine lv_istore (lv' := [(6, .int x22), (5, .int x14), (4, .int x6), (0, .ref (aR 0)), (1, .int p0), (2, .int p1), (3, .int p2)]) hx hb dX5_addEdge_22 hl (by decide) rfl (fun ls hl => ?_)
  refine lv_aload_n hx hb dX5_addEdge_24 rfl (lv_at hl 3 rfl) ?_
  refine va_get (D := D) (ci := 5) (v := .ref (aR 3)) (C := RX5) (T := TX5) (N := 27) hx hb hts hiX5 hown hK hP 0 rfl rfl 3 (by decide) f16 (fun _ h9 => h9) rfl dX5_addEdge_25 ?_
  refine lv_iload_n hx hb dX5_addEdge_28 rfl (lv_at hl 6 rfl) ?_
  obtain ⟨hin, h⟩ := h
  refine va_iald hx hb hK hP 3 0 rfl rfl hin dX5_addEdge_29 ?_
  refine lv_topi (fun x30 ex30 => ?_)
  have h := h x30 ex30
  refine lv_istore (lv' := [(7, .int x30), (6, .int x22), (5, .int x14), (4, .int x6), (0, .ref (aR 0)), (1, .int p0), (2, .int p1), (3, .int p2)]) hx hb dX5_addEdge_30 hl (by decide) rfl (fun ls hl => ?_)
  refine lv_iload hx hb dX5_addEdge_32 (lv_at hl 3 rfl) ?_
  refine lv_iload hx hb dX5_addEdge_34 (lv_at hl 1 rfl) ?_
  refine lv_icmp_ne (tgt := 47) hx hb dX5_addEdge_36 (by decide) (fun cq => ?_) (fun cq => ?_)
  · have h := h.1 cq
    exact L47 x6 x14 x22 x30 rE rAx rAy rBx rBy rO _ _ _ h hP hD hS (lv_sub hl [4, 5, 3, 2, 1, 0] rfl)
  · have h := h.2 cq
    refine lv_iload hx hb dX5_addEdge_39 (lv_at hl 2 rfl) ?_
    refine lv_iload hx hb dX5_addEdge_41 (lv_at hl 0 rfl) ?_
    refine lv_icmp_ne (tgt := 47) hx hb dX5_addEdge_43 (by decide) (fun cq => ?_) (fun cq => ?_)
    · have h := h.1 cq
      exact L47 x6 x14 x22 x30 rE rAx rAy rBx rBy rO _ _ _ h hP hD hS (lv_sub hl [4, 5, 3, 2, 1, 0] rfl)
    · have h := h.2 cq
      rw [hGQ]
      exact W.vret hx hb hr (fun t ht hW => ⟨⟨(rE, rAx, rAy, rBx, rBy, rO), rfl, h, by rw [ht]; exact hP, hD⟩, hS.F ht⟩) hS.2.2 dX5_addEdge_46
set_option maxHeartbeats 4000000 in
set_option maxRecDepth 100000 in
theorem m_X5_side (l : Launch) (D : va_G) (k : Nat → ClassId) (aR : Nat → Nat) (rF : Int32) (rS : Nat → Int32) (rVx : Nat → Int32) (rVy : Nat → Int32) (rMd : Int32) (rE : Int32) (rAx : Nat → Int32) (rAy : Nat → Int32) (rBx : Nat → Int32) (rBy : Nat → Int32) (rO : Nat → Int32) (rP : Int32) (rPx : Nat → Int32) (rPy : Nat → Int32) (rPd : Nat → Int32) (rQ : Int32) (rFi : Nat → Int32) (rLa : Nat → Int32) (rOn : Nat → Int32) (rLe : Nat → Int32) (rRi : Nat → Int32) (rHx : Int64) (rHy : Int64) (rHd : Int64) (rKx : Int64) (rKy : Int64) (rKd : Int64) (p0 : Int32) (p1 : Int64) (p2 : Int64) (p3 : Int64) (Q : Int64 → Prop) (h : wp_X5_side p0 p1 p2 p3 rAx rAy rBx rBy Q) : Met l yX5_side wsX5_side ({ frames := 0, cells := 0, slots := 0, locals := 0 }) (Pro D k [.ref (aR 0), .int p0, .long p1, .long p2, .long p3] (wR k aR rF rS rVx rVy rMd rE rAx rAy rBx rBy rO rP rPx rPy rPd rQ rFi rLa rOn rLe rRi rHx rHy rHd rKx rKy rKd)) (vp_Sl Q) 0 0 (fun _ => False) := by
  refine Met.ofW (cc := cX5_side) (maxL := 8) (ret := (some .long)) (by decide) rfl ?_
  intro p e s m args below meth c s₁ B hml hv
  obtain ⟨hav, hP, hE⟩ := hv
  have hx := B.exec
  have hb := B.bytes
  have hr := B.returns
  have hts := atoms_spec (ws := wsX5_side) B.pre
  have hown : s.vm.findClass RX5 = some m.cls := findClass_of_methodNamed B.named
  have hlocks := B.notSynchronized
  have hK := hE.1
  have hl := lv_entry ([.ref (aR 0), .int p0, .long p1, .long p2, .long p3]) (n := 8) (Nat.le_of_ble_eq_true rfl)
  rw [show entryFrame m args 8 = entryFrame m ([.ref (aR 0), .int p0, .long p1, .long p2, .long p3] : List Value).toArray 8 by rw [hav]]
  rw [lg_entry_eq]
  refine W.gq (fun GQ hGQ => ?_)
  generalize (lg_sl ([.ref (aR 0), .int p0, .long p1, .long p2, .long p3]) ++ List.replicate (8 - (lg_sl ([.ref (aR 0), .int p0, .long p1, .long p2, .long p3])).length) Slot.unset).toArray = ls at hl ⊢
  have hl : lv_has ls 8 [(0, .ref (aR 0)), (1, .int p0), (2, .long p1), (4, .long p2), (6, .long p3)] := hl
  have hiX5 := (by decide +kernel : ∀ w ∈ wsX50, w ∈ wsX5_side)
  have f25 := hts (.fieldLink RX5 25 "PlaneOverlayModel" "bx" "[I") (by decide +kernel)
  have f19 := hts (.fieldLink RX5 19 "PlaneOverlayModel" "ax" "[I") (by decide +kernel)
  have f22 := hts (.fieldLink RX5 22 "PlaneOverlayModel" "ay" "[I") (by decide +kernel)
  have f28 := hts (.fieldLink RX5 28 "PlaneOverlayModel" "by" "[I") (by decide +kernel)
  unfold wp_X5_side at h
  refine lv_aload_n hx hb dX5_side_0 rfl (lv_at hl 0 rfl) ?_
  refine va_get (D := D) (ci := 5) (v := .ref (aR 6)) (C := RX5) (T := TX5) (N := 27) hx hb hts hiX5 hown hK hP 0 rfl rfl 8 (by decide) f25 (fun _ h9 => h9) rfl dX5_side_1 ?_
  refine lv_iload_n hx hb dX5_side_4 rfl (lv_at hl 1 rfl) ?_
  obtain ⟨hin, h⟩ := h
  refine va_iald hx hb hK hP 6 0 rfl rfl hin dX5_side_5 ?_
  refine lv_aload_n hx hb dX5_side_6 rfl (lv_at hl 0 rfl) ?_
  refine va_get (D := D) (ci := 5) (v := .ref (aR 4)) (C := RX5) (T := TX5) (N := 27) hx hb hts hiX5 hown hK hP 0 rfl rfl 6 (by decide) f19 (fun _ h9 => h9) rfl dX5_side_7 ?_
  refine lv_iload_n hx hb dX5_side_10 rfl (lv_at hl 1 rfl) ?_
  obtain ⟨hin, h⟩ := h
  refine va_iald hx hb hK hP 4 0 rfl rfl hin dX5_side_11 ?_
  refine lv_isub hx hb dX5_side_12 ?_
  refine lv_i2l hx hb dX5_side_13 rfl ?_
  refine lv_lload hx hb dX5_side_14 (lv_at hl 3 rfl) ?_
  refine lv_aload_n hx hb dX5_side_16 rfl (lv_at hl 0 rfl) ?_
  refine va_get (D := D) (ci := 5) (v := .ref (aR 5)) (C := RX5) (T := TX5) (N := 27) hx hb hts hiX5 hown hK hP 0 rfl rfl 7 (by decide) f22 (fun _ h9 => h9) rfl dX5_side_17 ?_
  refine lv_iload_n hx hb dX5_side_20 rfl (lv_at hl 1 rfl) ?_
  obtain ⟨hin, h⟩ := h
  refine va_iald hx hb hK hP 5 0 rfl rfl hin dX5_side_21 ?_
  refine lv_i2l hx hb dX5_side_22 rfl ?_
  refine lv_lload hx hb dX5_side_23 (lv_at hl 4 rfl) ?_
  refine lv_lmul hx hb dX5_side_25 ?_
  refine lv_lsub hx hb dX5_side_26 ?_
  refine lv_lmul hx hb dX5_side_27 ?_
  refine lv_aload_n hx hb dX5_side_28 rfl (lv_at hl 0 rfl) ?_
  refine va_get (D := D) (ci := 5) (v := .ref (aR 7)) (C := RX5) (T := TX5) (N := 27) hx hb hts hiX5 hown hK hP 0 rfl rfl 9 (by decide) f28 (fun _ h9 => h9) rfl dX5_side_29 ?_
  refine lv_iload_n hx hb dX5_side_32 rfl (lv_at hl 1 rfl) ?_
  obtain ⟨hin, h⟩ := h
  refine va_iald hx hb hK hP 7 0 rfl rfl hin dX5_side_33 ?_
  refine lv_aload_n hx hb dX5_side_34 rfl (lv_at hl 0 rfl) ?_
  refine va_get (D := D) (ci := 5) (v := .ref (aR 5)) (C := RX5) (T := TX5) (N := 27) hx hb hts hiX5 hown hK hP 0 rfl rfl 7 (by decide) f22 (fun _ h9 => h9) rfl dX5_side_35 ?_
  refine lv_iload_n hx hb dX5_side_38 rfl (lv_at hl 1 rfl) ?_
  obtain ⟨hin, h⟩ := h
  refine va_iald hx hb hK hP 5 0 rfl rfl hin dX5_side_39 ?_
  refine lv_isub hx hb dX5_side_40 ?_
  refine lv_i2l hx hb dX5_side_41 rfl ?_
  refine lv_lload_n hx hb dX5_side_42 rfl (lv_at hl 2 rfl) ?_
  refine lv_aload_n hx hb dX5_side_43 rfl (lv_at hl 0 rfl) ?_
  refine va_get (D := D) (ci := 5) (v := .ref (aR 4)) (C := RX5) (T := TX5) (N := 27) hx hb hts hiX5 hown hK hP 0 rfl rfl 6 (by decide) f19 (fun _ h9 => h9) rfl dX5_side_44 ?_
  refine lv_iload_n hx hb dX5_side_47 rfl (lv_at hl 1 rfl) ?_
  obtain ⟨hin, h⟩ := h
  refine va_iald hx hb hK hP 4 0 rfl rfl hin dX5_side_48 ?_
  refine lv_i2l hx hb dX5_side_49 rfl ?_
  refine lv_lload hx hb dX5_side_50 (lv_at hl 4 rfl) ?_
  refine lv_lmul hx hb dX5_side_52 ?_
  refine lv_lsub hx hb dX5_side_53 ?_
  refine lv_lmul hx hb dX5_side_54 ?_
  refine lv_lsub hx hb dX5_side_55 ?_
  rw [hGQ]
  exact W.lret (v := ((((rBx p0.toNatClampNeg) - (rAx p0.toNatClampNeg)).toInt64 * (p2 - ((rAy p0.toNatClampNeg).toInt64 * p3))) - (((rBy p0.toNatClampNeg) - (rAy p0.toNatClampNeg)).toInt64 * (p1 - ((rAx p0.toNatClampNeg).toInt64 * p3))))) hx hb hr (fun t ht hW => ⟨_, rfl, h, ht⟩) (fun _ h => by cases h) dX5_side_56
set_option maxHeartbeats 4000000 in
set_option maxRecDepth 100000 in
theorem m_X5_onEdge (l : Launch) (D : va_G) (k : Nat → ClassId) (aR : Nat → Nat) (rF : Int32) (rS : Nat → Int32) (rVx : Nat → Int32) (rVy : Nat → Int32) (rMd : Int32) (rE : Int32) (rAx : Nat → Int32) (rAy : Nat → Int32) (rBx : Nat → Int32) (rBy : Nat → Int32) (rO : Nat → Int32) (rP : Int32) (rPx : Nat → Int32) (rPy : Nat → Int32) (rPd : Nat → Int32) (rQ : Int32) (rFi : Nat → Int32) (rLa : Nat → Int32) (rOn : Nat → Int32) (rLe : Nat → Int32) (rRi : Nat → Int32) (rHx : Int64) (rHy : Int64) (rHd : Int64) (rKx : Int64) (rKy : Int64) (rKd : Int64) (p0 : Int32) (p1 : Int64) (p2 : Int64) (p3 : Int64) (Q : Int32 → Prop) (h : wp_X5_onEdge p0 p1 p2 p3 rAx rAy rBx rBy Q) : Met l yX5_onEdge wsX5_onEdge ({ frames := 1, cells := 0, slots := 0, locals := 35 }) (Pro D k [.ref (aR 0), .int p0, .long p1, .long p2, .long p3] (wR k aR rF rS rVx rVy rMd rE rAx rAy rBx rBy rO rP rPx rPy rPd rQ rFi rLa rOn rLe rRi rHx rHy rHd rKx rKy rKd)) (vp_Si Q) 0 0 (fun _ => False) := by
  refine Met.ofW (cc := cX5_onEdge) (maxL := 8) (ret := (some .boolean)) (by decide) rfl ?_
  intro p e s m args below meth c s₁ B hml hv
  obtain ⟨hav, hP, hE⟩ := hv
  have hx := B.exec
  have hb := B.bytes
  have hr := B.returns
  have hts := atoms_spec (ws := wsX5_onEdge) B.pre
  have hown : s.vm.findClass RX5 = some m.cls := findClass_of_methodNamed B.named
  have hlocks := B.notSynchronized
  have hK := hE.1
  have hl := lv_entry ([.ref (aR 0), .int p0, .long p1, .long p2, .long p3]) (n := 8) (Nat.le_of_ble_eq_true rfl)
  rw [show entryFrame m args 8 = entryFrame m ([.ref (aR 0), .int p0, .long p1, .long p2, .long p3] : List Value).toArray 8 by rw [hav]]
  rw [lg_entry_eq]
  refine W.gq (fun GQ hGQ => ?_)
  generalize (lg_sl ([.ref (aR 0), .int p0, .long p1, .long p2, .long p3]) ++ List.replicate (8 - (lg_sl ([.ref (aR 0), .int p0, .long p1, .long p2, .long p3])).length) Slot.unset).toArray = ls at hl ⊢
  have hl : lv_has ls 8 [(0, .ref (aR 0)), (1, .int p0), (2, .long p1), (4, .long p2), (6, .long p3)] := hl
  have hiX5 := (by decide +kernel : ∀ w ∈ wsX50, w ∈ wsX5_onEdge)
  have f19 := hts (.fieldLink RX5 19 "PlaneOverlayModel" "ax" "[I") (by decide +kernel)
  have f22 := hts (.fieldLink RX5 22 "PlaneOverlayModel" "ay" "[I") (by decide +kernel)
  have f25 := hts (.fieldLink RX5 25 "PlaneOverlayModel" "bx" "[I") (by decide +kernel)
  have f28 := hts (.fieldLink RX5 28 "PlaneOverlayModel" "by" "[I") (by decide +kernel)
  have L72 : ∀ (z0 : Int32) (ls : Array Slot), wp_X5_onEdge_L72 p0 p1 p2 p3 rAx rAy rBx rBy Q  z0 → lv_has ls 8 [] → W p l e (headSpec wsX5_onEdge ({ frames := 1, cells := 0, slots := 0, locals := 35 })).room s m args below meth c s.heap [] 0 0 GQ (F0 m 72 ls [.int z0]) := by
    intro z0 ls h hl
    unfold wp_X5_onEdge_L72 at h
    obtain ⟨hnr, h⟩ := h
    rw [hGQ]
    exact W.zret (v := z0) hx hb hr hnr (fun t ht hW => ⟨_, rfl, h, ht⟩) (fun _ h => by cases h) dX5_onEdge_72
  have L71 : ∀  (ls : Array Slot), wp_X5_onEdge_L71 p0 p1 p2 p3 rAx rAy rBx rBy Q   → lv_has ls 8 [] → W p l e (headSpec wsX5_onEdge ({ frames := 1, cells := 0, slots := 0, locals := 35 })).room s m args below meth c s.heap [] 0 0 GQ (F0 m 71 ls []) := by
    intro  ls h hl
    unfold wp_X5_onEdge_L71 at h
    refine lv_iconst (v := (0 : Int32)) hx hb dX5_onEdge_71 (by decide) ?_
    exact L72 (0 : Int32) _ h (lv_sub hl [] rfl)
  unfold wp_X5_onEdge at h
  refine lv_aload_n hx hb dX5_onEdge_0 rfl (lv_at hl 0 rfl) ?_
  refine lv_iload_n hx hb dX5_onEdge_1 rfl (lv_at hl 1 rfl) ?_
  refine lv_lload_n hx hb dX5_onEdge_2 rfl (lv_at hl 2 rfl) ?_
  refine lv_lload hx hb dX5_onEdge_3 (lv_at hl 3 rfl) ?_
  refine lv_lload hx hb dX5_onEdge_5 (lv_at hl 4 rfl) ?_
  refine vp_callSl (W.runV (C := RX5) (b := (aR 0)) (As := [.int p0, .long p1, .long p2, .long p3]) (rest := []) ⟨hx, hb, hml, hown, hts⟩ (m_X5_side l D k aR rF rS rVx rVy rMd rE rAx rAy rBx rBy rO rP rPx rPy rPd rQ rFi rLa rOn rLe rRi rHx rHy rHd rKx rKy rKd p0 p1 p2 p3 _ h) (cwV 4 hts gX5_onEdge_X5_side rfl rfl rfl (by decide +kernel) ⟨Nat.le_of_ble_eq_true rfl, Nat.le_of_ble_eq_true rfl⟩) (preV_ro (ci := 5) (q0 := 0) (C := RX5) (T := TX5) (N := 27) hE hP rfl rfl) rfl rfl hl.1 rfl (lv_room (Nat.le_of_ble_eq_true rfl)) dX5_onEdge_7 ⟨Nat.le_of_ble_eq_true rfl, Nat.le_of_ble_eq_true rfl⟩) (fun r7 h => ?_)
  refine lv_lconst (v := (0 : Int64)) hx hb dX5_onEdge_10 (by decide) ?_
  refine W.lcmp hx hb dX5_onEdge_11 ?_
  refine lv_if_ne (tgt := 71) hx hb dX5_onEdge_12 (by decide) (fun cq => ?_) (fun cq => ?_)
  · have h := h.1 (fun q => cq ((lg_cmp_eq _ _).mpr q))
    exact L71  _ h (lv_sub hl [] rfl)
  · have h := h.2 ((lg_cmp_eq _ _).mp cq)
    refine lv_lload_n hx hb dX5_onEdge_15 rfl (lv_at hl 2 rfl) ?_
    refine lv_lload hx hb dX5_onEdge_16 (lv_at hl 3 rfl) ?_
    refine lv_lload hx hb dX5_onEdge_18 (lv_at hl 4 rfl) ?_
    refine lv_aload_n hx hb dX5_onEdge_20 rfl (lv_at hl 0 rfl) ?_
    refine va_get (D := D) (ci := 5) (v := .ref (aR 4)) (C := RX5) (T := TX5) (N := 27) hx hb hts hiX5 hown hK hP 0 rfl rfl 6 (by decide) f19 (fun _ h9 => h9) rfl dX5_onEdge_21 ?_
    refine lv_iload_n hx hb dX5_onEdge_24 rfl (lv_at hl 1 rfl) ?_
    obtain ⟨hin, h⟩ := h
    refine va_iald hx hb hK hP 4 0 rfl rfl hin dX5_onEdge_25 ?_
    refine lv_i2l hx hb dX5_onEdge_26 rfl ?_
    refine lv_aload_n hx hb dX5_onEdge_27 rfl (lv_at hl 0 rfl) ?_
    refine va_get (D := D) (ci := 5) (v := .ref (aR 5)) (C := RX5) (T := TX5) (N := 27) hx hb hts hiX5 hown hK hP 0 rfl rfl 7 (by decide) f22 (fun _ h9 => h9) rfl dX5_onEdge_28 ?_
    refine lv_iload_n hx hb dX5_onEdge_31 rfl (lv_at hl 1 rfl) ?_
    obtain ⟨hin, h⟩ := h
    refine va_iald hx hb hK hP 5 0 rfl rfl hin dX5_onEdge_32 ?_
    refine lv_i2l hx hb dX5_onEdge_33 rfl ?_
    refine lv_lconst (v := (1 : Int64)) hx hb dX5_onEdge_34 (by decide) ?_
    refine vp_callSi (W.runS (As := [.long p1, .long p2, .long p3, .long ((rAx p0.toNatClampNeg).toInt64), .long ((rAy p0.toNatClampNeg).toInt64), .long (1 : Int64)]) (rest := []) ⟨hx, hb, hml, hown, hts⟩ (m_X5_order l D k   p1 p2 p3 ((rAx p0.toNatClampNeg).toInt64) ((rAy p0.toNatClampNeg).toInt64) (1 : Int64) _ h) (va_cwS 6 hts gX5_onEdge_X5_order rfl rfl rfl (by decide +kernel) ⟨Nat.le_of_ble_eq_true rfl, Nat.le_of_ble_eq_true rfl⟩) (preS_ro hE vaP0) rfl rfl hl.1 rfl (lv_room (Nat.le_of_ble_eq_true rfl)) dX5_onEdge_35 ⟨Nat.le_of_ble_eq_true rfl, Nat.le_of_ble_eq_true rfl⟩) (fun r35 h => ?_)
    refine lv_if_lt (tgt := 71) hx hb dX5_onEdge_38 (by decide) (fun cq => ?_) (fun cq => ?_)
    · have h := h.1 cq
      exact L71  _ h (lv_sub hl [] rfl)
    · have h := h.2 cq
      refine lv_lload_n hx hb dX5_onEdge_41 rfl (lv_at hl 2 rfl) ?_
      refine lv_lload hx hb dX5_onEdge_42 (lv_at hl 3 rfl) ?_
      refine lv_lload hx hb dX5_onEdge_44 (lv_at hl 4 rfl) ?_
      refine lv_aload_n hx hb dX5_onEdge_46 rfl (lv_at hl 0 rfl) ?_
      refine va_get (D := D) (ci := 5) (v := .ref (aR 6)) (C := RX5) (T := TX5) (N := 27) hx hb hts hiX5 hown hK hP 0 rfl rfl 8 (by decide) f25 (fun _ h9 => h9) rfl dX5_onEdge_47 ?_
      refine lv_iload_n hx hb dX5_onEdge_50 rfl (lv_at hl 1 rfl) ?_
      obtain ⟨hin, h⟩ := h
      refine va_iald hx hb hK hP 6 0 rfl rfl hin dX5_onEdge_51 ?_
      refine lv_i2l hx hb dX5_onEdge_52 rfl ?_
      refine lv_aload_n hx hb dX5_onEdge_53 rfl (lv_at hl 0 rfl) ?_
      refine va_get (D := D) (ci := 5) (v := .ref (aR 7)) (C := RX5) (T := TX5) (N := 27) hx hb hts hiX5 hown hK hP 0 rfl rfl 9 (by decide) f28 (fun _ h9 => h9) rfl dX5_onEdge_54 ?_
      refine lv_iload_n hx hb dX5_onEdge_57 rfl (lv_at hl 1 rfl) ?_
      obtain ⟨hin, h⟩ := h
      refine va_iald hx hb hK hP 7 0 rfl rfl hin dX5_onEdge_58 ?_
      refine lv_i2l hx hb dX5_onEdge_59 rfl ?_
      refine lv_lconst (v := (1 : Int64)) hx hb dX5_onEdge_60 (by decide) ?_
      refine vp_callSi (W.runS (As := [.long p1, .long p2, .long p3, .long ((rBx p0.toNatClampNeg).toInt64), .long ((rBy p0.toNatClampNeg).toInt64), .long (1 : Int64)]) (rest := []) ⟨hx, hb, hml, hown, hts⟩ (m_X5_order l D k   p1 p2 p3 ((rBx p0.toNatClampNeg).toInt64) ((rBy p0.toNatClampNeg).toInt64) (1 : Int64) _ h) (va_cwS 6 hts gX5_onEdge_X5_order rfl rfl rfl (by decide +kernel) ⟨Nat.le_of_ble_eq_true rfl, Nat.le_of_ble_eq_true rfl⟩) (preS_ro hE vaP0) rfl rfl hl.1 rfl (lv_room (Nat.le_of_ble_eq_true rfl)) dX5_onEdge_61 ⟨Nat.le_of_ble_eq_true rfl, Nat.le_of_ble_eq_true rfl⟩) (fun r61 h => ?_)
      refine lv_if_gt (tgt := 71) hx hb dX5_onEdge_64 (by decide) (fun cq => ?_) (fun cq => ?_)
      · have h := h.1 cq
        exact L71  _ h (lv_sub hl [] rfl)
      · have h := h.2 cq
        refine lv_iconst (v := (1 : Int32)) hx hb dX5_onEdge_67 (by decide) ?_
        refine lv_goto (tgt := 72) hx hb dX5_onEdge_68 (by decide) ?_
        exact L72 (1 : Int32) _ h (lv_sub hl [] rfl)
