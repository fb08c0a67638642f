set_option maxHeartbeats 4000000 in
set_option maxRecDepth 100000 in
theorem m_L_vertex (l : Launch) (D : va_G) (k : Nat → ClassId) (aC : Nat → Nat) (aE : Nat → Nat) (aP : Nat → Nat) (aQ : Nat → Nat) (aM : Nat → Nat) (aO : Nat → Nat) (cX : Nat → Nat → Int32) (cY : Nat → Nat → Int32) (cN : Nat → Int32) (cM : Int32) (fX : Nat → Int32) (fY : Nat → Int32) (lX : Nat → Int32) (lY : Nat → Int32) (oP : Nat → Int32) (nE : Int32) (pX : Nat → Int32) (pY : Nat → Int32) (pD : Nat → Int32) (pO : Nat → Int32) (nP : Int32) (qF : Nat → Nat → Int32) (nQ : Int32) (mR : Nat → Int32) (mQ : Int32) (mN : Int32) (oL : Nat → Int64) (oD : Nat → UInt64) (p1 : Int32) (p2 : Int32) (p3 : Int32) (Q : Int32 → (Nat → Nat → Int32) → (Nat → Nat → Int32) → (Nat → Int32) → (Nat → Int64) → Prop) (sz : Nat) (hlt : l.stackTraces = false) (h : wp_L_vertex p1 p2 p3 cX cY cN oL Q) : Met l yL_vertex wsL_vertex ({ frames := 8, cells := 2, slots := 12, locals := 134 }) (Pth D k [.ref (aC 0), .int p1, .int p2, .int p3, .ref (aO 0)] (wC k aC aE aP aQ aM cX cY cN cM ++ wE k aE fX fY lX lY oP nE ++ wP k aP pX pY pD pO nP ++ wQ k aQ qF nQ ++ wM k aM mR mQ mN ++ wO k aO oL oD) sz) (va_Qi (fun (r : Int32) (u : (Nat → Nat → Int32) × (Nat → Nat → Int32) × (Nat → Int32) × (Nat → Int64)) => Q r u.1 u.2.1 u.2.2.1 u.2.2.2) (fun (u : (Nat → Nat → Int32) × (Nat → Nat → Int32) × (Nat → Int32) × (Nat → Int64)) t => va_P D vwCl (wC k aC aE aP aQ aM (u.1) (u.2.1) (u.2.2.1) cM ++ wE k aE fX fY lX lY oP nE ++ wP k aP pX pY pD pO nP ++ wQ k aQ qF nQ ++ wM k aM mR mQ mN ++ wO k aO (u.2.2.2) oD) t.heap ∧ va_D (va_A (wC k aC aE aP aQ aM cX cY cN cM ++ wE k aE fX fY lX lY oP nE ++ wP k aP pX pY pD pO nP ++ wQ k aQ qF nQ ++ wM k aM mR mQ mN ++ wO k aO oL oD) sz) (wC k aC aE aP aQ aM (u.1) (u.2.1) (u.2.2.1) cM ++ wE k aE fX fY lX lY oP nE ++ wP k aP pX pY pD pO nP ++ wQ k aQ qF nQ ++ wM k aM mR mQ mN ++ wO k aO (u.2.2.2) oD)) (va_A (wC k aC aE aP aQ aM cX cY cN cM ++ wE k aE fX fY lX lY oP nE ++ wP k aP pX pY pD pO nP ++ wQ k aQ qF nQ ++ wM k aM mR mQ mN ++ wO k aO oL oD) sz)) 2 12 (va_A (wC k aC aE aP aQ aM cX cY cN cM ++ wE k aE fX fY lX lY oP nE ++ wP k aP pX pY pD pO nP ++ wQ k aQ qF nQ ++ wM k aM mR mQ mN ++ wO k aO oL oD) sz) := by
  refine va_MetW (cc := cL_vertex) (maxL := 6) (ret := (some .int)) (hh := [(0, 12, 15, 13), (0, 12, 19, 15)]) (by decide) rfl ?_
  intro p e s m args below meth c s₁ B hml hv
  obtain ⟨hav, hsz, hP, hE, hD0, hT⟩ := hv
  subst hsz
  have hx := B.exec
  have hb := B.bytes
  have hr := B.returns
  have hts := atoms_spec (ws := wsL_vertex) B.pre
  have hown : s.vm.findClass RL = some m.cls := findClass_of_methodNamed B.named
  have hlocks := B.notSynchronized
  have hK := hE.1
  have hD := hD0.self (sz := s.heap.size)
  generalize hAe : va_A (wC k aC aE aP aQ aM cX cY cN cM ++ wE k aE fX fY lX lY oP nE ++ wP k aP pX pY pD pO nP ++ wQ k aQ qF nQ ++ wM k aM mR mQ mN ++ wO k aO oL oD) s.heap.size = A at hD hT ⊢
  have hA : ∀ q : Nat, s.heap.size ≤ q → A q := fun q h => by rw [← hAe]; exact Or.inr h
  have hS : va_S A s.heap s.heap [] := va_S.rf
  have hl := lv_entry ([.ref (aC 0), .int p1, .int p2, .int p3, .ref (aO 0)]) (n := 6) (Nat.le_of_ble_eq_true rfl)
  rw [show entryFrame m args 6 = entryFrame m ([.ref (aC 0), .int p1, .int p2, .int p3, .ref (aO 0)] : List Value).toArray 6 by rw [hav]]
  rw [lg_entry_eq]
  refine W.gq (fun GQ hGQ => ?_)
  generalize (lg_sl ([.ref (aC 0), .int p1, .int p2, .int p3, .ref (aO 0)]) ++ List.replicate (6 - (lg_sl ([.ref (aC 0), .int p1, .int p2, .int p3, .ref (aO 0)])).length) Slot.unset).toArray = ls at hl ⊢
  have hl : lv_has ls 6 [(0, .ref (aC 0)), (1, .int p1), (2, .int p2), (3, .int p3), (4, .ref (aO 0))] := hl
  have htab := vx_table (x := yL_law) B (hts (.codeWith yL_vertex cL_vertex 6 (some .int) [(0, 12, 15, 13), (0, 12, 19, 15)]) List.mem_cons_self)
  have cl13 := hts (.classLink RL 13 "java/lang/IllegalArgumentException") (by decide +kernel)
  have cl15 := hts (.classLink RL 15 "java/lang/IllegalStateException") (by decide +kernel)
  unfold wp_L_vertex at h
  refine lv_aload hx hb dL_vertex_0 (lv_at hl 4 rfl) ?_
  refine lv_iconst (v := (0 : Int32)) hx hb dL_vertex_2 (by decide) ?_
  refine lv_aload_n hx hb dL_vertex_3 rfl (lv_at hl 0 rfl) ?_
  refine lv_iload_n hx hb dL_vertex_4 rfl (lv_at hl 1 rfl) ?_
  refine lv_iload_n hx hb dL_vertex_5 rfl (lv_at hl 2 rfl) ?_
  refine lv_iload_n hx hb dL_vertex_6 rfl (lv_at hl 3 rfl) ?_
  have hPc := hP.sub (ws' := wC k aC aE aP aQ aM cX cY cN cM) [0, 1, 2, 3, 4, 5, 6, 7] rfl
  have hDc := hD.sub (ws' := wC k aC aE aP aQ aM cX cY cN cM) [0, 1, 2, 3, 4, 5, 6, 7] (by decide) rfl
  have hFc := va_free (wc := wC k aC aE aP aQ aM cX cY cN cM) hD hS hA [0, 1, 2, 3, 4, 5, 6, 7] rfl
  refine vx_calli (vx_runV (C := RX4) (b := (aC 0)) (As := [.int p1, .int p2, .int p3]) (rest := [.int (0 : Int32), .ref (aO 0)]) ⟨hx, hb, hml, hown, hts⟩ (m_X4_vertex l D k aC aE aP aQ aM cX cY cN cM p1 p2 p3 _ _ _ hlt h) (cwV 3 hts gL_vertex_X4_vertex rfl rfl rfl (by decide +kernel) ⟨Nat.le_of_ble_eq_true rfl, Nat.le_of_ble_eq_true rfl⟩) (preV_th (ci := 4) (q0 := 0) (C := RX4) (T := TX4) (N := 8) hE hT hS hFc hPc hDc rfl rfl) rfl rfl hl.1 rfl (lv_room (Nat.le_of_ble_eq_true rfl)) dL_vertex_7 ⟨Nat.le_of_ble_eq_true rfl, Nat.le_of_ble_eq_true rfl⟩) hS (fun q _ h => hFc q h) hFc (fun q _ h => hFc q h) (fun E9 ce q9 u t H1 locs ht hvm hpx hB hz1 hk1 hS hce hcv hcl => ?_) (fun r7 u t H1 locs ht hvm h hB hz1 hk1 hS => ?_)
  · obtain ⟨cX_7, cY_7, cN_7⟩ := u
    obtain ⟨h, hP1, hD1⟩ := hB
    rw [ht] at hP1
    obtain ⟨hP, hD⟩ := va_join (wr := wE k aE fX fY lX lY oP nE ++ wP k aP pX pY pD pO nP ++ wQ k aQ qF nQ ++ wM k aM mR mQ mN ++ wO k aO oL oD) (w1 := wC k aC aE aP aQ aM cX_7 cY_7 cN_7 cM) hP hD [0, 1, 2, 3, 4, 5, 6, 7] [8, 9, 10, 11, 12, 13, 14, 15, 16, 17, 18, 19, 20, 21, 22, 23, 24, 25, 26, 27, 28, 29, 30, 31, 32] rfl rfl (by decide) (by decide) hk1 hFc hP1 hD1
    generalize H1 = H at hP hS hce ⊢
    have hP : va_P D vwCl (wC k aC aE aP aQ aM cX_7 cY_7 cN_7 cM ++ wE k aE fX fY lX lY oP nE ++ wP k aP pX pY pD pO nP ++ wQ k aQ qF nQ ++ wM k aM mR mQ mN ++ wO k aO oL oD) H := hP.sub [25, 26, 27, 28, 29, 30, 31, 32, 0, 1, 2, 3, 4, 5, 6, 7, 8, 9, 10, 11, 12, 13, 14, 15, 16, 17, 18, 19, 20, 21, 22, 23, 24] rfl
    have hD : va_D A (wC k aC aE aP aQ aM cX_7 cY_7 cN_7 cM ++ wE k aE fX fY lX lY oP nE ++ wP k aP pX pY pD pO nP ++ wQ k aQ qF nQ ++ wM k aM mR mQ mN ++ wO k aO oL oD) := hD.sub [25, 26, 27, 28, 29, 30, 31, 32, 0, 1, 2, 3, 4, 5, 6, 7, 8, 9, 10, 11, 12, 13, 14, 15, 16, 17, 18, 19, 20, 21, 22, 23, 24] (by decide) rfl
    rcases h with ⟨rfl, h⟩ | ⟨rfl, h⟩
    · refine vx_catch (own := RL) (name := xIA) (E := xIA) hown [] ⟨0, 12, 15, 13⟩ [⟨0, 12, 19, 15⟩] (by rw [htab]; rfl) (fun z hz => absurd hz List.not_mem_nil) (by decide) (by decide) cl13 (va_Nw.use rfl (hT.2.2.2.1 xIA (by decide))) hce hcv hcl ?_
      refine lv_astore (lv' := [(5, .ref q9), (0, .ref (aC 0)), (1, .int p1), (2, .int p2), (3, .int p3), (4, .ref (aO 0))]) hx hb dL_vertex_15 hl (by decide) rfl (fun ls hl => ?_)
      refine lv_iconst (v := (1 : Int32)) hx hb dL_vertex_17 (by decide) ?_
      rw [hGQ]
      exact W.iret (v := (1 : Int32)) hx hb hr (fun t ht hW => ⟨⟨_, (cX_7, cY_7, cN_7, oL), rfl, h, by rw [ht]; exact hP, hD⟩, hS.F ht⟩) hS.2.2 dL_vertex_18
    · refine vx_catch (own := RL) (name := xIS) (E := xIS) hown [⟨0, 12, 15, 13⟩] ⟨0, 12, 19, 15⟩ [] (by rw [htab]; rfl) (List.forall_mem_cons.mpr ⟨Or.inr ⟨by decide, xIA, cl13, hT.2.2.2.2.2 (xIS, xIA) (by decide)⟩, (fun z hz => absurd hz List.not_mem_nil)⟩) (by decide) (by decide) cl15 (va_Nw.use rfl (hT.2.2.2.1 xIS (by decide))) hce hcv hcl ?_
      refine lv_astore (lv' := [(5, .ref q9), (0, .ref (aC 0)), (1, .int p1), (2, .int p2), (3, .int p3), (4, .ref (aO 0))]) hx hb dL_vertex_19 hl (by decide) rfl (fun ls hl => ?_)
      refine lv_iconst (v := (2 : Int32)) hx hb dL_vertex_21 (by decide) ?_
      rw [hGQ]
      exact W.iret (v := (2 : Int32)) hx hb hr (fun t ht hW => ⟨⟨_, (cX_7, cY_7, cN_7, oL), rfl, h, by rw [ht]; exact hP, hD⟩, hS.F ht⟩) hS.2.2 dL_vertex_22
  obtain ⟨cX_7, cY_7, cN_7⟩ := u
  obtain ⟨hP1, hD1⟩ := hB
  rw [ht] at hP1
  obtain ⟨hP, hD⟩ := va_join (wr := wE k aE fX fY lX lY oP nE ++ wP k aP pX pY pD pO nP ++ wQ k aQ qF nQ ++ wM k aM mR mQ mN ++ wO k aO oL oD) (w1 := wC k aC aE aP aQ aM cX_7 cY_7 cN_7 cM) hP hD [0, 1, 2, 3, 4, 5, 6, 7] [8, 9, 10, 11, 12, 13, 14, 15, 16, 17, 18, 19, 20, 21, 22, 23, 24, 25, 26, 27, 28, 29, 30, 31, 32] rfl rfl (by decide) (by decide) hk1 hFc hP1 hD1
  generalize H1 = H at hP hS ⊢
  have hP : va_P D vwCl (wC k aC aE aP aQ aM cX_7 cY_7 cN_7 cM ++ wE k aE fX fY lX lY oP nE ++ wP k aP pX pY pD pO nP ++ wQ k aQ qF nQ ++ wM k aM mR mQ mN ++ wO k aO oL oD) H := hP.sub [25, 26, 27, 28, 29, 30, 31, 32, 0, 1, 2, 3, 4, 5, 6, 7, 8, 9, 10, 11, 12, 13, 14, 15, 16, 17, 18, 19, 20, 21, 22, 23, 24] rfl
  have hD : va_D A (wC k aC aE aP aQ aM cX_7 cY_7 cN_7 cM ++ wE k aE fX fY lX lY oP nE ++ wP k aP pX pY pD pO nP ++ wQ k aQ qF nQ ++ wM k aM mR mQ mN ++ wO k aO oL oD) := hD.sub [25, 26, 27, 28, 29, 30, 31, 32, 0, 1, 2, 3, 4, 5, 6, 7, 8, 9, 10, 11, 12, 13, 14, 15, 16, 17, 18, 19, 20, 21, 22, 23, 24] (by decide) rfl
  refine lv_i2l hx hb dL_vertex_10 rfl ?_
  obtain ⟨hin, h⟩ := h
  obtain ⟨y11, ey11⟩ : ∃ z : Nat → Int64, z = vp_updL oL (0 : Int32).toNatClampNeg (r7.toInt64) := ⟨_, rfl⟩
  have h := h y11 ey11
  refine va_last hx hb hK hP hD hS 31 2 rfl rfl hin dL_vertex_11 (fun H locs hP hD hS => ?_)
  rw [← ey11] at hP hD
  have hP : va_P D vwCl (wC k aC aE aP aQ aM cX_7 cY_7 cN_7 cM ++ wE k aE fX fY lX lY oP nE ++ wP k aP pX pY pD pO nP ++ wQ k aQ qF nQ ++ wM k aM mR mQ mN ++ wO k aO y11 oD) H := hP
  have hD : va_D A (wC k aC aE aP aQ aM cX_7 cY_7 cN_7 cM ++ wE k aE fX fY lX lY oP nE ++ wP k aP pX pY pD pO nP ++ wQ k aQ qF nQ ++ wM k aM mR mQ mN ++ wO k aO y11 oD) := hD
  refine lv_goto (tgt := 23) hx hb dL_vertex_12 (by decide) ?_
  refine lv_iconst (v := (0 : Int32)) hx hb dL_vertex_23 (by decide) ?_
  rw [hGQ]
  exact W.iret (v := (0 : Int32)) hx hb hr (fun t ht hW => ⟨⟨_, (cX_7, cY_7, cN_7, y11), rfl, h, by rw [ht]; exact hP, hD⟩, hS.F ht⟩) hS.2.2 dL_vertex_24
set_option maxHeartbeats 4000000 in
set_option maxRecDepth 100000 in
theorem m_L_clear (l : Launch) (D : va_G) (k : Nat → ClassId) (aC : Nat → Nat) (aE : Nat → Nat) (aP : Nat → Nat) (aQ : Nat → Nat) (aM : Nat → Nat) (aO : Nat → Nat) (cX : Nat → Nat → Int32) (cY : Nat → Nat → Int32) (cN : Nat → Int32) (cM : Int32) (fX : Nat → Int32) (fY : Nat → Int32) (lX : Nat → Int32) (lY : Nat → Int32) (oP : Nat → Int32) (nE : Int32) (pX : Nat → Int32) (pY : Nat → Int32) (pD : Nat → Int32) (pO : Nat → Int32) (nP : Int32) (qF : Nat → Nat → Int32) (nQ : Int32) (mR : Nat → Int32) (mQ : Int32) (mN : Int32) (oL : Nat → Int64) (oD : Nat → UInt64) (p1 : Int32) (Q : Int32 → (Nat → Int32) → (Nat → Int64) → Prop) (sz : Nat) (hlt : l.stackTraces = false) (h : wp_L_clear p1 cN oL Q) : Met l yL_clear wsL_clear ({ frames := 8, cells := 1, slots := 6, locals := 132 }) (Pth D k [.ref (aC 0), .int p1, .ref (aO 0)] (wC k aC aE aP aQ aM cX cY cN cM ++ wE k aE fX fY lX lY oP nE ++ wP k aP pX pY pD pO nP ++ wQ k aQ qF nQ ++ wM k aM mR mQ mN ++ wO k aO oL oD) sz) (va_Qi (fun (r : Int32) (u : (Nat → Int32) × (Nat → Int64)) => Q r u.1 u.2) (fun (u : (Nat → Int32) × (Nat → Int64)) t => va_P D vwCl (wC k aC aE aP aQ aM cX cY (u.1) cM ++ wE k aE fX fY lX lY oP nE ++ wP k aP pX pY pD pO nP ++ wQ k aQ qF nQ ++ wM k aM mR mQ mN ++ wO k aO (u.2) oD) t.heap ∧ va_D (va_A (wC k aC aE aP aQ aM cX cY cN cM ++ wE k aE fX fY lX lY oP nE ++ wP k aP pX pY pD pO nP ++ wQ k aQ qF nQ ++ wM k aM mR mQ mN ++ wO k aO oL oD) sz) (wC k aC aE aP aQ aM cX cY (u.1) cM ++ wE k aE fX fY lX lY oP nE ++ wP k aP pX pY pD pO nP ++ wQ k aQ qF nQ ++ wM k aM mR mQ mN ++ wO k aO (u.2) oD)) (va_A (wC k aC aE aP aQ aM cX cY cN cM ++ wE k aE fX fY lX lY oP nE ++ wP k aP pX pY pD pO nP ++ wQ k aQ qF nQ ++ wM k aM mR mQ mN ++ wO k aO oL oD) sz)) 1 6 (va_A (wC k aC aE aP aQ aM cX cY cN cM ++ wE k aE fX fY lX lY oP nE ++ wP k aP pX pY pD pO nP ++ wQ k aQ qF nQ ++ wM k aM mR mQ mN ++ wO k aO oL oD) sz) := by
  refine va_MetW (cc := cL_clear) (maxL := 4) (ret := (some .int)) (hh := [(0, 9, 12, 13)]) (by decide) rfl ?_
  intro p e s m args below meth c s₁ B hml hv
  obtain ⟨hav, hsz, hP, hE, hD0, hT⟩ := hv
  subst hsz
  have hx := B.exec
  have hb := B.bytes
  have hr := B.returns
  have hts := atoms_spec (ws := wsL_clear) B.pre
  have hown : s.vm.findClass RL = some m.cls := findClass_of_methodNamed B.named
  have hlocks := B.notSynchronized
  have hK := hE.1
  have hD := hD0.self (sz := s.heap.size)
  generalize hAe : va_A (wC k aC aE aP aQ aM cX cY cN cM ++ wE k aE fX fY lX lY oP nE ++ wP k aP pX pY pD pO nP ++ wQ k aQ qF nQ ++ wM k aM mR mQ mN ++ wO k aO oL oD) s.heap.size = A at hD hT ⊢
  have hA : ∀ q : Nat, s.heap.size ≤ q → A q := fun q h => by rw [← hAe]; exact Or.inr h
  have hS : va_S A s.heap s.heap [] := va_S.rf
  have hl := lv_entry ([.ref (aC 0), .int p1, .ref (aO 0)]) (n := 4) (Nat.le_of_ble_eq_true rfl)
  rw [show entryFrame m args 4 = entryFrame m ([.ref (aC 0), .int p1, .ref (aO 0)] : List Value).toArray 4 by rw [hav]]
  rw [lg_entry_eq]
  refine W.gq (fun GQ hGQ => ?_)
  generalize (lg_sl ([.ref (aC 0), .int p1, .ref (aO 0)]) ++ List.replicate (4 - (lg_sl ([.ref (aC 0), .int p1, .ref (aO 0)])).length) Slot.unset).toArray = ls at hl ⊢
  have hl : lv_has ls 4 [(0, .ref (aC 0)), (1, .int p1), (2, .ref (aO 0))] := hl
  have htab := vx_table (x := yL_law) B (hts (.codeWith yL_clear cL_clear 4 (some .int) [(0, 9, 12, 13)]) List.mem_cons_self)
  have cl13 := hts (.classLink RL 13 "java/lang/IllegalArgumentException") (by decide +kernel)
  unfold wp_L_clear at h
  refine lv_aload_n hx hb dL_clear_0 rfl (lv_at hl 2 rfl) ?_
  refine lv_iconst (v := (0 : Int32)) hx hb dL_clear_1 (by decide) ?_
  refine lv_aload_n hx hb dL_clear_2 rfl (lv_at hl 0 rfl) ?_
  refine lv_iload_n hx hb dL_clear_3 rfl (lv_at hl 1 rfl) ?_
  have hPc := hP.sub (ws' := wC k aC aE aP aQ aM cX cY cN cM) [0, 1, 2, 3, 4, 5, 6, 7] rfl
  have hDc := hD.sub (ws' := wC k aC aE aP aQ aM cX cY cN cM) [0, 1, 2, 3, 4, 5, 6, 7] (by decide) rfl
  have hFc := va_free (wc := wC k aC aE aP aQ aM cX cY cN cM) hD hS hA [0, 1, 2, 3, 4, 5, 6, 7] rfl
  refine vx_calli (vx_runV (C := RX4) (b := (aC 0)) (As := [.int p1]) (rest := [.int (0 : Int32), .ref (aO 0)]) ⟨hx, hb, hml, hown, hts⟩ (m_X4_clear l D k aC aE aP aQ aM cX cY cN cM p1 _ _ _ hlt h) (cwV 1 hts gL_clear_X4_clear rfl rfl rfl (by decide +kernel) ⟨Nat.le_of_ble_eq_true rfl, Nat.le_of_ble_eq_true rfl⟩) (preV_th (ci := 4) (q0 := 0) (C := RX4) (T := TX4) (N := 8) hE hT hS hFc hPc hDc rfl rfl) rfl rfl hl.1 rfl (lv_room (Nat.le_of_ble_eq_true rfl)) dL_clear_4 ⟨Nat.le_of_ble_eq_true rfl, Nat.le_of_ble_eq_true rfl⟩) hS (fun q _ h => hFc q h) hFc (fun q _ h => hFc q h) (fun E9 ce q9 cN_4 t H1 locs ht hvm hpx hB hz1 hk1 hS hce hcv hcl => ?_) (fun r4 cN_4 t H1 locs ht hvm h hB hz1 hk1 hS => ?_)
  · obtain ⟨h, hP1, hD1⟩ := hB
    rw [ht] at hP1
    obtain ⟨hP, hD⟩ := va_join (wr := wE k aE fX fY lX lY oP nE ++ wP k aP pX pY pD pO nP ++ wQ k aQ qF nQ ++ wM k aM mR mQ mN ++ wO k aO oL oD) (w1 := wC k aC aE aP aQ aM cX cY cN_4 cM) hP hD [0, 1, 2, 3, 4, 5, 6, 7] [8, 9, 10, 11, 12, 13, 14, 15, 16, 17, 18, 19, 20, 21, 22, 23, 24, 25, 26, 27, 28, 29, 30, 31, 32] rfl rfl (by decide) (by decide) hk1 hFc hP1 hD1
    generalize H1 = H at hP hS hce ⊢
    have hP : va_P D vwCl (wC k aC aE aP aQ aM cX cY cN_4 cM ++ wE k aE fX fY lX lY oP nE ++ wP k aP pX pY pD pO nP ++ wQ k aQ qF nQ ++ wM k aM mR mQ mN ++ wO k aO oL oD) H := hP.sub [25, 26, 27, 28, 29, 30, 31, 32, 0, 1, 2, 3, 4, 5, 6, 7, 8, 9, 10, 11, 12, 13, 14, 15, 16, 17, 18, 19, 20, 21, 22, 23, 24] rfl
    have hD : va_D A (wC k aC aE aP aQ aM cX cY cN_4 cM ++ wE k aE fX fY lX lY oP nE ++ wP k aP pX pY pD pO nP ++ wQ k aQ qF nQ ++ wM k aM mR mQ mN ++ wO k aO oL oD) := hD.sub [25, 26, 27, 28, 29, 30, 31, 32, 0, 1, 2, 3, 4, 5, 6, 7, 8, 9, 10, 11, 12, 13, 14, 15, 16, 17, 18, 19, 20, 21, 22, 23, 24] (by decide) rfl
    obtain ⟨rfl, h⟩ := h
    refine vx_catch (own := RL) (name := xIA) (E := xIA) hown [] ⟨0, 9, 12, 13⟩ [] (by rw [htab]; rfl) (fun z hz => absurd hz List.not_mem_nil) (by decide) (by decide) cl13 (va_Nw.use rfl (hT.2.2.2.1 xIA (by decide))) hce hcv hcl ?_
    refine lv_astore_n (lv' := [(3, .ref q9), (0, .ref (aC 0)), (1, .int p1), (2, .ref (aO 0))]) hx hb dL_clear_12 rfl hl (by decide) rfl (fun ls hl => ?_)
    refine lv_iconst (v := (1 : Int32)) hx hb dL_clear_13 (by decide) ?_
    rw [hGQ]
    exact W.iret (v := (1 : Int32)) hx hb hr (fun t ht hW => ⟨⟨_, (cN_4, oL), rfl, h, by rw [ht]; exact hP, hD⟩, hS.F ht⟩) hS.2.2 dL_clear_14
  obtain ⟨hP1, hD1⟩ := hB
  rw [ht] at hP1
  obtain ⟨hP, hD⟩ := va_join (wr := wE k aE fX fY lX lY oP nE ++ wP k aP pX pY pD pO nP ++ wQ k aQ qF nQ ++ wM k aM mR mQ mN ++ wO k aO oL oD) (w1 := wC k aC aE aP aQ aM cX cY cN_4 cM) hP hD [0, 1, 2, 3, 4, 5, 6, 7] [8, 9, 10, 11, 12, 13, 14, 15, 16, 17, 18, 19, 20, 21, 22, 23, 24, 25, 26, 27, 28, 29, 30, 31, 32] rfl rfl (by decide) (by decide) hk1 hFc hP1 hD1
  generalize H1 = H at hP hS ⊢
  have hP : va_P D vwCl (wC k aC aE aP aQ aM cX cY cN_4 cM ++ wE k aE fX fY lX lY oP nE ++ wP k aP pX pY pD pO nP ++ wQ k aQ qF nQ ++ wM k aM mR mQ mN ++ wO k aO oL oD) H := hP.sub [25, 26, 27, 28, 29, 30, 31, 32, 0, 1, 2, 3, 4, 5, 6, 7, 8, 9, 10, 11, 12, 13, 14, 15, 16, 17, 18, 19, 20, 21, 22, 23, 24] rfl
  have hD : va_D A (wC k aC aE aP aQ aM cX cY cN_4 cM ++ wE k aE fX fY lX lY oP nE ++ wP k aP pX pY pD pO nP ++ wQ k aQ qF nQ ++ wM k aM mR mQ mN ++ wO k aO oL oD) := hD.sub [25, 26, 27, 28, 29, 30, 31, 32, 0, 1, 2, 3, 4, 5, 6, 7, 8, 9, 10, 11, 12, 13, 14, 15, 16, 17, 18, 19, 20, 21, 22, 23, 24] (by decide) rfl
  refine lv_i2l hx hb dL_clear_7 rfl ?_
  obtain ⟨hin, h⟩ := h
  obtain ⟨y8, ey8⟩ : ∃ z : Nat → Int64, z = vp_updL oL (0 : Int32).toNatClampNeg (r4.toInt64) := ⟨_, rfl⟩
  have h := h y8 ey8
  refine va_last hx hb hK hP hD hS 31 2 rfl rfl hin dL_clear_8 (fun H locs hP hD hS => ?_)
  rw [← ey8] at hP hD
  have hP : va_P D vwCl (wC k aC aE aP aQ aM cX cY cN_4 cM ++ wE k aE fX fY lX lY oP nE ++ wP k aP pX pY pD pO nP ++ wQ k aQ qF nQ ++ wM k aM mR mQ mN ++ wO k aO y8 oD) H := hP
  have hD : va_D A (wC k aC aE aP aQ aM cX cY cN_4 cM ++ wE k aE fX fY lX lY oP nE ++ wP k aP pX pY pD pO nP ++ wQ k aQ qF nQ ++ wM k aM mR mQ mN ++ wO k aO y8 oD) := hD
  refine lv_goto (tgt := 15) hx hb dL_clear_9 (by decide) ?_
  refine lv_iconst (v := (0 : Int32)) hx hb dL_clear_15 (by decide) ?_
  rw [hGQ]
  exact W.iret (v := (0 : Int32)) hx hb hr (fun t ht hW => ⟨⟨_, (cN_4, y8), rfl, h, by rw [ht]; exact hP, hD⟩, hS.F ht⟩) hS.2.2 dL_clear_16
set_option maxHeartbeats 4000000 in
set_option maxRecDepth 100000 in
theorem m_L_size (l : Launch) (D : va_G) (k : Nat → ClassId) (aC : Nat → Nat) (aE : Nat → Nat) (aP : Nat → Nat) (aQ : Nat → Nat) (aM : Nat → Nat) (aO : Nat → Nat) (cX : Nat → Nat → Int32) (cY : Nat → Nat → Int32) (cN : Nat → Int32) (cM : Int32) (fX : Nat → Int32) (fY : Nat → Int32) (lX : Nat → Int32) (lY : Nat → Int32) (oP : Nat → Int32) (nE : Int32) (pX : Nat → Int32) (pY : Nat → Int32) (pD : Nat → Int32) (pO : Nat → Int32) (nP : Int32) (qF : Nat → Nat → Int32) (nQ : Int32) (mR : Nat → Int32) (mQ : Int32) (mN : Int32) (oL : Nat → Int64) (oD : Nat → UInt64) (p1 : Int32) (Q : Int32 → (Nat → Int64) → Prop) (sz : Nat) (hlt : l.stackTraces = false) (h : wp_L_size p1 cM nE nP nQ mQ mN oL Q) : Met l yL_size wsL_size ({ frames := 8, cells := 2, slots := 12, locals := 131 }) (Pth D k [.ref (aC 0), .int p1, .ref (aO 0)] (wC k aC aE aP aQ aM cX cY cN cM ++ wE k aE fX fY lX lY oP nE ++ wP k aP pX pY pD pO nP ++ wQ k aQ qF nQ ++ wM k aM mR mQ mN ++ wO k aO oL oD) sz) (va_Qi (fun (r : Int32) (u : (Nat → Int64)) => Q r u) (fun (u : (Nat → Int64)) t => va_P D vwCl (wC k aC aE aP aQ aM cX cY cN cM ++ wE k aE fX fY lX lY oP nE ++ wP k aP pX pY pD pO nP ++ wQ k aQ qF nQ ++ wM k aM mR mQ mN ++ wO k aO u oD) t.heap ∧ va_D (va_A (wC k aC aE aP aQ aM cX cY cN cM ++ wE k aE fX fY lX lY oP nE ++ wP k aP pX pY pD pO nP ++ wQ k aQ qF nQ ++ wM k aM mR mQ mN ++ wO k aO oL oD) sz) (wC k aC aE aP aQ aM cX cY cN cM ++ wE k aE fX fY lX lY oP nE ++ wP k aP pX pY pD pO nP ++ wQ k aQ qF nQ ++ wM k aM mR mQ mN ++ wO k aO u oD)) (va_A (wC k aC aE aP aQ aM cX cY cN cM ++ wE k aE fX fY lX lY oP nE ++ wP k aP pX pY pD pO nP ++ wQ k aQ qF nQ ++ wM k aM mR mQ mN ++ wO k aO oL oD) sz)) 2 12 (va_A (wC k aC aE aP aQ aM cX cY cN cM ++ wE k aE fX fY lX lY oP nE ++ wP k aP pX pY pD pO nP ++ wQ k aQ qF nQ ++ wM k aM mR mQ mN ++ wO k aO oL oD) sz) := by
  refine va_MetW (cc := cL_size) (maxL := 4) (ret := (some .int)) (hh := [(0, 9, 12, 15), (0, 9, 15, 13)]) (by decide) rfl ?_
  intro p e s m args below meth c s₁ B hml hv
  obtain ⟨hav, hsz, hP, hE, hD0, hT⟩ := hv
  subst hsz
  have hx := B.exec
  have hb := B.bytes
  have hr := B.returns
  have hts := atoms_spec (ws := wsL_size) B.pre
  have hown : s.vm.findClass RL = some m.cls := findClass_of_methodNamed B.named
  have hlocks := B.notSynchronized
  have hK := hE.1
  have hD := hD0.self (sz := s.heap.size)
  generalize hAe : va_A (wC k aC aE aP aQ aM cX cY cN cM ++ wE k aE fX fY lX lY oP nE ++ wP k aP pX pY pD pO nP ++ wQ k aQ qF nQ ++ wM k aM mR mQ mN ++ wO k aO oL oD) s.heap.size = A at hD hT ⊢
  have hA : ∀ q : Nat, s.heap.size ≤ q → A q := fun q h => by rw [← hAe]; exact Or.inr h
  have hS : va_S A s.heap s.heap [] := va_S.rf
  have hl := lv_entry ([.ref (aC 0), .int p1, .ref (aO 0)]) (n := 4) (Nat.le_of_ble_eq_true rfl)
  rw [show entryFrame m args 4 = entryFrame m ([.ref (aC 0), .int p1, .ref (aO 0)] : List Value).toArray 4 by rw [hav]]
  rw [lg_entry_eq]
  refine W.gq (fun GQ hGQ => ?_)
  generalize (lg_sl ([.ref (aC 0), .int p1, .ref (aO 0)]) ++ List.replicate (4 - (lg_sl ([.ref (aC 0), .int p1, .ref (aO 0)])).length) Slot.unset).toArray = ls at hl ⊢
  have hl : lv_has ls 4 [(0, .ref (aC 0)), (1, .int p1), (2, .ref (aO 0))] := hl
  have htab := vx_table (x := yL_law) B (hts (.codeWith yL_size cL_size 4 (some .int) [(0, 9, 12, 15), (0, 9, 15, 13)]) List.mem_cons_self)
  have cl15 := hts (.classLink RL 15 "java/lang/IllegalStateException") (by decide +kernel)
  have cl13 := hts (.classLink RL 13 "java/lang/IllegalArgumentException") (by decide +kernel)
  unfold wp_L_size at h
  refine lv_aload_n hx hb dL_size_0 rfl (lv_at hl 2 rfl) ?_
  refine lv_iconst (v := (0 : Int32)) hx hb dL_size_1 (by decide) ?_
  refine lv_aload_n hx hb dL_size_2 rfl (lv_at hl 0 rfl) ?_
  refine lv_iload_n hx hb dL_size_3 rfl (lv_at hl 1 rfl) ?_
  have hPc := hP.sub (ws' := wC k aC aE aP aQ aM cX cY cN cM ++ wE k aE fX fY lX lY oP nE ++ wP k aP pX pY pD pO nP ++ wQ k aQ qF nQ ++ wM k aM mR mQ mN) [0, 1, 2, 3, 4, 5, 6, 7, 8, 9, 10, 11, 12, 13, 14, 15, 16, 17, 18, 19, 20, 21, 22, 23, 24, 25, 26, 27, 28, 29, 30] rfl
  have hDc := hD.sub (ws' := wC k aC aE aP aQ aM cX cY cN cM ++ wE k aE fX fY lX lY oP nE ++ wP k aP pX pY pD pO nP ++ wQ k aQ qF nQ ++ wM k aM mR mQ mN) [0, 1, 2, 3, 4, 5, 6, 7, 8, 9, 10, 11, 12, 13, 14, 15, 16, 17, 18, 19, 20, 21, 22, 23, 24, 25, 26, 27, 28, 29, 30] (by decide) rfl
  have hFc := va_free (wc := wC k aC aE aP aQ aM cX cY cN cM ++ wE k aE fX fY lX lY oP nE ++ wP k aP pX pY pD pO nP ++ wQ k aQ qF nQ ++ wM k aM mR mQ mN) hD hS hA [0, 1, 2, 3, 4, 5, 6, 7, 8, 9, 10, 11, 12, 13, 14, 15, 16, 17, 18, 19, 20, 21, 22, 23, 24, 25, 26, 27, 28, 29, 30] rfl
  refine vx_calli (vx_runV (C := RX4) (b := (aC 0)) (As := [.int p1]) (rest := [.int (0 : Int32), .ref (aO 0)]) ⟨hx, hb, hml, hown, hts⟩ (m_X4_size l D k aC aE aP aQ aM cX cY cN cM fX fY lX lY oP nE pX pY pD pO nP qF nQ mR mQ mN p1 _ _ _ hlt h) (cwV 1 hts gL_size_X4_size rfl rfl rfl (by decide +kernel) ⟨Nat.le_of_ble_eq_true rfl, Nat.le_of_ble_eq_true rfl⟩) (preV_th (ci := 4) (q0 := 0) (C := RX4) (T := TX4) (N := 8) hE hT hS hFc hPc hDc rfl rfl) rfl rfl hl.1 rfl (lv_room (Nat.le_of_ble_eq_true rfl)) dL_size_4 ⟨Nat.le_of_ble_eq_true rfl, Nat.le_of_ble_eq_true rfl⟩) hS (fun q _ h => hFc q h) hFc (fun q _ h => hFc q h) (fun E9 ce q9 u t H1 locs ht hvm hpx hB hz1 hk1 hS hce hcv hcl => ?_) (fun r4 u t H1 locs ht hvm h hB hz1 hk1 hS => ?_)
  · obtain ⟨h, hP1, hD1⟩ := hB
    rw [ht] at hP1
    obtain ⟨hP, hD⟩ := va_join (wr := wO k aO oL oD) (w1 := wC k aC aE aP aQ aM cX cY cN cM ++ wE k aE fX fY lX lY oP nE ++ wP k aP pX pY pD pO nP ++ wQ k aQ qF nQ ++ wM k aM mR mQ mN) hP hD [0, 1, 2, 3, 4, 5, 6, 7, 8, 9, 10, 11, 12, 13, 14, 15, 16, 17, 18, 19, 20, 21, 22, 23, 24, 25, 26, 27, 28, 29, 30] [31, 32] rfl rfl (by decide) (by decide) hk1 hFc hP1 hD1
    generalize H1 = H at hP hS hce ⊢
    have hP : va_P D vwCl (wC k aC aE aP aQ aM cX cY cN cM ++ wE k aE fX fY lX lY oP nE ++ wP k aP pX pY pD pO nP ++ wQ k aQ qF nQ ++ wM k aM mR mQ mN ++ wO k aO oL oD) H := hP.sub [2, 3, 4, 5, 6, 7, 8, 9, 10, 11, 12, 13, 14, 15, 16, 17, 18, 19, 20, 21, 22, 23, 24, 25, 26, 27, 28, 29, 30, 31, 32, 0, 1] rfl
    have hD : va_D A (wC k aC aE aP aQ aM cX cY cN cM ++ wE k aE fX fY lX lY oP nE ++ wP k aP pX pY pD pO nP ++ wQ k aQ qF nQ ++ wM k aM mR mQ mN ++ wO k aO oL oD) := hD.sub [2, 3, 4, 5, 6, 7, 8, 9, 10, 11, 12, 13, 14, 15, 16, 17, 18, 19, 20, 21, 22, 23, 24, 25, 26, 27, 28, 29, 30, 31, 32, 0, 1] (by decide) rfl
    rcases h with ⟨rfl, h⟩ | ⟨rfl, h⟩
    · refine vx_catch (own := RL) (name := xIS) (E := xIS) hown [] ⟨0, 9, 12, 15⟩ [⟨0, 9, 15, 13⟩] (by rw [htab]; rfl) (fun z hz => absurd hz List.not_mem_nil) (by decide) (by decide) cl15 (va_Nw.use rfl (hT.2.2.2.1 xIS (by decide))) hce hcv hcl ?_
      refine lv_astore_n (lv' := [(3, .ref q9), (0, .ref (aC 0)), (1, .int p1), (2, .ref (aO 0))]) hx hb dL_size_12 rfl hl (by decide) rfl (fun ls hl => ?_)
      refine lv_iconst (v := (1 : Int32)) hx hb dL_size_13 (by decide) ?_
      rw [hGQ]
      exact W.iret (v := (1 : Int32)) hx hb hr (fun t ht hW => ⟨⟨_, (oL), rfl, h, by rw [ht]; exact hP, hD⟩, hS.F ht⟩) hS.2.2 dL_size_14
    · refine vx_catch (own := RL) (name := xIA) (E := xIA) hown [⟨0, 9, 12, 15⟩] ⟨0, 9, 15, 13⟩ [] (by rw [htab]; rfl) (List.forall_mem_cons.mpr ⟨Or.inr ⟨by decide, xIS, cl15, hT.2.2.2.2.2 (xIA, xIS) (by decide)⟩, (fun z hz => absurd hz List.not_mem_nil)⟩) (by decide) (by decide) cl13 (va_Nw.use rfl (hT.2.2.2.1 xIA (by decide))) hce hcv hcl ?_
      refine lv_astore_n (lv' := [(3, .ref q9), (0, .ref (aC 0)), (1, .int p1), (2, .ref (aO 0))]) hx hb dL_size_15 rfl hl (by decide) rfl (fun ls hl => ?_)
      refine lv_iconst (v := (2 : Int32)) hx hb dL_size_16 (by decide) ?_
      rw [hGQ]
      exact W.iret (v := (2 : Int32)) hx hb hr (fun t ht hW => ⟨⟨_, (oL), rfl, h, by rw [ht]; exact hP, hD⟩, hS.F ht⟩) hS.2.2 dL_size_17
  obtain ⟨hP1, hD1⟩ := hB
  rw [ht] at hP1
  obtain ⟨hP, hD⟩ := va_join (wr := wO k aO oL oD) (w1 := wC k aC aE aP aQ aM cX cY cN cM ++ wE k aE fX fY lX lY oP nE ++ wP k aP pX pY pD pO nP ++ wQ k aQ qF nQ ++ wM k aM mR mQ mN) hP hD [0, 1, 2, 3, 4, 5, 6, 7, 8, 9, 10, 11, 12, 13, 14, 15, 16, 17, 18, 19, 20, 21, 22, 23, 24, 25, 26, 27, 28, 29, 30] [31, 32] rfl rfl (by decide) (by decide) hk1 hFc hP1 hD1
  generalize H1 = H at hP hS ⊢
  have hP : va_P D vwCl (wC k aC aE aP aQ aM cX cY cN cM ++ wE k aE fX fY lX lY oP nE ++ wP k aP pX pY pD pO nP ++ wQ k aQ qF nQ ++ wM k aM mR mQ mN ++ wO k aO oL oD) H := hP.sub [2, 3, 4, 5, 6, 7, 8, 9, 10, 11, 12, 13, 14, 15, 16, 17, 18, 19, 20, 21, 22, 23, 24, 25, 26, 27, 28, 29, 30, 31, 32, 0, 1] rfl
  have hD : va_D A (wC k aC aE aP aQ aM cX cY cN cM ++ wE k aE fX fY lX lY oP nE ++ wP k aP pX pY pD pO nP ++ wQ k aQ qF nQ ++ wM k aM mR mQ mN ++ wO k aO oL oD) := hD.sub [2, 3, 4, 5, 6, 7, 8, 9, 10, 11, 12, 13, 14, 15, 16, 17, 18, 19, 20, 21, 22, 23, 24, 25, 26, 27, 28, 29, 30, 31, 32, 0, 1] (by decide) rfl
  refine lv_i2l hx hb dL_size_7 rfl ?_
  obtain ⟨hin, h⟩ := h
  obtain ⟨y8, ey8⟩ : ∃ z : Nat → Int64, z = vp_updL oL (0 : Int32).toNatClampNeg (r4.toInt64) := ⟨_, rfl⟩
  have h := h y8 ey8
  refine va_last hx hb hK hP hD hS 31 2 rfl rfl hin dL_size_8 (fun H locs hP hD hS => ?_)
  rw [← ey8] at hP hD
  have hP : va_P D vwCl (wC k aC aE aP aQ aM cX cY cN cM ++ wE k aE fX fY lX lY oP nE ++ wP k aP pX pY pD pO nP ++ wQ k aQ qF nQ ++ wM k aM mR mQ mN ++ wO k aO y8 oD) H := hP
  have hD : va_D A (wC k aC aE aP aQ aM cX cY cN cM ++ wE k aE fX fY lX lY oP nE ++ wP k aP pX pY pD pO nP ++ wQ k aQ qF nQ ++ wM k aM mR mQ mN ++ wO k aO y8 oD) := hD
  refine lv_goto (tgt := 18) hx hb dL_size_9 (by decide) ?_
  refine lv_iconst (v := (0 : Int32)) hx hb dL_size_18 (by decide) ?_
  rw [hGQ]
  exact W.iret (v := (0 : Int32)) hx hb hr (fun t ht hW => ⟨⟨_, (y8), rfl, h, by rw [ht]; exact hP, hD⟩, hS.F ht⟩) hS.2.2 dL_size_19
set_option maxHeartbeats 4000000 in
set_option maxRecDepth 100000 in
theorem m_L_point (l : Launch) (D : va_G) (k : Nat → ClassId) (aC : Nat → Nat) (aE : Nat → Nat) (aP : Nat → Nat) (aQ : Nat → Nat) (aM : Nat → Nat) (aO : Nat → Nat) (cX : Nat → Nat → Int32) (cY : Nat → Nat → Int32) (cN : Nat → Int32) (cM : Int32) (fX : Nat → Int32) (fY : Nat → Int32) (lX : Nat → Int32) (lY : Nat → Int32) (oP : Nat → Int32) (nE : Int32) (pX : Nat → Int32) (pY : Nat → Int32) (pD : Nat → Int32) (pO : Nat → Int32) (nP : Int32) (qF : Nat → Nat → Int32) (nQ : Int32) (mR : Nat → Int32) (mQ : Int32) (mN : Int32) (oL : Nat → Int64) (oD : Nat → UInt64) (p1 : Int32) (p2 : Int32) (Q : Int32 → (Nat → Int64) → Prop) (sz : Nat) (hlt : l.stackTraces = false) (h : wp_L_point p1 p2 cM pX pY pD nP oL Q) : Met l yL_point wsL_point ({ frames := 8, cells := 2, slots := 12, locals := 132 }) (Pth D k [.ref (aC 0), .int p1, .int p2, .ref (aO 0)] (wC k aC aE aP aQ aM cX cY cN cM ++ wE k aE fX fY lX lY oP nE ++ wP k aP pX pY pD pO nP ++ wQ k aQ qF nQ ++ wM k aM mR mQ mN ++ wO k aO oL oD) sz) (va_Qi (fun (r : Int32) (u : (Nat → Int64)) => Q r u) (fun (u : (Nat → Int64)) t => va_P D vwCl (wC k aC aE aP aQ aM cX cY cN cM ++ wE k aE fX fY lX lY oP nE ++ wP k aP pX pY pD pO nP ++ wQ k aQ qF nQ ++ wM k aM mR mQ mN ++ wO k aO u oD) t.heap ∧ va_D (va_A (wC k aC aE aP aQ aM cX cY cN cM ++ wE k aE fX fY lX lY oP nE ++ wP k aP pX pY pD pO nP ++ wQ k aQ qF nQ ++ wM k aM mR mQ mN ++ wO k aO oL oD) sz) (wC k aC aE aP aQ aM cX cY cN cM ++ wE k aE fX fY lX lY oP nE ++ wP k aP pX pY pD pO nP ++ wQ k aQ qF nQ ++ wM k aM mR mQ mN ++ wO k aO u oD)) (va_A (wC k aC aE aP aQ aM cX cY cN cM ++ wE k aE fX fY lX lY oP nE ++ wP k aP pX pY pD pO nP ++ wQ k aQ qF nQ ++ wM k aM mR mQ mN ++ wO k aO oL oD) sz)) 2 12 (va_A (wC k aC aE aP aQ aM cX cY cN cM ++ wE k aE fX fY lX lY oP nE ++ wP k aP pX pY pD pO nP ++ wQ k aQ qF nQ ++ wM k aM mR mQ mN ++ wO k aO oL oD) sz) := by
  refine va_MetW (cc := cL_point) (maxL := 5) (ret := (some .int)) (hh := [(0, 10, 13, 15), (0, 10, 17, 28), (0, 10, 21, 13)]) (by decide) rfl ?_
  intro p e s m args below meth c s₁ B hml hv
  obtain ⟨hav, hsz, hP, hE, hD0, hT⟩ := hv
  subst hsz
  have hx := B.exec
  have hb := B.bytes
  have hr := B.returns
  have hts := atoms_spec (ws := wsL_point) B.pre
  have hown : s.vm.findClass RL = some m.cls := findClass_of_methodNamed B.named
  have hlocks := B.notSynchronized
  have hK := hE.1
  have hD := hD0.self (sz := s.heap.size)
  generalize hAe : va_A (wC k aC aE aP aQ aM cX cY cN cM ++ wE k aE fX fY lX lY oP nE ++ wP k aP pX pY pD pO nP ++ wQ k aQ qF nQ ++ wM k aM mR mQ mN ++ wO k aO oL oD) s.heap.size = A at hD hT ⊢
  have hA : ∀ q : Nat, s.heap.size ≤ q → A q := fun q h => by rw [← hAe]; exact Or.inr h
  have hS : va_S A s.heap s.heap [] := va_S.rf
  have hl := lv_entry ([.ref (aC 0), .int p1, .int p2, .ref (aO 0)]) (n := 5) (Nat.le_of_ble_eq_true rfl)
  rw [show entryFrame m args 5 = entryFrame m ([.ref (aC 0), .int p1, .int p2, .ref (aO 0)] : List Value).toArray 5 by rw [hav]]
  rw [lg_entry_eq]
  refine W.gq (fun GQ hGQ => ?_)
  generalize (lg_sl ([.ref (aC 0), .int p1, .int p2, .ref (aO 0)]) ++ List.replicate (5 - (lg_sl ([.ref (aC 0), .int p1, .int p2, .ref (aO 0)])).length) Slot.unset).toArray = ls at hl ⊢
  have hl : lv_has ls 5 [(0, .ref (aC 0)), (1, .int p1), (2, .int p2), (3, .ref (aO 0))] := hl
  have htab := vx_table (x := yL_law) B (hts (.codeWith yL_point cL_point 5 (some .int) [(0, 10, 13, 15), (0, 10, 17, 28), (0, 10, 21, 13)]) List.mem_cons_self)
  have cl15 := hts (.classLink RL 15 "java/lang/IllegalStateException") (by decide +kernel)
  have cl28 := hts (.classLink RL 28 "java/lang/IndexOutOfBoundsException") (by decide +kernel)
  have cl13 := hts (.classLink RL 13 "java/lang/IllegalArgumentException") (by decide +kernel)
  unfold wp_L_point at h
  refine lv_aload_n hx hb dL_point_0 rfl (lv_at hl 3 rfl) ?_
  refine lv_iconst (v := (0 : Int32)) hx hb dL_point_1 (by decide) ?_
  refine lv_aload_n hx hb dL_point_2 rfl (lv_at hl 0 rfl) ?_
  refine lv_iload_n hx hb dL_point_3 rfl (lv_at hl 1 rfl) ?_
  refine lv_iload_n hx hb dL_point_4 rfl (lv_at hl 2 rfl) ?_
  have hPc := hP.sub (ws' := wC k aC aE aP aQ aM cX cY cN cM ++ wE k aE fX fY lX lY oP nE ++ wP k aP pX pY pD pO nP ++ wQ k aQ qF nQ ++ wM k aM mR mQ mN) [0, 1, 2, 3, 4, 5, 6, 7, 8, 9, 10, 11, 12, 13, 14, 15, 16, 17, 18, 19, 20, 21, 22, 23, 24, 25, 26, 27, 28, 29, 30] rfl
  have hDc := hD.sub (ws' := wC k aC aE aP aQ aM cX cY cN cM ++ wE k aE fX fY lX lY oP nE ++ wP k aP pX pY pD pO nP ++ wQ k aQ qF nQ ++ wM k aM mR mQ mN) [0, 1, 2, 3, 4, 5, 6, 7, 8, 9, 10, 11, 12, 13, 14, 15, 16, 17, 18, 19, 20, 21, 22, 23, 24, 25, 26, 27, 28, 29, 30] (by decide) rfl
  have hFc := va_free (wc := wC k aC aE aP aQ aM cX cY cN cM ++ wE k aE fX fY lX lY oP nE ++ wP k aP pX pY pD pO nP ++ wQ k aQ qF nQ ++ wM k aM mR mQ mN) hD hS hA [0, 1, 2, 3, 4, 5, 6, 7, 8, 9, 10, 11, 12, 13, 14, 15, 16, 17, 18, 19, 20, 21, 22, 23, 24, 25, 26, 27, 28, 29, 30] rfl
  refine vx_calli (vx_runV (C := RX4) (b := (aC 0)) (As := [.int p1, .int p2]) (rest := [.int (0 : Int32), .ref (aO 0)]) ⟨hx, hb, hml, hown, hts⟩ (m_X4_point l D k aC aE aP aQ aM cX cY cN cM fX fY lX lY oP nE pX pY pD pO nP qF nQ mR mQ mN p1 p2 _ _ _ hlt h) (cwV 2 hts gL_point_X4_point rfl rfl rfl (by decide +kernel) ⟨Nat.le_of_ble_eq_true rfl, Nat.le_of_ble_eq_true rfl⟩) (preV_th (ci := 4) (q0 := 0) (C := RX4) (T := TX4) (N := 8) hE hT hS hFc hPc hDc rfl rfl) rfl rfl hl.1 rfl (lv_room (Nat.le_of_ble_eq_true rfl)) dL_point_5 ⟨Nat.le_of_ble_eq_true rfl, Nat.le_of_ble_eq_true rfl⟩) hS (fun q _ h => hFc q h) hFc (fun q _ h => hFc q h) (fun E9 ce q9 u t H1 locs ht hvm hpx hB hz1 hk1 hS hce hcv hcl => ?_) (fun r5 u t H1 locs ht hvm h hB hz1 hk1 hS => ?_)
  · obtain ⟨h, hP1, hD1⟩ := hB
    rw [ht] at hP1
    obtain ⟨hP, hD⟩ := va_join (wr := wO k aO oL oD) (w1 := wC k aC aE aP aQ aM cX cY cN cM ++ wE k aE fX fY lX lY oP nE ++ wP k aP pX pY pD pO nP ++ wQ k aQ qF nQ ++ wM k aM mR mQ mN) hP hD [0, 1, 2, 3, 4, 5, 6, 7, 8, 9, 10, 11, 12, 13, 14, 15, 16, 17, 18, 19, 20, 21, 22, 23, 24, 25, 26, 27, 28, 29, 30] [31, 32] rfl rfl (by decide) (by decide) hk1 hFc hP1 hD1
    generalize H1 = H at hP hS hce ⊢
    have hP : va_P D vwCl (wC k aC aE aP aQ aM cX cY cN cM ++ wE k aE fX fY lX lY oP nE ++ wP k aP pX pY pD pO nP ++ wQ k aQ qF nQ ++ wM k aM mR mQ mN ++ wO k aO oL oD) H := hP.sub [2, 3, 4, 5, 6, 7, 8, 9, 10, 11, 12, 13, 14, 15, 16, 17, 18, 19, 20, 21, 22, 23, 24, 25, 26, 27, 28, 29, 30, 31, 32, 0, 1] rfl
    have hD : va_D A (wC k aC aE aP aQ aM cX cY cN cM ++ wE k aE fX fY lX lY oP nE ++ wP k aP pX pY pD pO nP ++ wQ k aQ qF nQ ++ wM k aM mR mQ mN ++ wO k aO oL oD) := hD.sub [2, 3, 4, 5, 6, 7, 8, 9, 10, 11, 12, 13, 14, 15, 16, 17, 18, 19, 20, 21, 22, 23, 24, 25, 26, 27, 28, 29, 30, 31, 32, 0, 1] (by decide) rfl
    rcases h with ⟨rfl, h⟩ | ⟨rfl, h⟩ | ⟨rfl, h⟩
    · refine vx_catch (own := RL) (name := xIS) (E := xIS) hown [] ⟨0, 10, 13, 15⟩ [⟨0, 10, 17, 28⟩, ⟨0, 10, 21, 13⟩] (by rw [htab]; rfl) (fun z hz => absurd hz List.not_mem_nil) (by decide) (by decide) cl15 (va_Nw.use rfl (hT.2.2.2.1 xIS (by decide))) hce hcv hcl ?_
      refine lv_astore (lv' := [(4, .ref q9), (0, .ref (aC 0)), (1, .int p1), (2, .int p2), (3, .ref (aO 0))]) hx hb dL_point_13 hl (by decide) rfl (fun ls hl => ?_)
      refine lv_iconst (v := (1 : Int32)) hx hb dL_point_15 (by decide) ?_
      rw [hGQ]
      exact W.iret (v := (1 : Int32)) hx hb hr (fun t ht hW => ⟨⟨_, (oL), rfl, h, by rw [ht]; exact hP, hD⟩, hS.F ht⟩) hS.2.2 dL_point_16
    · refine vx_catch (own := RL) (name := xIO) (E := xIO) hown [⟨0, 10, 13, 15⟩] ⟨0, 10, 17, 28⟩ [⟨0, 10, 21, 13⟩] (by rw [htab]; rfl) (List.forall_mem_cons.mpr ⟨Or.inr ⟨by decide, xIS, cl15, hT.2.2.2.2.2 (xIO, xIS) (by decide)⟩, (fun z hz => absurd hz List.not_mem_nil)⟩) (by decide) (by decide) cl28 (va_Nw.use rfl (hT.2.2.2.1 xIO (by decide))) hce hcv hcl ?_
      refine lv_astore (lv' := [(4, .ref q9), (0, .ref (aC 0)), (1, .int p1), (2, .int p2), (3, .ref (aO 0))]) hx hb dL_point_17 hl (by decide) rfl (fun ls hl => ?_)
      refine lv_iconst (v := (2 : Int32)) hx hb dL_point_19 (by decide) ?_
      rw [hGQ]
      exact W.iret (v := (2 : Int32)) hx hb hr (fun t ht hW => ⟨⟨_, (oL), rfl, h, by rw [ht]; exact hP, hD⟩, hS.F ht⟩) hS.2.2 dL_point_20
    · refine vx_catch (own := RL) (name := xIA) (E := xIA) hown [⟨0, 10, 13, 15⟩, ⟨0, 10, 17, 28⟩] ⟨0, 10, 21, 13⟩ [] (by rw [htab]; rfl) (List.forall_mem_cons.mpr ⟨Or.inr ⟨by decide, xIS, cl15, hT.2.2.2.2.2 (xIA, xIS) (by decide)⟩, (List.forall_mem_cons.mpr ⟨Or.inr ⟨by decide, xIO, cl28, hT.2.2.2.2.2 (xIA, xIO) (by decide)⟩, (fun z hz => absurd hz List.not_mem_nil)⟩)⟩) (by decide) (by decide) cl13 (va_Nw.use rfl (hT.2.2.2.1 xIA (by decide))) hce hcv hcl ?_
      refine lv_astore (lv' := [(4, .ref q9), (0, .ref (aC 0)), (1, .int p1), (2, .int p2), (3, .ref (aO 0))]) hx hb dL_point_21 hl (by decide) rfl (fun ls hl => ?_)
      refine lv_iconst (v := (3 : Int32)) hx hb dL_point_23 (by decide) ?_
      rw [hGQ]
      exact W.iret (v := (3 : Int32)) hx hb hr (fun t ht hW => ⟨⟨_, (oL), rfl, h, by rw [ht]; exact hP, hD⟩, hS.F ht⟩) hS.2.2 dL_point_24
  obtain ⟨hP1, hD1⟩ := hB
  rw [ht] at hP1
  obtain ⟨hP, hD⟩ := va_join (wr := wO k aO oL oD) (w1 := wC k aC aE aP aQ aM cX cY cN cM ++ wE k aE fX fY lX lY oP nE ++ wP k aP pX pY pD pO nP ++ wQ k aQ qF nQ ++ wM k aM mR mQ mN) hP hD [0, 1, 2, 3, 4, 5, 6, 7, 8, 9, 10, 11, 12, 13, 14, 15, 16, 17, 18, 19, 20, 21, 22, 23, 24, 25, 26, 27, 28, 29, 30] [31, 32] rfl rfl (by decide) (by decide) hk1 hFc hP1 hD1
  generalize H1 = H at hP hS ⊢
  have hP : va_P D vwCl (wC k aC aE aP aQ aM cX cY cN cM ++ wE k aE fX fY lX lY oP nE ++ wP k aP pX pY pD pO nP ++ wQ k aQ qF nQ ++ wM k aM mR mQ mN ++ wO k aO oL oD) H := hP.sub [2, 3, 4, 5, 6, 7, 8, 9, 10, 11, 12, 13, 14, 15, 16, 17, 18, 19, 20, 21, 22, 23, 24, 25, 26, 27, 28, 29, 30, 31, 32, 0, 1] rfl
  have hD : va_D A (wC k aC aE aP aQ aM cX cY cN cM ++ wE k aE fX fY lX lY oP nE ++ wP k aP pX pY pD pO nP ++ wQ k aQ qF nQ ++ wM k aM mR mQ mN ++ wO k aO oL oD) := hD.sub [2, 3, 4, 5, 6, 7, 8, 9, 10, 11, 12, 13, 14, 15, 16, 17, 18, 19, 20, 21, 22, 23, 24, 25, 26, 27, 28, 29, 30, 31, 32, 0, 1] (by decide) rfl
  refine lv_i2l hx hb dL_point_8 rfl ?_
  obtain ⟨hin, h⟩ := h
  obtain ⟨y9, ey9⟩ : ∃ z : Nat → Int64, z = vp_updL oL (0 : Int32).toNatClampNeg (r5.toInt64) := ⟨_, rfl⟩
  have h := h y9 ey9
  refine va_last hx hb hK hP hD hS 31 2 rfl rfl hin dL_point_9 (fun H locs hP hD hS => ?_)
  rw [← ey9] at hP hD
  have hP : va_P D vwCl (wC k aC aE aP aQ aM cX cY cN cM ++ wE k aE fX fY lX lY oP nE ++ wP k aP pX pY pD pO nP ++ wQ k aQ qF nQ ++ wM k aM mR mQ mN ++ wO k aO y9 oD) H := hP
  have hD : va_D A (wC k aC aE aP aQ aM cX cY cN cM ++ wE k aE fX fY lX lY oP nE ++ wP k aP pX pY pD pO nP ++ wQ k aQ qF nQ ++ wM k aM mR mQ mN ++ wO k aO y9 oD) := hD
  refine lv_goto (tgt := 25) hx hb dL_point_10 (by decide) ?_
  refine lv_iconst (v := (0 : Int32)) hx hb dL_point_25 (by decide) ?_
  rw [hGQ]
  exact W.iret (v := (0 : Int32)) hx hb hr (fun t ht hW => ⟨⟨_, (y9), rfl, h, by rw [ht]; exact hP, hD⟩, hS.F ht⟩) hS.2.2 dL_point_26
set_option maxHeartbeats 4000000 in
set_option maxRecDepth 100000 in
theorem m_L_piece (l : Launch) (D : va_G) (k : Nat → ClassId) (aC : Nat → Nat) (aE : Nat → Nat) (aP : Nat → Nat) (aQ : Nat → Nat) (aM : Nat → Nat) (aO : Nat → Nat) (cX : Nat → Nat → Int32) (cY : Nat → Nat → Int32) (cN : Nat → Int32) (cM : Int32) (fX : Nat → Int32) (fY : Nat → Int32) (lX : Nat → Int32) (lY : Nat → Int32) (oP : Nat → Int32) (nE : Int32) (pX : Nat → Int32) (pY : Nat → Int32) (pD : Nat → Int32) (pO : Nat → Int32) (nP : Int32) (qF : Nat → Nat → Int32) (nQ : Int32) (mR : Nat → Int32) (mQ : Int32) (mN : Int32) (oL : Nat → Int64) (oD : Nat → UInt64) (p1 : Int32) (p2 : Int32) (Q : Int32 → (Nat → Int64) → Prop) (sz : Nat) (hlt : l.stackTraces = false) (h : wp_L_piece p1 p2 cM qF nQ oL Q) : Met l yL_piece wsL_piece ({ frames := 8, cells := 2, slots := 12, locals := 132 }) (Pth D k [.ref (aC 0), .int p1, .int p2, .ref (aO 0)] (wC k aC aE aP aQ aM cX cY cN cM ++ wE k aE fX fY lX lY oP nE ++ wP k aP pX pY pD pO nP ++ wQ k aQ qF nQ ++ wM k aM mR mQ mN ++ wO k aO oL oD) sz) (va_Qi (fun (r : Int32) (u : (Nat → Int64)) => Q r u) (fun (u : (Nat → Int64)) t => va_P D vwCl (wC k aC aE aP aQ aM cX cY cN cM ++ wE k aE fX fY lX lY oP nE ++ wP k aP pX pY pD pO nP ++ wQ k aQ qF nQ ++ wM k aM mR mQ mN ++ wO k aO u oD) t.heap ∧ va_D (va_A (wC k aC aE aP aQ aM cX cY cN cM ++ wE k aE fX fY lX lY oP nE ++ wP k aP pX pY pD pO nP ++ wQ k aQ qF nQ ++ wM k aM mR mQ mN ++ wO k aO oL oD) sz) (wC k aC aE aP aQ aM cX cY cN cM ++ wE k aE fX fY lX lY oP nE ++ wP k aP pX pY pD pO nP ++ wQ k aQ qF nQ ++ wM k aM mR mQ mN ++ wO k aO u oD)) (va_A (wC k aC aE aP aQ aM cX cY cN cM ++ wE k aE fX fY lX lY oP nE ++ wP k aP pX pY pD pO nP ++ wQ k aQ qF nQ ++ wM k aM mR mQ mN ++ wO k aO oL oD) sz)) 2 12 (va_A (wC k aC aE aP aQ aM cX cY cN cM ++ wE k aE fX fY lX lY oP nE ++ wP k aP pX pY pD pO nP ++ wQ k aQ qF nQ ++ wM k aM mR mQ mN ++ wO k aO oL oD) sz) := by
  refine va_MetW (cc := cL_piece) (maxL := 5) (ret := (some .int)) (hh := [(0, 10, 13, 15), (0, 10, 17, 28), (0, 10, 21, 13)]) (by decide) rfl ?_
  intro p e s m args below meth c s₁ B hml hv
  obtain ⟨hav, hsz, hP, hE, hD0, hT⟩ := hv
  subst hsz
  have hx := B.exec
  have hb := B.bytes
  have hr := B.returns
  have hts := atoms_spec (ws := wsL_piece) B.pre
  have hown : s.vm.findClass RL = some m.cls := findClass_of_methodNamed B.named
  have hlocks := B.notSynchronized
  have hK := hE.1
  have hD := hD0.self (sz := s.heap.size)
  generalize hAe : va_A (wC k aC aE aP aQ aM cX cY cN cM ++ wE k aE fX fY lX lY oP nE ++ wP k aP pX pY pD pO nP ++ wQ k aQ qF nQ ++ wM k aM mR mQ mN ++ wO k aO oL oD) s.heap.size = A at hD hT ⊢
  have hA : ∀ q : Nat, s.heap.size ≤ q → A q := fun q h => by rw [← hAe]; exact Or.inr h
  have hS : va_S A s.heap s.heap [] := va_S.rf
  have hl := lv_entry ([.ref (aC 0), .int p1, .int p2, .ref (aO 0)]) (n := 5) (Nat.le_of_ble_eq_true rfl)
  rw [show entryFrame m args 5 = entryFrame m ([.ref (aC 0), .int p1, .int p2, .ref (aO 0)] : List Value).toArray 5 by rw [hav]]
  rw [lg_entry_eq]
  refine W.gq (fun GQ hGQ => ?_)
  generalize (lg_sl ([.ref (aC 0), .int p1, .int p2, .ref (aO 0)]) ++ List.replicate (5 - (lg_sl ([.ref (aC 0), .int p1, .int p2, .ref (aO 0)])).length) Slot.unset).toArray = ls at hl ⊢
  have hl : lv_has ls 5 [(0, .ref (aC 0)), (1, .int p1), (2, .int p2), (3, .ref (aO 0))] := hl
  have htab := vx_table (x := yL_law) B (hts (.codeWith yL_piece cL_piece 5 (some .int) [(0, 10, 13, 15), (0, 10, 17, 28), (0, 10, 21, 13)]) List.mem_cons_self)
  have cl15 := hts (.classLink RL 15 "java/lang/IllegalStateException") (by decide +kernel)
  have cl28 := hts (.classLink RL 28 "java/lang/IndexOutOfBoundsException") (by decide +kernel)
  have cl13 := hts (.classLink RL 13 "java/lang/IllegalArgumentException") (by decide +kernel)
  unfold wp_L_piece at h
  refine lv_aload_n hx hb dL_piece_0 rfl (lv_at hl 3 rfl) ?_
  refine lv_iconst (v := (0 : Int32)) hx hb dL_piece_1 (by decide) ?_
  refine lv_aload_n hx hb dL_piece_2 rfl (lv_at hl 0 rfl) ?_
  refine lv_iload_n hx hb dL_piece_3 rfl (lv_at hl 1 rfl) ?_
  refine lv_iload_n hx hb dL_piece_4 rfl (lv_at hl 2 rfl) ?_
  have hPc := hP.sub (ws' := wC k aC aE aP aQ aM cX cY cN cM ++ wE k aE fX fY lX lY oP nE ++ wP k aP pX pY pD pO nP ++ wQ k aQ qF nQ ++ wM k aM mR mQ mN) [0, 1, 2, 3, 4, 5, 6, 7, 8, 9, 10, 11, 12, 13, 14, 15, 16, 17, 18, 19, 20, 21, 22, 23, 24, 25, 26, 27, 28, 29, 30] rfl
  have hDc := hD.sub (ws' := wC k aC aE aP aQ aM cX cY cN cM ++ wE k aE fX fY lX lY oP nE ++ wP k aP pX pY pD pO nP ++ wQ k aQ qF nQ ++ wM k aM mR mQ mN) [0, 1, 2, 3, 4, 5, 6, 7, 8, 9, 10, 11, 12, 13, 14, 15, 16, 17, 18, 19, 20, 21, 22, 23, 24, 25, 26, 27, 28, 29, 30] (by decide) rfl
  have hFc := va_free (wc := wC k aC aE aP aQ aM cX cY cN cM ++ wE k aE fX fY lX lY oP nE ++ wP k aP pX pY pD pO nP ++ wQ k aQ qF nQ ++ wM k aM mR mQ mN) hD hS hA [0, 1, 2, 3, 4, 5, 6, 7, 8, 9, 10, 11, 12, 13, 14, 15, 16, 17, 18, 19, 20, 21, 22, 23, 24, 25, 26, 27, 28, 29, 30] rfl
  refine vx_calli (vx_runV (C := RX4) (b := (aC 0)) (As := [.int p1, .int p2]) (rest := [.int (0 : Int32), .ref (aO 0)]) ⟨hx, hb, hml, hown, hts⟩ (m_X4_piece l D k aC aE aP aQ aM cX cY cN cM fX fY lX lY oP nE pX pY pD pO nP qF nQ mR mQ mN p1 p2 _ _ _ hlt h) (cwV 2 hts gL_piece_X4_piece rfl rfl rfl (by decide +kernel) ⟨Nat.le_of_ble_eq_true rfl, Nat.le_of_ble_eq_true rfl⟩) (preV_th (ci := 4) (q0 := 0) (C := RX4) (T := TX4) (N := 8) hE hT hS hFc hPc hDc rfl rfl) rfl rfl hl.1 rfl (lv_room (Nat.le_of_ble_eq_true rfl)) dL_piece_5 ⟨Nat.le_of_ble_eq_true rfl, Nat.le_of_ble_eq_true rfl⟩) hS (fun q _ h => hFc q h) hFc (fun q _ h => hFc q h) (fun E9 ce q9 u t H1 locs ht hvm hpx hB hz1 hk1 hS hce hcv hcl => ?_) (fun r5 u t H1 locs ht hvm h hB hz1 hk1 hS => ?_)
  · obtain ⟨h, hP1, hD1⟩ := hB
    rw [ht] at hP1
    obtain ⟨hP, hD⟩ := va_join (wr := wO k aO oL oD) (w1 := wC k aC aE aP aQ aM cX cY cN cM ++ wE k aE fX fY lX lY oP nE ++ wP k aP pX pY pD pO nP ++ wQ k aQ qF nQ ++ wM k aM mR mQ mN) hP hD [0, 1, 2, 3, 4, 5, 6, 7, 8, 9, 10, 11, 12, 13, 14, 15, 16, 17, 18, 19, 20, 21, 22, 23, 24, 25, 26, 27, 28, 29, 30] [31, 32] rfl rfl (by decide) (by decide) hk1 hFc hP1 hD1
    generalize H1 = H at hP hS hce ⊢
    have hP : va_P D vwCl (wC k aC aE aP aQ aM cX cY cN cM ++ wE k aE fX fY lX lY oP nE ++ wP k aP pX pY pD pO nP ++ wQ k aQ qF nQ ++ wM k aM mR mQ mN ++ wO k aO oL oD) H := hP.sub [2, 3, 4, 5, 6, 7, 8, 9, 10, 11, 12, 13, 14, 15, 16, 17, 18, 19, 20, 21, 22, 23, 24, 25, 26, 27, 28, 29, 30, 31, 32, 0, 1] rfl
    have hD : va_D A (wC k aC aE aP aQ aM cX cY cN cM ++ wE k aE fX fY lX lY oP nE ++ wP k aP pX pY pD pO nP ++ wQ k aQ qF nQ ++ wM k aM mR mQ mN ++ wO k aO oL oD) := hD.sub [2, 3, 4, 5, 6, 7, 8, 9, 10, 11, 12, 13, 14, 15, 16, 17, 18, 19, 20, 21, 22, 23, 24, 25, 26, 27, 28, 29, 30, 31, 32, 0, 1] (by decide) rfl
    rcases h with ⟨rfl, h⟩ | ⟨rfl, h⟩ | ⟨rfl, h⟩
    · refine vx_catch (own := RL) (name := xIS) (E := xIS) hown [] ⟨0, 10, 13, 15⟩ [⟨0, 10, 17, 28⟩, ⟨0, 10, 21, 13⟩] (by rw [htab]; rfl) (fun z hz => absurd hz List.not_mem_nil) (by decide) (by decide) cl15 (va_Nw.use rfl (hT.2.2.2.1 xIS (by decide))) hce hcv hcl ?_
      refine lv_astore (lv' := [(4, .ref q9), (0, .ref (aC 0)), (1, .int p1), (2, .int p2), (3, .ref (aO 0))]) hx hb dL_piece_13 hl (by decide) rfl (fun ls hl => ?_)
      refine lv_iconst (v := (1 : Int32)) hx hb dL_piece_15 (by decide) ?_
      rw [hGQ]
      exact W.iret (v := (1 : Int32)) hx hb hr (fun t ht hW => ⟨⟨_, (oL), rfl, h, by rw [ht]; exact hP, hD⟩, hS.F ht⟩) hS.2.2 dL_piece_16
    · refine vx_catch (own := RL) (name := xIO) (E := xIO) hown [⟨0, 10, 13, 15⟩] ⟨0, 10, 17, 28⟩ [⟨0, 10, 21, 13⟩] (by rw [htab]; rfl) (List.forall_mem_cons.mpr ⟨Or.inr ⟨by decide, xIS, cl15, hT.2.2.2.2.2 (xIO, xIS) (by decide)⟩, (fun z hz => absurd hz List.not_mem_nil)⟩) (by decide) (by decide) cl28 (va_Nw.use rfl (hT.2.2.2.1 xIO (by decide))) hce hcv hcl ?_
      refine lv_astore (lv' := [(4, .ref q9), (0, .ref (aC 0)), (1, .int p1), (2, .int p2), (3, .ref (aO 0))]) hx hb dL_piece_17 hl (by decide) rfl (fun ls hl => ?_)
      refine lv_iconst (v := (2 : Int32)) hx hb dL_piece_19 (by decide) ?_
      rw [hGQ]
      exact W.iret (v := (2 : Int32)) hx hb hr (fun t ht hW => ⟨⟨_, (oL), rfl, h, by rw [ht]; exact hP, hD⟩, hS.F ht⟩) hS.2.2 dL_piece_20
    · refine vx_catch (own := RL) (name := xIA) (E := xIA) hown [⟨0, 10, 13, 15⟩, ⟨0, 10, 17, 28⟩] ⟨0, 10, 21, 13⟩ [] (by rw [htab]; rfl) (List.forall_mem_cons.mpr ⟨Or.inr ⟨by decide, xIS, cl15, hT.2.2.2.2.2 (xIA, xIS) (by decide)⟩, (List.forall_mem_cons.mpr ⟨Or.inr ⟨by decide, xIO, cl28, hT.2.2.2.2.2 (xIA, xIO) (by decide)⟩, (fun z hz => absurd hz List.not_mem_nil)⟩)⟩) (by decide) (by decide) cl13 (va_Nw.use rfl (hT.2.2.2.1 xIA (by decide))) hce hcv hcl ?_
      refine lv_astore (lv' := [(4, .ref q9), (0, .ref (aC 0)), (1, .int p1), (2, .int p2), (3, .ref (aO 0))]) hx hb dL_piece_21 hl (by decide) rfl (fun ls hl => ?_)
      refine lv_iconst (v := (3 : Int32)) hx hb dL_piece_23 (by decide) ?_
      rw [hGQ]
      exact W.iret (v := (3 : Int32)) hx hb hr (fun t ht hW => ⟨⟨_, (oL), rfl, h, by rw [ht]; exact hP, hD⟩, hS.F ht⟩) hS.2.2 dL_piece_24
  obtain ⟨hP1, hD1⟩ := hB
  rw [ht] at hP1
  obtain ⟨hP, hD⟩ := va_join (wr := wO k aO oL oD) (w1 := wC k aC aE aP aQ aM cX cY cN cM ++ wE k aE fX fY lX lY oP nE ++ wP k aP pX pY pD pO nP ++ wQ k aQ qF nQ ++ wM k aM mR mQ mN) hP hD [0, 1, 2, 3, 4, 5, 6, 7, 8, 9, 10, 11, 12, 13, 14, 15, 16, 17, 18, 19, 20, 21, 22, 23, 24, 25, 26, 27, 28, 29, 30] [31, 32] rfl rfl (by decide) (by decide) hk1 hFc hP1 hD1
  generalize H1 = H at hP hS ⊢
  have hP : va_P D vwCl (wC k aC aE aP aQ aM cX cY cN cM ++ wE k aE fX fY lX lY oP nE ++ wP k aP pX pY pD pO nP ++ wQ k aQ qF nQ ++ wM k aM mR mQ mN ++ wO k aO oL oD) H := hP.sub [2, 3, 4, 5, 6, 7, 8, 9, 10, 11, 12, 13, 14, 15, 16, 17, 18, 19, 20, 21, 22, 23, 24, 25, 26, 27, 28, 29, 30, 31, 32, 0, 1] rfl
  have hD : va_D A (wC k aC aE aP aQ aM cX cY cN cM ++ wE k aE fX fY lX lY oP nE ++ wP k aP pX pY pD pO nP ++ wQ k aQ qF nQ ++ wM k aM mR mQ mN ++ wO k aO oL oD) := hD.sub [2, 3, 4, 5, 6, 7, 8, 9, 10, 11, 12, 13, 14, 15, 16, 17, 18, 19, 20, 21, 22, 23, 24, 25, 26, 27, 28, 29, 30, 31, 32, 0, 1] (by decide) rfl
  refine lv_i2l hx hb dL_piece_8 rfl ?_
  obtain ⟨hin, h⟩ := h
  obtain ⟨y9, ey9⟩ : ∃ z : Nat → Int64, z = vp_updL oL (0 : Int32).toNatClampNeg (r5.toInt64) := ⟨_, rfl⟩
  have h := h y9 ey9
  refine va_last hx hb hK hP hD hS 31 2 rfl rfl hin dL_piece_9 (fun H locs hP hD hS => ?_)
  rw [← ey9] at hP hD
  have hP : va_P D vwCl (wC k aC aE aP aQ aM cX cY cN cM ++ wE k aE fX fY lX lY oP nE ++ wP k aP pX pY pD pO nP ++ wQ k aQ qF nQ ++ wM k aM mR mQ mN ++ wO k aO y9 oD) H := hP
  have hD : va_D A (wC k aC aE aP aQ aM cX cY cN cM ++ wE k aE fX fY lX lY oP nE ++ wP k aP pX pY pD pO nP ++ wQ k aQ qF nQ ++ wM k aM mR mQ mN ++ wO k aO y9 oD) := hD
  refine lv_goto (tgt := 25) hx hb dL_piece_10 (by decide) ?_
  refine lv_iconst (v := (0 : Int32)) hx hb dL_piece_25 (by decide) ?_
  rw [hGQ]
  exact W.iret (v := (0 : Int32)) hx hb hr (fun t ht hW => ⟨⟨_, (y9), rfl, h, by rw [ht]; exact hP, hD⟩, hS.F ht⟩) hS.2.2 dL_piece_26
set_option maxHeartbeats 4000000 in
set_option maxRecDepth 100000 in
theorem m_L_common (l : Launch) (D : va_G) (k : Nat → ClassId) (aC : Nat → Nat) (aE : Nat → Nat) (aP : Nat → Nat) (aQ : Nat → Nat) (aM : Nat → Nat) (aO : Nat → Nat) (cX : Nat → Nat → Int32) (cY : Nat → Nat → Int32) (cN : Nat → Int32) (cM : Int32) (fX : Nat → Int32) (fY : Nat → Int32) (lX : Nat → Int32) (lY : Nat → Int32) (oP : Nat → Int32) (nE : Int32) (pX : Nat → Int32) (pY : Nat → Int32) (pD : Nat → Int32) (pO : Nat → Int32) (nP : Int32) (qF : Nat → Nat → Int32) (nQ : Int32) (mR : Nat → Int32) (mQ : Int32) (mN : Int32) (oL : Nat → Int64) (oD : Nat → UInt64) (p1 : Int32) (p2 : Int32) (Q : Int32 → (Nat → Int64) → Prop) (sz : Nat) (hlt : l.stackTraces = false) (h : wp_L_common p1 p2 cM nE pO nP oL Q) : Met l yL_common wsL_common ({ frames := 8, cells := 2, slots := 12, locals := 135 }) (Pth D k [.ref (aC 0), .int p1, .int p2, .ref (aO 0)] (wC k aC aE aP aQ aM cX cY cN cM ++ wE k aE fX fY lX lY oP nE ++ wP k aP pX pY pD pO nP ++ wQ k aQ qF nQ ++ wM k aM mR mQ mN ++ wO k aO oL oD) sz) (va_Qi (fun (r : Int32) (u : (Nat → Int64)) => Q r u) (fun (u : (Nat → Int64)) t => va_P D vwCl (wC k aC aE aP aQ aM cX cY cN cM ++ wE k aE fX fY lX lY oP nE ++ wP k aP pX pY pD pO nP ++ wQ k aQ qF nQ ++ wM k aM mR mQ mN ++ wO k aO u oD) t.heap ∧ va_D (va_A (wC k aC aE aP aQ aM cX cY cN cM ++ wE k aE fX fY lX lY oP nE ++ wP k aP pX pY pD pO nP ++ wQ k aQ qF nQ ++ wM k aM mR mQ mN ++ wO k aO oL oD) sz) (wC k aC aE aP aQ aM cX cY cN cM ++ wE k aE fX fY lX lY oP nE ++ wP k aP pX pY pD pO nP ++ wQ k aQ qF nQ ++ wM k aM mR mQ mN ++ wO k aO u oD)) (va_A (wC k aC aE aP aQ aM cX cY cN cM ++ wE k aE fX fY lX lY oP nE ++ wP k aP pX pY pD pO nP ++ wQ k aQ qF nQ ++ wM k aM mR mQ mN ++ wO k aO oL oD) sz)) 2 12 (va_A (wC k aC aE aP aQ aM cX cY cN cM ++ wE k aE fX fY lX lY oP nE ++ wP k aP pX pY pD pO nP ++ wQ k aQ qF nQ ++ wM k aM mR mQ mN ++ wO k aO oL oD) sz) := by
  refine va_MetW (cc := cL_common) (maxL := 5) (ret := (some .int)) (hh := [(0, 10, 13, 15), (0, 10, 17, 28)]) (by decide) rfl ?_
  intro p e s m args below meth c s₁ B hml hv
  obtain ⟨hav, hsz, hP, hE, hD0, hT⟩ := hv
  subst hsz
  have hx := B.exec
  have hb := B.bytes
  have hr := B.returns
  have hts := atoms_spec (ws := wsL_common) B.pre
  have hown : s.vm.findClass RL = some m.cls := findClass_of_methodNamed B.named
  have hlocks := B.notSynchronized
  have hK := hE.1
  have hD := hD0.self (sz := s.heap.size)
  generalize hAe : va_A (wC k aC aE aP aQ aM cX cY cN cM ++ wE k aE fX fY lX lY oP nE ++ wP k aP pX pY pD pO nP ++ wQ k aQ qF nQ ++ wM k aM mR mQ mN ++ wO k aO oL oD) s.heap.size = A at hD hT ⊢
  have hA : ∀ q : Nat, s.heap.size ≤ q → A q := fun q h => by rw [← hAe]; exact Or.inr h
  have hS : va_S A s.heap s.heap [] := va_S.rf
  have hl := lv_entry ([.ref (aC 0), .int p1, .int p2, .ref (aO 0)]) (n := 5) (Nat.le_of_ble_eq_true rfl)
  rw [show entryFrame m args 5 = entryFrame m ([.ref (aC 0), .int p1, .int p2, .ref (aO 0)] : List Value).toArray 5 by rw [hav]]
  rw [lg_entry_eq]
  refine W.gq (fun GQ hGQ => ?_)
  generalize (lg_sl ([.ref (aC 0), .int p1, .int p2, .ref (aO 0)]) ++ List.replicate (5 - (lg_sl ([.ref (aC 0), .int p1, .int p2, .ref (aO 0)])).length) Slot.unset).toArray = ls at hl ⊢
  have hl : lv_has ls 5 [(0, .ref (aC 0)), (1, .int p1), (2, .int p2), (3, .ref (aO 0))] := hl
  have htab := vx_table (x := yL_law) B (hts (.codeWith yL_common cL_common 5 (some .int) [(0, 10, 13, 15), (0, 10, 17, 28)]) List.mem_cons_self)
  have cl15 := hts (.classLink RL 15 "java/lang/IllegalStateException") (by decide +kernel)
  have cl28 := hts (.classLink RL 28 "java/lang/IndexOutOfBoundsException") (by decide +kernel)
  unfold wp_L_common at h
  refine lv_aload_n hx hb dL_common_0 rfl (lv_at hl 3 rfl) ?_
  refine lv_iconst (v := (0 : Int32)) hx hb dL_common_1 (by decide) ?_
  refine lv_aload_n hx hb dL_common_2 rfl (lv_at hl 0 rfl) ?_
  refine lv_iload_n hx hb dL_common_3 rfl (lv_at hl 1 rfl) ?_
  refine lv_iload_n hx hb dL_common_4 rfl (lv_at hl 2 rfl) ?_
  have hPc := hP.sub (ws' := wC k aC aE aP aQ aM cX cY cN cM ++ wE k aE fX fY lX lY oP nE ++ wP k aP pX pY pD pO nP ++ wQ k aQ qF nQ ++ wM k aM mR mQ mN) [0, 1, 2, 3, 4, 5, 6, 7, 8, 9, 10, 11, 12, 13, 14, 15, 16, 17, 18, 19, 20, 21, 22, 23, 24, 25, 26, 27, 28, 29, 30] rfl
  have hDc := hD.sub (ws' := wC k aC aE aP aQ aM cX cY cN cM ++ wE k aE fX fY lX lY oP nE ++ wP k aP pX pY pD pO nP ++ wQ k aQ qF nQ ++ wM k aM mR mQ mN) [0, 1, 2, 3, 4, 5, 6, 7, 8, 9, 10, 11, 12, 13, 14, 15, 16, 17, 18, 19, 20, 21, 22, 23, 24, 25, 26, 27, 28, 29, 30] (by decide) rfl
  have hFc := va_free (wc := wC k aC aE aP aQ aM cX cY cN cM ++ wE k aE fX fY lX lY oP nE ++ wP k aP pX pY pD pO nP ++ wQ k aQ qF nQ ++ wM k aM mR mQ mN) hD hS hA [0, 1, 2, 3, 4, 5, 6, 7, 8, 9, 10, 11, 12, 13, 14, 15, 16, 17, 18, 19, 20, 21, 22, 23, 24, 25, 26, 27, 28, 29, 30] rfl
  refine vx_calli (vx_runV (C := RX4) (b := (aC 0)) (As := [.int p1, .int p2]) (rest := [.int (0 : Int32), .ref (aO 0)]) ⟨hx, hb, hml, hown, hts⟩ (m_X4_common l D k aC aE aP aQ aM cX cY cN cM fX fY lX lY oP nE pX pY pD pO nP qF nQ mR mQ mN p1 p2 _ _ _ hlt h) (cwV 2 hts gL_common_X4_common rfl rfl rfl (by decide +kernel) ⟨Nat.le_of_ble_eq_true rfl, Nat.le_of_ble_eq_true rfl⟩) (preV_th (ci := 4) (q0 := 0) (C := RX4) (T := TX4) (N := 8) hE hT hS hFc hPc hDc rfl rfl) rfl rfl hl.1 rfl (lv_room (Nat.le_of_ble_eq_true rfl)) dL_common_5 ⟨Nat.le_of_ble_eq_true rfl, Nat.le_of_ble_eq_true rfl⟩) hS (fun q _ h => hFc q h) hFc (fun q _ h => hFc q h) (fun E9 ce q9 u t H1 locs ht hvm hpx hB hz1 hk1 hS hce hcv hcl => ?_) (fun r5 u t H1 locs ht hvm h hB hz1 hk1 hS => ?_)
  · obtain ⟨h, hP1, hD1⟩ := hB
    rw [ht] at hP1
    obtain ⟨hP, hD⟩ := va_join (wr := wO k aO oL oD) (w1 := wC k aC aE aP aQ aM cX cY cN cM ++ wE k aE fX fY lX lY oP nE ++ wP k aP pX pY pD pO nP ++ wQ k aQ qF nQ ++ wM k aM mR mQ mN) hP hD [0, 1, 2, 3, 4, 5, 6, 7, 8, 9, 10, 11, 12, 13, 14, 15, 16, 17, 18, 19, 20, 21, 22, 23, 24, 25, 26, 27, 28, 29, 30] [31, 32] rfl rfl (by decide) (by decide) hk1 hFc hP1 hD1
    generalize H1 = H at hP hS hce ⊢
    have hP : va_P D vwCl (wC k aC aE aP aQ aM cX cY cN cM ++ wE k aE fX fY lX lY oP nE ++ wP k aP pX pY pD pO nP ++ wQ k aQ qF nQ ++ wM k aM mR mQ mN ++ wO k aO oL oD) H := hP.sub [2, 3, 4, 5, 6, 7, 8, 9, 10, 11, 12, 13, 14, 15, 16, 17, 18, 19, 20, 21, 22, 23, 24, 25, 26, 27, 28, 29, 30, 31, 32, 0, 1] rfl
    have hD : va_D A (wC k aC aE aP aQ aM cX cY cN cM ++ wE k aE fX fY lX lY oP nE ++ wP k aP pX pY pD pO nP ++ wQ k aQ qF nQ ++ wM k aM mR mQ mN ++ wO k aO oL oD) := hD.sub [2, 3, 4, 5, 6, 7, 8, 9, 10, 11, 12, 13, 14, 15, 16, 17, 18, 19, 20, 21, 22, 23, 24, 25, 26, 27, 28, 29, 30, 31, 32, 0, 1] (by decide) rfl
    rcases h with ⟨rfl, h⟩ | ⟨rfl, h⟩
    · refine vx_catch (own := RL) (name := xIS) (E := xIS) hown [] ⟨0, 10, 13, 15⟩ [⟨0, 10, 17, 28⟩] (by rw [htab]; rfl) (fun z hz => absurd hz List.not_mem_nil) (by decide) (by decide) cl15 (va_Nw.use rfl (hT.2.2.2.1 xIS (by decide))) hce hcv hcl ?_
      refine lv_astore (lv' := [(4, .ref q9), (0, .ref (aC 0)), (1, .int p1), (2, .int p2), (3, .ref (aO 0))]) hx hb dL_common_13 hl (by decide) rfl (fun ls hl => ?_)
      refine lv_iconst (v := (1 : Int32)) hx hb dL_common_15 (by decide) ?_
      rw [hGQ]
      exact W.iret (v := (1 : Int32)) hx hb hr (fun t ht hW => ⟨⟨_, (oL), rfl, h, by rw [ht]; exact hP, hD⟩, hS.F ht⟩) hS.2.2 dL_common_16
    · refine vx_catch (own := RL) (name := xIO) (E := xIO) hown [⟨0, 10, 13, 15⟩] ⟨0, 10, 17, 28⟩ [] (by rw [htab]; rfl) (List.forall_mem_cons.mpr ⟨Or.inr ⟨by decide, xIS, cl15, hT.2.2.2.2.2 (xIO, xIS) (by decide)⟩, (fun z hz => absurd hz List.not_mem_nil)⟩) (by decide) (by decide) cl28 (va_Nw.use rfl (hT.2.2.2.1 xIO (by decide))) hce hcv hcl ?_
      refine lv_astore (lv' := [(4, .ref q9), (0, .ref (aC 0)), (1, .int p1), (2, .int p2), (3, .ref (aO 0))]) hx hb dL_common_17 hl (by decide) rfl (fun ls hl => ?_)
      refine lv_iconst (v := (2 : Int32)) hx hb dL_common_19 (by decide) ?_
      rw [hGQ]
      exact W.iret (v := (2 : Int32)) hx hb hr (fun t ht hW => ⟨⟨_, (oL), rfl, h, by rw [ht]; exact hP, hD⟩, hS.F ht⟩) hS.2.2 dL_common_20
  obtain ⟨hP1, hD1⟩ := hB
  rw [ht] at hP1
  obtain ⟨hP, hD⟩ := va_join (wr := wO k aO oL oD) (w1 := wC k aC aE aP aQ aM cX cY cN cM ++ wE k aE fX fY lX lY oP nE ++ wP k aP pX pY pD pO nP ++ wQ k aQ qF nQ ++ wM k aM mR mQ mN) hP hD [0, 1, 2, 3, 4, 5, 6, 7, 8, 9, 10, 11, 12, 13, 14, 15, 16, 17, 18, 19, 20, 21, 22, 23, 24, 25, 26, 27, 28, 29, 30] [31, 32] rfl rfl (by decide) (by decide) hk1 hFc hP1 hD1
  generalize H1 = H at hP hS ⊢
  have hP : va_P D vwCl (wC k aC aE aP aQ aM cX cY cN cM ++ wE k aE fX fY lX lY oP nE ++ wP k aP pX pY pD pO nP ++ wQ k aQ qF nQ ++ wM k aM mR mQ mN ++ wO k aO oL oD) H := hP.sub [2, 3, 4, 5, 6, 7, 8, 9, 10, 11, 12, 13, 14, 15, 16, 17, 18, 19, 20, 21, 22, 23, 24, 25, 26, 27, 28, 29, 30, 31, 32, 0, 1] rfl
  have hD : va_D A (wC k aC aE aP aQ aM cX cY cN cM ++ wE k aE fX fY lX lY oP nE ++ wP k aP pX pY pD pO nP ++ wQ k aQ qF nQ ++ wM k aM mR mQ mN ++ wO k aO oL oD) := hD.sub [2, 3, 4, 5, 6, 7, 8, 9, 10, 11, 12, 13, 14, 15, 16, 17, 18, 19, 20, 21, 22, 23, 24, 25, 26, 27, 28, 29, 30, 31, 32, 0, 1] (by decide) rfl
  refine lv_i2l hx hb dL_common_8 rfl ?_
  obtain ⟨hin, h⟩ := h
  obtain ⟨y9, ey9⟩ : ∃ z : Nat → Int64, z = vp_updL oL (0 : Int32).toNatClampNeg (r5.toInt64) := ⟨_, rfl⟩
  have h := h y9 ey9
  refine va_last hx hb hK hP hD hS 31 2 rfl rfl hin dL_common_9 (fun H locs hP hD hS => ?_)
  rw [← ey9] at hP hD
  have hP : va_P D vwCl (wC k aC aE aP aQ aM cX cY cN cM ++ wE k aE fX fY lX lY oP nE ++ wP k aP pX pY pD pO nP ++ wQ k aQ qF nQ ++ wM k aM mR mQ mN ++ wO k aO y9 oD) H := hP
  have hD : va_D A (wC k aC aE aP aQ aM cX cY cN cM ++ wE k aE fX fY lX lY oP nE ++ wP k aP pX pY pD pO nP ++ wQ k aQ qF nQ ++ wM k aM mR mQ mN ++ wO k aO y9 oD) := hD
  refine lv_goto (tgt := 21) hx hb dL_common_10 (by decide) ?_
  refine lv_iconst (v := (0 : Int32)) hx hb dL_common_21 (by decide) ?_
  rw [hGQ]
  exact W.iret (v := (0 : Int32)) hx hb hr (fun t ht hW => ⟨⟨_, (y9), rfl, h, by rw [ht]; exact hP, hD⟩, hS.F ht⟩) hS.2.2 dL_common_22
set_option maxHeartbeats 4000000 in
set_option maxRecDepth 100000 in
theorem m_L_shared (l : Launch) (D : va_G) (k : Nat → ClassId) (aC : Nat → Nat) (aE : Nat → Nat) (aP : Nat → Nat) (aQ : Nat → Nat) (aM : Nat → Nat) (aO : Nat → Nat) (cX : Nat → Nat → Int32) (cY : Nat → Nat → Int32) (cN : Nat → Int32) (cM : Int32) (fX : Nat → Int32) (fY : Nat → Int32) (lX : Nat → Int32) (lY : Nat → Int32) (oP : Nat → Int32) (nE : Int32) (pX : Nat → Int32) (pY : Nat → Int32) (pD : Nat → Int32) (pO : Nat → Int32) (nP : Int32) (qF : Nat → Nat → Int32) (nQ : Int32) (mR : Nat → Int32) (mQ : Int32) (mN : Int32) (oL : Nat → Int64) (oD : Nat → UInt64) (p1 : Int32) (p2 : Int32) (p3 : Int32) (Q : Int32 → (Nat → Int64) → Prop) (sz : Nat) (hlt : l.stackTraces = false) (h : wp_L_shared p1 p2 p3 cM nE pO nP oL Q) : Met l yL_shared wsL_shared ({ frames := 8, cells := 3, slots := 18, locals := 136 }) (Pth D k [.ref (aC 0), .int p1, .int p2, .int p3, .ref (aO 0)] (wC k aC aE aP aQ aM cX cY cN cM ++ wE k aE fX fY lX lY oP nE ++ wP k aP pX pY pD pO nP ++ wQ k aQ qF nQ ++ wM k aM mR mQ mN ++ wO k aO oL oD) sz) (va_Qi (fun (r : Int32) (u : (Nat → Int64)) => Q r u) (fun (u : (Nat → Int64)) t => va_P D vwCl (wC k aC aE aP aQ aM cX cY cN cM ++ wE k aE fX fY lX lY oP nE ++ wP k aP pX pY pD pO nP ++ wQ k aQ qF nQ ++ wM k aM mR mQ mN ++ wO k aO u oD) t.heap ∧ va_D (va_A (wC k aC aE aP aQ aM cX cY cN cM ++ wE k aE fX fY lX lY oP nE ++ wP k aP pX pY pD pO nP ++ wQ k aQ qF nQ ++ wM k aM mR mQ mN ++ wO k aO oL oD) sz) (wC k aC aE aP aQ aM cX cY cN cM ++ wE k aE fX fY lX lY oP nE ++ wP k aP pX pY pD pO nP ++ wQ k aQ qF nQ ++ wM k aM mR mQ mN ++ wO k aO u oD)) (va_A (wC k aC aE aP aQ aM cX cY cN cM ++ wE k aE fX fY lX lY oP nE ++ wP k aP pX pY pD pO nP ++ wQ k aQ qF nQ ++ wM k aM mR mQ mN ++ wO k aO oL oD) sz)) 3 18 (va_A (wC k aC aE aP aQ aM cX cY cN cM ++ wE k aE fX fY lX lY oP nE ++ wP k aP pX pY pD pO nP ++ wQ k aQ qF nQ ++ wM k aM mR mQ mN ++ wO k aO oL oD) sz) := by
  refine va_MetW (cc := cL_shared) (maxL := 6) (ret := (some .int)) (hh := [(0, 12, 15, 15), (0, 12, 19, 28), (0, 12, 23, 40)]) (by decide) rfl ?_
  intro p e s m args below meth c s₁ B hml hv
  obtain ⟨hav, hsz, hP, hE, hD0, hT⟩ := hv
  subst hsz
  have hx := B.exec
  have hb := B.bytes
  have hr := B.returns
  have hts := atoms_spec (ws := wsL_shared) B.pre
  have hown : s.vm.findClass RL = some m.cls := findClass_of_methodNamed B.named
  have hlocks := B.notSynchronized
  have hK := hE.1
  have hD := hD0.self (sz := s.heap.size)
  generalize hAe : va_A (wC k aC aE aP aQ aM cX cY cN cM ++ wE k aE fX fY lX lY oP nE ++ wP k aP pX pY pD pO nP ++ wQ k aQ qF nQ ++ wM k aM mR mQ mN ++ wO k aO oL oD) s.heap.size = A at hD hT ⊢
  have hA : ∀ q : Nat, s.heap.size ≤ q → A q := fun q h => by rw [← hAe]; exact Or.inr h
  have hS : va_S A s.heap s.heap [] := va_S.rf
  have hl := lv_entry ([.ref (aC 0), .int p1, .int p2, .int p3, .ref (aO 0)]) (n := 6) (Nat.le_of_ble_eq_true rfl)
  rw [show entryFrame m args 6 = entryFrame m ([.ref (aC 0), .int p1, .int p2, .int p3, .ref (aO 0)] : List Value).toArray 6 by rw [hav]]
  rw [lg_entry_eq]
  refine W.gq (fun GQ hGQ => ?_)
  generalize (lg_sl ([.ref (aC 0), .int p1, .int p2, .int p3, .ref (aO 0)]) ++ List.replicate (6 - (lg_sl ([.ref (aC 0), .int p1, .int p2, .int p3, .ref (aO 0)])).length) Slot.unset).toArray = ls at hl ⊢
  have hl : lv_has ls 6 [(0, .ref (aC 0)), (1, .int p1), (2, .int p2), (3, .int p3), (4, .ref (aO 0))] := hl
  have htab := vx_table (x := yL_law) B (hts (.codeWith yL_shared cL_shared 6 (some .int) [(0, 12, 15, 15), (0, 12, 19, 28), (0, 12, 23, 40)]) List.mem_cons_self)
  have cl15 := hts (.classLink RL 15 "java/lang/IllegalStateException") (by decide +kernel)
  have cl28 := hts (.classLink RL 28 "java/lang/IndexOutOfBoundsException") (by decide +kernel)
  have cl40 := hts (.classLink RL 40 "java/util/NoSuchElementException") (by decide +kernel)
  unfold wp_L_shared at h
  refine lv_aload hx hb dL_shared_0 (lv_at hl 4 rfl) ?_
  refine lv_iconst (v := (0 : Int32)) hx hb dL_shared_2 (by decide) ?_
  refine lv_aload_n hx hb dL_shared_3 rfl (lv_at hl 0 rfl) ?_
  refine lv_iload_n hx hb dL_shared_4 rfl (lv_at hl 1 rfl) ?_
  refine lv_iload_n hx hb dL_shared_5 rfl (lv_at hl 2 rfl) ?_
  refine lv_iload_n hx hb dL_shared_6 rfl (lv_at hl 3 rfl) ?_
  have hPc := hP.sub (ws' := wC k aC aE aP aQ aM cX cY cN cM ++ wE k aE fX fY lX lY oP nE ++ wP k aP pX pY pD pO nP ++ wQ k aQ qF nQ ++ wM k aM mR mQ mN) [0, 1, 2, 3, 4, 5, 6, 7, 8, 9, 10, 11, 12, 13, 14, 15, 16, 17, 18, 19, 20, 21, 22, 23, 24, 25, 26, 27, 28, 29, 30] rfl
  have hDc := hD.sub (ws' := wC k aC aE aP aQ aM cX cY cN cM ++ wE k aE fX fY lX lY oP nE ++ wP k aP pX pY pD pO nP ++ wQ k aQ qF nQ ++ wM k aM mR mQ mN) [0, 1, 2, 3, 4, 5, 6, 7, 8, 9, 10, 11, 12, 13, 14, 15, 16, 17, 18, 19, 20, 21, 22, 23, 24, 25, 26, 27, 28, 29, 30] (by decide) rfl
  have hFc := va_free (wc := wC k aC aE aP aQ aM cX cY cN cM ++ wE k aE fX fY lX lY oP nE ++ wP k aP pX pY pD pO nP ++ wQ k aQ qF nQ ++ wM k aM mR mQ mN) hD hS hA [0, 1, 2, 3, 4, 5, 6, 7, 8, 9, 10, 11, 12, 13, 14, 15, 16, 17, 18, 19, 20, 21, 22, 23, 24, 25, 26, 27, 28, 29, 30] rfl
  refine vx_calli (vx_runV (C := RX4) (b := (aC 0)) (As := [.int p1, .int p2, .int p3]) (rest := [.int (0 : Int32), .ref (aO 0)]) ⟨hx, hb, hml, hown, hts⟩ (m_X4_shared l D k aC aE aP aQ aM cX cY cN cM fX fY lX lY oP nE pX pY pD pO nP qF nQ mR mQ mN p1 p2 p3 _ _ _ hlt h) (cwV 3 hts gL_shared_X4_shared rfl rfl rfl (by decide +kernel) ⟨Nat.le_of_ble_eq_true rfl, Nat.le_of_ble_eq_true rfl⟩) (preV_th (ci := 4) (q0 := 0) (C := RX4) (T := TX4) (N := 8) hE hT hS hFc hPc hDc rfl rfl) rfl rfl hl.1 rfl (lv_room (Nat.le_of_ble_eq_true rfl)) dL_shared_7 ⟨Nat.le_of_ble_eq_true rfl, Nat.le_of_ble_eq_true rfl⟩) hS (fun q _ h => hFc q h) hFc (fun q _ h => hFc q h) (fun E9 ce q9 u t H1 locs ht hvm hpx hB hz1 hk1 hS hce hcv hcl => ?_) (fun r7 u t H1 locs ht hvm h hB hz1 hk1 hS => ?_)
  · obtain ⟨h, hP1, hD1⟩ := hB
    rw [ht] at hP1
    obtain ⟨hP, hD⟩ := va_join (wr := wO k aO oL oD) (w1 := wC k aC aE aP aQ aM cX cY cN cM ++ wE k aE fX fY lX lY oP nE ++ wP k aP pX pY pD pO nP ++ wQ k aQ qF nQ ++ wM k aM mR mQ mN) hP hD [0, 1, 2, 3, 4, 5, 6, 7, 8, 9, 10, 11, 12, 13, 14, 15, 16, 17, 18, 19, 20, 21, 22, 23, 24, 25, 26, 27, 28, 29, 30] [31, 32] rfl rfl (by decide) (by decide) hk1 hFc hP1 hD1
    generalize H1 = H at hP hS hce ⊢
    have hP : va_P D vwCl (wC k aC aE aP aQ aM cX cY cN cM ++ wE k aE fX fY lX lY oP nE ++ wP k aP pX pY pD pO nP ++ wQ k aQ qF nQ ++ wM k aM mR mQ mN ++ wO k aO oL oD) H := hP.sub [2, 3, 4, 5, 6, 7, 8, 9, 10, 11, 12, 13, 14, 15, 16, 17, 18, 19, 20, 21, 22, 23, 24, 25, 26, 27, 28, 29, 30, 31, 32, 0, 1] rfl
    have hD : va_D A (wC k aC aE aP aQ aM cX cY cN cM ++ wE k aE fX fY lX lY oP nE ++ wP k aP pX pY pD pO nP ++ wQ k aQ qF nQ ++ wM k aM mR mQ mN ++ wO k aO oL oD) := hD.sub [2, 3, 4, 5, 6, 7, 8, 9, 10, 11, 12, 13, 14, 15, 16, 17, 18, 19, 20, 21, 22, 23, 24, 25, 26, 27, 28, 29, 30, 31, 32, 0, 1] (by decide) rfl
    rcases h with ⟨rfl, h⟩ | ⟨rfl, h⟩ | ⟨rfl, h⟩
    · refine vx_catch (own := RL) (name := xIS) (E := xIS) hown [] ⟨0, 12, 15, 15⟩ [⟨0, 12, 19, 28⟩, ⟨0, 12, 23, 40⟩] (by rw [htab]; rfl) (fun z hz => absurd hz List.not_mem_nil) (by decide) (by decide) cl15 (va_Nw.use rfl (hT.2.2.2.1 xIS (by decide))) hce hcv hcl ?_
      refine lv_astore (lv' := [(5, .ref q9), (0, .ref (aC 0)), (1, .int p1), (2, .int p2), (3, .int p3), (4, .ref (aO 0))]) hx hb dL_shared_15 hl (by decide) rfl (fun ls hl => ?_)
      refine lv_iconst (v := (1 : Int32)) hx hb dL_shared_17 (by decide) ?_
      rw [hGQ]
      exact W.iret (v := (1 : Int32)) hx hb hr (fun t ht hW => ⟨⟨_, (oL), rfl, h, by rw [ht]; exact hP, hD⟩, hS.F ht⟩) hS.2.2 dL_shared_18
    · refine vx_catch (own := RL) (name := xIO) (E := xIO) hown [⟨0, 12, 15, 15⟩] ⟨0, 12, 19, 28⟩ [⟨0, 12, 23, 40⟩] (by rw [htab]; rfl) (List.forall_mem_cons.mpr ⟨Or.inr ⟨by decide, xIS, cl15, hT.2.2.2.2.2 (xIO, xIS) (by decide)⟩, (fun z hz => absurd hz List.not_mem_nil)⟩) (by decide) (by decide) cl28 (va_Nw.use rfl (hT.2.2.2.1 xIO (by decide))) hce hcv hcl ?_
      refine lv_astore (lv' := [(5, .ref q9), (0, .ref (aC 0)), (1, .int p1), (2, .int p2), (3, .int p3), (4, .ref (aO 0))]) hx hb dL_shared_19 hl (by decide) rfl (fun ls hl => ?_)
      refine lv_iconst (v := (2 : Int32)) hx hb dL_shared_21 (by decide) ?_
      rw [hGQ]
      exact W.iret (v := (2 : Int32)) hx hb hr (fun t ht hW => ⟨⟨_, (oL), rfl, h, by rw [ht]; exact hP, hD⟩, hS.F ht⟩) hS.2.2 dL_shared_22
    · refine vx_catch (own := RL) (name := xNS) (E := xNS) hown [⟨0, 12, 15, 15⟩, ⟨0, 12, 19, 28⟩] ⟨0, 12, 23, 40⟩ [] (by rw [htab]; rfl) (List.forall_mem_cons.mpr ⟨Or.inr ⟨by decide, xIS, cl15, hT.2.2.2.2.2 (xNS, xIS) (by decide)⟩, (List.forall_mem_cons.mpr ⟨Or.inr ⟨by decide, xIO, cl28, hT.2.2.2.2.2 (xNS, xIO) (by decide)⟩, (fun z hz => absurd hz List.not_mem_nil)⟩)⟩) (by decide) (by decide) cl40 (va_Nw.use rfl (hT.2.2.2.1 xNS (by decide))) hce hcv hcl ?_
      refine lv_astore (lv' := [(5, .ref q9), (0, .ref (aC 0)), (1, .int p1), (2, .int p2), (3, .int p3), (4, .ref (aO 0))]) hx hb dL_shared_23 hl (by decide) rfl (fun ls hl => ?_)
      refine lv_iconst (v := (3 : Int32)) hx hb dL_shared_25 (by decide) ?_
      rw [hGQ]
      exact W.iret (v := (3 : Int32)) hx hb hr (fun t ht hW => ⟨⟨_, (oL), rfl, h, by rw [ht]; exact hP, hD⟩, hS.F ht⟩) hS.2.2 dL_shared_26
  obtain ⟨hP1, hD1⟩ := hB
  rw [ht] at hP1
  obtain ⟨hP, hD⟩ := va_join (wr := wO k aO oL oD) (w1 := wC k aC aE aP aQ aM cX cY cN cM ++ wE k aE fX fY lX lY oP nE ++ wP k aP pX pY pD pO nP ++ wQ k aQ qF nQ ++ wM k aM mR mQ mN) hP hD [0, 1, 2, 3, 4, 5, 6, 7, 8, 9, 10, 11, 12, 13, 14, 15, 16, 17, 18, 19, 20, 21, 22, 23, 24, 25, 26, 27, 28, 29, 30] [31, 32] rfl rfl (by decide) (by decide) hk1 hFc hP1 hD1
  generalize H1 = H at hP hS ⊢
  have hP : va_P D vwCl (wC k aC aE aP aQ aM cX cY cN cM ++ wE k aE fX fY lX lY oP nE ++ wP k aP pX pY pD pO nP ++ wQ k aQ qF nQ ++ wM k aM mR mQ mN ++ wO k aO oL oD) H := hP.sub [2, 3, 4, 5, 6, 7, 8, 9, 10, 11, 12, 13, 14, 15, 16, 17, 18, 19, 20, 21, 22, 23, 24, 25, 26, 27, 28, 29, 30, 31, 32, 0, 1] rfl
  have hD : va_D A (wC k aC aE aP aQ aM cX cY cN cM ++ wE k aE fX fY lX lY oP nE ++ wP k aP pX pY pD pO nP ++ wQ k aQ qF nQ ++ wM k aM mR mQ mN ++ wO k aO oL oD) := hD.sub [2, 3, 4, 5, 6, 7, 8, 9, 10, 11, 12, 13, 14, 15, 16, 17, 18, 19, 20, 21, 22, 23, 24, 25, 26, 27, 28, 29, 30, 31, 32, 0, 1] (by decide) rfl
  refine lv_i2l hx hb dL_shared_10 rfl ?_
  obtain ⟨hin, h⟩ := h
  obtain ⟨y11, ey11⟩ : ∃ z : Nat → Int64, z = vp_updL oL (0 : Int32).toNatClampNeg (r7.toInt64) := ⟨_, rfl⟩
  have h := h y11 ey11
  refine va_last hx hb hK hP hD hS 31 2 rfl rfl hin dL_shared_11 (fun H locs hP hD hS => ?_)
  rw [← ey11] at hP hD
  have hP : va_P D vwCl (wC k aC aE aP aQ aM cX cY cN cM ++ wE k aE fX fY lX lY oP nE ++ wP k aP pX pY pD pO nP ++ wQ k aQ qF nQ ++ wM k aM mR mQ mN ++ wO k aO y11 oD) H := hP
  have hD : va_D A (wC k aC aE aP aQ aM cX cY cN cM ++ wE k aE fX fY lX lY oP nE ++ wP k aP pX pY pD pO nP ++ wQ k aQ qF nQ ++ wM k aM mR mQ mN ++ wO k aO y11 oD) := hD
  refine lv_goto (tgt := 27) hx hb dL_shared_12 (by decide) ?_
  refine lv_iconst (v := (0 : Int32)) hx hb dL_shared_27 (by decide) ?_
  rw [hGQ]
  exact W.iret (v := (0 : Int32)) hx hb hr (fun t ht hW => ⟨⟨_, (y11), rfl, h, by rw [ht]; exact hP, hD⟩, hS.F ht⟩) hS.2.2 dL_shared_28
set_option maxHeartbeats 4000000 in
set_option maxRecDepth 100000 in
theorem m_L_bounds (l : Launch) (D : va_G) (k : Nat → ClassId) (aC : Nat → Nat) (aE : Nat → Nat) (aP : Nat → Nat) (aQ : Nat → Nat) (aM : Nat → Nat) (aO : Nat → Nat) (cX : Nat → Nat → Int32) (cY : Nat → Nat → Int32) (cN : Nat → Int32) (cM : Int32) (fX : Nat → Int32) (fY : Nat → Int32) (lX : Nat → Int32) (lY : Nat → Int32) (oP : Nat → Int32) (nE : Int32) (pX : Nat → Int32) (pY : Nat → Int32) (pD : Nat → Int32) (pO : Nat → Int32) (nP : Int32) (qF : Nat → Nat → Int32) (nQ : Int32) (mR : Nat → Int32) (mQ : Int32) (mN : Int32) (oL : Nat → Int64) (oD : Nat → UInt64) (p1 : Int32) (Q : Int32 → (Nat → Int64) → Prop) (sz : Nat) (hlt : l.stackTraces = false) (h : wp_L_bounds p1 cM qF nQ oL Q) : Met l yL_bounds wsL_bounds ({ frames := 8, cells := 2, slots := 12, locals := 133 }) (Pth D k [.ref (aC 0), .int p1, .ref (aO 0)] (wC k aC aE aP aQ aM cX cY cN cM ++ wE k aE fX fY lX lY oP nE ++ wP k aP pX pY pD pO nP ++ wQ k aQ qF nQ ++ wM k aM mR mQ mN ++ wO k aO oL oD) sz) (va_Qi (fun (r : Int32) (u : (Nat → Int64)) => Q r u) (fun (u : (Nat → Int64)) t => va_P D vwCl (wC k aC aE aP aQ aM cX cY cN cM ++ wE k aE fX fY lX lY oP nE ++ wP k aP pX pY pD pO nP ++ wQ k aQ qF nQ ++ wM k aM mR mQ mN ++ wO k aO u oD) t.heap ∧ va_D (va_A (wC k aC aE aP aQ aM cX cY cN cM ++ wE k aE fX fY lX lY oP nE ++ wP k aP pX pY pD pO nP ++ wQ k aQ qF nQ ++ wM k aM mR mQ mN ++ wO k aO oL oD) sz) (wC k aC aE aP aQ aM cX cY cN cM ++ wE k aE fX fY lX lY oP nE ++ wP k aP pX pY pD pO nP ++ wQ k aQ qF nQ ++ wM k aM mR mQ mN ++ wO k aO u oD)) (va_A (wC k aC aE aP aQ aM cX cY cN cM ++ wE k aE fX fY lX lY oP nE ++ wP k aP pX pY pD pO nP ++ wQ k aQ qF nQ ++ wM k aM mR mQ mN ++ wO k aO oL oD) sz)) 2 12 (va_A (wC k aC aE aP aQ aM cX cY cN cM ++ wE k aE fX fY lX lY oP nE ++ wP k aP pX pY pD pO nP ++ wQ k aQ qF nQ ++ wM k aM mR mQ mN ++ wO k aO oL oD) sz) := by
  refine va_MetW (cc := cL_bounds) (maxL := 4) (ret := (some .int)) (hh := [(0, 9, 12, 15), (0, 9, 15, 13)]) (by decide) rfl ?_
  intro p e s m args below meth c s₁ B hml hv
  obtain ⟨hav, hsz, hP, hE, hD0, hT⟩ := hv
  subst hsz
  have hx := B.exec
  have hb := B.bytes
  have hr := B.returns
  have hts := atoms_spec (ws := wsL_bounds) B.pre
  have hown : s.vm.findClass RL = some m.cls := findClass_of_methodNamed B.named
  have hlocks := B.notSynchronized
  have hK := hE.1
  have hD := hD0.self (sz := s.heap.size)
  generalize hAe : va_A (wC k aC aE aP aQ aM cX cY cN cM ++ wE k aE fX fY lX lY oP nE ++ wP k aP pX pY pD pO nP ++ wQ k aQ qF nQ ++ wM k aM mR mQ mN ++ wO k aO oL oD) s.heap.size = A at hD hT ⊢
  have hA : ∀ q : Nat, s.heap.size ≤ q → A q := fun q h => by rw [← hAe]; exact Or.inr h
  have hS : va_S A s.heap s.heap [] := va_S.rf
  have hl := lv_entry ([.ref (aC 0), .int p1, .ref (aO 0)]) (n := 4) (Nat.le_of_ble_eq_true rfl)
  rw [show entryFrame m args 4 = entryFrame m ([.ref (aC 0), .int p1, .ref (aO 0)] : List Value).toArray 4 by rw [hav]]
  rw [lg_entry_eq]
  refine W.gq (fun GQ hGQ => ?_)
  generalize (lg_sl ([.ref (aC 0), .int p1, .ref (aO 0)]) ++ List.replicate (4 - (lg_sl ([.ref (aC 0), .int p1, .ref (aO 0)])).length) Slot.unset).toArray = ls at hl ⊢
  have hl : lv_has ls 4 [(0, .ref (aC 0)), (1, .int p1), (2, .ref (aO 0))] := hl
  have htab := vx_table (x := yL_law) B (hts (.codeWith yL_bounds cL_bounds 4 (some .int) [(0, 9, 12, 15), (0, 9, 15, 13)]) List.mem_cons_self)
  have cl15 := hts (.classLink RL 15 "java/lang/IllegalStateException") (by decide +kernel)
  have cl13 := hts (.classLink RL 13 "java/lang/IllegalArgumentException") (by decide +kernel)
  unfold wp_L_bounds at h
  refine lv_aload_n hx hb dL_bounds_0 rfl (lv_at hl 2 rfl) ?_
  refine lv_iconst (v := (0 : Int32)) hx hb dL_bounds_1 (by decide) ?_
  refine lv_aload_n hx hb dL_bounds_2 rfl (lv_at hl 0 rfl) ?_
  refine lv_iload_n hx hb dL_bounds_3 rfl (lv_at hl 1 rfl) ?_
  have hPc := hP.sub (ws' := wC k aC aE aP aQ aM cX cY cN cM ++ wE k aE fX fY lX lY oP nE ++ wP k aP pX pY pD pO nP ++ wQ k aQ qF nQ ++ wM k aM mR mQ mN) [0, 1, 2, 3, 4, 5, 6, 7, 8, 9, 10, 11, 12, 13, 14, 15, 16, 17, 18, 19, 20, 21, 22, 23, 24, 25, 26, 27, 28, 29, 30] rfl
  have hDc := hD.sub (ws' := wC k aC aE aP aQ aM cX cY cN cM ++ wE k aE fX fY lX lY oP nE ++ wP k aP pX pY pD pO nP ++ wQ k aQ qF nQ ++ wM k aM mR mQ mN) [0, 1, 2, 3, 4, 5, 6, 7, 8, 9, 10, 11, 12, 13, 14, 15, 16, 17, 18, 19, 20, 21, 22, 23, 24, 25, 26, 27, 28, 29, 30] (by decide) rfl
  have hFc := va_free (wc := wC k aC aE aP aQ aM cX cY cN cM ++ wE k aE fX fY lX lY oP nE ++ wP k aP pX pY pD pO nP ++ wQ k aQ qF nQ ++ wM k aM mR mQ mN) hD hS hA [0, 1, 2, 3, 4, 5, 6, 7, 8, 9, 10, 11, 12, 13, 14, 15, 16, 17, 18, 19, 20, 21, 22, 23, 24, 25, 26, 27, 28, 29, 30] rfl
  refine vx_calli (vx_runV (C := RX4) (b := (aC 0)) (As := [.int p1]) (rest := [.int (0 : Int32), .ref (aO 0)]) ⟨hx, hb, hml, hown, hts⟩ (m_X4_bounds l D k aC aE aP aQ aM cX cY cN cM fX fY lX lY oP nE pX pY pD pO nP qF nQ mR mQ mN p1 _ _ _ hlt h) (cwV 1 hts gL_bounds_X4_bounds rfl rfl rfl (by decide +kernel) ⟨Nat.le_of_ble_eq_true rfl, Nat.le_of_ble_eq_true rfl⟩) (preV_th (ci := 4) (q0 := 0) (C := RX4) (T := TX4) (N := 8) hE hT hS hFc hPc hDc rfl rfl) rfl rfl hl.1 rfl (lv_room (Nat.le_of_ble_eq_true rfl)) dL_bounds_4 ⟨Nat.le_of_ble_eq_true rfl, Nat.le_of_ble_eq_true rfl⟩) hS (fun q _ h => hFc q h) hFc (fun q _ h => hFc q h) (fun E9 ce q9 u t H1 locs ht hvm hpx hB hz1 hk1 hS hce hcv hcl => ?_) (fun r4 u t H1 locs ht hvm h hB hz1 hk1 hS => ?_)
  · obtain ⟨h, hP1, hD1⟩ := hB
    rw [ht] at hP1
    obtain ⟨hP, hD⟩ := va_join (wr := wO k aO oL oD) (w1 := wC k aC aE aP aQ aM cX cY cN cM ++ wE k aE fX fY lX lY oP nE ++ wP k aP pX pY pD pO nP ++ wQ k aQ qF nQ ++ wM k aM mR mQ mN) hP hD [0, 1, 2, 3, 4, 5, 6, 7, 8, 9, 10, 11, 12, 13, 14, 15, 16, 17, 18, 19, 20, 21, 22, 23, 24, 25, 26, 27, 28, 29, 30] [31, 32] rfl rfl (by decide) (by decide) hk1 hFc hP1 hD1
    generalize H1 = H at hP hS hce ⊢
    have hP : va_P D vwCl (wC k aC aE aP aQ aM cX cY cN cM ++ wE k aE fX fY lX lY oP nE ++ wP k aP pX pY pD pO nP ++ wQ k aQ qF nQ ++ wM k aM mR mQ mN ++ wO k aO oL oD) H := hP.sub [2, 3, 4, 5, 6, 7, 8, 9, 10, 11, 12, 13, 14, 15, 16, 17, 18, 19, 20, 21, 22, 23, 24, 25, 26, 27, 28, 29, 30, 31, 32, 0, 1] rfl
    have hD : va_D A (wC k aC aE aP aQ aM cX cY cN cM ++ wE k aE fX fY lX lY oP nE ++ wP k aP pX pY pD pO nP ++ wQ k aQ qF nQ ++ wM k aM mR mQ mN ++ wO k aO oL oD) := hD.sub [2, 3, 4, 5, 6, 7, 8, 9, 10, 11, 12, 13, 14, 15, 16, 17, 18, 19, 20, 21, 22, 23, 24, 25, 26, 27, 28, 29, 30, 31, 32, 0, 1] (by decide) rfl
    rcases h with ⟨rfl, h⟩ | ⟨rfl, h⟩
    · refine vx_catch (own := RL) (name := xIS) (E := xIS) hown [] ⟨0, 9, 12, 15⟩ [⟨0, 9, 15, 13⟩] (by rw [htab]; rfl) (fun z hz => absurd hz List.not_mem_nil) (by decide) (by decide) cl15 (va_Nw.use rfl (hT.2.2.2.1 xIS (by decide))) hce hcv hcl ?_
      refine lv_astore_n (lv' := [(3, .ref q9), (0, .ref (aC 0)), (1, .int p1), (2, .ref (aO 0))]) hx hb dL_bounds_12 rfl hl (by decide) rfl (fun ls hl => ?_)
      refine lv_iconst (v := (1 : Int32)) hx hb dL_bounds_13 (by decide) ?_
      rw [hGQ]
      exact W.iret (v := (1 : Int32)) hx hb hr (fun t ht hW => ⟨⟨_, (oL), rfl, h, by rw [ht]; exact hP, hD⟩, hS.F ht⟩) hS.2.2 dL_bounds_14
    · refine vx_catch (own := RL) (name := xIA) (E := xIA) hown [⟨0, 9, 12, 15⟩] ⟨0, 9, 15, 13⟩ [] (by rw [htab]; rfl) (List.forall_mem_cons.mpr ⟨Or.inr ⟨by decide, xIS, cl15, hT.2.2.2.2.2 (xIA, xIS) (by decide)⟩, (fun z hz => absurd hz List.not_mem_nil)⟩) (by decide) (by decide) cl13 (va_Nw.use rfl (hT.2.2.2.1 xIA (by decide))) hce hcv hcl ?_
      refine lv_astore_n (lv' := [(3, .ref q9), (0, .ref (aC 0)), (1, .int p1), (2, .ref (aO 0))]) hx hb dL_bounds_15 rfl hl (by decide) rfl (fun ls hl => ?_)
      refine lv_iconst (v := (2 : Int32)) hx hb dL_bounds_16 (by decide) ?_
      rw [hGQ]
      exact W.iret (v := (2 : Int32)) hx hb hr (fun t ht hW => ⟨⟨_, (oL), rfl, h, by rw [ht]; exact hP, hD⟩, hS.F ht⟩) hS.2.2 dL_bounds_17
  obtain ⟨hP1, hD1⟩ := hB
  rw [ht] at hP1
  obtain ⟨hP, hD⟩ := va_join (wr := wO k aO oL oD) (w1 := wC k aC aE aP aQ aM cX cY cN cM ++ wE k aE fX fY lX lY oP nE ++ wP k aP pX pY pD pO nP ++ wQ k aQ qF nQ ++ wM k aM mR mQ mN) hP hD [0, 1, 2, 3, 4, 5, 6, 7, 8, 9, 10, 11, 12, 13, 14, 15, 16, 17, 18, 19, 20, 21, 22, 23, 24, 25, 26, 27, 28, 29, 30] [31, 32] rfl rfl (by decide) (by decide) hk1 hFc hP1 hD1
  generalize H1 = H at hP hS ⊢
  have hP : va_P D vwCl (wC k aC aE aP aQ aM cX cY cN cM ++ wE k aE fX fY lX lY oP nE ++ wP k aP pX pY pD pO nP ++ wQ k aQ qF nQ ++ wM k aM mR mQ mN ++ wO k aO oL oD) H := hP.sub [2, 3, 4, 5, 6, 7, 8, 9, 10, 11, 12, 13, 14, 15, 16, 17, 18, 19, 20, 21, 22, 23, 24, 25, 26, 27, 28, 29, 30, 31, 32, 0, 1] rfl
  have hD : va_D A (wC k aC aE aP aQ aM cX cY cN cM ++ wE k aE fX fY lX lY oP nE ++ wP k aP pX pY pD pO nP ++ wQ k aQ qF nQ ++ wM k aM mR mQ mN ++ wO k aO oL oD) := hD.sub [2, 3, 4, 5, 6, 7, 8, 9, 10, 11, 12, 13, 14, 15, 16, 17, 18, 19, 20, 21, 22, 23, 24, 25, 26, 27, 28, 29, 30, 31, 32, 0, 1] (by decide) rfl
  refine lv_i2l hx hb dL_bounds_7 rfl ?_
  obtain ⟨hin, h⟩ := h
  obtain ⟨y8, ey8⟩ : ∃ z : Nat → Int64, z = vp_updL oL (0 : Int32).toNatClampNeg (r4.toInt64) := ⟨_, rfl⟩
  have h := h y8 ey8
  refine va_last hx hb hK hP hD hS 31 2 rfl rfl hin dL_bounds_8 (fun H locs hP hD hS => ?_)
  rw [← ey8] at hP hD
  have hP : va_P D vwCl (wC k aC aE aP aQ aM cX cY cN cM ++ wE k aE fX fY lX lY oP nE ++ wP k aP pX pY pD pO nP ++ wQ k aQ qF nQ ++ wM k aM mR mQ mN ++ wO k aO y8 oD) H := hP
  have hD : va_D A (wC k aC aE aP aQ aM cX cY cN cM ++ wE k aE fX fY lX lY oP nE ++ wP k aP pX pY pD pO nP ++ wQ k aQ qF nQ ++ wM k aM mR mQ mN ++ wO k aO y8 oD) := hD
  refine lv_goto (tgt := 18) hx hb dL_bounds_9 (by decide) ?_
  refine lv_iconst (v := (0 : Int32)) hx hb dL_bounds_18 (by decide) ?_
  rw [hGQ]
  exact W.iret (v := (0 : Int32)) hx hb hr (fun t ht hW => ⟨⟨_, (y8), rfl, h, by rw [ht]; exact hP, hD⟩, hS.F ht⟩) hS.2.2 dL_bounds_19
set_option maxHeartbeats 4000000 in
set_option maxRecDepth 100000 in
theorem m_L_bound (l : Launch) (D : va_G) (k : Nat → ClassId) (aC : Nat → Nat) (aE : Nat → Nat) (aP : Nat → Nat) (aQ : Nat → Nat) (aM : Nat → Nat) (aO : Nat → Nat) (cX : Nat → Nat → Int32) (cY : Nat → Nat → Int32) (cN : Nat → Int32) (cM : Int32) (fX : Nat → Int32) (fY : Nat → Int32) (lX : Nat → Int32) (lY : Nat → Int32) (oP : Nat → Int32) (nE : Int32) (pX : Nat → Int32) (pY : Nat → Int32) (pD : Nat → Int32) (pO : Nat → Int32) (nP : Int32) (qF : Nat → Nat → Int32) (nQ : Int32) (mR : Nat → Int32) (mQ : Int32) (mN : Int32) (oL : Nat → Int64) (oD : Nat → UInt64) (p1 : Int32) (p2 : Int32) (Q : Int32 → (Nat → Int64) → Prop) (sz : Nat) (hlt : l.stackTraces = false) (h : wp_L_bound p1 p2 cM qF nQ oL Q) : Met l yL_bound wsL_bound ({ frames := 8, cells := 3, slots := 18, locals := 134 }) (Pth D k [.ref (aC 0), .int p1, .int p2, .ref (aO 0)] (wC k aC aE aP aQ aM cX cY cN cM ++ wE k aE fX fY lX lY oP nE ++ wP k aP pX pY pD pO nP ++ wQ k aQ qF nQ ++ wM k aM mR mQ mN ++ wO k aO oL oD) sz) (va_Qi (fun (r : Int32) (u : (Nat → Int64)) => Q r u) (fun (u : (Nat → Int64)) t => va_P D vwCl (wC k aC aE aP aQ aM cX cY cN cM ++ wE k aE fX fY lX lY oP nE ++ wP k aP pX pY pD pO nP ++ wQ k aQ qF nQ ++ wM k aM mR mQ mN ++ wO k aO u oD) t.heap ∧ va_D (va_A (wC k aC aE aP aQ aM cX cY cN cM ++ wE k aE fX fY lX lY oP nE ++ wP k aP pX pY pD pO nP ++ wQ k aQ qF nQ ++ wM k aM mR mQ mN ++ wO k aO oL oD) sz) (wC k aC aE aP aQ aM cX cY cN cM ++ wE k aE fX fY lX lY oP nE ++ wP k aP pX pY pD pO nP ++ wQ k aQ qF nQ ++ wM k aM mR mQ mN ++ wO k aO u oD)) (va_A (wC k aC aE aP aQ aM cX cY cN cM ++ wE k aE fX fY lX lY oP nE ++ wP k aP pX pY pD pO nP ++ wQ k aQ qF nQ ++ wM k aM mR mQ mN ++ wO k aO oL oD) sz)) 3 18 (va_A (wC k aC aE aP aQ aM cX cY cN cM ++ wE k aE fX fY lX lY oP nE ++ wP k aP pX pY pD pO nP ++ wQ k aQ qF nQ ++ wM k aM mR mQ mN ++ wO k aO oL oD) sz) := by
  refine va_MetW (cc := cL_bound) (maxL := 5) (ret := (some .int)) (hh := [(0, 10, 13, 15), (0, 10, 17, 13), (0, 10, 21, 40)]) (by decide) rfl ?_
  intro p e s m args below meth c s₁ B hml hv
  obtain ⟨hav, hsz, hP, hE, hD0, hT⟩ := hv
  subst hsz
  have hx := B.exec
  have hb := B.bytes
  have hr := B.returns
  have hts := atoms_spec (ws := wsL_bound) B.pre
  have hown : s.vm.findClass RL = some m.cls := findClass_of_methodNamed B.named
  have hlocks := B.notSynchronized
  have hK := hE.1
  have hD := hD0.self (sz := s.heap.size)
  generalize hAe : va_A (wC k aC aE aP aQ aM cX cY cN cM ++ wE k aE fX fY lX lY oP nE ++ wP k aP pX pY pD pO nP ++ wQ k aQ qF nQ ++ wM k aM mR mQ mN ++ wO k aO oL oD) s.heap.size = A at hD hT ⊢
  have hA : ∀ q : Nat, s.heap.size ≤ q → A q := fun q h => by rw [← hAe]; exact Or.inr h
  have hS : va_S A s.heap s.heap [] := va_S.rf
  have hl := lv_entry ([.ref (aC 0), .int p1, .int p2, .ref (aO 0)]) (n := 5) (Nat.le_of_ble_eq_true rfl)
  rw [show entryFrame m args 5 = entryFrame m ([.ref (aC 0), .int p1, .int p2, .ref (aO 0)] : List Value).toArray 5 by rw [hav]]
  rw [lg_entry_eq]
  refine W.gq (fun GQ hGQ => ?_)
  generalize (lg_sl ([.ref (aC 0), .int p1, .int p2, .ref (aO 0)]) ++ List.replicate (5 - (lg_sl ([.ref (aC 0), .int p1, .int p2, .ref (aO 0)])).length) Slot.unset).toArray = ls at hl ⊢
  have hl : lv_has ls 5 [(0, .ref (aC 0)), (1, .int p1), (2, .int p2), (3, .ref (aO 0))] := hl
  have htab := vx_table (x := yL_law) B (hts (.codeWith yL_bound cL_bound 5 (some .int) [(0, 10, 13, 15), (0, 10, 17, 13), (0, 10, 21, 40)]) List.mem_cons_self)
  have cl15 := hts (.classLink RL 15 "java/lang/IllegalStateException") (by decide +kernel)
  have cl13 := hts (.classLink RL 13 "java/lang/IllegalArgumentException") (by decide +kernel)
  have cl40 := hts (.classLink RL 40 "java/util/NoSuchElementException") (by decide +kernel)
  unfold wp_L_bound at h
  refine lv_aload_n hx hb dL_bound_0 rfl (lv_at hl 3 rfl) ?_
  refine lv_iconst (v := (0 : Int32)) hx hb dL_bound_1 (by decide) ?_
  refine lv_aload_n hx hb dL_bound_2 rfl (lv_at hl 0 rfl) ?_
  refine lv_iload_n hx hb dL_bound_3 rfl (lv_at hl 1 rfl) ?_
  refine lv_iload_n hx hb dL_bound_4 rfl (lv_at hl 2 rfl) ?_
  have hPc := hP.sub (ws' := wC k aC aE aP aQ aM cX cY cN cM ++ wE k aE fX fY lX lY oP nE ++ wP k aP pX pY pD pO nP ++ wQ k aQ qF nQ ++ wM k aM mR mQ mN) [0, 1, 2, 3, 4, 5, 6, 7, 8, 9, 10, 11, 12, 13, 14, 15, 16, 17, 18, 19, 20, 21, 22, 23, 24, 25, 26, 27, 28, 29, 30] rfl
  have hDc := hD.sub (ws' := wC k aC aE aP aQ aM cX cY cN cM ++ wE k aE fX fY lX lY oP nE ++ wP k aP pX pY pD pO nP ++ wQ k aQ qF nQ ++ wM k aM mR mQ mN) [0, 1, 2, 3, 4, 5, 6, 7, 8, 9, 10, 11, 12, 13, 14, 15, 16, 17, 18, 19, 20, 21, 22, 23, 24, 25, 26, 27, 28, 29, 30] (by decide) rfl
  have hFc := va_free (wc := wC k aC aE aP aQ aM cX cY cN cM ++ wE k aE fX fY lX lY oP nE ++ wP k aP pX pY pD pO nP ++ wQ k aQ qF nQ ++ wM k aM mR mQ mN) hD hS hA [0, 1, 2, 3, 4, 5, 6, 7, 8, 9, 10, 11, 12, 13, 14, 15, 16, 17, 18, 19, 20, 21, 22, 23, 24, 25, 26, 27, 28, 29, 30] rfl
  refine vx_calli (vx_runV (C := RX4) (b := (aC 0)) (As := [.int p1, .int p2]) (rest := [.int (0 : Int32), .ref (aO 0)]) ⟨hx, hb, hml, hown, hts⟩ (m_X4_bound l D k aC aE aP aQ aM cX cY cN cM fX fY lX lY oP nE pX pY pD pO nP qF nQ mR mQ mN p1 p2 _ _ _ hlt h) (cwV 2 hts gL_bound_X4_bound rfl rfl rfl (by decide +kernel) ⟨Nat.le_of_ble_eq_true rfl, Nat.le_of_ble_eq_true rfl⟩) (preV_th (ci := 4) (q0 := 0) (C := RX4) (T := TX4) (N := 8) hE hT hS hFc hPc hDc rfl rfl) rfl rfl hl.1 rfl (lv_room (Nat.le_of_ble_eq_true rfl)) dL_bound_5 ⟨Nat.le_of_ble_eq_true rfl, Nat.le_of_ble_eq_true rfl⟩) hS (fun q _ h => hFc q h) hFc (fun q _ h => hFc q h) (fun E9 ce q9 u t H1 locs ht hvm hpx hB hz1 hk1 hS hce hcv hcl => ?_) (fun r5 u t H1 locs ht hvm h hB hz1 hk1 hS => ?_)
  · obtain ⟨h, hP1, hD1⟩ := hB
    rw [ht] at hP1
    obtain ⟨hP, hD⟩ := va_join (wr := wO k aO oL oD) (w1 := wC k aC aE aP aQ aM cX cY cN cM ++ wE k aE fX fY lX lY oP nE ++ wP k aP pX pY pD pO nP ++ wQ k aQ qF nQ ++ wM k aM mR mQ mN) hP hD [0, 1, 2, 3, 4, 5, 6, 7, 8, 9, 10, 11, 12, 13, 14, 15, 16, 17, 18, 19, 20, 21, 22, 23, 24, 25, 26, 27, 28, 29, 30] [31, 32] rfl rfl (by decide) (by decide) hk1 hFc hP1 hD1
    generalize H1 = H at hP hS hce ⊢
    have hP : va_P D vwCl (wC k aC aE aP aQ aM cX cY cN cM ++ wE k aE fX fY lX lY oP nE ++ wP k aP pX pY pD pO nP ++ wQ k aQ qF nQ ++ wM k aM mR mQ mN ++ wO k aO oL oD) H := hP.sub [2, 3, 4, 5, 6, 7, 8, 9, 10, 11, 12, 13, 14, 15, 16, 17, 18, 19, 20, 21, 22, 23, 24, 25, 26, 27, 28, 29, 30, 31, 32, 0, 1] rfl
    have hD : va_D A (wC k aC aE aP aQ aM cX cY cN cM ++ wE k aE fX fY lX lY oP nE ++ wP k aP pX pY pD pO nP ++ wQ k aQ qF nQ ++ wM k aM mR mQ mN ++ wO k aO oL oD) := hD.sub [2, 3, 4, 5, 6, 7, 8, 9, 10, 11, 12, 13, 14, 15, 16, 17, 18, 19, 20, 21, 22, 23, 24, 25, 26, 27, 28, 29, 30, 31, 32, 0, 1] (by decide) rfl
    rcases h with ⟨rfl, h⟩ | ⟨rfl, h⟩ | ⟨rfl, h⟩
    · refine vx_catch (own := RL) (name := xIS) (E := xIS) hown [] ⟨0, 10, 13, 15⟩ [⟨0, 10, 17, 13⟩, ⟨0, 10, 21, 40⟩] (by rw [htab]; rfl) (fun z hz => absurd hz List.not_mem_nil) (by decide) (by decide) cl15 (va_Nw.use rfl (hT.2.2.2.1 xIS (by decide))) hce hcv hcl ?_
      refine lv_astore (lv' := [(4, .ref q9), (0, .ref (aC 0)), (1, .int p1), (2, .int p2), (3, .ref (aO 0))]) hx hb dL_bound_13 hl (by decide) rfl (fun ls hl => ?_)
      refine lv_iconst (v := (1 : Int32)) hx hb dL_bound_15 (by decide) ?_
      rw [hGQ]
      exact W.iret (v := (1 : Int32)) hx hb hr (fun t ht hW => ⟨⟨_, (oL), rfl, h, by rw [ht]; exact hP, hD⟩, hS.F ht⟩) hS.2.2 dL_bound_16
    · refine vx_catch (own := RL) (name := xIA) (E := xIA) hown [⟨0, 10, 13, 15⟩] ⟨0, 10, 17, 13⟩ [⟨0, 10, 21, 40⟩] (by rw [htab]; rfl) (List.forall_mem_cons.mpr ⟨Or.inr ⟨by decide, xIS, cl15, hT.2.2.2.2.2 (xIA, xIS) (by decide)⟩, (fun z hz => absurd hz List.not_mem_nil)⟩) (by decide) (by decide) cl13 (va_Nw.use rfl (hT.2.2.2.1 xIA (by decide))) hce hcv hcl ?_
      refine lv_astore (lv' := [(4, .ref q9), (0, .ref (aC 0)), (1, .int p1), (2, .int p2), (3, .ref (aO 0))]) hx hb dL_bound_17 hl (by decide) rfl (fun ls hl => ?_)
      refine lv_iconst (v := (2 : Int32)) hx hb dL_bound_19 (by decide) ?_
      rw [hGQ]
      exact W.iret (v := (2 : Int32)) hx hb hr (fun t ht hW => ⟨⟨_, (oL), rfl, h, by rw [ht]; exact hP, hD⟩, hS.F ht⟩) hS.2.2 dL_bound_20
    · refine vx_catch (own := RL) (name := xNS) (E := xNS) hown [⟨0, 10, 13, 15⟩, ⟨0, 10, 17, 13⟩] ⟨0, 10, 21, 40⟩ [] (by rw [htab]; rfl) (List.forall_mem_cons.mpr ⟨Or.inr ⟨by decide, xIS, cl15, hT.2.2.2.2.2 (xNS, xIS) (by decide)⟩, (List.forall_mem_cons.mpr ⟨Or.inr ⟨by decide, xIA, cl13, hT.2.2.2.2.2 (xNS, xIA) (by decide)⟩, (fun z hz => absurd hz List.not_mem_nil)⟩)⟩) (by decide) (by decide) cl40 (va_Nw.use rfl (hT.2.2.2.1 xNS (by decide))) hce hcv hcl ?_
      refine lv_astore (lv' := [(4, .ref q9), (0, .ref (aC 0)), (1, .int p1), (2, .int p2), (3, .ref (aO 0))]) hx hb dL_bound_21 hl (by decide) rfl (fun ls hl => ?_)
      refine lv_iconst (v := (3 : Int32)) hx hb dL_bound_23 (by decide) ?_
      rw [hGQ]
      exact W.iret (v := (3 : Int32)) hx hb hr (fun t ht hW => ⟨⟨_, (oL), rfl, h, by rw [ht]; exact hP, hD⟩, hS.F ht⟩) hS.2.2 dL_bound_24
  obtain ⟨hP1, hD1⟩ := hB
  rw [ht] at hP1
  obtain ⟨hP, hD⟩ := va_join (wr := wO k aO oL oD) (w1 := wC k aC aE aP aQ aM cX cY cN cM ++ wE k aE fX fY lX lY oP nE ++ wP k aP pX pY pD pO nP ++ wQ k aQ qF nQ ++ wM k aM mR mQ mN) hP hD [0, 1, 2, 3, 4, 5, 6, 7, 8, 9, 10, 11, 12, 13, 14, 15, 16, 17, 18, 19, 20, 21, 22, 23, 24, 25, 26, 27, 28, 29, 30] [31, 32] rfl rfl (by decide) (by decide) hk1 hFc hP1 hD1
  generalize H1 = H at hP hS ⊢
  have hP : va_P D vwCl (wC k aC aE aP aQ aM cX cY cN cM ++ wE k aE fX fY lX lY oP nE ++ wP k aP pX pY pD pO nP ++ wQ k aQ qF nQ ++ wM k aM mR mQ mN ++ wO k aO oL oD) H := hP.sub [2, 3, 4, 5, 6, 7, 8, 9, 10, 11, 12, 13, 14, 15, 16, 17, 18, 19, 20, 21, 22, 23, 24, 25, 26, 27, 28, 29, 30, 31, 32, 0, 1] rfl
  have hD : va_D A (wC k aC aE aP aQ aM cX cY cN cM ++ wE k aE fX fY lX lY oP nE ++ wP k aP pX pY pD pO nP ++ wQ k aQ qF nQ ++ wM k aM mR mQ mN ++ wO k aO oL oD) := hD.sub [2, 3, 4, 5, 6, 7, 8, 9, 10, 11, 12, 13, 14, 15, 16, 17, 18, 19, 20, 21, 22, 23, 24, 25, 26, 27, 28, 29, 30, 31, 32, 0, 1] (by decide) rfl
  refine lv_i2l hx hb dL_bound_8 rfl ?_
  obtain ⟨hin, h⟩ := h
  obtain ⟨y9, ey9⟩ : ∃ z : Nat → Int64, z = vp_updL oL (0 : Int32).toNatClampNeg (r5.toInt64) := ⟨_, rfl⟩
  have h := h y9 ey9
  refine va_last hx hb hK hP hD hS 31 2 rfl rfl hin dL_bound_9 (fun H locs hP hD hS => ?_)
  rw [← ey9] at hP hD
  have hP : va_P D vwCl (wC k aC aE aP aQ aM cX cY cN cM ++ wE k aE fX fY lX lY oP nE ++ wP k aP pX pY pD pO nP ++ wQ k aQ qF nQ ++ wM k aM mR mQ mN ++ wO k aO y9 oD) H := hP
  have hD : va_D A (wC k aC aE aP aQ aM cX cY cN cM ++ wE k aE fX fY lX lY oP nE ++ wP k aP pX pY pD pO nP ++ wQ k aQ qF nQ ++ wM k aM mR mQ mN ++ wO k aO y9 oD) := hD
  refine lv_goto (tgt := 25) hx hb dL_bound_10 (by decide) ?_
  refine lv_iconst (v := (0 : Int32)) hx hb dL_bound_25 (by decide) ?_
  rw [hGQ]
  exact W.iret (v := (0 : Int32)) hx hb hr (fun t ht hW => ⟨⟨_, (y9), rfl, h, by rw [ht]; exact hP, hD⟩, hS.F ht⟩) hS.2.2 dL_bound_26
set_option maxHeartbeats 4000000 in
set_option maxRecDepth 100000 in
theorem m_L_where (l : Launch) (D : va_G) (k : Nat → ClassId) (aC : Nat → Nat) (aE : Nat → Nat) (aP : Nat → Nat) (aQ : Nat → Nat) (aM : Nat → Nat) (aO : Nat → Nat) (cX : Nat → Nat → Int32) (cY : Nat → Nat → Int32) (cN : Nat → Int32) (cM : Int32) (fX : Nat → Int32) (fY : Nat → Int32) (lX : Nat → Int32) (lY : Nat → Int32) (oP : Nat → Int32) (nE : Int32) (pX : Nat → Int32) (pY : Nat → Int32) (pD : Nat → Int32) (pO : Nat → Int32) (nP : Int32) (qF : Nat → Nat → Int32) (nQ : Int32) (mR : Nat → Int32) (mQ : Int32) (mN : Int32) (oL : Nat → Int64) (oD : Nat → UInt64) (p1 : Int32) (p2 : Int32) (p3 : Int32) (p4 : Int32) (Q : Int32 → (Nat → Int64) → Prop) (sz : Nat) (hlt : l.stackTraces = false) (h : wp_L_where p1 p2 p3 p4 cM fX fY lX lY oP nE oL Q) : Met l yL_where wsL_where ({ frames := 8, cells := 3, slots := 18, locals := 135 }) (Pth D k [.ref (aC 0), .int p1, .int p2, .int p3, .int p4, .ref (aO 0)] (wC k aC aE aP aQ aM cX cY cN cM ++ wE k aE fX fY lX lY oP nE ++ wP k aP pX pY pD pO nP ++ wQ k aQ qF nQ ++ wM k aM mR mQ mN ++ wO k aO oL oD) sz) (va_Qi (fun (r : Int32) (u : (Nat → Int64)) => Q r u) (fun (u : (Nat → Int64)) t => va_P D vwCl (wC k aC aE aP aQ aM cX cY cN cM ++ wE k aE fX fY lX lY oP nE ++ wP k aP pX pY pD pO nP ++ wQ k aQ qF nQ ++ wM k aM mR mQ mN ++ wO k aO u oD) t.heap ∧ va_D (va_A (wC k aC aE aP aQ aM cX cY cN cM ++ wE k aE fX fY lX lY oP nE ++ wP k aP pX pY pD pO nP ++ wQ k aQ qF nQ ++ wM k aM mR mQ mN ++ wO k aO oL oD) sz) (wC k aC aE aP aQ aM cX cY cN cM ++ wE k aE fX fY lX lY oP nE ++ wP k aP pX pY pD pO nP ++ wQ k aQ qF nQ ++ wM k aM mR mQ mN ++ wO k aO u oD)) (va_A (wC k aC aE aP aQ aM cX cY cN cM ++ wE k aE fX fY lX lY oP nE ++ wP k aP pX pY pD pO nP ++ wQ k aQ qF nQ ++ wM k aM mR mQ mN ++ wO k aO oL oD) sz)) 3 18 (va_A (wC k aC aE aP aQ aM cX cY cN cM ++ wE k aE fX fY lX lY oP nE ++ wP k aP pX pY pD pO nP ++ wQ k aQ qF nQ ++ wM k aM mR mQ mN ++ wO k aO oL oD) sz) := by
  refine va_MetW (cc := cL_where) (maxL := 7) (ret := (some .int)) (hh := [(0, 14, 17, 15), (0, 14, 21, 13)]) (by decide) rfl ?_
  intro p e s m args below meth c s₁ B hml hv
  obtain ⟨hav, hsz, hP, hE, hD0, hT⟩ := hv
  subst hsz
  have hx := B.exec
  have hb := B.bytes
  have hr := B.returns
  have hts := atoms_spec (ws := wsL_where) B.pre
  have hown : s.vm.findClass RL = some m.cls := findClass_of_methodNamed B.named
  have hlocks := B.notSynchronized
  have hK := hE.1
  have hD := hD0.self (sz := s.heap.size)
  generalize hAe : va_A (wC k aC aE aP aQ aM cX cY cN cM ++ wE k aE fX fY lX lY oP nE ++ wP k aP pX pY pD pO nP ++ wQ k aQ qF nQ ++ wM k aM mR mQ mN ++ wO k aO oL oD) s.heap.size = A at hD hT ⊢
  have hA : ∀ q : Nat, s.heap.size ≤ q → A q := fun q h => by rw [← hAe]; exact Or.inr h
  have hS : va_S A s.heap s.heap [] := va_S.rf
  have hl := lv_entry ([.ref (aC 0), .int p1, .int p2, .int p3, .int p4, .ref (aO 0)]) (n := 7) (Nat.le_of_ble_eq_true rfl)
  rw [show entryFrame m args 7 = entryFrame m ([.ref (aC 0), .int p1, .int p2, .int p3, .int p4, .ref (aO 0)] : List Value).toArray 7 by rw [hav]]
  rw [lg_entry_eq]
  refine W.gq (fun GQ hGQ => ?_)
  generalize (lg_sl ([.ref (aC 0), .int p1, .int p2, .int p3, .int p4, .ref (aO 0)]) ++ List.replicate (7 - (lg_sl ([.ref (aC 0), .int p1, .int p2, .int p3, .int p4, .ref (aO 0)])).length) Slot.unset).toArray = ls at hl ⊢
  have hl : lv_has ls 7 [(0, .ref (aC 0)), (1, .int p1), (2, .int p2), (3, .int p3), (4, .int p4), (5, .ref (aO 0))] := hl
  have htab := vx_table (x := yL_law) B (hts (.codeWith yL_where cL_where 7 (some .int) [(0, 14, 17, 15), (0, 14, 21, 13)]) List.mem_cons_self)
  have cl15 := hts (.classLink RL 15 "java/lang/IllegalStateException") (by decide +kernel)
  have cl13 := hts (.classLink RL 13 "java/lang/IllegalArgumentException") (by decide +kernel)
  unfold wp_L_where at h
  refine lv_aload hx hb dL_where_0 (lv_at hl 5 rfl) ?_
  refine lv_iconst (v := (0 : Int32)) hx hb dL_where_2 (by decide) ?_
  refine lv_aload_n hx hb dL_where_3 rfl (lv_at hl 0 rfl) ?_
  refine lv_iload_n hx hb dL_where_4 rfl (lv_at hl 1 rfl) ?_
  refine lv_iload_n hx hb dL_where_5 rfl (lv_at hl 2 rfl) ?_
  refine lv_iload_n hx hb dL_where_6 rfl (lv_at hl 3 rfl) ?_
  refine lv_iload hx hb dL_where_7 (lv_at hl 4 rfl) ?_
  have hPc := hP.sub (ws' := wC k aC aE aP aQ aM cX cY cN cM ++ wE k aE fX fY lX lY oP nE ++ wP k aP pX pY pD pO nP ++ wQ k aQ qF nQ ++ wM k aM mR mQ mN) [0, 1, 2, 3, 4, 5, 6, 7, 8, 9, 10, 11, 12, 13, 14, 15, 16, 17, 18, 19, 20, 21, 22, 23, 24, 25, 26, 27, 28, 29, 30] rfl
  have hDc := hD.sub (ws' := wC k aC aE aP aQ aM cX cY cN cM ++ wE k aE fX fY lX lY oP nE ++ wP k aP pX pY pD pO nP ++ wQ k aQ qF nQ ++ wM k aM mR mQ mN) [0, 1, 2, 3, 4, 5, 6, 7, 8, 9, 10, 11, 12, 13, 14, 15, 16, 17, 18, 19, 20, 21, 22, 23, 24, 25, 26, 27, 28, 29, 30] (by decide) rfl
  have hFc := va_free (wc := wC k aC aE aP aQ aM cX cY cN cM ++ wE k aE fX fY lX lY oP nE ++ wP k aP pX pY pD pO nP ++ wQ k aQ qF nQ ++ wM k aM mR mQ mN) hD hS hA [0, 1, 2, 3, 4, 5, 6, 7, 8, 9, 10, 11, 12, 13, 14, 15, 16, 17, 18, 19, 20, 21, 22, 23, 24, 25, 26, 27, 28, 29, 30] rfl
  refine vx_calli (vx_runV (C := RX4) (b := (aC 0)) (As := [.int p1, .int p2, .int p3, .int p4]) (rest := [.int (0 : Int32), .ref (aO 0)]) ⟨hx, hb, hml, hown, hts⟩ (m_X4_where l D k aC aE aP aQ aM cX cY cN cM fX fY lX lY oP nE pX pY pD pO nP qF nQ mR mQ mN p1 p2 p3 p4 _ _ _ hlt h) (cwV 4 hts gL_where_X4_where rfl rfl rfl (by decide +kernel) ⟨Nat.le_of_ble_eq_true rfl, Nat.le_of_ble_eq_true rfl⟩) (preV_th (ci := 4) (q0 := 0) (C := RX4) (T := TX4) (N := 8) hE hT hS hFc hPc hDc rfl rfl) rfl rfl hl.1 rfl (lv_room (Nat.le_of_ble_eq_true rfl)) dL_where_9 ⟨Nat.le_of_ble_eq_true rfl, Nat.le_of_ble_eq_true rfl⟩) hS (fun q _ h => hFc q h) hFc (fun q _ h => hFc q h) (fun E9 ce q9 u t H1 locs ht hvm hpx hB hz1 hk1 hS hce hcv hcl => ?_) (fun r9 u t H1 locs ht hvm h hB hz1 hk1 hS => ?_)
  · obtain ⟨h, hP1, hD1⟩ := hB
    rw [ht] at hP1
    obtain ⟨hP, hD⟩ := va_join (wr := wO k aO oL oD) (w1 := wC k aC aE aP aQ aM cX cY cN cM ++ wE k aE fX fY lX lY oP nE ++ wP k aP pX pY pD pO nP ++ wQ k aQ qF nQ ++ wM k aM mR mQ mN) hP hD [0, 1, 2, 3, 4, 5, 6, 7, 8, 9, 10, 11, 12, 13, 14, 15, 16, 17, 18, 19, 20, 21, 22, 23, 24, 25, 26, 27, 28, 29, 30] [31, 32] rfl rfl (by decide) (by decide) hk1 hFc hP1 hD1
    generalize H1 = H at hP hS hce ⊢
    have hP : va_P D vwCl (wC k aC aE aP aQ aM cX cY cN cM ++ wE k aE fX fY lX lY oP nE ++ wP k aP pX pY pD pO nP ++ wQ k aQ qF nQ ++ wM k aM mR mQ mN ++ wO k aO oL oD) H := hP.sub [2, 3, 4, 5, 6, 7, 8, 9, 10, 11, 12, 13, 14, 15, 16, 17, 18, 19, 20, 21, 22, 23, 24, 25, 26, 27, 28, 29, 30, 31, 32, 0, 1] rfl
    have hD : va_D A (wC k aC aE aP aQ aM cX cY cN cM ++ wE k aE fX fY lX lY oP nE ++ wP k aP pX pY pD pO nP ++ wQ k aQ qF nQ ++ wM k aM mR mQ mN ++ wO k aO oL oD) := hD.sub [2, 3, 4, 5, 6, 7, 8, 9, 10, 11, 12, 13, 14, 15, 16, 17, 18, 19, 20, 21, 22, 23, 24, 25, 26, 27, 28, 29, 30, 31, 32, 0, 1] (by decide) rfl
    rcases h with ⟨rfl, h⟩ | ⟨rfl, h⟩
    · refine vx_catch (own := RL) (name := xIS) (E := xIS) hown [] ⟨0, 14, 17, 15⟩ [⟨0, 14, 21, 13⟩] (by rw [htab]; rfl) (fun z hz => absurd hz List.not_mem_nil) (by decide) (by decide) cl15 (va_Nw.use rfl (hT.2.2.2.1 xIS (by decide))) hce hcv hcl ?_
      refine lv_astore (lv' := [(6, .ref q9), (0, .ref (aC 0)), (1, .int p1), (2, .int p2), (3, .int p3), (4, .int p4), (5, .ref (aO 0))]) hx hb dL_where_17 hl (by decide) rfl (fun ls hl => ?_)
      refine lv_iconst (v := (1 : Int32)) hx hb dL_where_19 (by decide) ?_
      rw [hGQ]
      exact W.iret (v := (1 : Int32)) hx hb hr (fun t ht hW => ⟨⟨_, (oL), rfl, h, by rw [ht]; exact hP, hD⟩, hS.F ht⟩) hS.2.2 dL_where_20
    · refine vx_catch (own := RL) (name := xIA) (E := xIA) hown [⟨0, 14, 17, 15⟩] ⟨0, 14, 21, 13⟩ [] (by rw [htab]; rfl) (List.forall_mem_cons.mpr ⟨Or.inr ⟨by decide, xIS, cl15, hT.2.2.2.2.2 (xIA, xIS) (by decide)⟩, (fun z hz => absurd hz List.not_mem_nil)⟩) (by decide) (by decide) cl13 (va_Nw.use rfl (hT.2.2.2.1 xIA (by decide))) hce hcv hcl ?_
      refine lv_astore (lv' := [(6, .ref q9), (0, .ref (aC 0)), (1, .int p1), (2, .int p2), (3, .int p3), (4, .int p4), (5, .ref (aO 0))]) hx hb dL_where_21 hl (by decide) rfl (fun ls hl => ?_)
      refine lv_iconst (v := (2 : Int32)) hx hb dL_where_23 (by decide) ?_
      rw [hGQ]
      exact W.iret (v := (2 : Int32)) hx hb hr (fun t ht hW => ⟨⟨_, (oL), rfl, h, by rw [ht]; exact hP, hD⟩, hS.F ht⟩) hS.2.2 dL_where_24
  obtain ⟨hP1, hD1⟩ := hB
  rw [ht] at hP1
  obtain ⟨hP, hD⟩ := va_join (wr := wO k aO oL oD) (w1 := wC k aC aE aP aQ aM cX cY cN cM ++ wE k aE fX fY lX lY oP nE ++ wP k aP pX pY pD pO nP ++ wQ k aQ qF nQ ++ wM k aM mR mQ mN) hP hD [0, 1, 2, 3, 4, 5, 6, 7, 8, 9, 10, 11, 12, 13, 14, 15, 16, 17, 18, 19, 20, 21, 22, 23, 24, 25, 26, 27, 28, 29, 30] [31, 32] rfl rfl (by decide) (by decide) hk1 hFc hP1 hD1
  generalize H1 = H at hP hS ⊢
  have hP : va_P D vwCl (wC k aC aE aP aQ aM cX cY cN cM ++ wE k aE fX fY lX lY oP nE ++ wP k aP pX pY pD pO nP ++ wQ k aQ qF nQ ++ wM k aM mR mQ mN ++ wO k aO oL oD) H := hP.sub [2, 3, 4, 5, 6, 7, 8, 9, 10, 11, 12, 13, 14, 15, 16, 17, 18, 19, 20, 21, 22, 23, 24, 25, 26, 27, 28, 29, 30, 31, 32, 0, 1] rfl
  have hD : va_D A (wC k aC aE aP aQ aM cX cY cN cM ++ wE k aE fX fY lX lY oP nE ++ wP k aP pX pY pD pO nP ++ wQ k aQ qF nQ ++ wM k aM mR mQ mN ++ wO k aO oL oD) := hD.sub [2, 3, 4, 5, 6, 7, 8, 9, 10, 11, 12, 13, 14, 15, 16, 17, 18, 19, 20, 21, 22, 23, 24, 25, 26, 27, 28, 29, 30, 31, 32, 0, 1] (by decide) rfl
  refine lv_i2l hx hb dL_where_12 rfl ?_
  obtain ⟨hin, h⟩ := h
  obtain ⟨y13, ey13⟩ : ∃ z : Nat → Int64, z = vp_updL oL (0 : Int32).toNatClampNeg (r9.toInt64) := ⟨_, rfl⟩
  have h := h y13 ey13
  refine va_last hx hb hK hP hD hS 31 2 rfl rfl hin dL_where_13 (fun H locs hP hD hS => ?_)
  rw [← ey13] at hP hD
  have hP : va_P D vwCl (wC k aC aE aP aQ aM cX cY cN cM ++ wE k aE fX fY lX lY oP nE ++ wP k aP pX pY pD pO nP ++ wQ k aQ qF nQ ++ wM k aM mR mQ mN ++ wO k aO y13 oD) H := hP
  have hD : va_D A (wC k aC aE aP aQ aM cX cY cN cM ++ wE k aE fX fY lX lY oP nE ++ wP k aP pX pY pD pO nP ++ wQ k aQ qF nQ ++ wM k aM mR mQ mN ++ wO k aO y13 oD) := hD
  refine lv_goto (tgt := 25) hx hb dL_where_14 (by decide) ?_
  refine lv_iconst (v := (0 : Int32)) hx hb dL_where_25 (by decide) ?_
  rw [hGQ]
  exact W.iret (v := (0 : Int32)) hx hb hr (fun t ht hW => ⟨⟨_, (y13), rfl, h, by rw [ht]; exact hP, hD⟩, hS.F ht⟩) hS.2.2 dL_where_26
set_option maxHeartbeats 4000000 in
set_option maxRecDepth 100000 in
theorem m_L_area (l : Launch) (D : va_G) (k : Nat → ClassId) (aC : Nat → Nat) (aE : Nat → Nat) (aP : Nat → Nat) (aQ : Nat → Nat) (aM : Nat → Nat) (aO : Nat → Nat) (cX : Nat → Nat → Int32) (cY : Nat → Nat → Int32) (cN : Nat → Int32) (cM : Int32) (fX : Nat → Int32) (fY : Nat → Int32) (lX : Nat → Int32) (lY : Nat → Int32) (oP : Nat → Int32) (nE : Int32) (pX : Nat → Int32) (pY : Nat → Int32) (pD : Nat → Int32) (pO : Nat → Int32) (nP : Int32) (qF : Nat → Nat → Int32) (nQ : Int32) (mR : Nat → Int32) (mQ : Int32) (mN : Int32) (oL : Nat → Int64) (oD : Nat → UInt64) (p1 : Int32) (Q : Int32 → (Nat → UInt64) → Prop) (sz : Nat) (hlt : l.stackTraces = false) (h : wp_L_area p1 cM pX pY pD qF nQ oD Q) : Met l yL_area wsL_area ({ frames := 8, cells := 2, slots := 12, locals := 136 }) (Pth D k [.ref (aC 0), .int p1, .ref (aO 1)] (wC k aC aE aP aQ aM cX cY cN cM ++ wE k aE fX fY lX lY oP nE ++ wP k aP pX pY pD pO nP ++ wQ k aQ qF nQ ++ wM k aM mR mQ mN ++ wO k aO oL oD) sz) (va_Qi (fun (r : Int32) (u : (Nat → UInt64)) => Q r u) (fun (u : (Nat → UInt64)) t => va_P D vwCl (wC k aC aE aP aQ aM cX cY cN cM ++ wE k aE fX fY lX lY oP nE ++ wP k aP pX pY pD pO nP ++ wQ k aQ qF nQ ++ wM k aM mR mQ mN ++ wO k aO oL u) t.heap ∧ va_D (va_A (wC k aC aE aP aQ aM cX cY cN cM ++ wE k aE fX fY lX lY oP nE ++ wP k aP pX pY pD pO nP ++ wQ k aQ qF nQ ++ wM k aM mR mQ mN ++ wO k aO oL oD) sz) (wC k aC aE aP aQ aM cX cY cN cM ++ wE k aE fX fY lX lY oP nE ++ wP k aP pX pY pD pO nP ++ wQ k aQ qF nQ ++ wM k aM mR mQ mN ++ wO k aO oL u)) (va_A (wC k aC aE aP aQ aM cX cY cN cM ++ wE k aE fX fY lX lY oP nE ++ wP k aP pX pY pD pO nP ++ wQ k aQ qF nQ ++ wM k aM mR mQ mN ++ wO k aO oL oD) sz)) 2 12 (va_A (wC k aC aE aP aQ aM cX cY cN cM ++ wE k aE fX fY lX lY oP nE ++ wP k aP pX pY pD pO nP ++ wQ k aQ qF nQ ++ wM k aM mR mQ mN ++ wO k aO oL oD) sz) := by
  refine va_MetW (cc := cL_area) (maxL := 4) (ret := (some .int)) (hh := [(0, 8, 11, 15), (0, 8, 14, 13)]) (by decide) rfl ?_
  intro p e s m args below meth c s₁ B hml hv
  obtain ⟨hav, hsz, hP, hE, hD0, hT⟩ := hv
  subst hsz
  have hx := B.exec
  have hb := B.bytes
  have hr := B.returns
  have hts := atoms_spec (ws := wsL_area) B.pre
  have hown : s.vm.findClass RL = some m.cls := findClass_of_methodNamed B.named
  have hlocks := B.notSynchronized
  have hK := hE.1
  have hD := hD0.self (sz := s.heap.size)
  generalize hAe : va_A (wC k aC aE aP aQ aM cX cY cN cM ++ wE k aE fX fY lX lY oP nE ++ wP k aP pX pY pD pO nP ++ wQ k aQ qF nQ ++ wM k aM mR mQ mN ++ wO k aO oL oD) s.heap.size = A at hD hT ⊢
  have hA : ∀ q : Nat, s.heap.size ≤ q → A q := fun q h => by rw [← hAe]; exact Or.inr h
  have hS : va_S A s.heap s.heap [] := va_S.rf
  have hl := lv_entry ([.ref (aC 0), .int p1, .ref (aO 1)]) (n := 4) (Nat.le_of_ble_eq_true rfl)
  rw [show entryFrame m args 4 = entryFrame m ([.ref (aC 0), .int p1, .ref (aO 1)] : List Value).toArray 4 by rw [hav]]
  rw [lg_entry_eq]
  refine W.gq (fun GQ hGQ => ?_)
  generalize (lg_sl ([.ref (aC 0), .int p1, .ref (aO 1)]) ++ List.replicate (4 - (lg_sl ([.ref (aC 0), .int p1, .ref (aO 1)])).length) Slot.unset).toArray = ls at hl ⊢
  have hl : lv_has ls 4 [(0, .ref (aC 0)), (1, .int p1), (2, .ref (aO 1))] := hl
  have htab := vx_table (x := yL_law) B (hts (.codeWith yL_area cL_area 4 (some .int) [(0, 8, 11, 15), (0, 8, 14, 13)]) List.mem_cons_self)
  have cl15 := hts (.classLink RL 15 "java/lang/IllegalStateException") (by decide +kernel)
  have cl13 := hts (.classLink RL 13 "java/lang/IllegalArgumentException") (by decide +kernel)
  unfold wp_L_area at h
  refine lv_aload_n hx hb dL_area_0 rfl (lv_at hl 2 rfl) ?_
  refine lv_iconst (v := (0 : Int32)) hx hb dL_area_1 (by decide) ?_
  refine lv_aload_n hx hb dL_area_2 rfl (lv_at hl 0 rfl) ?_
  refine lv_iload_n hx hb dL_area_3 rfl (lv_at hl 1 rfl) ?_
  have hPc := hP.sub (ws' := wC k aC aE aP aQ aM cX cY cN cM ++ wE k aE fX fY lX lY oP nE ++ wP k aP pX pY pD pO nP ++ wQ k aQ qF nQ ++ wM k aM mR mQ mN) [0, 1, 2, 3, 4, 5, 6, 7, 8, 9, 10, 11, 12, 13, 14, 15, 16, 17, 18, 19, 20, 21, 22, 23, 24, 25, 26, 27, 28, 29, 30] rfl
  have hDc := hD.sub (ws' := wC k aC aE aP aQ aM cX cY cN cM ++ wE k aE fX fY lX lY oP nE ++ wP k aP pX pY pD pO nP ++ wQ k aQ qF nQ ++ wM k aM mR mQ mN) [0, 1, 2, 3, 4, 5, 6, 7, 8, 9, 10, 11, 12, 13, 14, 15, 16, 17, 18, 19, 20, 21, 22, 23, 24, 25, 26, 27, 28, 29, 30] (by decide) rfl
  have hFc := va_free (wc := wC k aC aE aP aQ aM cX cY cN cM ++ wE k aE fX fY lX lY oP nE ++ wP k aP pX pY pD pO nP ++ wQ k aQ qF nQ ++ wM k aM mR mQ mN) hD hS hA [0, 1, 2, 3, 4, 5, 6, 7, 8, 9, 10, 11, 12, 13, 14, 15, 16, 17, 18, 19, 20, 21, 22, 23, 24, 25, 26, 27, 28, 29, 30] rfl
  refine vx_calld (vx_runV (C := RX4) (b := (aC 0)) (As := [.int p1]) (rest := [.int (0 : Int32), .ref (aO 1)]) ⟨hx, hb, hml, hown, hts⟩ (m_X4_area l D k aC aE aP aQ aM cX cY cN cM fX fY lX lY oP nE pX pY pD pO nP qF nQ mR mQ mN p1 _ _ _ hlt h) (cwV 1 hts gL_area_X4_area rfl rfl rfl (by decide +kernel) ⟨Nat.le_of_ble_eq_true rfl, Nat.le_of_ble_eq_true rfl⟩) (preV_th (ci := 4) (q0 := 0) (C := RX4) (T := TX4) (N := 8) hE hT hS hFc hPc hDc rfl rfl) rfl rfl hl.1 rfl (lv_room (Nat.le_of_ble_eq_true rfl)) dL_area_4 ⟨Nat.le_of_ble_eq_true rfl, Nat.le_of_ble_eq_true rfl⟩) hS (fun q _ h => hFc q h) hFc (fun q _ h => hFc q h) (fun E9 ce q9 u t H1 locs ht hvm hpx hB hz1 hk1 hS hce hcv hcl => ?_) (fun r4 u t H1 locs ht hvm h hB hz1 hk1 hS => ?_)
  · obtain ⟨h, hP1, hD1⟩ := hB
    rw [ht] at hP1
    obtain ⟨hP, hD⟩ := va_join (wr := wO k aO oL oD) (w1 := wC k aC aE aP aQ aM cX cY cN cM ++ wE k aE fX fY lX lY oP nE ++ wP k aP pX pY pD pO nP ++ wQ k aQ qF nQ ++ wM k aM mR mQ mN) hP hD [0, 1, 2, 3, 4, 5, 6, 7, 8, 9, 10, 11, 12, 13, 14, 15, 16, 17, 18, 19, 20, 21, 22, 23, 24, 25, 26, 27, 28, 29, 30] [31, 32] rfl rfl (by decide) (by decide) hk1 hFc hP1 hD1
    generalize H1 = H at hP hS hce ⊢
    have hP : va_P D vwCl (wC k aC aE aP aQ aM cX cY cN cM ++ wE k aE fX fY lX lY oP nE ++ wP k aP pX pY pD pO nP ++ wQ k aQ qF nQ ++ wM k aM mR mQ mN ++ wO k aO oL oD) H := hP.sub [2, 3, 4, 5, 6, 7, 8, 9, 10, 11, 12, 13, 14, 15, 16, 17, 18, 19, 20, 21, 22, 23, 24, 25, 26, 27, 28, 29, 30, 31, 32, 0, 1] rfl
    have hD : va_D A (wC k aC aE aP aQ aM cX cY cN cM ++ wE k aE fX fY lX lY oP nE ++ wP k aP pX pY pD pO nP ++ wQ k aQ qF nQ ++ wM k aM mR mQ mN ++ wO k aO oL oD) := hD.sub [2, 3, 4, 5, 6, 7, 8, 9, 10, 11, 12, 13, 14, 15, 16, 17, 18, 19, 20, 21, 22, 23, 24, 25, 26, 27, 28, 29, 30, 31, 32, 0, 1] (by decide) rfl
    rcases h with ⟨rfl, h⟩ | ⟨rfl, h⟩
    · refine vx_catch (own := RL) (name := xIS) (E := xIS) hown [] ⟨0, 8, 11, 15⟩ [⟨0, 8, 14, 13⟩] (by rw [htab]; rfl) (fun z hz => absurd hz List.not_mem_nil) (by decide) (by decide) cl15 (va_Nw.use rfl (hT.2.2.2.1 xIS (by decide))) hce hcv hcl ?_
      refine lv_astore_n (lv' := [(3, .ref q9), (0, .ref (aC 0)), (1, .int p1), (2, .ref (aO 1))]) hx hb dL_area_11 rfl hl (by decide) rfl (fun ls hl => ?_)
      refine lv_iconst (v := (1 : Int32)) hx hb dL_area_12 (by decide) ?_
      rw [hGQ]
      exact W.iret (v := (1 : Int32)) hx hb hr (fun t ht hW => ⟨⟨_, (oD), rfl, h, by rw [ht]; exact hP, hD⟩, hS.F ht⟩) hS.2.2 dL_area_13
    · refine vx_catch (own := RL) (name := xIA) (E := xIA) hown [⟨0, 8, 11, 15⟩] ⟨0, 8, 14, 13⟩ [] (by rw [htab]; rfl) (List.forall_mem_cons.mpr ⟨Or.inr ⟨by decide, xIS, cl15, hT.2.2.2.2.2 (xIA, xIS) (by decide)⟩, (fun z hz => absurd hz List.not_mem_nil)⟩) (by decide) (by decide) cl13 (va_Nw.use rfl (hT.2.2.2.1 xIA (by decide))) hce hcv hcl ?_
      refine lv_astore_n (lv' := [(3, .ref q9), (0, .ref (aC 0)), (1, .int p1), (2, .ref (aO 1))]) hx hb dL_area_14 rfl hl (by decide) rfl (fun ls hl => ?_)
      refine lv_iconst (v := (2 : Int32)) hx hb dL_area_15 (by decide) ?_
      rw [hGQ]
      exact W.iret (v := (2 : Int32)) hx hb hr (fun t ht hW => ⟨⟨_, (oD), rfl, h, by rw [ht]; exact hP, hD⟩, hS.F ht⟩) hS.2.2 dL_area_16
  obtain ⟨hP1, hD1⟩ := hB
  rw [ht] at hP1
  obtain ⟨hP, hD⟩ := va_join (wr := wO k aO oL oD) (w1 := wC k aC aE aP aQ aM cX cY cN cM ++ wE k aE fX fY lX lY oP nE ++ wP k aP pX pY pD pO nP ++ wQ k aQ qF nQ ++ wM k aM mR mQ mN) hP hD [0, 1, 2, 3, 4, 5, 6, 7, 8, 9, 10, 11, 12, 13, 14, 15, 16, 17, 18, 19, 20, 21, 22, 23, 24, 25, 26, 27, 28, 29, 30] [31, 32] rfl rfl (by decide) (by decide) hk1 hFc hP1 hD1
  generalize H1 = H at hP hS ⊢
  have hP : va_P D vwCl (wC k aC aE aP aQ aM cX cY cN cM ++ wE k aE fX fY lX lY oP nE ++ wP k aP pX pY pD pO nP ++ wQ k aQ qF nQ ++ wM k aM mR mQ mN ++ wO k aO oL oD) H := hP.sub [2, 3, 4, 5, 6, 7, 8, 9, 10, 11, 12, 13, 14, 15, 16, 17, 18, 19, 20, 21, 22, 23, 24, 25, 26, 27, 28, 29, 30, 31, 32, 0, 1] rfl
  have hD : va_D A (wC k aC aE aP aQ aM cX cY cN cM ++ wE k aE fX fY lX lY oP nE ++ wP k aP pX pY pD pO nP ++ wQ k aQ qF nQ ++ wM k aM mR mQ mN ++ wO k aO oL oD) := hD.sub [2, 3, 4, 5, 6, 7, 8, 9, 10, 11, 12, 13, 14, 15, 16, 17, 18, 19, 20, 21, 22, 23, 24, 25, 26, 27, 28, 29, 30, 31, 32, 0, 1] (by decide) rfl
  obtain ⟨hin, h⟩ := h
  obtain ⟨y7, ey7⟩ : ∃ z : Nat → UInt64, z = vf_upd oD (0 : Int32).toNatClampNeg r4 := ⟨_, rfl⟩
  have h := h y7 ey7
  refine va_dast hx hb hK hP hD hS 32 3 rfl rfl hin dL_area_7 (fun H locs hP hD hS => ?_)
  rw [← ey7] at hP hD
  have hP : va_P D vwCl (wC k aC aE aP aQ aM cX cY cN cM ++ wE k aE fX fY lX lY oP nE ++ wP k aP pX pY pD pO nP ++ wQ k aQ qF nQ ++ wM k aM mR mQ mN ++ wO k aO oL y7) H := hP
  have hD : va_D A (wC k aC aE aP aQ aM cX cY cN cM ++ wE k aE fX fY lX lY oP nE ++ wP k aP pX pY pD pO nP ++ wQ k aQ qF nQ ++ wM k aM mR mQ mN ++ wO k aO oL y7) := hD
  refine lv_goto (tgt := 17) hx hb dL_area_8 (by decide) ?_
  refine lv_iconst (v := (0 : Int32)) hx hb dL_area_17 (by decide) ?_
  rw [hGQ]
  exact W.iret (v := (0 : Int32)) hx hb hr (fun t ht hW => ⟨⟨_, (y7), rfl, h, by rw [ht]; exact hP, hD⟩, hS.F ht⟩) hS.2.2 dL_area_18
