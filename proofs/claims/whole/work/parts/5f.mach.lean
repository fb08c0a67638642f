set_option maxHeartbeats 4000000 in
set_option maxRecDepth 100000 in
theorem m_X5_pairs (l : Launch) (D : va_G) (k : Nat → ClassId) (aR : Nat → Nat) (rF : Int32) (rS : Nat → Int32) (rVx : Nat → Int32) (rVy : Nat → Int32) (rMd : Int32) (rE : Int32) (rAx : Nat → Int32) (rAy : Nat → Int32) (rBx : Nat → Int32) (rBy : Nat → Int32) (rO : Nat → Int32) (rP : Int32) (rPx : Nat → Int32) (rPy : Nat → Int32) (rPd : Nat → Int32) (rQ : Int32) (rFi : Nat → Int32) (rLa : Nat → Int32) (rOn : Nat → Int32) (rLe : Nat → Int32) (rRi : Nat → Int32) (rHx : Int64) (rHy : Int64) (rHd : Int64) (rKx : Int64) (rKy : Int64) (rKd : Int64)  (Q : Int32 → (Int64) → (Int64) → (Int64) → (Int64) → (Int64) → (Int64) → Prop) (sz : Nat) (h : wp_X5_pairs rE rAx rAy rBx rBy rHx rHy rHd rKx rKy rKd Q) : Met l yX5_pairs wsX5_pairs ({ frames := 3, cells := 0, slots := 0, locals := 98 }) (Prw D k [.ref (aR 0)] (wR k aR rF rS rVx rVy rMd rE rAx rAy rBx rBy rO rP rPx rPy rPd rQ rFi rLa rOn rLe rRi rHx rHy rHd rKx rKy rKd) sz) (va_Qi (fun (r : Int32) (u : (Int64) × (Int64) × (Int64) × (Int64) × (Int64) × (Int64)) => Q r u.1 u.2.1 u.2.2.1 u.2.2.2.1 u.2.2.2.2.1 u.2.2.2.2.2) (fun (u : (Int64) × (Int64) × (Int64) × (Int64) × (Int64) × (Int64)) t => va_P D vwCl (wR k aR rF rS rVx rVy rMd rE rAx rAy rBx rBy rO rP rPx rPy rPd rQ rFi rLa rOn rLe rRi (u.1) (u.2.1) (u.2.2.1) (u.2.2.2.1) (u.2.2.2.2.1) (u.2.2.2.2.2)) t.heap ∧ va_D (va_A (wR k aR rF rS rVx rVy rMd rE rAx rAy rBx rBy rO rP rPx rPy rPd rQ rFi rLa rOn rLe rRi rHx rHy rHd rKx rKy rKd) sz) (wR k aR rF rS rVx rVy rMd rE rAx rAy rBx rBy rO rP rPx rPy rPd rQ rFi rLa rOn rLe rRi (u.1) (u.2.1) (u.2.2.1) (u.2.2.2.1) (u.2.2.2.2.1) (u.2.2.2.2.2))) (va_A (wR k aR rF rS rVx rVy rMd rE rAx rAy rBx rBy rO rP rPx rPy rPd rQ rFi rLa rOn rLe rRi rHx rHy rHd rKx rKy rKd) sz)) 0 0 (va_A (wR k aR rF rS rVx rVy rMd rE rAx rAy rBx rBy rO rP rPx rPy rPd rQ rFi rLa rOn rLe rRi rHx rHy rHd rKx rKy rKd) sz) := by
  refine Met.ofW (cc := cX5_pairs) (maxL := 4) (ret := (some .int)) (by decide) rfl ?_
  intro p e s m args below meth c s₁ B hml hv
  obtain ⟨hav, hsz, hP, hE, hD0⟩ := hv
  subst hsz
  have hx := B.exec
  have hb := B.bytes
  have hr := B.returns
  have hts := atoms_spec (ws := wsX5_pairs) B.pre
  have hown : s.vm.findClass RX5 = some m.cls := findClass_of_methodNamed B.named
  have hlocks := B.notSynchronized
  have hK := hE.1
  have hD := hD0.self (sz := s.heap.size)
  generalize hAe : va_A (wR k aR rF rS rVx rVy rMd rE rAx rAy rBx rBy rO rP rPx rPy rPd rQ rFi rLa rOn rLe rRi rHx rHy rHd rKx rKy rKd) s.heap.size = A at hD ⊢
  have hA : ∀ q : Nat, s.heap.size ≤ q → A q := fun q h => by rw [← hAe]; exact Or.inr h
  have hS : va_S A s.heap s.heap [] := va_S.rf
  have hl := lv_entry ([.ref (aR 0)]) (n := 4) (Nat.le_of_ble_eq_true rfl)
  rw [show entryFrame m args 4 = entryFrame m ([.ref (aR 0)] : List Value).toArray 4 by rw [hav]]
  rw [lg_entry_eq]
  refine W.gq (fun GQ hGQ => ?_)
  generalize (lg_sl ([.ref (aR 0)]) ++ List.replicate (4 - (lg_sl ([.ref (aR 0)])).length) Slot.unset).toArray = ls at hl ⊢
  have hl : lv_has ls 4 [(0, .ref (aR 0))] := hl
  have hiX5 := (by decide +kernel : ∀ w ∈ wsX50, w ∈ wsX5_pairs)
  have f92 := hts (.fieldLink RX5 92 "PlaneOverlayModel" "edges" "I") (by decide +kernel)
  have L4 : ∀ (n4 : Nat) (v1 : Int32) (v2 : Int32) (rHx : Int64) (rHy : Int64) (rHd : Int64) (rKx : Int64) (rKy : Int64) (rKd : Int64) (H : Heap) (locs : List Loc) (ls : Array Slot), wp_X5_pairs_L4 rE rAx rAy rBx rBy Q  n4 v1 v2 rHx rHy rHd rKx rKy rKd → va_P D vwCl (wR k aR rF rS rVx rVy rMd rE rAx rAy rBx rBy rO rP rPx rPy rPd rQ rFi rLa rOn rLe rRi rHx rHy rHd rKx rKy rKd) H → va_D A (wR k aR rF rS rVx rVy rMd rE rAx rAy rBx rBy rO rP rPx rPy rPd rQ rFi rLa rOn rLe rRi rHx rHy rHd rKx rKy rKd) → va_S A s.heap H locs → lv_has ls 4 [(0, .ref (aR 0)), (1, .int v1), (2, .int v2)] → W p l e (headSpec wsX5_pairs ({ frames := 3, cells := 0, slots := 0, locals := 98 })).room s m args below meth c H locs 0 0 GQ (F0 m 4 ls []) := by
    intro n4
    induction n4 with
    | zero => intro v1 v2 rHx rHy rHd rKx rKy rKd H locs ls h hP hD hS hl; exact False.elim h
    | succ n4 ih4 =>
      have L42 : ∀ (v1 : Int32) (v2 : Int32) (rHx : Int64) (rHy : Int64) (rHd : Int64) (rKx : Int64) (rKy : Int64) (rKd : Int64) (H : Heap) (locs : List Loc) (ls : Array Slot), wp_X5_pairs_L42 rE rAx rAy rBx rBy Q (wp_X5_pairs_L4 rE rAx rAy rBx rBy Q  n4) v1 v2 rHx rHy rHd rKx rKy rKd → va_P D vwCl (wR k aR rF rS rVx rVy rMd rE rAx rAy rBx rBy rO rP rPx rPy rPd rQ rFi rLa rOn rLe rRi rHx rHy rHd rKx rKy rKd) H → va_D A (wR k aR rF rS rVx rVy rMd rE rAx rAy rBx rBy rO rP rPx rPy rPd rQ rFi rLa rOn rLe rRi rHx rHy rHd rKx rKy rKd) → va_S A s.heap H locs → lv_has ls 4 [(0, .ref (aR 0)), (1, .int v1), (2, .int v2)] → W p l e (headSpec wsX5_pairs ({ frames := 3, cells := 0, slots := 0, locals := 98 })).room s m args below meth c H locs 0 0 GQ (F0 m 42 ls []) := by
        intro v1 v2 rHx rHy rHd rKx rKy rKd H locs ls h hP hD hS hl
        unfold wp_X5_pairs_L42 at h
        refine lv_iinc (v := (v2 + 1)) (lv' := [(2, .int (v2 + 1)), (0, .ref (aR 0)), (1, .int v1)]) hx hb dX5_pairs_42 hl (k := 2) rfl rfl (by decide) rfl (fun ls hl => ?_)
        refine lv_goto (tgt := 4) hx hb dX5_pairs_45 (by decide) ?_
        exact ih4 v1 (v2 + 1) rHx rHy rHd rKx rKy rKd _ _ _ h hP hD hS (lv_sub hl [1, 2, 0] rfl)
      have L14 : ∀ (n14 : Nat) (v1 : Int32) (v2 : Int32) (v3 : Int32) (rHx : Int64) (rHy : Int64) (rHd : Int64) (rKx : Int64) (rKy : Int64) (rKd : Int64) (H : Heap) (locs : List Loc) (ls : Array Slot), wp_X5_pairs_L14 rE rAx rAy rBx rBy Q (fun v1 v2 rHx rHy rHd rKx rKy rKd => (wp_X5_pairs_L42 rE rAx rAy rBx rBy Q (wp_X5_pairs_L4 rE rAx rAy rBx rBy Q  n4) v1 v2 rHx rHy rHd rKx rKy rKd)) n14 v1 v2 v3 rHx rHy rHd rKx rKy rKd → va_P D vwCl (wR k aR rF rS rVx rVy rMd rE rAx rAy rBx rBy rO rP rPx rPy rPd rQ rFi rLa rOn rLe rRi rHx rHy rHd rKx rKy rKd) H → va_D A (wR k aR rF rS rVx rVy rMd rE rAx rAy rBx rBy rO rP rPx rPy rPd rQ rFi rLa rOn rLe rRi rHx rHy rHd rKx rKy rKd) → va_S A s.heap H locs → lv_has ls 4 [(0, .ref (aR 0)), (1, .int v1), (2, .int v2), (3, .int v3)] → W p l e (headSpec wsX5_pairs ({ frames := 3, cells := 0, slots := 0, locals := 98 })).room s m args below meth c H locs 0 0 GQ (F0 m 14 ls []) := by
        intro n14
        induction n14 with
        | zero => intro v1 v2 v3 rHx rHy rHd rKx rKy rKd H locs ls h hP hD hS hl; exact False.elim h
        | succ n14 ih14 =>
          have L34 : ∀ (v2 : Int32) (v3 : Int32) (z0 : Int32) (z1 : Int32) (rHx : Int64) (rHy : Int64) (rHd : Int64) (rKx : Int64) (rKy : Int64) (rKd : Int64) (H : Heap) (locs : List Loc) (ls : Array Slot), wp_X5_pairs_L34 rE rAx rAy rBx rBy Q (wp_X5_pairs_L14 rE rAx rAy rBx rBy Q (fun v1 v2 rHx rHy rHd rKx rKy rKd => (wp_X5_pairs_L42 rE rAx rAy rBx rBy Q (wp_X5_pairs_L4 rE rAx rAy rBx rBy Q  n4) v1 v2 rHx rHy rHd rKx rKy rKd)) n14) v2 v3 z0 z1 rHx rHy rHd rKx rKy rKd → va_P D vwCl (wR k aR rF rS rVx rVy rMd rE rAx rAy rBx rBy rO rP rPx rPy rPd rQ rFi rLa rOn rLe rRi rHx rHy rHd rKx rKy rKd) H → va_D A (wR k aR rF rS rVx rVy rMd rE rAx rAy rBx rBy rO rP rPx rPy rPd rQ rFi rLa rOn rLe rRi rHx rHy rHd rKx rKy rKd) → va_S A s.heap H locs → lv_has ls 4 [(0, .ref (aR 0)), (2, .int v2), (3, .int v3)] → W p l e (headSpec wsX5_pairs ({ frames := 3, cells := 0, slots := 0, locals := 98 })).room s m args below meth c H locs 0 0 GQ (F0 m 34 ls [.int z0, .int z1]) := by
            intro v2 v3 z0 z1 rHx rHy rHd rKx rKy rKd H locs ls h hP hD hS hl
            unfold wp_X5_pairs_L34 at h
            refine lv_iadd hx hb dX5_pairs_34 ?_
            refine lv_topi (fun x35 ex35 => ?_)
            have h := h x35 ex35
            refine lv_istore_n (lv' := [(1, .int x35), (0, .ref (aR 0)), (2, .int v2), (3, .int v3)]) hx hb dX5_pairs_35 rfl hl (by decide) rfl (fun ls hl => ?_)
            refine lv_iinc (v := (v3 + 1)) (lv' := [(3, .int (v3 + 1)), (1, .int x35), (0, .ref (aR 0)), (2, .int v2)]) hx hb dX5_pairs_36 hl (k := 3) rfl rfl (by decide) rfl (fun ls hl => ?_)
            refine lv_goto (tgt := 14) hx hb dX5_pairs_39 (by decide) ?_
            exact ih14 x35 v2 (v3 + 1) rHx rHy rHd rKx rKy rKd _ _ _ h hP hD hS (lv_sub hl [2, 1, 3, 0] rfl)
          intro v1 v2 v3 rHx rHy rHd rKx rKy rKd H locs ls h hP hD hS hl
          rw [wp_X5_pairs_L14] at h
          refine lv_iload_n hx hb dX5_pairs_14 rfl (lv_at hl 3 rfl) ?_
          refine lv_iload_n hx hb dX5_pairs_15 rfl (lv_at hl 2 rfl) ?_
          refine lv_icmp_ge (tgt := 42) hx hb dX5_pairs_16 (by decide) (fun cq => ?_) (fun cq => ?_)
          · have h := h.1 cq
            exact L42 v1 v2 rHx rHy rHd rKx rKy rKd _ _ _ h hP hD hS (lv_sub hl [0, 1, 2] rfl)
          · have h := h.2 cq
            refine lv_iload_n hx hb dX5_pairs_19 rfl (lv_at hl 1 rfl) ?_
            refine lv_aload_n hx hb dX5_pairs_20 rfl (lv_at hl 0 rfl) ?_
            refine lv_iload_n hx hb dX5_pairs_21 rfl (lv_at hl 2 rfl) ?_
            refine lv_iload_n hx hb dX5_pairs_22 rfl (lv_at hl 3 rfl) ?_
            have hFc := va_free (wc := wR k aR rF rS rVx rVy rMd rE rAx rAy rBx rBy rO rP rPx rPy rPd rQ rFi rLa rOn rLe rRi rHx rHy rHd rKx rKy rKd) hD hS hA [0, 1, 2, 3, 4, 5, 6, 7, 8, 9, 10, 11, 12, 13, 14, 15, 16] rfl
            refine va_calli (va_runV (C := RX5) (b := (aR 0)) (As := [.int v2, .int v3]) (rest := [.int v1]) ⟨hx, hb, hml, hown, hts⟩ (m_X5_meet l D k aR rF rS rVx rVy rMd rE rAx rAy rBx rBy rO rP rPx rPy rPd rQ rFi rLa rOn rLe rRi rHx rHy rHd rKx rKy rKd v2 v3 _ _ h) (cwV 2 hts gX5_pairs_X5_meet rfl rfl rfl (by decide +kernel) ⟨Nat.le_of_ble_eq_true rfl, Nat.le_of_ble_eq_true rfl⟩) (preV_rw (ci := 5) (q0 := 0) (C := RX5) (T := TX5) (N := 27) hE hP hD rfl rfl) rfl rfl hl.1 rfl (lv_room (Nat.le_of_ble_eq_true rfl)) dX5_pairs_23 ⟨Nat.le_of_ble_eq_true rfl, Nat.le_of_ble_eq_true rfl⟩) hS (fun q _ h => hFc q h) hFc (fun r23 u t H1 locs ht hvm h hB hz1 hk1 hS => ?_)
            obtain ⟨rHx_23, rHy_23, rHd_23, rKx_23, rKy_23, rKd_23⟩ := u
            obtain ⟨hP1, hD1⟩ := hB
            rw [ht] at hP1
            obtain ⟨hP, hD⟩ := va_join (wr := ([] : va_W)) (w1 := wR k aR rF rS rVx rVy rMd rE rAx rAy rBx rBy rO rP rPx rPy rPd rQ rFi rLa rOn rLe rRi rHx_23 rHy_23 rHd_23 rKx_23 rKy_23 rKd_23) hP hD [0, 1, 2, 3, 4, 5, 6, 7, 8, 9, 10, 11, 12, 13, 14, 15, 16] [] rfl rfl (by decide) (by decide) hk1 hFc hP1 hD1
            generalize H1 = H at hP hS ⊢
            have hP : va_P D vwCl (wR k aR rF rS rVx rVy rMd rE rAx rAy rBx rBy rO rP rPx rPy rPd rQ rFi rLa rOn rLe rRi rHx_23 rHy_23 rHd_23 rKx_23 rKy_23 rKd_23) H := hP.sub [0, 1, 2, 3, 4, 5, 6, 7, 8, 9, 10, 11, 12, 13, 14, 15, 16] rfl
            have hD : va_D A (wR k aR rF rS rVx rVy rMd rE rAx rAy rBx rBy rO rP rPx rPy rPd rQ rFi rLa rOn rLe rRi rHx_23 rHy_23 rHd_23 rKx_23 rKy_23 rKd_23) := hD.sub [0, 1, 2, 3, 4, 5, 6, 7, 8, 9, 10, 11, 12, 13, 14, 15, 16] (by decide) rfl
            refine lv_if_le (tgt := 33) hx hb dX5_pairs_26 (by decide) (fun cq => ?_) (fun cq => ?_)
            · have h := h.1 cq
              refine lv_iconst (v := (0 : Int32)) hx hb dX5_pairs_33 (by decide) ?_
              exact L34 v2 v3 (0 : Int32) v1 rHx_23 rHy_23 rHd_23 rKx_23 rKy_23 rKd_23 _ _ _ h hP hD hS (lv_sub hl [0, 2, 3] rfl)
            · have h := h.2 cq
              refine lv_iconst (v := (1 : Int32)) hx hb dX5_pairs_29 (by decide) ?_
              refine lv_goto (tgt := 34) hx hb dX5_pairs_30 (by decide) ?_
              exact L34 v2 v3 (1 : Int32) v1 rHx_23 rHy_23 rHd_23 rKx_23 rKy_23 rKd_23 _ _ _ h hP hD hS (lv_sub hl [0, 2, 3] rfl)
      intro v1 v2 rHx rHy rHd rKx rKy rKd H locs ls h hP hD hS hl
      rw [wp_X5_pairs_L4] at h
      refine lv_iload_n hx hb dX5_pairs_4 rfl (lv_at hl 2 rfl) ?_
      refine lv_aload_n hx hb dX5_pairs_5 rfl (lv_at hl 0 rfl) ?_
      refine va_get (D := D) (ci := 5) (v := .int rE) (C := RX5) (T := TX5) (N := 27) hx hb hts hiX5 hown hK hP 0 rfl rfl 5 (by decide) f92 (fun _ h9 => h9) rfl dX5_pairs_6 ?_
      refine lv_icmp_ge (tgt := 48) hx hb dX5_pairs_9 (by decide) (fun cq => ?_) (fun cq => ?_)
      · have h := h.1 cq
        refine lv_iload_n hx hb dX5_pairs_48 rfl (lv_at hl 1 rfl) ?_
        rw [hGQ]
        exact W.iret (v := v1) hx hb hr (fun t ht hW => ⟨⟨_, (rHx, rHy, rHd, rKx, rKy, rKd), rfl, h, by rw [ht]; exact hP, hD⟩, hS.F ht⟩) hS.2.2 dX5_pairs_49
      · have h := h.2 cq
        refine lv_iconst (v := (0 : Int32)) hx hb dX5_pairs_12 (by decide) ?_
        refine lv_istore_n (lv' := [(3, .int (0 : Int32)), (0, .ref (aR 0)), (1, .int v1), (2, .int v2)]) hx hb dX5_pairs_13 rfl hl (by decide) rfl (fun ls hl => ?_)
        obtain ⟨n9, h⟩ := h
        exact L14 n9 v1 v2 (0 : Int32) rHx rHy rHd rKx rKy rKd _ _ _ h hP hD hS (lv_sub hl [1, 2, 3, 0] rfl)
  unfold wp_X5_pairs at h
  refine lv_iconst (v := (0 : Int32)) hx hb dX5_pairs_0 (by decide) ?_
  refine lv_istore_n (lv' := [(1, .int (0 : Int32)), (0, .ref (aR 0))]) hx hb dX5_pairs_1 rfl hl (by decide) rfl (fun ls hl => ?_)
  refine lv_iconst (v := (0 : Int32)) hx hb dX5_pairs_2 (by decide) ?_
  refine lv_istore_n (lv' := [(2, .int (0 : Int32)), (1, .int (0 : Int32)), (0, .ref (aR 0))]) hx hb dX5_pairs_3 rfl hl (by decide) rfl (fun ls hl => ?_)
  obtain ⟨n9, h⟩ := h
  exact L4 n9 (0 : Int32) (0 : Int32) rHx rHy rHd rKx rKy rKd _ _ _ h hP hD hS (lv_sub hl [2, 1, 0] rfl)
set_option maxHeartbeats 4000000 in
set_option maxRecDepth 100000 in
theorem m_X5_parts (l : Launch) (D : va_G) (k : Nat → ClassId) (aR : Nat → Nat) (rF : Int32) (rS : Nat → Int32) (rVx : Nat → Int32) (rVy : Nat → Int32) (rMd : Int32) (rE : Int32) (rAx : Nat → Int32) (rAy : Nat → Int32) (rBx : Nat → Int32) (rBy : Nat → Int32) (rO : Nat → Int32) (rP : Int32) (rPx : Nat → Int32) (rPy : Nat → Int32) (rPd : Nat → Int32) (rQ : Int32) (rFi : Nat → Int32) (rLa : Nat → Int32) (rOn : Nat → Int32) (rLe : Nat → Int32) (rRi : Nat → Int32) (rHx : Int64) (rHy : Int64) (rHd : Int64) (rKx : Int64) (rKy : Int64) (rKd : Int64)  (Q : Int32 → Prop) (h : wp_X5_parts rP rQ rFi rLa Q) : Met l yX5_parts wsX5_parts ({ frames := 1, cells := 0, slots := 0, locals := 24 }) (Pro D k [.ref (aR 0)] (wR k aR rF rS rVx rVy rMd rE rAx rAy rBx rBy rO rP rPx rPy rPd rQ rFi rLa rOn rLe rRi rHx rHy rHd rKx rKy rKd)) (vp_Si Q) 0 0 (fun _ => False) := by
  refine Met.ofW (cc := cX5_parts) (maxL := 13) (ret := (some .int)) (by decide) rfl ?_
  intro p e s m args below meth c s₁ B hml hv
  obtain ⟨hav, hP, hE⟩ := hv
  have hx := B.exec
  have hb := B.bytes
  have hr := B.returns
  have hts := atoms_spec (ws := wsX5_parts) B.pre
  have hown : s.vm.findClass RX5 = some m.cls := findClass_of_methodNamed B.named
  have hlocks := B.notSynchronized
  have hK := hE.1
  have hl := lv_entry ([.ref (aR 0)]) (n := 13) (Nat.le_of_ble_eq_true rfl)
  rw [show entryFrame m args 13 = entryFrame m ([.ref (aR 0)] : List Value).toArray 13 by rw [hav]]
  rw [lg_entry_eq]
  refine W.gq (fun GQ hGQ => ?_)
  generalize (lg_sl ([.ref (aR 0)]) ++ List.replicate (13 - (lg_sl ([.ref (aR 0)])).length) Slot.unset).toArray = ls at hl ⊢
  have hl : lv_has ls 13 [(0, .ref (aR 0))] := hl
  have hiX5 := (by decide +kernel : ∀ w ∈ wsX50, w ∈ wsX5_parts)
  have f116 := hts (.fieldLink RX5 116 "PlaneOverlayModel" "pieces" "I") (by decide +kernel)
  have f43 := hts (.fieldLink RX5 43 "PlaneOverlayModel" "first" "[I") (by decide +kernel)
  have f46 := hts (.fieldLink RX5 46 "PlaneOverlayModel" "last" "[I") (by decide +kernel)
  have f67 := hts (.fieldLink RX5 67 "PlaneOverlayModel" "points" "I") (by decide +kernel)
  have L4 : ∀ (n4 : Nat) (v1 : Int32) (v2 : Int32) (ls : Array Slot), wp_X5_parts_L4 rP rQ rFi rLa Q  n4 v1 v2 → lv_has ls 13 [(0, .ref (aR 0)), (1, .int v1), (2, .int v2)] → W p l e (headSpec wsX5_parts ({ frames := 1, cells := 0, slots := 0, locals := 24 })).room s m args below meth c s.heap [] 0 0 GQ (F0 m 4 ls []) := by
    intro n4
    induction n4 with
    | zero => intro v1 v2 ls h hl; exact False.elim h
    | succ n4 ih4 =>
      have L242 : ∀ (v2 : Int32) (z0 : Int32) (z1 : Int32) (ls : Array Slot), wp_X5_parts_L242 rP rQ rFi rLa Q (wp_X5_parts_L4 rP rQ rFi rLa Q  n4) v2 z0 z1 → lv_has ls 13 [(0, .ref (aR 0)), (2, .int v2)] → W p l e (headSpec wsX5_parts ({ frames := 1, cells := 0, slots := 0, locals := 24 })).room s m args below meth c s.heap [] 0 0 GQ (F0 m 242 ls [.int z0, .int z1]) := by
        intro v2 z0 z1 ls h hl
        unfold wp_X5_parts_L242 at h
        refine lv_iadd hx hb dX5_parts_242 ?_
        refine lv_topi (fun x243 ex243 => ?_)
        have h := h x243 ex243
        refine lv_istore_n (lv' := [(1, .int x243), (0, .ref (aR 0)), (2, .int v2)]) hx hb dX5_parts_243 rfl hl (by decide) rfl (fun ls hl => ?_)
        refine lv_iinc (v := (v2 + 1)) (lv' := [(2, .int (v2 + 1)), (1, .int x243), (0, .ref (aR 0))]) hx hb dX5_parts_244 hl (k := 2) rfl rfl (by decide) rfl (fun ls hl => ?_)
        refine lv_goto (tgt := 4) hx hb dX5_parts_247 (by decide) ?_
        exact ih4 x243 (v2 + 1) _ h (lv_sub hl [2, 1, 0] rfl)
      have L231 : ∀ (v1 : Int32) (v2 : Int32) (v3 : Int32) (ls : Array Slot), wp_X5_parts_L231 rP rQ rFi rLa Q (wp_X5_parts_L4 rP rQ rFi rLa Q  n4) v1 v2 v3 → lv_has ls 13 [(0, .ref (aR 0)), (1, .int v1), (2, .int v2), (3, .int v3)] → W p l e (headSpec wsX5_parts ({ frames := 1, cells := 0, slots := 0, locals := 24 })).room s m args below meth c s.heap [] 0 0 GQ (F0 m 231 ls []) := by
        intro v1 v2 v3 ls h hl
        unfold wp_X5_parts_L231 at h
        refine lv_iload_n hx hb dX5_parts_231 rfl (lv_at hl 1 rfl) ?_
        refine lv_iload_n hx hb dX5_parts_232 rfl (lv_at hl 3 rfl) ?_
        refine lv_iload_n hx hb dX5_parts_233 rfl (lv_at hl 2 rfl) ?_
        refine lv_icmp_ne (tgt := 241) hx hb dX5_parts_234 (by decide) (fun cq => ?_) (fun cq => ?_)
        · have h := h.1 cq
          refine lv_iconst (v := (0 : Int32)) hx hb dX5_parts_241 (by decide) ?_
          exact L242 v2 (0 : Int32) v1 _ h (lv_sub hl [0, 2] rfl)
        · have h := h.2 cq
          refine lv_iconst (v := (1 : Int32)) hx hb dX5_parts_237 (by decide) ?_
          refine lv_goto (tgt := 242) hx hb dX5_parts_238 (by decide) ?_
          exact L242 v2 (1 : Int32) v1 _ h (lv_sub hl [0, 2] rfl)
      have L78 : ∀ (n78 : Nat) (v1 : Int32) (v2 : Int32) (v3 : Int32) (v4 : Int32) (v5 : Int64) (v7 : Int64) (ls : Array Slot), wp_X5_parts_L78 rP rQ rFi rLa Q (fun v1 v2 v3 => (wp_X5_parts_L231 rP rQ rFi rLa Q (wp_X5_parts_L4 rP rQ rFi rLa Q  n4) v1 v2 v3)) n78 v1 v2 v3 v4 v5 v7 → lv_has ls 13 [(0, .ref (aR 0)), (1, .int v1), (2, .int v2), (3, .int v3), (4, .int v4), (5, .long v5), (7, .long v7)] → W p l e (headSpec wsX5_parts ({ frames := 1, cells := 0, slots := 0, locals := 24 })).room s m args below meth c s.heap [] 0 0 GQ (F0 m 78 ls []) := by
        intro n78
        induction n78 with
        | zero => intro v1 v2 v3 v4 v5 v7 ls h hl; exact False.elim h
        | succ n78 ih78 =>
          have L228 : ∀ (v1 : Int32) (v2 : Int32) (v3 : Int32) (v4 : Int32) (v5 : Int64) (v7 : Int64) (ls : Array Slot), wp_X5_parts_L228 rP rQ rFi rLa Q (wp_X5_parts_L78 rP rQ rFi rLa Q (fun v1 v2 v3 => (wp_X5_parts_L231 rP rQ rFi rLa Q (wp_X5_parts_L4 rP rQ rFi rLa Q  n4) v1 v2 v3)) n78) v1 v2 v3 v4 v5 v7 → lv_has ls 13 [(0, .ref (aR 0)), (1, .int v1), (2, .int v2), (3, .int v3), (4, .int v4), (5, .long v5), (7, .long v7)] → W p l e (headSpec wsX5_parts ({ frames := 1, cells := 0, slots := 0, locals := 24 })).room s m args below meth c s.heap [] 0 0 GQ (F0 m 228 ls []) := by
            intro v1 v2 v3 v4 v5 v7 ls h hl
            unfold wp_X5_parts_L228 at h
            refine lv_goto (tgt := 78) hx hb dX5_parts_228 (by decide) ?_
            exact ih78 v1 v2 v3 v4 v5 v7 _ h (lv_sub hl [0, 1, 2, 3, 4, 5, 6] rfl)
          have L89 : ∀ (n89 : Nat) (v1 : Int32) (v2 : Int32) (v3 : Int32) (v4 : Int32) (v5 : Int64) (v7 : Int64) (v9 : Int32) (ls : Array Slot), wp_X5_parts_L89 rP rQ rFi rLa Q (fun v1 v2 v3 v4 v5 v7 => (wp_X5_parts_L228 rP rQ rFi rLa Q (wp_X5_parts_L78 rP rQ rFi rLa Q (fun v1 v2 v3 => (wp_X5_parts_L231 rP rQ rFi rLa Q (wp_X5_parts_L4 rP rQ rFi rLa Q  n4) v1 v2 v3)) n78) v1 v2 v3 v4 v5 v7)) n89 v1 v2 v3 v4 v5 v7 v9 → lv_has ls 13 [(0, .ref (aR 0)), (1, .int v1), (2, .int v2), (3, .int v3), (4, .int v4), (5, .long v5), (7, .long v7), (9, .int v9)] → W p l e (headSpec wsX5_parts ({ frames := 1, cells := 0, slots := 0, locals := 24 })).room s m args below meth c s.heap [] 0 0 GQ (F0 m 89 ls []) := by
            intro n89
            induction n89 with
            | zero => intro v1 v2 v3 v4 v5 v7 v9 ls h hl; exact False.elim h
            | succ n89 ih89 =>
              have L222 : ∀ (v1 : Int32) (v2 : Int32) (v3 : Int32) (v4 : Int32) (v5 : Int64) (v7 : Int64) (v9 : Int32) (ls : Array Slot), wp_X5_parts_L222 rP rQ rFi rLa Q (wp_X5_parts_L89 rP rQ rFi rLa Q (fun v1 v2 v3 v4 v5 v7 => (wp_X5_parts_L228 rP rQ rFi rLa Q (wp_X5_parts_L78 rP rQ rFi rLa Q (fun v1 v2 v3 => (wp_X5_parts_L231 rP rQ rFi rLa Q (wp_X5_parts_L4 rP rQ rFi rLa Q  n4) v1 v2 v3)) n78) v1 v2 v3 v4 v5 v7)) n89) v1 v2 v3 v4 v5 v7 v9 → lv_has ls 13 [(0, .ref (aR 0)), (1, .int v1), (2, .int v2), (3, .int v3), (4, .int v4), (5, .long v5), (7, .long v7), (9, .int v9)] → W p l e (headSpec wsX5_parts ({ frames := 1, cells := 0, slots := 0, locals := 24 })).room s m args below meth c s.heap [] 0 0 GQ (F0 m 222 ls []) := by
                intro v1 v2 v3 v4 v5 v7 v9 ls h hl
                unfold wp_X5_parts_L222 at h
                refine lv_iinc (v := (v9 + 1)) (lv' := [(9, .int (v9 + 1)), (0, .ref (aR 0)), (1, .int v1), (2, .int v2), (3, .int v3), (4, .int v4), (5, .long v5), (7, .long v7)]) hx hb dX5_parts_222 hl (k := 7) rfl rfl (by decide) rfl (fun ls hl => ?_)
                refine lv_goto (tgt := 89) hx hb dX5_parts_225 (by decide) ?_
                exact ih89 v1 v2 v3 v4 v5 v7 (v9 + 1) _ h (lv_sub hl [1, 2, 3, 4, 5, 6, 7, 0] rfl)
              have L218 : ∀ (v1 : Int32) (v2 : Int32) (v5 : Int64) (v7 : Int64) (v9 : Int32) (z0 : Int32) (ls : Array Slot), wp_X5_parts_L218 rP rQ rFi rLa Q (wp_X5_parts_L89 rP rQ rFi rLa Q (fun v1 v2 v3 v4 v5 v7 => (wp_X5_parts_L228 rP rQ rFi rLa Q (wp_X5_parts_L78 rP rQ rFi rLa Q (fun v1 v2 v3 => (wp_X5_parts_L231 rP rQ rFi rLa Q (wp_X5_parts_L4 rP rQ rFi rLa Q  n4) v1 v2 v3)) n78) v1 v2 v3 v4 v5 v7)) n89) v1 v2 v5 v7 v9 z0 → lv_has ls 13 [(0, .ref (aR 0)), (1, .int v1), (2, .int v2), (5, .long v5), (7, .long v7), (9, .int v9)] → W p l e (headSpec wsX5_parts ({ frames := 1, cells := 0, slots := 0, locals := 24 })).room s m args below meth c s.heap [] 0 0 GQ (F0 m 218 ls [.int z0]) := by
                intro v1 v2 v5 v7 v9 z0 ls h hl
                unfold wp_X5_parts_L218 at h
                refine lv_istore_n (lv' := [(3, .int z0), (0, .ref (aR 0)), (1, .int v1), (2, .int v2), (5, .long v5), (7, .long v7), (9, .int v9)]) hx hb dX5_parts_218 rfl hl (by decide) rfl (fun ls hl => ?_)
                refine lv_iconst (v := (1 : Int32)) hx hb dX5_parts_219 (by decide) ?_
                refine lv_istore (lv' := [(4, .int (1 : Int32)), (3, .int z0), (0, .ref (aR 0)), (1, .int v1), (2, .int v2), (5, .long v5), (7, .long v7), (9, .int v9)]) hx hb dX5_parts_220 hl (by decide) rfl (fun ls hl => ?_)
                exact L222 v1 v2 z0 (1 : Int32) v5 v7 v9 _ h (lv_sub hl [2, 3, 4, 1, 0, 5, 6, 7] rfl)
              have L204 : ∀ (v1 : Int32) (v2 : Int32) (v3 : Int32) (v5 : Int64) (v9 : Int32) (v12 : Int32) (z0 : Int64) (ls : Array Slot), wp_X5_parts_L204 rP rQ rFi rLa Q (wp_X5_parts_L89 rP rQ rFi rLa Q (fun v1 v2 v3 v4 v5 v7 => (wp_X5_parts_L228 rP rQ rFi rLa Q (wp_X5_parts_L78 rP rQ rFi rLa Q (fun v1 v2 v3 => (wp_X5_parts_L231 rP rQ rFi rLa Q (wp_X5_parts_L4 rP rQ rFi rLa Q  n4) v1 v2 v3)) n78) v1 v2 v3 v4 v5 v7)) n89) v1 v2 v3 v5 v9 v12 z0 → lv_has ls 13 [(0, .ref (aR 0)), (1, .int v1), (2, .int v2), (3, .int v3), (5, .long v5), (9, .int v9), (12, .int v12)] → W p l e (headSpec wsX5_parts ({ frames := 1, cells := 0, slots := 0, locals := 24 })).room s m args below meth c s.heap [] 0 0 GQ (F0 m 204 ls [.long z0]) := by
                intro v1 v2 v3 v5 v9 v12 z0 ls h hl
                unfold wp_X5_parts_L204 at h
                refine lv_lstore (lv' := [(7, .long z0), (0, .ref (aR 0)), (1, .int v1), (2, .int v2), (3, .int v3), (5, .long v5), (9, .int v9), (12, .int v12)]) hx hb dX5_parts_204 hl (by decide) rfl (fun ls hl => ?_)
                refine lv_iload hx hb dX5_parts_206 (lv_at hl 7 rfl) ?_
                refine lv_iload_n hx hb dX5_parts_208 rfl (lv_at hl 4 rfl) ?_
                refine lv_icmp_ge (tgt := 217) hx hb dX5_parts_209 (by decide) (fun cq => ?_) (fun cq => ?_)
                · have h := h.1 cq
                  refine lv_iload_n hx hb dX5_parts_217 rfl (lv_at hl 4 rfl) ?_
                  exact L218 v1 v2 v5 z0 v9 v3 _ h (lv_sub hl [1, 2, 3, 5, 0, 6] rfl)
                · have h := h.2 cq
                  refine lv_iload hx hb dX5_parts_212 (lv_at hl 7 rfl) ?_
                  refine lv_goto (tgt := 218) hx hb dX5_parts_214 (by decide) ?_
                  exact L218 v1 v2 v5 z0 v9 v12 _ h (lv_sub hl [1, 2, 3, 5, 0, 6] rfl)
              have L180 : ∀ (v1 : Int32) (v2 : Int32) (v3 : Int32) (v7 : Int64) (v9 : Int32) (v12 : Int32) (z0 : Int64) (ls : Array Slot), wp_X5_parts_L180 rP rQ rFi rLa Q (wp_X5_parts_L89 rP rQ rFi rLa Q (fun v1 v2 v3 v4 v5 v7 => (wp_X5_parts_L228 rP rQ rFi rLa Q (wp_X5_parts_L78 rP rQ rFi rLa Q (fun v1 v2 v3 => (wp_X5_parts_L231 rP rQ rFi rLa Q (wp_X5_parts_L4 rP rQ rFi rLa Q  n4) v1 v2 v3)) n78) v1 v2 v3 v4 v5 v7)) n89) v1 v2 v3 v7 v9 v12 z0 → lv_has ls 13 [(0, .ref (aR 0)), (1, .int v1), (2, .int v2), (3, .int v3), (7, .long v7), (9, .int v9), (12, .int v12)] → W p l e (headSpec wsX5_parts ({ frames := 1, cells := 0, slots := 0, locals := 24 })).room s m args below meth c s.heap [] 0 0 GQ (F0 m 180 ls [.long z0]) := by
                intro v1 v2 v3 v7 v9 v12 z0 ls h hl
                unfold wp_X5_parts_L180 at h
                refine lv_lstore (lv' := [(5, .long z0), (0, .ref (aR 0)), (1, .int v1), (2, .int v2), (3, .int v3), (7, .long v7), (9, .int v9), (12, .int v12)]) hx hb dX5_parts_180 hl (by decide) rfl (fun ls hl => ?_)
                refine lv_iload hx hb dX5_parts_182 (lv_at hl 7 rfl) ?_
                refine lv_bipush (v := (64 : Int32)) hx hb dX5_parts_184 (by decide) ?_
                refine lv_icmp_ge (tgt := 194) hx hb dX5_parts_186 (by decide) (fun cq => ?_) (fun cq => ?_)
                · have h := h.1 cq
                  refine lv_lload hx hb dX5_parts_194 (lv_at hl 5 rfl) ?_
                  refine lv_lconst (v := (1 : Int64)) hx hb dX5_parts_196 (by decide) ?_
                  refine lv_iload hx hb dX5_parts_197 (lv_at hl 7 rfl) ?_
                  refine lv_bipush (v := (64 : Int32)) hx hb dX5_parts_199 (by decide) ?_
                  refine lv_isub hx hb dX5_parts_201 ?_
                  refine lv_lshl hx hb dX5_parts_202 rfl ?_
                  refine lv_lor hx hb dX5_parts_203 ?_
                  exact L204 v1 v2 v3 z0 v9 v12 (v7 ||| ((1 : Int64) <<< ((v12 - (64 : Int32)).toInt64 &&& 63))) _ h (lv_sub hl [1, 2, 3, 4, 0, 6, 7] rfl)
                · have h := h.2 cq
                  refine lv_lload hx hb dX5_parts_189 (lv_at hl 5 rfl) ?_
                  refine lv_goto (tgt := 204) hx hb dX5_parts_191 (by decide) ?_
                  exact L204 v1 v2 v3 z0 v9 v12 v7 _ h (lv_sub hl [1, 2, 3, 4, 0, 6, 7] rfl)
              have L159 : ∀ (v1 : Int32) (v2 : Int32) (v3 : Int32) (v5 : Int64) (v7 : Int64) (v9 : Int32) (z0 : Int32) (ls : Array Slot), wp_X5_parts_L159 rP rQ rFi rLa Q (wp_X5_parts_L89 rP rQ rFi rLa Q (fun v1 v2 v3 v4 v5 v7 => (wp_X5_parts_L228 rP rQ rFi rLa Q (wp_X5_parts_L78 rP rQ rFi rLa Q (fun v1 v2 v3 => (wp_X5_parts_L231 rP rQ rFi rLa Q (wp_X5_parts_L4 rP rQ rFi rLa Q  n4) v1 v2 v3)) n78) v1 v2 v3 v4 v5 v7)) n89) v1 v2 v3 v5 v7 v9 z0 → lv_has ls 13 [(0, .ref (aR 0)), (1, .int v1), (2, .int v2), (3, .int v3), (5, .long v5), (7, .long v7), (9, .int v9)] → W p l e (headSpec wsX5_parts ({ frames := 1, cells := 0, slots := 0, locals := 24 })).room s m args below meth c s.heap [] 0 0 GQ (F0 m 159 ls [.int z0]) := by
                intro v1 v2 v3 v5 v7 v9 z0 ls h hl
                unfold wp_X5_parts_L159 at h
                refine lv_istore (lv' := [(12, .int z0), (0, .ref (aR 0)), (1, .int v1), (2, .int v2), (3, .int v3), (5, .long v5), (7, .long v7), (9, .int v9)]) hx hb dX5_parts_159 hl (by decide) rfl (fun ls hl => ?_)
                refine lv_iload hx hb dX5_parts_161 (lv_at hl 0 rfl) ?_
                refine lv_bipush (v := (64 : Int32)) hx hb dX5_parts_163 (by decide) ?_
                refine lv_icmp_ge (tgt := 178) hx hb dX5_parts_165 (by decide) (fun cq => ?_) (fun cq => ?_)
                · have h := h.1 cq
                  refine lv_lload hx hb dX5_parts_178 (lv_at hl 5 rfl) ?_
                  exact L180 v1 v2 v3 v7 v9 z0 v5 _ h (lv_sub hl [1, 2, 3, 4, 6, 7, 0] rfl)
                · have h := h.2 cq
                  refine lv_lload hx hb dX5_parts_168 (lv_at hl 5 rfl) ?_
                  refine lv_lconst (v := (1 : Int64)) hx hb dX5_parts_170 (by decide) ?_
                  refine lv_iload hx hb dX5_parts_171 (lv_at hl 0 rfl) ?_
                  refine lv_lshl hx hb dX5_parts_173 rfl ?_
                  refine lv_lor hx hb dX5_parts_174 ?_
                  refine lv_goto (tgt := 180) hx hb dX5_parts_175 (by decide) ?_
                  exact L180 v1 v2 v3 v7 v9 z0 (v5 ||| ((1 : Int64) <<< (z0.toInt64 &&& 63))) _ h (lv_sub hl [1, 2, 3, 4, 6, 7, 0] rfl)
              intro v1 v2 v3 v4 v5 v7 v9 ls h hl
              rw [wp_X5_parts_L89] at h
              refine lv_iload hx hb dX5_parts_89 (lv_at hl 7 rfl) ?_
              refine lv_aload_n hx hb dX5_parts_91 rfl (lv_at hl 0 rfl) ?_
              refine va_get (D := D) (ci := 5) (v := .int rQ) (C := RX5) (T := TX5) (N := 27) hx hb hts hiX5 hown hK hP 0 rfl rfl 15 (by decide) f116 (fun _ h9 => h9) rfl dX5_parts_92 ?_
              refine lv_icmp_ge (tgt := 228) hx hb dX5_parts_95 (by decide) (fun cq => ?_) (fun cq => ?_)
              · have h := h.1 cq
                exact L228 v1 v2 v3 v4 v5 v7 _ h (lv_sub hl [0, 1, 2, 3, 4, 5, 6] rfl)
              · have h := h.2 cq
                refine lv_lload hx hb dX5_parts_98 (lv_at hl 5 rfl) ?_
                refine lv_lload hx hb dX5_parts_100 (lv_at hl 6 rfl) ?_
                refine lv_aload_n hx hb dX5_parts_102 rfl (lv_at hl 0 rfl) ?_
                refine va_get (D := D) (ci := 5) (v := .ref (aR 12)) (C := RX5) (T := TX5) (N := 27) hx hb hts hiX5 hown hK hP 0 rfl rfl 16 (by decide) f43 (fun _ h9 => h9) rfl dX5_parts_103 ?_
                refine lv_iload hx hb dX5_parts_106 (lv_at hl 7 rfl) ?_
                obtain ⟨hin, h⟩ := h
                refine va_iald hx hb hK hP 12 0 rfl rfl hin dX5_parts_108 ?_
                refine vp_callSi (W.runS (As := [.long v5, .long v7, .int (rFi v9.toNatClampNeg)]) (rest := []) ⟨hx, hb, hml, hown, hts⟩ (m_X5_in l D k   v5 v7 (rFi v9.toNatClampNeg) _ h) (va_cwS 3 hts gX5_parts_X5_in rfl rfl rfl (by decide +kernel) ⟨Nat.le_of_ble_eq_true rfl, Nat.le_of_ble_eq_true rfl⟩) (preS_ro hE vaP0) rfl rfl hl.1 rfl (lv_room (Nat.le_of_ble_eq_true rfl)) dX5_parts_109 ⟨Nat.le_of_ble_eq_true rfl, Nat.le_of_ble_eq_true rfl⟩) (fun r109 h => ?_)
                refine lv_istore (lv' := [(10, .int r109), (0, .ref (aR 0)), (1, .int v1), (2, .int v2), (3, .int v3), (4, .int v4), (5, .long v5), (7, .long v7), (9, .int v9)]) hx hb dX5_parts_112 hl (by decide) rfl (fun ls hl => ?_)
                refine lv_lload hx hb dX5_parts_114 (lv_at hl 6 rfl) ?_
                refine lv_lload hx hb dX5_parts_116 (lv_at hl 7 rfl) ?_
                refine lv_aload_n hx hb dX5_parts_118 rfl (lv_at hl 1 rfl) ?_
                refine va_get (D := D) (ci := 5) (v := .ref (aR 13)) (C := RX5) (T := TX5) (N := 27) hx hb hts hiX5 hown hK hP 0 rfl rfl 17 (by decide) f46 (fun _ h9 => h9) rfl dX5_parts_119 ?_
                refine lv_iload hx hb dX5_parts_122 (lv_at hl 8 rfl) ?_
                obtain ⟨hin, h⟩ := h
                refine va_iald hx hb hK hP 13 0 rfl rfl hin dX5_parts_124 ?_
                refine vp_callSi (W.runS (As := [.long v5, .long v7, .int (rLa v9.toNatClampNeg)]) (rest := []) ⟨hx, hb, hml, hown, hts⟩ (m_X5_in l D k   v5 v7 (rLa v9.toNatClampNeg) _ h) (va_cwS 3 hts gX5_parts_X5_in rfl rfl rfl (by decide +kernel) ⟨Nat.le_of_ble_eq_true rfl, Nat.le_of_ble_eq_true rfl⟩) (preS_ro hE vaP0) rfl rfl hl.1 rfl (lv_room (Nat.le_of_ble_eq_true rfl)) dX5_parts_125 ⟨Nat.le_of_ble_eq_true rfl, Nat.le_of_ble_eq_true rfl⟩) (fun r125 h => ?_)
                refine lv_istore (lv' := [(11, .int r125), (10, .int r109), (0, .ref (aR 0)), (1, .int v1), (2, .int v2), (3, .int v3), (4, .int v4), (5, .long v5), (7, .long v7), (9, .int v9)]) hx hb dX5_parts_128 hl (by decide) rfl (fun ls hl => ?_)
                refine lv_iload hx hb dX5_parts_130 (lv_at hl 1 rfl) ?_
                refine lv_iload hx hb dX5_parts_132 (lv_at hl 0 rfl) ?_
                refine lv_icmp_eq (tgt := 222) hx hb dX5_parts_134 (by decide) (fun cq => ?_) (fun cq => ?_)
                · have h := h.1 cq
                  exact L222 v1 v2 v3 v4 v5 v7 v9 _ h (lv_sub hl [2, 3, 4, 5, 6, 7, 8, 9] rfl)
                · have h := h.2 cq
                  refine lv_iload hx hb dX5_parts_137 (lv_at hl 1 rfl) ?_
                  refine lv_if_eq (tgt := 152) hx hb dX5_parts_139 (by decide) (fun cq => ?_) (fun cq => ?_)
                  · have h := h.1 cq
                    refine lv_aload_n hx hb dX5_parts_152 rfl (lv_at hl 2 rfl) ?_
                    refine va_get (D := D) (ci := 5) (v := .ref (aR 12)) (C := RX5) (T := TX5) (N := 27) hx hb hts hiX5 hown hK hP 0 rfl rfl 16 (by decide) f43 (fun _ h9 => h9) rfl dX5_parts_153 ?_
                    refine lv_iload hx hb dX5_parts_156 (lv_at hl 9 rfl) ?_
                    obtain ⟨hin, h⟩ := h
                    refine va_iald hx hb hK hP 12 0 rfl rfl hin dX5_parts_158 ?_
                    exact L159 v1 v2 v3 v5 v7 v9 (rFi v9.toNatClampNeg) _ h (lv_sub hl [2, 3, 4, 5, 7, 8, 9] rfl)
                  · have h := h.2 cq
                    refine lv_aload_n hx hb dX5_parts_142 rfl (lv_at hl 2 rfl) ?_
                    refine va_get (D := D) (ci := 5) (v := .ref (aR 13)) (C := RX5) (T := TX5) (N := 27) hx hb hts hiX5 hown hK hP 0 rfl rfl 17 (by decide) f46 (fun _ h9 => h9) rfl dX5_parts_143 ?_
                    refine lv_iload hx hb dX5_parts_146 (lv_at hl 9 rfl) ?_
                    obtain ⟨hin, h⟩ := h
                    refine va_iald hx hb hK hP 13 0 rfl rfl hin dX5_parts_148 ?_
                    refine lv_goto (tgt := 159) hx hb dX5_parts_149 (by decide) ?_
                    exact L159 v1 v2 v3 v5 v7 v9 (rLa v9.toNatClampNeg) _ h (lv_sub hl [2, 3, 4, 5, 7, 8, 9] rfl)
          intro v1 v2 v3 v4 v5 v7 ls h hl
          rw [wp_X5_parts_L78] at h
          refine lv_iload hx hb dX5_parts_78 (lv_at hl 4 rfl) ?_
          refine lv_if_eq (tgt := 231) hx hb dX5_parts_80 (by decide) (fun cq => ?_) (fun cq => ?_)
          · have h := h.1 cq
            exact L231 v1 v2 v3 _ h (lv_sub hl [0, 1, 2, 3] rfl)
          · have h := h.2 cq
            refine lv_iconst (v := (0 : Int32)) hx hb dX5_parts_83 (by decide) ?_
            refine lv_istore (lv' := [(4, .int (0 : Int32)), (0, .ref (aR 0)), (1, .int v1), (2, .int v2), (3, .int v3), (5, .long v5), (7, .long v7)]) hx hb dX5_parts_84 hl (by decide) rfl (fun ls hl => ?_)
            refine lv_iconst (v := (0 : Int32)) hx hb dX5_parts_86 (by decide) ?_
            refine lv_istore (lv' := [(9, .int (0 : Int32)), (4, .int (0 : Int32)), (0, .ref (aR 0)), (1, .int v1), (2, .int v2), (3, .int v3), (5, .long v5), (7, .long v7)]) hx hb dX5_parts_87 hl (by decide) rfl (fun ls hl => ?_)
            obtain ⟨n9, h⟩ := h
            exact L89 n9 v1 v2 v3 (0 : Int32) v5 v7 (0 : Int32) _ h (lv_sub hl [2, 3, 4, 5, 1, 6, 7, 0] rfl)
      have L76 : ∀ (v1 : Int32) (v2 : Int32) (v3 : Int32) (v4 : Int32) (v5 : Int64) (z0 : Int64) (ls : Array Slot), wp_X5_parts_L76 rP rQ rFi rLa Q (wp_X5_parts_L4 rP rQ rFi rLa Q  n4) v1 v2 v3 v4 v5 z0 → lv_has ls 13 [(0, .ref (aR 0)), (1, .int v1), (2, .int v2), (3, .int v3), (4, .int v4), (5, .long v5)] → W p l e (headSpec wsX5_parts ({ frames := 1, cells := 0, slots := 0, locals := 24 })).room s m args below meth c s.heap [] 0 0 GQ (F0 m 76 ls [.long z0]) := by
        intro v1 v2 v3 v4 v5 z0 ls h hl
        unfold wp_X5_parts_L76 at h
        refine lv_lstore (lv' := [(7, .long z0), (0, .ref (aR 0)), (1, .int v1), (2, .int v2), (3, .int v3), (4, .int v4), (5, .long v5)]) hx hb dX5_parts_76 hl (by decide) rfl (fun ls hl => ?_)
        obtain ⟨n9, h⟩ := h
        exact L78 n9 v1 v2 v3 v4 v5 z0 _ h (lv_sub hl [1, 2, 3, 4, 5, 6, 0] rfl)
      have L62 : ∀ (v1 : Int32) (v2 : Int32) (v3 : Int32) (v4 : Int32) (v7 : Int64) (z0 : Int64) (ls : Array Slot), wp_X5_parts_L62 rP rQ rFi rLa Q (wp_X5_parts_L4 rP rQ rFi rLa Q  n4) v1 v2 v3 v4 v7 z0 → lv_has ls 13 [(0, .ref (aR 0)), (1, .int v1), (2, .int v2), (3, .int v3), (4, .int v4), (7, .long v7)] → W p l e (headSpec wsX5_parts ({ frames := 1, cells := 0, slots := 0, locals := 24 })).room s m args below meth c s.heap [] 0 0 GQ (F0 m 62 ls [.long z0]) := by
        intro v1 v2 v3 v4 v7 z0 ls h hl
        unfold wp_X5_parts_L62 at h
        refine lv_lstore (lv' := [(5, .long z0), (0, .ref (aR 0)), (1, .int v1), (2, .int v2), (3, .int v3), (4, .int v4), (7, .long v7)]) hx hb dX5_parts_62 hl (by decide) rfl (fun ls hl => ?_)
        refine lv_iload_n hx hb dX5_parts_64 rfl (lv_at hl 3 rfl) ?_
        refine lv_bipush (v := (64 : Int32)) hx hb dX5_parts_65 (by decide) ?_
        refine lv_icmp_ge (tgt := 74) hx hb dX5_parts_67 (by decide) (fun cq => ?_) (fun cq => ?_)
        · have h := h.1 cq
          refine lv_lload hx hb dX5_parts_74 (lv_at hl 6 rfl) ?_
          exact L76 v1 v2 v3 v4 z0 v7 _ h (lv_sub hl [1, 2, 3, 4, 5, 0] rfl)
        · have h := h.2 cq
          refine lv_lconst (v := (0 : Int64)) hx hb dX5_parts_70 (by decide) ?_
          refine lv_goto (tgt := 76) hx hb dX5_parts_71 (by decide) ?_
          exact L76 v1 v2 v3 v4 z0 (0 : Int64) _ h (lv_sub hl [1, 2, 3, 4, 5, 0] rfl)
      have L47 : ∀ (v1 : Int32) (v2 : Int32) (v3 : Int32) (v4 : Int32) (v5 : Int64) (z0 : Int32) (z1 : Int64) (ls : Array Slot), wp_X5_parts_L47 rP rQ rFi rLa Q (wp_X5_parts_L4 rP rQ rFi rLa Q  n4) v1 v2 v3 v4 v5 z0 z1 → lv_has ls 13 [(0, .ref (aR 0)), (1, .int v1), (2, .int v2), (3, .int v3), (4, .int v4), (5, .long v5)] → W p l e (headSpec wsX5_parts ({ frames := 1, cells := 0, slots := 0, locals := 24 })).room s m args below meth c s.heap [] 0 0 GQ (F0 m 47 ls [.int z0, .long z1]) := by
        intro v1 v2 v3 v4 v5 z0 z1 ls h hl
        unfold wp_X5_parts_L47 at h
        refine lv_lshl hx hb dX5_parts_47 rfl ?_
        refine lv_topl (fun x48 ex48 => ?_)
        have h := h x48 ex48
        refine lv_lstore (lv' := [(7, .long x48), (0, .ref (aR 0)), (1, .int v1), (2, .int v2), (3, .int v3), (4, .int v4), (5, .long v5)]) hx hb dX5_parts_48 hl (by decide) rfl (fun ls hl => ?_)
        refine lv_iload_n hx hb dX5_parts_50 rfl (lv_at hl 3 rfl) ?_
        refine lv_bipush (v := (64 : Int32)) hx hb dX5_parts_51 (by decide) ?_
        refine lv_icmp_ge (tgt := 61) hx hb dX5_parts_53 (by decide) (fun cq => ?_) (fun cq => ?_)
        · have h := h.1 cq
          refine lv_lconst (v := (0 : Int64)) hx hb dX5_parts_61 (by decide) ?_
          exact L62 v1 v2 v3 v4 x48 (0 : Int64) _ h (lv_sub hl [1, 2, 3, 4, 5, 0] rfl)
        · have h := h.2 cq
          refine lv_lload hx hb dX5_parts_56 (lv_at hl 6 rfl) ?_
          refine lv_goto (tgt := 62) hx hb dX5_parts_58 (by decide) ?_
          exact L62 v1 v2 v3 v4 x48 v5 _ h (lv_sub hl [1, 2, 3, 4, 5, 0] rfl)
      have L29 : ∀ (v1 : Int32) (v2 : Int32) (v3 : Int32) (v4 : Int32) (z0 : Int32) (z1 : Int64) (ls : Array Slot), wp_X5_parts_L29 rP rQ rFi rLa Q (wp_X5_parts_L4 rP rQ rFi rLa Q  n4) v1 v2 v3 v4 z0 z1 → lv_has ls 13 [(0, .ref (aR 0)), (1, .int v1), (2, .int v2), (3, .int v3), (4, .int v4)] → W p l e (headSpec wsX5_parts ({ frames := 1, cells := 0, slots := 0, locals := 24 })).room s m args below meth c s.heap [] 0 0 GQ (F0 m 29 ls [.int z0, .long z1]) := by
        intro v1 v2 v3 v4 z0 z1 ls h hl
        unfold wp_X5_parts_L29 at h
        refine lv_lshl hx hb dX5_parts_29 rfl ?_
        refine lv_topl (fun x30 ex30 => ?_)
        have h := h x30 ex30
        refine lv_lstore (lv' := [(5, .long x30), (0, .ref (aR 0)), (1, .int v1), (2, .int v2), (3, .int v3), (4, .int v4)]) hx hb dX5_parts_30 hl (by decide) rfl (fun ls hl => ?_)
        refine lv_lconst (v := (1 : Int64)) hx hb dX5_parts_32 (by decide) ?_
        refine lv_iload_n hx hb dX5_parts_33 rfl (lv_at hl 3 rfl) ?_
        refine lv_bipush (v := (64 : Int32)) hx hb dX5_parts_34 (by decide) ?_
        refine lv_icmp_ge (tgt := 43) hx hb dX5_parts_36 (by decide) (fun cq => ?_) (fun cq => ?_)
        · have h := h.1 cq
          refine lv_iload_n hx hb dX5_parts_43 rfl (lv_at hl 3 rfl) ?_
          refine lv_bipush (v := (64 : Int32)) hx hb dX5_parts_44 (by decide) ?_
          refine lv_isub hx hb dX5_parts_46 ?_
          exact L47 v1 v2 v3 v4 x30 (v2 - (64 : Int32)) (1 : Int64) _ h (lv_sub hl [1, 2, 3, 4, 5, 0] rfl)
        · have h := h.2 cq
          refine lv_iconst (v := (0 : Int32)) hx hb dX5_parts_39 (by decide) ?_
          refine lv_goto (tgt := 47) hx hb dX5_parts_40 (by decide) ?_
          exact L47 v1 v2 v3 v4 x30 (0 : Int32) (1 : Int64) _ h (lv_sub hl [1, 2, 3, 4, 5, 0] rfl)
      intro v1 v2 ls h hl
      rw [wp_X5_parts_L4] at h
      refine lv_iload_n hx hb dX5_parts_4 rfl (lv_at hl 2 rfl) ?_
      refine lv_aload_n hx hb dX5_parts_5 rfl (lv_at hl 0 rfl) ?_
      refine va_get (D := D) (ci := 5) (v := .int rP) (C := RX5) (T := TX5) (N := 27) hx hb hts hiX5 hown hK hP 0 rfl rfl 11 (by decide) f67 (fun _ h9 => h9) rfl dX5_parts_6 ?_
      refine lv_icmp_ge (tgt := 250) hx hb dX5_parts_9 (by decide) (fun cq => ?_) (fun cq => ?_)
      · have h := h.1 cq
        refine lv_iload_n hx hb dX5_parts_250 rfl (lv_at hl 1 rfl) ?_
        rw [hGQ]
        exact W.iret (v := v1) hx hb hr (fun t ht hW => ⟨_, rfl, h, ht⟩) (fun _ h => by cases h) dX5_parts_251
      · have h := h.2 cq
        refine lv_iload_n hx hb dX5_parts_12 rfl (lv_at hl 2 rfl) ?_
        refine lv_istore_n (lv' := [(3, .int v2), (0, .ref (aR 0)), (1, .int v1), (2, .int v2)]) hx hb dX5_parts_13 rfl hl (by decide) rfl (fun ls hl => ?_)
        refine lv_iconst (v := (1 : Int32)) hx hb dX5_parts_14 (by decide) ?_
        refine lv_istore (lv' := [(4, .int (1 : Int32)), (3, .int v2), (0, .ref (aR 0)), (1, .int v1), (2, .int v2)]) hx hb dX5_parts_15 hl (by decide) rfl (fun ls hl => ?_)
        refine lv_lconst (v := (1 : Int64)) hx hb dX5_parts_17 (by decide) ?_
        refine lv_iload_n hx hb dX5_parts_18 rfl (lv_at hl 4 rfl) ?_
        refine lv_bipush (v := (64 : Int32)) hx hb dX5_parts_19 (by decide) ?_
        refine lv_icmp_ge (tgt := 28) hx hb dX5_parts_21 (by decide) (fun cq => ?_) (fun cq => ?_)
        · have h := h.1 cq
          refine lv_iconst (v := (0 : Int32)) hx hb dX5_parts_28 (by decide) ?_
          exact L29 v1 v2 v2 (1 : Int32) (0 : Int32) (1 : Int64) _ h (lv_sub hl [2, 3, 4, 1, 0] rfl)
        · have h := h.2 cq
          refine lv_iload_n hx hb dX5_parts_24 rfl (lv_at hl 4 rfl) ?_
          refine lv_goto (tgt := 29) hx hb dX5_parts_25 (by decide) ?_
          exact L29 v1 v2 v2 (1 : Int32) v2 (1 : Int64) _ h (lv_sub hl [2, 3, 4, 1, 0] rfl)
  unfold wp_X5_parts at h
  refine lv_iconst (v := (0 : Int32)) hx hb dX5_parts_0 (by decide) ?_
  refine lv_istore_n (lv' := [(1, .int (0 : Int32)), (0, .ref (aR 0))]) hx hb dX5_parts_1 rfl hl (by decide) rfl (fun ls hl => ?_)
  refine lv_iconst (v := (0 : Int32)) hx hb dX5_parts_2 (by decide) ?_
  refine lv_istore_n (lv' := [(2, .int (0 : Int32)), (1, .int (0 : Int32)), (0, .ref (aR 0))]) hx hb dX5_parts_3 rfl hl (by decide) rfl (fun ls hl => ?_)
  obtain ⟨n9, h⟩ := h
  exact L4 n9 (0 : Int32) (0 : Int32) _ h (lv_sub hl [2, 1, 0] rfl)
set_option maxHeartbeats 4000000 in
set_option maxRecDepth 100000 in
theorem m_X5_size (l : Launch) (D : va_G) (k : Nat → ClassId) (aR : Nat → Nat) (rF : Int32) (rS : Nat → Int32) (rVx : Nat → Int32) (rVy : Nat → Int32) (rMd : Int32) (rE : Int32) (rAx : Nat → Int32) (rAy : Nat → Int32) (rBx : Nat → Int32) (rBy : Nat → Int32) (rO : Nat → Int32) (rP : Int32) (rPx : Nat → Int32) (rPy : Nat → Int32) (rPd : Nat → Int32) (rQ : Int32) (rFi : Nat → Int32) (rLa : Nat → Int32) (rOn : Nat → Int32) (rLe : Nat → Int32) (rRi : Nat → Int32) (rHx : Int64) (rHy : Int64) (rHd : Int64) (rKx : Int64) (rKy : Int64) (rKd : Int64) (p0 : Int32) (Q : Int32 → (Int32) → (Int64) → (Int64) → (Int64) → (Int64) → (Int64) → (Int64) → Prop) (sz : Nat) (h : wp_X5_size p0 rF rMd rE rAx rAy rBx rBy rP rQ rFi rLa rHx rHy rHd rKx rKy rKd Q) : Met l yX5_size wsX5_size ({ frames := 4, cells := 0, slots := 0, locals := 121 }) (Prw D k [.ref (aR 0), .int p0] (wR k aR rF rS rVx rVy rMd rE rAx rAy rBx rBy rO rP rPx rPy rPd rQ rFi rLa rOn rLe rRi rHx rHy rHd rKx rKy rKd) sz) (va_Qi (fun (r : Int32) (u : (Int32) × (Int64) × (Int64) × (Int64) × (Int64) × (Int64) × (Int64)) => Q r u.1 u.2.1 u.2.2.1 u.2.2.2.1 u.2.2.2.2.1 u.2.2.2.2.2.1 u.2.2.2.2.2.2) (fun (u : (Int32) × (Int64) × (Int64) × (Int64) × (Int64) × (Int64) × (Int64)) t => va_P D vwCl (wR k aR (u.1) rS rVx rVy rMd rE rAx rAy rBx rBy rO rP rPx rPy rPd rQ rFi rLa rOn rLe rRi (u.2.1) (u.2.2.1) (u.2.2.2.1) (u.2.2.2.2.1) (u.2.2.2.2.2.1) (u.2.2.2.2.2.2)) t.heap ∧ va_D (va_A (wR k aR rF rS rVx rVy rMd rE rAx rAy rBx rBy rO rP rPx rPy rPd rQ rFi rLa rOn rLe rRi rHx rHy rHd rKx rKy rKd) sz) (wR k aR (u.1) rS rVx rVy rMd rE rAx rAy rBx rBy rO rP rPx rPy rPd rQ rFi rLa rOn rLe rRi (u.2.1) (u.2.2.1) (u.2.2.2.1) (u.2.2.2.2.1) (u.2.2.2.2.2.1) (u.2.2.2.2.2.2))) (va_A (wR k aR rF rS rVx rVy rMd rE rAx rAy rBx rBy rO rP rPx rPy rPd rQ rFi rLa rOn rLe rRi rHx rHy rHd rKx rKy rKd) sz)) 0 0 (va_A (wR k aR rF rS rVx rVy rMd rE rAx rAy rBx rBy rO rP rPx rPy rPd rQ rFi rLa rOn rLe rRi rHx rHy rHd rKx rKy rKd) sz) := by
  refine Met.ofW (cc := cX5_size) (maxL := 2) (ret := (some .int)) (by decide) rfl ?_
  intro p e s m args below meth c s₁ B hml hv
  obtain ⟨hav, hsz, hP, hE, hD0⟩ := hv
  subst hsz
  have hx := B.exec
  have hb := B.bytes
  have hr := B.returns
  have hts := atoms_spec (ws := wsX5_size) B.pre
  have hown : s.vm.findClass RX5 = some m.cls := findClass_of_methodNamed B.named
  have hlocks := B.notSynchronized
  have hK := hE.1
  have hD := hD0.self (sz := s.heap.size)
  generalize hAe : va_A (wR k aR rF rS rVx rVy rMd rE rAx rAy rBx rBy rO rP rPx rPy rPd rQ rFi rLa rOn rLe rRi rHx rHy rHd rKx rKy rKd) s.heap.size = A at hD ⊢
  have hA : ∀ q : Nat, s.heap.size ≤ q → A q := fun q h => by rw [← hAe]; exact Or.inr h
  have hS : va_S A s.heap s.heap [] := va_S.rf
  have hl := lv_entry ([.ref (aR 0), .int p0]) (n := 2) (Nat.le_of_ble_eq_true rfl)
  rw [show entryFrame m args 2 = entryFrame m ([.ref (aR 0), .int p0] : List Value).toArray 2 by rw [hav]]
  rw [lg_entry_eq]
  refine W.gq (fun GQ hGQ => ?_)
  generalize (lg_sl ([.ref (aR 0), .int p0]) ++ List.replicate (2 - (lg_sl ([.ref (aR 0), .int p0])).length) Slot.unset).toArray = ls at hl ⊢
  have hl : lv_has ls 2 [(0, .ref (aR 0)), (1, .int p0)] := hl
  have hiX5 := (by decide +kernel : ∀ w ∈ wsX50, w ∈ wsX5_size)
  have f59 := hts (.fieldLink RX5 59 "PlaneOverlayModel" "fault" "I") (by decide +kernel)
  have f116 := hts (.fieldLink RX5 116 "PlaneOverlayModel" "pieces" "I") (by decide +kernel)
  have f67 := hts (.fieldLink RX5 67 "PlaneOverlayModel" "points" "I") (by decide +kernel)
  have f92 := hts (.fieldLink RX5 92 "PlaneOverlayModel" "edges" "I") (by decide +kernel)
  have f132 := hts (.fieldLink RX5 132 "PlaneOverlayModel" "made" "Z") (by decide +kernel)
  have L101 : ∀ (z0 : Int32) (rF : Int32) (rHx : Int64) (rHy : Int64) (rHd : Int64) (rKx : Int64) (rKy : Int64) (rKd : Int64) (H : Heap) (locs : List Loc) (ls : Array Slot), wp_X5_size_L101 p0 rMd rE rAx rAy rBx rBy rP rQ rFi rLa Q  z0 rF rHx rHy rHd rKx rKy rKd → va_P D vwCl (wR k aR rF rS rVx rVy rMd rE rAx rAy rBx rBy rO rP rPx rPy rPd rQ rFi rLa rOn rLe rRi rHx rHy rHd rKx rKy rKd) H → va_D A (wR k aR rF rS rVx rVy rMd rE rAx rAy rBx rBy rO rP rPx rPy rPd rQ rFi rLa rOn rLe rRi rHx rHy rHd rKx rKy rKd) → va_S A s.heap H locs → lv_has ls 2 [] → W p l e (headSpec wsX5_size ({ frames := 4, cells := 0, slots := 0, locals := 121 })).room s m args below meth c H locs 0 0 GQ (F0 m 101 ls [.int z0]) := by
    intro z0 rF rHx rHy rHd rKx rKy rKd H locs ls h hP hD hS hl
    unfold wp_X5_size_L101 at h
    rw [hGQ]
    exact W.iret (v := z0) hx hb hr (fun t ht hW => ⟨⟨_, (rF, rHx, rHy, rHd, rKx, rKy, rKd), rfl, h, by rw [ht]; exact hP, hD⟩, hS.F ht⟩) hS.2.2 dX5_size_101
  have L26 : ∀ (z0 : Int32) (rF : Int32) (rHx : Int64) (rHy : Int64) (rHd : Int64) (rKx : Int64) (rKy : Int64) (rKd : Int64) (H : Heap) (locs : List Loc) (ls : Array Slot), wp_X5_size_L26 p0 rMd rE rAx rAy rBx rBy rP rQ rFi rLa Q  z0 rF rHx rHy rHd rKx rKy rKd → va_P D vwCl (wR k aR rF rS rVx rVy rMd rE rAx rAy rBx rBy rO rP rPx rPy rPd rQ rFi rLa rOn rLe rRi rHx rHy rHd rKx rKy rKd) H → va_D A (wR k aR rF rS rVx rVy rMd rE rAx rAy rBx rBy rO rP rPx rPy rPd rQ rFi rLa rOn rLe rRi rHx rHy rHd rKx rKy rKd) → va_S A s.heap H locs → lv_has ls 2 [(0, .ref (aR 0)), (1, .int p0)] → W p l e (headSpec wsX5_size ({ frames := 4, cells := 0, slots := 0, locals := 121 })).room s m args below meth c H locs 0 0 GQ (F0 m 26 ls [.int z0, .ref (aR 0)]) := by
    intro z0 rF rHx rHy rHd rKx rKy rKd H locs ls h hP hD hS hl
    unfold wp_X5_size_L26 at h
    refine va_put (D := D) (ci := 5) (v := .int z0) (ty := .int) (C := RX5) (T := TX5) (N := 27) hx hb hts hiX5 tyX5 tyX5_ok nmX5 hown hK hP hD hS 0 rfl rfl 0 (by decide) f59 (fun _ h9 => h9) rfl (by decide +kernel) rfl rfl (Nat.le_of_ble_eq_true rfl) dX5_size_26 (fun H locs hP hD hS => ?_)
    have hP : va_P D vwCl (wR k aR z0 rS rVx rVy rMd rE rAx rAy rBx rBy rO rP rPx rPy rPd rQ rFi rLa rOn rLe rRi rHx rHy rHd rKx rKy rKd) H := hP
    have hD : va_D A (wR k aR z0 rS rVx rVy rMd rE rAx rAy rBx rBy rO rP rPx rPy rPd rQ rFi rLa rOn rLe rRi rHx rHy rHd rKx rKy rKd) := hD
    refine lv_aload_n hx hb dX5_size_29 rfl (lv_at hl 0 rfl) ?_
    refine va_get (D := D) (ci := 5) (v := .int z0) (C := RX5) (T := TX5) (N := 27) hx hb hts hiX5 hown hK hP 0 rfl rfl 0 (by decide) f59 (fun _ h9 => h9) rfl dX5_size_30 ?_
    refine lv_if_le (tgt := 38) hx hb dX5_size_33 (by decide) (fun cq => ?_) (fun cq => ?_)
    · have h := h.1 cq
      refine lv_iload_n hx hb dX5_size_38 rfl (lv_at hl 1 rfl) ?_
      refine lv_if_ne (tgt := 49) hx hb dX5_size_39 (by decide) (fun cq => ?_) (fun cq => ?_)
      · have h := h.1 cq
        refine lv_iload_n hx hb dX5_size_49 rfl (lv_at hl 1 rfl) ?_
        refine lv_iconst (v := (1 : Int32)) hx hb dX5_size_50 (by decide) ?_
        refine lv_icmp_ne (tgt := 61) hx hb dX5_size_51 (by decide) (fun cq => ?_) (fun cq => ?_)
        · have h := h.1 cq
          refine lv_iload_n hx hb dX5_size_61 rfl (lv_at hl 1 rfl) ?_
          refine lv_iconst (v := (2 : Int32)) hx hb dX5_size_62 (by decide) ?_
          refine lv_icmp_ne (tgt := 73) hx hb dX5_size_63 (by decide) (fun cq => ?_) (fun cq => ?_)
          · have h := h.1 cq
            refine lv_iload_n hx hb dX5_size_73 rfl (lv_at hl 1 rfl) ?_
            refine lv_iconst (v := (3 : Int32)) hx hb dX5_size_74 (by decide) ?_
            refine lv_icmp_ne (tgt := 97) hx hb dX5_size_75 (by decide) (fun cq => ?_) (fun cq => ?_)
            · have h := h.1 cq
              refine lv_aload_n hx hb dX5_size_97 rfl (lv_at hl 0 rfl) ?_
              have hFc := va_free (wc := wR k aR z0 rS rVx rVy rMd rE rAx rAy rBx rBy rO rP rPx rPy rPd rQ rFi rLa rOn rLe rRi rHx rHy rHd rKx rKy rKd) hD hS hA [0, 1, 2, 3, 4, 5, 6, 7, 8, 9, 10, 11, 12, 13, 14, 15, 16] rfl
              refine va_calli (va_runV (C := RX5) (b := (aR 0)) (As := []) (rest := []) ⟨hx, hb, hml, hown, hts⟩ (m_X5_pairs l D k aR z0 rS rVx rVy rMd rE rAx rAy rBx rBy rO rP rPx rPy rPd rQ rFi rLa rOn rLe rRi rHx rHy rHd rKx rKy rKd  _ _ h) (cwV 0 hts gX5_size_X5_pairs rfl rfl rfl (by decide +kernel) ⟨Nat.le_of_ble_eq_true rfl, Nat.le_of_ble_eq_true rfl⟩) (preV_rw (ci := 5) (q0 := 0) (C := RX5) (T := TX5) (N := 27) hE hP hD rfl rfl) rfl rfl hl.1 rfl (lv_room (Nat.le_of_ble_eq_true rfl)) dX5_size_98 ⟨Nat.le_of_ble_eq_true rfl, Nat.le_of_ble_eq_true rfl⟩) hS (fun q _ h => hFc q h) hFc (fun r98 u t H1 locs ht hvm h hB hz1 hk1 hS => ?_)
              obtain ⟨rHx_98, rHy_98, rHd_98, rKx_98, rKy_98, rKd_98⟩ := u
              obtain ⟨hP1, hD1⟩ := hB
              rw [ht] at hP1
              obtain ⟨hP, hD⟩ := va_join (wr := ([] : va_W)) (w1 := wR k aR z0 rS rVx rVy rMd rE rAx rAy rBx rBy rO rP rPx rPy rPd rQ rFi rLa rOn rLe rRi rHx_98 rHy_98 rHd_98 rKx_98 rKy_98 rKd_98) hP hD [0, 1, 2, 3, 4, 5, 6, 7, 8, 9, 10, 11, 12, 13, 14, 15, 16] [] rfl rfl (by decide) (by decide) hk1 hFc hP1 hD1
              generalize H1 = H at hP hS ⊢
              have hP : va_P D vwCl (wR k aR z0 rS rVx rVy rMd rE rAx rAy rBx rBy rO rP rPx rPy rPd rQ rFi rLa rOn rLe rRi rHx_98 rHy_98 rHd_98 rKx_98 rKy_98 rKd_98) H := hP.sub [0, 1, 2, 3, 4, 5, 6, 7, 8, 9, 10, 11, 12, 13, 14, 15, 16] rfl
              have hD : va_D A (wR k aR z0 rS rVx rVy rMd rE rAx rAy rBx rBy rO rP rPx rPy rPd rQ rFi rLa rOn rLe rRi rHx_98 rHy_98 rHd_98 rKx_98 rKy_98 rKd_98) := hD.sub [0, 1, 2, 3, 4, 5, 6, 7, 8, 9, 10, 11, 12, 13, 14, 15, 16] (by decide) rfl
              exact L101 r98 z0 rHx_98 rHy_98 rHd_98 rKx_98 rKy_98 rKd_98 _ _ _ h hP hD hS (lv_sub hl [] rfl)
            · have h := h.2 cq
              refine lv_aload_n hx hb dX5_size_78 rfl (lv_at hl 0 rfl) ?_
              refine va_get (D := D) (ci := 5) (v := .int rQ) (C := RX5) (T := TX5) (N := 27) hx hb hts hiX5 hown hK hP 0 rfl rfl 15 (by decide) f116 (fun _ h9 => h9) rfl dX5_size_79 ?_
              refine lv_aload_n hx hb dX5_size_82 rfl (lv_at hl 0 rfl) ?_
              refine va_get (D := D) (ci := 5) (v := .int rP) (C := RX5) (T := TX5) (N := 27) hx hb hts hiX5 hown hK hP 0 rfl rfl 11 (by decide) f67 (fun _ h9 => h9) rfl dX5_size_83 ?_
              refine lv_isub hx hb dX5_size_86 ?_
              refine lv_iconst (v := (1 : Int32)) hx hb dX5_size_87 (by decide) ?_
              refine lv_iadd hx hb dX5_size_88 ?_
              refine lv_aload_n hx hb dX5_size_89 rfl (lv_at hl 0 rfl) ?_
              refine vp_callSi (W.runV (C := RX5) (b := (aR 0)) (As := []) (rest := [.int ((rQ - rP) + (1 : Int32))]) ⟨hx, hb, hml, hown, hts⟩ (m_X5_parts l D k aR z0 rS rVx rVy rMd rE rAx rAy rBx rBy rO rP rPx rPy rPd rQ rFi rLa rOn rLe rRi rHx rHy rHd rKx rKy rKd  _ h) (cwV 0 hts gX5_size_X5_parts rfl rfl rfl (by decide +kernel) ⟨Nat.le_of_ble_eq_true rfl, Nat.le_of_ble_eq_true rfl⟩) (preV_ro (ci := 5) (q0 := 0) (C := RX5) (T := TX5) (N := 27) hE hP rfl rfl) rfl rfl hl.1 rfl (lv_room (Nat.le_of_ble_eq_true rfl)) dX5_size_90 ⟨Nat.le_of_ble_eq_true rfl, Nat.le_of_ble_eq_true rfl⟩) (fun r90 h => ?_)
              refine lv_iadd hx hb dX5_size_93 ?_
              refine lv_goto (tgt := 101) hx hb dX5_size_94 (by decide) ?_
              exact L101 (((rQ - rP) + (1 : Int32)) + r90) z0 rHx rHy rHd rKx rKy rKd _ _ _ h hP hD hS (lv_sub hl [] rfl)
          · have h := h.2 cq
            refine lv_aload_n hx hb dX5_size_66 rfl (lv_at hl 0 rfl) ?_
            refine va_get (D := D) (ci := 5) (v := .int rQ) (C := RX5) (T := TX5) (N := 27) hx hb hts hiX5 hown hK hP 0 rfl rfl 15 (by decide) f116 (fun _ h9 => h9) rfl dX5_size_67 ?_
            refine lv_goto (tgt := 101) hx hb dX5_size_70 (by decide) ?_
            exact L101 rQ z0 rHx rHy rHd rKx rKy rKd _ _ _ h hP hD hS (lv_sub hl [] rfl)
        · have h := h.2 cq
          refine lv_aload_n hx hb dX5_size_54 rfl (lv_at hl 0 rfl) ?_
          refine va_get (D := D) (ci := 5) (v := .int rP) (C := RX5) (T := TX5) (N := 27) hx hb hts hiX5 hown hK hP 0 rfl rfl 11 (by decide) f67 (fun _ h9 => h9) rfl dX5_size_55 ?_
          refine lv_goto (tgt := 101) hx hb dX5_size_58 (by decide) ?_
          exact L101 rP z0 rHx rHy rHd rKx rKy rKd _ _ _ h hP hD hS (lv_sub hl [] rfl)
      · have h := h.2 cq
        refine lv_aload_n hx hb dX5_size_42 rfl (lv_at hl 0 rfl) ?_
        refine va_get (D := D) (ci := 5) (v := .int rE) (C := RX5) (T := TX5) (N := 27) hx hb hts hiX5 hown hK hP 0 rfl rfl 5 (by decide) f92 (fun _ h9 => h9) rfl dX5_size_43 ?_
        refine lv_goto (tgt := 101) hx hb dX5_size_46 (by decide) ?_
        exact L101 rE z0 rHx rHy rHd rKx rKy rKd _ _ _ h hP hD hS (lv_sub hl [] rfl)
    · have h := h.2 cq
      refine lv_iconst (v := (0 : Int32)) hx hb dX5_size_36 (by decide) ?_
      rw [hGQ]
      exact W.iret (v := (0 : Int32)) hx hb hr (fun t ht hW => ⟨⟨_, (z0, rHx, rHy, rHd, rKx, rKy, rKd), rfl, h, by rw [ht]; exact hP, hD⟩, hS.F ht⟩) hS.2.2 dX5_size_37
  have L21 : ∀ (rF : Int32) (rHx : Int64) (rHy : Int64) (rHd : Int64) (rKx : Int64) (rKy : Int64) (rKd : Int64) (H : Heap) (locs : List Loc) (ls : Array Slot), wp_X5_size_L21 p0 rMd rE rAx rAy rBx rBy rP rQ rFi rLa Q  rF rHx rHy rHd rKx rKy rKd → va_P D vwCl (wR k aR rF rS rVx rVy rMd rE rAx rAy rBx rBy rO rP rPx rPy rPd rQ rFi rLa rOn rLe rRi rHx rHy rHd rKx rKy rKd) H → va_D A (wR k aR rF rS rVx rVy rMd rE rAx rAy rBx rBy rO rP rPx rPy rPd rQ rFi rLa rOn rLe rRi rHx rHy rHd rKx rKy rKd) → va_S A s.heap H locs → lv_has ls 2 [(0, .ref (aR 0)), (1, .int p0)] → W p l e (headSpec wsX5_size ({ frames := 4, cells := 0, slots := 0, locals := 121 })).room s m args below meth c H locs 0 0 GQ (F0 m 21 ls [.ref (aR 0)]) := by
    intro rF rHx rHy rHd rKx rKy rKd H locs ls h hP hD hS hl
    unfold wp_X5_size_L21 at h
    refine lv_iconst (v := (2 : Int32)) hx hb dX5_size_21 (by decide) ?_
    refine lv_goto (tgt := 26) hx hb dX5_size_22 (by decide) ?_
    exact L26 (2 : Int32) rF rHx rHy rHd rKx rKy rKd _ _ _ h hP hD hS (lv_sub hl [0, 1] rfl)
  unfold wp_X5_size at h
  refine lv_aload_n hx hb dX5_size_0 rfl (lv_at hl 0 rfl) ?_
  refine lv_aload_n hx hb dX5_size_1 rfl (lv_at hl 0 rfl) ?_
  refine va_get (D := D) (ci := 5) (v := .int rMd) (C := RX5) (T := TX5) (N := 27) hx hb hts hiX5 hown hK hP 0 rfl rfl 4 (by decide) f132 (fun _ h9 => h9) rfl dX5_size_2 ?_
  refine lv_if_ne (tgt := 12) hx hb dX5_size_5 (by decide) (fun cq => ?_) (fun cq => ?_)
  · have h := h.1 cq
    refine lv_iload_n hx hb dX5_size_12 rfl (lv_at hl 1 rfl) ?_
    refine lv_if_lt (tgt := 21) hx hb dX5_size_13 (by decide) (fun cq => ?_) (fun cq => ?_)
    · have h := h.1 cq
      exact L21 rF rHx rHy rHd rKx rKy rKd _ _ _ h hP hD hS (lv_sub hl [0, 1] rfl)
    · have h := h.2 cq
      refine lv_iload_n hx hb dX5_size_16 rfl (lv_at hl 1 rfl) ?_
      refine lv_iconst (v := (4 : Int32)) hx hb dX5_size_17 (by decide) ?_
      refine lv_icmp_le (tgt := 25) hx hb dX5_size_18 (by decide) (fun cq => ?_) (fun cq => ?_)
      · have h := h.1 cq
        refine lv_iconst (v := (0 : Int32)) hx hb dX5_size_25 (by decide) ?_
        exact L26 (0 : Int32) rF rHx rHy rHd rKx rKy rKd _ _ _ h hP hD hS (lv_sub hl [0, 1] rfl)
      · have h := h.2 cq
        exact L21 rF rHx rHy rHd rKx rKy rKd _ _ _ h hP hD hS (lv_sub hl [0, 1] rfl)
  · have h := h.2 cq
    refine lv_iconst (v := (1 : Int32)) hx hb dX5_size_8 (by decide) ?_
    refine lv_goto (tgt := 26) hx hb dX5_size_9 (by decide) ?_
    exact L26 (1 : Int32) rF rHx rHy rHd rKx rKy rKd _ _ _ h hP hD hS (lv_sub hl [0, 1] rfl)
set_option maxHeartbeats 4000000 in
set_option maxRecDepth 100000 in
theorem m_X5_point (l : Launch) (D : va_G) (k : Nat → ClassId) (aR : Nat → Nat) (rF : Int32) (rS : Nat → Int32) (rVx : Nat → Int32) (rVy : Nat → Int32) (rMd : Int32) (rE : Int32) (rAx : Nat → Int32) (rAy : Nat → Int32) (rBx : Nat → Int32) (rBy : Nat → Int32) (rO : Nat → Int32) (rP : Int32) (rPx : Nat → Int32) (rPy : Nat → Int32) (rPd : Nat → Int32) (rQ : Int32) (rFi : Nat → Int32) (rLa : Nat → Int32) (rOn : Nat → Int32) (rLe : Nat → Int32) (rRi : Nat → Int32) (rHx : Int64) (rHy : Int64) (rHd : Int64) (rKx : Int64) (rKy : Int64) (rKd : Int64) (p0 : Int32) (p1 : Int32) (Q : Int32 → (Int32) → Prop) (sz : Nat) (h : wp_X5_point p0 p1 rF rMd rP rPx rPy rPd Q) : Met l yX5_point wsX5_point ({ frames := 0, cells := 0, slots := 0, locals := 0 }) (Prw D k [.ref (aR 0), .int p0, .int p1] (wR k aR rF rS rVx rVy rMd rE rAx rAy rBx rBy rO rP rPx rPy rPd rQ rFi rLa rOn rLe rRi rHx rHy rHd rKx rKy rKd) sz) (va_Qi (fun (r : Int32) (u : (Int32)) => Q r u) (fun (u : (Int32)) t => va_P D vwCl (wR k aR u rS rVx rVy rMd rE rAx rAy rBx rBy rO rP rPx rPy rPd rQ rFi rLa rOn rLe rRi rHx rHy rHd rKx rKy rKd) t.heap ∧ va_D (va_A (wR k aR rF rS rVx rVy rMd rE rAx rAy rBx rBy rO rP rPx rPy rPd rQ rFi rLa rOn rLe rRi rHx rHy rHd rKx rKy rKd) sz) (wR k aR u rS rVx rVy rMd rE rAx rAy rBx rBy rO rP rPx rPy rPd rQ rFi rLa rOn rLe rRi rHx rHy rHd rKx rKy rKd)) (va_A (wR k aR rF rS rVx rVy rMd rE rAx rAy rBx rBy rO rP rPx rPy rPd rQ rFi rLa rOn rLe rRi rHx rHy rHd rKx rKy rKd) sz)) 0 0 (va_A (wR k aR rF rS rVx rVy rMd rE rAx rAy rBx rBy rO rP rPx rPy rPd rQ rFi rLa rOn rLe rRi rHx rHy rHd rKx rKy rKd) sz) := by
  refine Met.ofW (cc := cX5_point) (maxL := 3) (ret := (some .int)) (by decide) rfl ?_
  intro p e s m args below meth c s₁ B hml hv
  obtain ⟨hav, hsz, hP, hE, hD0⟩ := hv
  subst hsz
  have hx := B.exec
  have hb := B.bytes
  have hr := B.returns
  have hts := atoms_spec (ws := wsX5_point) B.pre
  have hown : s.vm.findClass RX5 = some m.cls := findClass_of_methodNamed B.named
  have hlocks := B.notSynchronized
  have hK := hE.1
  have hD := hD0.self (sz := s.heap.size)
  generalize hAe : va_A (wR k aR rF rS rVx rVy rMd rE rAx rAy rBx rBy rO rP rPx rPy rPd rQ rFi rLa rOn rLe rRi rHx rHy rHd rKx rKy rKd) s.heap.size = A at hD ⊢
  have hA : ∀ q : Nat, s.heap.size ≤ q → A q := fun q h => by rw [← hAe]; exact Or.inr h
  have hS : va_S A s.heap s.heap [] := va_S.rf
  have hl := lv_entry ([.ref (aR 0), .int p0, .int p1]) (n := 3) (Nat.le_of_ble_eq_true rfl)
  rw [show entryFrame m args 3 = entryFrame m ([.ref (aR 0), .int p0, .int p1] : List Value).toArray 3 by rw [hav]]
  rw [lg_entry_eq]
  refine W.gq (fun GQ hGQ => ?_)
  generalize (lg_sl ([.ref (aR 0), .int p0, .int p1]) ++ List.replicate (3 - (lg_sl ([.ref (aR 0), .int p0, .int p1])).length) Slot.unset).toArray = ls at hl ⊢
  have hl : lv_has ls 3 [(0, .ref (aR 0)), (1, .int p0), (2, .int p1)] := hl
  have hiX5 := (by decide +kernel : ∀ w ∈ wsX50, w ∈ wsX5_point)
  have f59 := hts (.fieldLink RX5 59 "PlaneOverlayModel" "fault" "I") (by decide +kernel)
  have f40 := hts (.fieldLink RX5 40 "PlaneOverlayModel" "pd" "[I") (by decide +kernel)
  have f37 := hts (.fieldLink RX5 37 "PlaneOverlayModel" "py" "[I") (by decide +kernel)
  have f34 := hts (.fieldLink RX5 34 "PlaneOverlayModel" "px" "[I") (by decide +kernel)
  have f132 := hts (.fieldLink RX5 132 "PlaneOverlayModel" "made" "Z") (by decide +kernel)
  have f67 := hts (.fieldLink RX5 67 "PlaneOverlayModel" "points" "I") (by decide +kernel)
  have L87 : ∀ (z0 : Int32) (rF : Int32) (H : Heap) (locs : List Loc) (ls : Array Slot), wp_X5_point_L87 p0 p1 rMd rP rPx rPy rPd Q  z0 rF → va_P D vwCl (wR k aR rF rS rVx rVy rMd rE rAx rAy rBx rBy rO rP rPx rPy rPd rQ rFi rLa rOn rLe rRi rHx rHy rHd rKx rKy rKd) H → va_D A (wR k aR rF rS rVx rVy rMd rE rAx rAy rBx rBy rO rP rPx rPy rPd rQ rFi rLa rOn rLe rRi rHx rHy rHd rKx rKy rKd) → va_S A s.heap H locs → lv_has ls 3 [] → W p l e (headSpec wsX5_point ({ frames := 0, cells := 0, slots := 0, locals := 0 })).room s m args below meth c H locs 0 0 GQ (F0 m 87 ls [.int z0]) := by
    intro z0 rF H locs ls h hP hD hS hl
    unfold wp_X5_point_L87 at h
    rw [hGQ]
    exact W.iret (v := z0) hx hb hr (fun t ht hW => ⟨⟨_, (rF), rfl, h, by rw [ht]; exact hP, hD⟩, hS.F ht⟩) hS.2.2 dX5_point_87
  have L42 : ∀ (z0 : Int32) (rF : Int32) (H : Heap) (locs : List Loc) (ls : Array Slot), wp_X5_point_L42 p0 p1 rMd rP rPx rPy rPd Q  z0 rF → va_P D vwCl (wR k aR rF rS rVx rVy rMd rE rAx rAy rBx rBy rO rP rPx rPy rPd rQ rFi rLa rOn rLe rRi rHx rHy rHd rKx rKy rKd) H → va_D A (wR k aR rF rS rVx rVy rMd rE rAx rAy rBx rBy rO rP rPx rPy rPd rQ rFi rLa rOn rLe rRi rHx rHy rHd rKx rKy rKd) → va_S A s.heap H locs → lv_has ls 3 [(0, .ref (aR 0)), (1, .int p0), (2, .int p1)] → W p l e (headSpec wsX5_point ({ frames := 0, cells := 0, slots := 0, locals := 0 })).room s m args below meth c H locs 0 0 GQ (F0 m 42 ls [.int z0, .ref (aR 0)]) := by
    intro z0 rF H locs ls h hP hD hS hl
    unfold wp_X5_point_L42 at h
    refine va_put (D := D) (ci := 5) (v := .int z0) (ty := .int) (C := RX5) (T := TX5) (N := 27) hx hb hts hiX5 tyX5 tyX5_ok nmX5 hown hK hP hD hS 0 rfl rfl 0 (by decide) f59 (fun _ h9 => h9) rfl (by decide +kernel) rfl rfl (Nat.le_of_ble_eq_true rfl) dX5_point_42 (fun H locs hP hD hS => ?_)
    have hP : va_P D vwCl (wR k aR z0 rS rVx rVy rMd rE rAx rAy rBx rBy rO rP rPx rPy rPd rQ rFi rLa rOn rLe rRi rHx rHy rHd rKx rKy rKd) H := hP
    have hD : va_D A (wR k aR z0 rS rVx rVy rMd rE rAx rAy rBx rBy rO rP rPx rPy rPd rQ rFi rLa rOn rLe rRi rHx rHy rHd rKx rKy rKd) := hD
    refine lv_aload_n hx hb dX5_point_45 rfl (lv_at hl 0 rfl) ?_
    refine va_get (D := D) (ci := 5) (v := .int z0) (C := RX5) (T := TX5) (N := 27) hx hb hts hiX5 hown hK hP 0 rfl rfl 0 (by decide) f59 (fun _ h9 => h9) rfl dX5_point_46 ?_
    refine lv_if_le (tgt := 54) hx hb dX5_point_49 (by decide) (fun cq => ?_) (fun cq => ?_)
    · have h := h.1 cq
      refine lv_iload_n hx hb dX5_point_54 rfl (lv_at hl 2 rfl) ?_
      refine lv_if_ne (tgt := 67) hx hb dX5_point_55 (by decide) (fun cq => ?_) (fun cq => ?_)
      · have h := h.1 cq
        refine lv_iload_n hx hb dX5_point_67 rfl (lv_at hl 2 rfl) ?_
        refine lv_iconst (v := (1 : Int32)) hx hb dX5_point_68 (by decide) ?_
        refine lv_icmp_ne (tgt := 81) hx hb dX5_point_69 (by decide) (fun cq => ?_) (fun cq => ?_)
        · have h := h.1 cq
          refine lv_aload_n hx hb dX5_point_81 rfl (lv_at hl 0 rfl) ?_
          refine va_get (D := D) (ci := 5) (v := .ref (aR 11)) (C := RX5) (T := TX5) (N := 27) hx hb hts hiX5 hown hK hP 0 rfl rfl 14 (by decide) f40 (fun _ h9 => h9) rfl dX5_point_82 ?_
          refine lv_iload_n hx hb dX5_point_85 rfl (lv_at hl 1 rfl) ?_
          obtain ⟨hin, h⟩ := h
          refine va_iald hx hb hK hP 11 0 rfl rfl hin dX5_point_86 ?_
          exact L87 (rPd p0.toNatClampNeg) z0 _ _ _ h hP hD hS (lv_sub hl [] rfl)
        · have h := h.2 cq
          refine lv_aload_n hx hb dX5_point_72 rfl (lv_at hl 0 rfl) ?_
          refine va_get (D := D) (ci := 5) (v := .ref (aR 10)) (C := RX5) (T := TX5) (N := 27) hx hb hts hiX5 hown hK hP 0 rfl rfl 13 (by decide) f37 (fun _ h9 => h9) rfl dX5_point_73 ?_
          refine lv_iload_n hx hb dX5_point_76 rfl (lv_at hl 1 rfl) ?_
          obtain ⟨hin, h⟩ := h
          refine va_iald hx hb hK hP 10 0 rfl rfl hin dX5_point_77 ?_
          refine lv_goto (tgt := 87) hx hb dX5_point_78 (by decide) ?_
          exact L87 (rPy p0.toNatClampNeg) z0 _ _ _ h hP hD hS (lv_sub hl [] rfl)
      · have h := h.2 cq
        refine lv_aload_n hx hb dX5_point_58 rfl (lv_at hl 0 rfl) ?_
        refine va_get (D := D) (ci := 5) (v := .ref (aR 9)) (C := RX5) (T := TX5) (N := 27) hx hb hts hiX5 hown hK hP 0 rfl rfl 12 (by decide) f34 (fun _ h9 => h9) rfl dX5_point_59 ?_
        refine lv_iload_n hx hb dX5_point_62 rfl (lv_at hl 1 rfl) ?_
        obtain ⟨hin, h⟩ := h
        refine va_iald hx hb hK hP 9 0 rfl rfl hin dX5_point_63 ?_
        refine lv_goto (tgt := 87) hx hb dX5_point_64 (by decide) ?_
        exact L87 (rPx p0.toNatClampNeg) z0 _ _ _ h hP hD hS (lv_sub hl [] rfl)
    · have h := h.2 cq
      refine lv_iconst (v := (0 : Int32)) hx hb dX5_point_52 (by decide) ?_
      rw [hGQ]
      exact W.iret (v := (0 : Int32)) hx hb hr (fun t ht hW => ⟨⟨_, (z0), rfl, h, by rw [ht]; exact hP, hD⟩, hS.F ht⟩) hS.2.2 dX5_point_53
  have L24 : ∀ (rF : Int32) (H : Heap) (locs : List Loc) (ls : Array Slot), wp_X5_point_L24 p0 p1 rMd rP rPx rPy rPd Q  rF → va_P D vwCl (wR k aR rF rS rVx rVy rMd rE rAx rAy rBx rBy rO rP rPx rPy rPd rQ rFi rLa rOn rLe rRi rHx rHy rHd rKx rKy rKd) H → va_D A (wR k aR rF rS rVx rVy rMd rE rAx rAy rBx rBy rO rP rPx rPy rPd rQ rFi rLa rOn rLe rRi rHx rHy rHd rKx rKy rKd) → va_S A s.heap H locs → lv_has ls 3 [(0, .ref (aR 0)), (1, .int p0), (2, .int p1)] → W p l e (headSpec wsX5_point ({ frames := 0, cells := 0, slots := 0, locals := 0 })).room s m args below meth c H locs 0 0 GQ (F0 m 24 ls [.ref (aR 0)]) := by
    intro rF H locs ls h hP hD hS hl
    unfold wp_X5_point_L24 at h
    refine lv_iconst (v := (2 : Int32)) hx hb dX5_point_24 (by decide) ?_
    refine lv_goto (tgt := 42) hx hb dX5_point_25 (by decide) ?_
    exact L42 (2 : Int32) rF _ _ _ h hP hD hS (lv_sub hl [0, 1, 2] rfl)
  have L37 : ∀ (rF : Int32) (H : Heap) (locs : List Loc) (ls : Array Slot), wp_X5_point_L37 p0 p1 rMd rP rPx rPy rPd Q  rF → va_P D vwCl (wR k aR rF rS rVx rVy rMd rE rAx rAy rBx rBy rO rP rPx rPy rPd rQ rFi rLa rOn rLe rRi rHx rHy rHd rKx rKy rKd) H → va_D A (wR k aR rF rS rVx rVy rMd rE rAx rAy rBx rBy rO rP rPx rPy rPd rQ rFi rLa rOn rLe rRi rHx rHy rHd rKx rKy rKd) → va_S A s.heap H locs → lv_has ls 3 [(0, .ref (aR 0)), (1, .int p0), (2, .int p1)] → W p l e (headSpec wsX5_point ({ frames := 0, cells := 0, slots := 0, locals := 0 })).room s m args below meth c H locs 0 0 GQ (F0 m 37 ls [.ref (aR 0)]) := by
    intro rF H locs ls h hP hD hS hl
    unfold wp_X5_point_L37 at h
    refine lv_iconst (v := (3 : Int32)) hx hb dX5_point_37 (by decide) ?_
    refine lv_goto (tgt := 42) hx hb dX5_point_38 (by decide) ?_
    exact L42 (3 : Int32) rF _ _ _ h hP hD hS (lv_sub hl [0, 1, 2] rfl)
  unfold wp_X5_point at h
  refine lv_aload_n hx hb dX5_point_0 rfl (lv_at hl 0 rfl) ?_
  refine lv_aload_n hx hb dX5_point_1 rfl (lv_at hl 0 rfl) ?_
  refine va_get (D := D) (ci := 5) (v := .int rMd) (C := RX5) (T := TX5) (N := 27) hx hb hts hiX5 hown hK hP 0 rfl rfl 4 (by decide) f132 (fun _ h9 => h9) rfl dX5_point_2 ?_
  refine lv_if_ne (tgt := 12) hx hb dX5_point_5 (by decide) (fun cq => ?_) (fun cq => ?_)
  · have h := h.1 cq
    refine lv_iload_n hx hb dX5_point_12 rfl (lv_at hl 1 rfl) ?_
    refine lv_if_lt (tgt := 24) hx hb dX5_point_13 (by decide) (fun cq => ?_) (fun cq => ?_)
    · have h := h.1 cq
      exact L24 rF _ _ _ h hP hD hS (lv_sub hl [0, 1, 2] rfl)
    · have h := h.2 cq
      refine lv_iload_n hx hb dX5_point_16 rfl (lv_at hl 1 rfl) ?_
      refine lv_aload_n hx hb dX5_point_17 rfl (lv_at hl 0 rfl) ?_
      refine va_get (D := D) (ci := 5) (v := .int rP) (C := RX5) (T := TX5) (N := 27) hx hb hts hiX5 hown hK hP 0 rfl rfl 11 (by decide) f67 (fun _ h9 => h9) rfl dX5_point_18 ?_
      refine lv_icmp_lt (tgt := 28) hx hb dX5_point_21 (by decide) (fun cq => ?_) (fun cq => ?_)
      · have h := h.1 cq
        refine lv_iload_n hx hb dX5_point_28 rfl (lv_at hl 2 rfl) ?_
        refine lv_if_lt (tgt := 37) hx hb dX5_point_29 (by decide) (fun cq => ?_) (fun cq => ?_)
        · have h := h.1 cq
          exact L37 rF _ _ _ h hP hD hS (lv_sub hl [0, 1, 2] rfl)
        · have h := h.2 cq
          refine lv_iload_n hx hb dX5_point_32 rfl (lv_at hl 2 rfl) ?_
          refine lv_iconst (v := (2 : Int32)) hx hb dX5_point_33 (by decide) ?_
          refine lv_icmp_le (tgt := 41) hx hb dX5_point_34 (by decide) (fun cq => ?_) (fun cq => ?_)
          · have h := h.1 cq
            refine lv_iconst (v := (0 : Int32)) hx hb dX5_point_41 (by decide) ?_
            exact L42 (0 : Int32) rF _ _ _ h hP hD hS (lv_sub hl [0, 1, 2] rfl)
          · have h := h.2 cq
            exact L37 rF _ _ _ h hP hD hS (lv_sub hl [0, 1, 2] rfl)
      · have h := h.2 cq
        exact L24 rF _ _ _ h hP hD hS (lv_sub hl [0, 1, 2] rfl)
  · have h := h.2 cq
    refine lv_iconst (v := (1 : Int32)) hx hb dX5_point_8 (by decide) ?_
    refine lv_goto (tgt := 42) hx hb dX5_point_9 (by decide) ?_
    exact L42 (1 : Int32) rF _ _ _ h hP hD hS (lv_sub hl [0, 1, 2] rfl)
set_option maxHeartbeats 4000000 in
set_option maxRecDepth 100000 in
theorem m_X5_piece (l : Launch) (D : va_G) (k : Nat → ClassId) (aR : Nat → Nat) (rF : Int32) (rS : Nat → Int32) (rVx : Nat → Int32) (rVy : Nat → Int32) (rMd : Int32) (rE : Int32) (rAx : Nat → Int32) (rAy : Nat → Int32) (rBx : Nat → Int32) (rBy : Nat → Int32) (rO : Nat → Int32) (rP : Int32) (rPx : Nat → Int32) (rPy : Nat → Int32) (rPd : Nat → Int32) (rQ : Int32) (rFi : Nat → Int32) (rLa : Nat → Int32) (rOn : Nat → Int32) (rLe : Nat → Int32) (rRi : Nat → Int32) (rHx : Int64) (rHy : Int64) (rHd : Int64) (rKx : Int64) (rKy : Int64) (rKd : Int64) (p0 : Int32) (p1 : Int32) (Q : Int32 → (Int32) → Prop) (sz : Nat) (h : wp_X5_piece p0 p1 rF rMd rQ rFi rLa rOn rLe rRi Q) : Met l yX5_piece wsX5_piece ({ frames := 0, cells := 0, slots := 0, locals := 0 }) (Prw D k [.ref (aR 0), .int p0, .int p1] (wR k aR rF rS rVx rVy rMd rE rAx rAy rBx rBy rO rP rPx rPy rPd rQ rFi rLa rOn rLe rRi rHx rHy rHd rKx rKy rKd) sz) (va_Qi (fun (r : Int32) (u : (Int32)) => Q r u) (fun (u : (Int32)) t => va_P D vwCl (wR k aR u rS rVx rVy rMd rE rAx rAy rBx rBy rO rP rPx rPy rPd rQ rFi rLa rOn rLe rRi rHx rHy rHd rKx rKy rKd) t.heap ∧ va_D (va_A (wR k aR rF rS rVx rVy rMd rE rAx rAy rBx rBy rO rP rPx rPy rPd rQ rFi rLa rOn rLe rRi rHx rHy rHd rKx rKy rKd) sz) (wR k aR u rS rVx rVy rMd rE rAx rAy rBx rBy rO rP rPx rPy rPd rQ rFi rLa rOn rLe rRi rHx rHy rHd rKx rKy rKd)) (va_A (wR k aR rF rS rVx rVy rMd rE rAx rAy rBx rBy rO rP rPx rPy rPd rQ rFi rLa rOn rLe rRi rHx rHy rHd rKx rKy rKd) sz)) 0 0 (va_A (wR k aR rF rS rVx rVy rMd rE rAx rAy rBx rBy rO rP rPx rPy rPd rQ rFi rLa rOn rLe rRi rHx rHy rHd rKx rKy rKd) sz) := by
  refine Met.ofW (cc := cX5_piece) (maxL := 4) (ret := (some .int)) (by decide) rfl ?_
  intro p e s m args below meth c s₁ B hml hv
  obtain ⟨hav, hsz, hP, hE, hD0⟩ := hv
  subst hsz
  have hx := B.exec
  have hb := B.bytes
  have hr := B.returns
  have hts := atoms_spec (ws := wsX5_piece) B.pre
  have hown : s.vm.findClass RX5 = some m.cls := findClass_of_methodNamed B.named
  have hlocks := B.notSynchronized
  have hK := hE.1
  have hD := hD0.self (sz := s.heap.size)
  generalize hAe : va_A (wR k aR rF rS rVx rVy rMd rE rAx rAy rBx rBy rO rP rPx rPy rPd rQ rFi rLa rOn rLe rRi rHx rHy rHd rKx rKy rKd) s.heap.size = A at hD ⊢
  have hA : ∀ q : Nat, s.heap.size ≤ q → A q := fun q h => by rw [← hAe]; exact Or.inr h
  have hS : va_S A s.heap s.heap [] := va_S.rf
  have hl := lv_entry ([.ref (aR 0), .int p0, .int p1]) (n := 4) (Nat.le_of_ble_eq_true rfl)
  rw [show entryFrame m args 4 = entryFrame m ([.ref (aR 0), .int p0, .int p1] : List Value).toArray 4 by rw [hav]]
  rw [lg_entry_eq]
  refine W.gq (fun GQ hGQ => ?_)
  generalize (lg_sl ([.ref (aR 0), .int p0, .int p1]) ++ List.replicate (4 - (lg_sl ([.ref (aR 0), .int p0, .int p1])).length) Slot.unset).toArray = ls at hl ⊢
  have hl : lv_has ls 4 [(0, .ref (aR 0)), (1, .int p0), (2, .int p1)] := hl
  have hiX5 := (by decide +kernel : ∀ w ∈ wsX50, w ∈ wsX5_piece)
  have f59 := hts (.fieldLink RX5 59 "PlaneOverlayModel" "fault" "I") (by decide +kernel)
  have f56 := hts (.fieldLink RX5 56 "PlaneOverlayModel" "right" "[Z") (by decide +kernel)
  have f52 := hts (.fieldLink RX5 52 "PlaneOverlayModel" "left" "[Z") (by decide +kernel)
  have f49 := hts (.fieldLink RX5 49 "PlaneOverlayModel" "on" "[I") (by decide +kernel)
  have f46 := hts (.fieldLink RX5 46 "PlaneOverlayModel" "last" "[I") (by decide +kernel)
  have f43 := hts (.fieldLink RX5 43 "PlaneOverlayModel" "first" "[I") (by decide +kernel)
  have f132 := hts (.fieldLink RX5 132 "PlaneOverlayModel" "made" "Z") (by decide +kernel)
  have f116 := hts (.fieldLink RX5 116 "PlaneOverlayModel" "pieces" "I") (by decide +kernel)
  have L99 : ∀ (z0 : Int32) (rF : Int32) (H : Heap) (locs : List Loc) (ls : Array Slot), wp_X5_piece_L99 p0 p1 rMd rQ rFi rLa rOn rLe rRi Q  z0 rF → va_P D vwCl (wR k aR rF rS rVx rVy rMd rE rAx rAy rBx rBy rO rP rPx rPy rPd rQ rFi rLa rOn rLe rRi rHx rHy rHd rKx rKy rKd) H → va_D A (wR k aR rF rS rVx rVy rMd rE rAx rAy rBx rBy rO rP rPx rPy rPd rQ rFi rLa rOn rLe rRi rHx rHy rHd rKx rKy rKd) → va_S A s.heap H locs → lv_has ls 4 [] → W p l e (headSpec wsX5_piece ({ frames := 0, cells := 0, slots := 0, locals := 0 })).room s m args below meth c H locs 0 0 GQ (F0 m 99 ls [.int z0]) := by
    intro z0 rF H locs ls h hP hD hS hl
    unfold wp_X5_piece_L99 at h
    rw [hGQ]
    exact W.iret (v := z0) hx hb hr (fun t ht hW => ⟨⟨_, (rF), rfl, h, by rw [ht]; exact hP, hD⟩, hS.F ht⟩) hS.2.2 dX5_piece_99
  have L144 : ∀ (z0 : Int32) (rF : Int32) (H : Heap) (locs : List Loc) (ls : Array Slot), wp_X5_piece_L144 p0 p1 rMd rQ rFi rLa rOn rLe rRi Q  z0 rF → va_P D vwCl (wR k aR rF rS rVx rVy rMd rE rAx rAy rBx rBy rO rP rPx rPy rPd rQ rFi rLa rOn rLe rRi rHx rHy rHd rKx rKy rKd) H → va_D A (wR k aR rF rS rVx rVy rMd rE rAx rAy rBx rBy rO rP rPx rPy rPd rQ rFi rLa rOn rLe rRi rHx rHy rHd rKx rKy rKd) → va_S A s.heap H locs → lv_has ls 4 [] → W p l e (headSpec wsX5_piece ({ frames := 0, cells := 0, slots := 0, locals := 0 })).room s m args below meth c H locs 0 0 GQ (F0 m 144 ls [.int z0]) := by
    intro z0 rF H locs ls h hP hD hS hl
    unfold wp_X5_piece_L144 at h
    rw [hGQ]
    exact W.iret (v := z0) hx hb hr (fun t ht hW => ⟨⟨_, (rF), rfl, h, by rw [ht]; exact hP, hD⟩, hS.F ht⟩) hS.2.2 dX5_piece_144
  have L134 : ∀ (z0 : Int32) (rF : Int32) (H : Heap) (locs : List Loc) (ls : Array Slot), wp_X5_piece_L134 p0 p1 rMd rQ rFi rLa rOn rLe rRi Q  z0 rF → va_P D vwCl (wR k aR rF rS rVx rVy rMd rE rAx rAy rBx rBy rO rP rPx rPy rPd rQ rFi rLa rOn rLe rRi rHx rHy rHd rKx rKy rKd) H → va_D A (wR k aR rF rS rVx rVy rMd rE rAx rAy rBx rBy rO rP rPx rPy rPd rQ rFi rLa rOn rLe rRi rHx rHy rHd rKx rKy rKd) → va_S A s.heap H locs → lv_has ls 4 [] → W p l e (headSpec wsX5_piece ({ frames := 0, cells := 0, slots := 0, locals := 0 })).room s m args below meth c H locs 0 0 GQ (F0 m 134 ls [.int z0]) := by
    intro z0 rF H locs ls h hP hD hS hl
    unfold wp_X5_piece_L134 at h
    refine lv_istore_n (lv' := [(3, .int z0)]) hx hb dX5_piece_134 rfl hl (by decide) rfl (fun ls hl => ?_)
    refine lv_iload_n hx hb dX5_piece_135 rfl (lv_at hl 0 rfl) ?_
    refine lv_if_eq (tgt := 143) hx hb dX5_piece_136 (by decide) (fun cq => ?_) (fun cq => ?_)
    · have h := h.1 cq
      refine lv_iconst (v := (0 : Int32)) hx hb dX5_piece_143 (by decide) ?_
      exact L144 (0 : Int32) rF _ _ _ h hP hD hS (lv_sub hl [] rfl)
    · have h := h.2 cq
      refine lv_iconst (v := (1 : Int32)) hx hb dX5_piece_139 (by decide) ?_
      refine lv_goto (tgt := 144) hx hb dX5_piece_140 (by decide) ?_
      exact L144 (1 : Int32) rF _ _ _ h hP hD hS (lv_sub hl [] rfl)
  have L43 : ∀ (z0 : Int32) (rF : Int32) (H : Heap) (locs : List Loc) (ls : Array Slot), wp_X5_piece_L43 p0 p1 rMd rQ rFi rLa rOn rLe rRi Q  z0 rF → va_P D vwCl (wR k aR rF rS rVx rVy rMd rE rAx rAy rBx rBy rO rP rPx rPy rPd rQ rFi rLa rOn rLe rRi rHx rHy rHd rKx rKy rKd) H → va_D A (wR k aR rF rS rVx rVy rMd rE rAx rAy rBx rBy rO rP rPx rPy rPd rQ rFi rLa rOn rLe rRi rHx rHy rHd rKx rKy rKd) → va_S A s.heap H locs → lv_has ls 4 [(0, .ref (aR 0)), (1, .int p0), (2, .int p1)] → W p l e (headSpec wsX5_piece ({ frames := 0, cells := 0, slots := 0, locals := 0 })).room s m args below meth c H locs 0 0 GQ (F0 m 43 ls [.int z0, .ref (aR 0)]) := by
    intro z0 rF H locs ls h hP hD hS hl
    unfold wp_X5_piece_L43 at h
    refine va_put (D := D) (ci := 5) (v := .int z0) (ty := .int) (C := RX5) (T := TX5) (N := 27) hx hb hts hiX5 tyX5 tyX5_ok nmX5 hown hK hP hD hS 0 rfl rfl 0 (by decide) f59 (fun _ h9 => h9) rfl (by decide +kernel) rfl rfl (Nat.le_of_ble_eq_true rfl) dX5_piece_43 (fun H locs hP hD hS => ?_)
    have hP : va_P D vwCl (wR k aR z0 rS rVx rVy rMd rE rAx rAy rBx rBy rO rP rPx rPy rPd rQ rFi rLa rOn rLe rRi rHx rHy rHd rKx rKy rKd) H := hP
    have hD : va_D A (wR k aR z0 rS rVx rVy rMd rE rAx rAy rBx rBy rO rP rPx rPy rPd rQ rFi rLa rOn rLe rRi rHx rHy rHd rKx rKy rKd) := hD
    refine lv_aload_n hx hb dX5_piece_46 rfl (lv_at hl 0 rfl) ?_
    refine va_get (D := D) (ci := 5) (v := .int z0) (C := RX5) (T := TX5) (N := 27) hx hb hts hiX5 hown hK hP 0 rfl rfl 0 (by decide) f59 (fun _ h9 => h9) rfl dX5_piece_47 ?_
    refine lv_if_le (tgt := 55) hx hb dX5_piece_50 (by decide) (fun cq => ?_) (fun cq => ?_)
    · have h := h.1 cq
      refine lv_iload_n hx hb dX5_piece_55 rfl (lv_at hl 2 rfl) ?_
      refine lv_iconst (v := (4 : Int32)) hx hb dX5_piece_56 (by decide) ?_
      refine lv_icmp_ge (tgt := 100) hx hb dX5_piece_57 (by decide) (fun cq => ?_) (fun cq => ?_)
      · have h := h.1 cq
        refine lv_iload_n hx hb dX5_piece_100 rfl (lv_at hl 2 rfl) ?_
        refine lv_bipush (v := (6 : Int32)) hx hb dX5_piece_101 (by decide) ?_
        refine lv_icmp_ge (tgt := 121) hx hb dX5_piece_103 (by decide) (fun cq => ?_) (fun cq => ?_)
        · have h := h.1 cq
          refine lv_aload_n hx hb dX5_piece_121 rfl (lv_at hl 0 rfl) ?_
          refine va_get (D := D) (ci := 5) (v := .ref (aR 16)) (C := RX5) (T := TX5) (N := 27) hx hb hts hiX5 hown hK hP 0 rfl rfl 20 (by decide) f56 (fun _ h9 => h9) rfl dX5_piece_122 ?_
          refine lv_iconst (v := (2 : Int32)) hx hb dX5_piece_125 (by decide) ?_
          refine lv_iload_n hx hb dX5_piece_126 rfl (lv_at hl 1 rfl) ?_
          refine lv_imul hx hb dX5_piece_127 ?_
          refine lv_iload_n hx hb dX5_piece_128 rfl (lv_at hl 2 rfl) ?_
          refine lv_iadd hx hb dX5_piece_129 ?_
          refine lv_bipush (v := (6 : Int32)) hx hb dX5_piece_130 (by decide) ?_
          refine lv_isub hx hb dX5_piece_132 ?_
          obtain ⟨hin, h⟩ := h
          refine va_zald hx hb hK hP 16 1 rfl rfl hin dX5_piece_133 ?_
          exact L134 (rRi ((((2 : Int32) * p0) + p1) - (6 : Int32)).toNatClampNeg) z0 _ _ _ h hP hD hS (lv_sub hl [] rfl)
        · have h := h.2 cq
          refine lv_aload_n hx hb dX5_piece_106 rfl (lv_at hl 0 rfl) ?_
          refine va_get (D := D) (ci := 5) (v := .ref (aR 15)) (C := RX5) (T := TX5) (N := 27) hx hb hts hiX5 hown hK hP 0 rfl rfl 19 (by decide) f52 (fun _ h9 => h9) rfl dX5_piece_107 ?_
          refine lv_iconst (v := (2 : Int32)) hx hb dX5_piece_110 (by decide) ?_
          refine lv_iload_n hx hb dX5_piece_111 rfl (lv_at hl 1 rfl) ?_
          refine lv_imul hx hb dX5_piece_112 ?_
          refine lv_iload_n hx hb dX5_piece_113 rfl (lv_at hl 2 rfl) ?_
          refine lv_iadd hx hb dX5_piece_114 ?_
          refine lv_iconst (v := (4 : Int32)) hx hb dX5_piece_115 (by decide) ?_
          refine lv_isub hx hb dX5_piece_116 ?_
          obtain ⟨hin, h⟩ := h
          refine va_zald hx hb hK hP 15 1 rfl rfl hin dX5_piece_117 ?_
          refine lv_goto (tgt := 134) hx hb dX5_piece_118 (by decide) ?_
          exact L134 (rLe ((((2 : Int32) * p0) + p1) - (4 : Int32)).toNatClampNeg) z0 _ _ _ h hP hD hS (lv_sub hl [] rfl)
      · have h := h.2 cq
        refine lv_iload_n hx hb dX5_piece_60 rfl (lv_at hl 2 rfl) ?_
        refine lv_if_ne (tgt := 73) hx hb dX5_piece_61 (by decide) (fun cq => ?_) (fun cq => ?_)
        · have h := h.1 cq
          refine lv_iload_n hx hb dX5_piece_73 rfl (lv_at hl 2 rfl) ?_
          refine lv_iconst (v := (1 : Int32)) hx hb dX5_piece_74 (by decide) ?_
          refine lv_icmp_ne (tgt := 87) hx hb dX5_piece_75 (by decide) (fun cq => ?_) (fun cq => ?_)
          · have h := h.1 cq
            refine lv_aload_n hx hb dX5_piece_87 rfl (lv_at hl 0 rfl) ?_
            refine va_get (D := D) (ci := 5) (v := .ref (aR 14)) (C := RX5) (T := TX5) (N := 27) hx hb hts hiX5 hown hK hP 0 rfl rfl 18 (by decide) f49 (fun _ h9 => h9) rfl dX5_piece_88 ?_
            refine lv_iconst (v := (2 : Int32)) hx hb dX5_piece_91 (by decide) ?_
            refine lv_iload_n hx hb dX5_piece_92 rfl (lv_at hl 1 rfl) ?_
            refine lv_imul hx hb dX5_piece_93 ?_
            refine lv_iload_n hx hb dX5_piece_94 rfl (lv_at hl 2 rfl) ?_
            refine lv_iadd hx hb dX5_piece_95 ?_
            refine lv_iconst (v := (2 : Int32)) hx hb dX5_piece_96 (by decide) ?_
            refine lv_isub hx hb dX5_piece_97 ?_
            obtain ⟨hin, h⟩ := h
            refine va_iald hx hb hK hP 14 0 rfl rfl hin dX5_piece_98 ?_
            exact L99 (rOn ((((2 : Int32) * p0) + p1) - (2 : Int32)).toNatClampNeg) z0 _ _ _ h hP hD hS (lv_sub hl [] rfl)
          · have h := h.2 cq
            refine lv_aload_n hx hb dX5_piece_78 rfl (lv_at hl 0 rfl) ?_
            refine va_get (D := D) (ci := 5) (v := .ref (aR 13)) (C := RX5) (T := TX5) (N := 27) hx hb hts hiX5 hown hK hP 0 rfl rfl 17 (by decide) f46 (fun _ h9 => h9) rfl dX5_piece_79 ?_
            refine lv_iload_n hx hb dX5_piece_82 rfl (lv_at hl 1 rfl) ?_
            obtain ⟨hin, h⟩ := h
            refine va_iald hx hb hK hP 13 0 rfl rfl hin dX5_piece_83 ?_
            refine lv_goto (tgt := 99) hx hb dX5_piece_84 (by decide) ?_
            exact L99 (rLa p0.toNatClampNeg) z0 _ _ _ h hP hD hS (lv_sub hl [] rfl)
        · have h := h.2 cq
          refine lv_aload_n hx hb dX5_piece_64 rfl (lv_at hl 0 rfl) ?_
          refine va_get (D := D) (ci := 5) (v := .ref (aR 12)) (C := RX5) (T := TX5) (N := 27) hx hb hts hiX5 hown hK hP 0 rfl rfl 16 (by decide) f43 (fun _ h9 => h9) rfl dX5_piece_65 ?_
          refine lv_iload_n hx hb dX5_piece_68 rfl (lv_at hl 1 rfl) ?_
          obtain ⟨hin, h⟩ := h
          refine va_iald hx hb hK hP 12 0 rfl rfl hin dX5_piece_69 ?_
          refine lv_goto (tgt := 99) hx hb dX5_piece_70 (by decide) ?_
          exact L99 (rFi p0.toNatClampNeg) z0 _ _ _ h hP hD hS (lv_sub hl [] rfl)
    · have h := h.2 cq
      refine lv_iconst (v := (0 : Int32)) hx hb dX5_piece_53 (by decide) ?_
      rw [hGQ]
      exact W.iret (v := (0 : Int32)) hx hb hr (fun t ht hW => ⟨⟨_, (z0), rfl, h, by rw [ht]; exact hP, hD⟩, hS.F ht⟩) hS.2.2 dX5_piece_54
  have L24 : ∀ (rF : Int32) (H : Heap) (locs : List Loc) (ls : Array Slot), wp_X5_piece_L24 p0 p1 rMd rQ rFi rLa rOn rLe rRi Q  rF → va_P D vwCl (wR k aR rF rS rVx rVy rMd rE rAx rAy rBx rBy rO rP rPx rPy rPd rQ rFi rLa rOn rLe rRi rHx rHy rHd rKx rKy rKd) H → va_D A (wR k aR rF rS rVx rVy rMd rE rAx rAy rBx rBy rO rP rPx rPy rPd rQ rFi rLa rOn rLe rRi rHx rHy rHd rKx rKy rKd) → va_S A s.heap H locs → lv_has ls 4 [(0, .ref (aR 0)), (1, .int p0), (2, .int p1)] → W p l e (headSpec wsX5_piece ({ frames := 0, cells := 0, slots := 0, locals := 0 })).room s m args below meth c H locs 0 0 GQ (F0 m 24 ls [.ref (aR 0)]) := by
    intro rF H locs ls h hP hD hS hl
    unfold wp_X5_piece_L24 at h
    refine lv_iconst (v := (2 : Int32)) hx hb dX5_piece_24 (by decide) ?_
    refine lv_goto (tgt := 43) hx hb dX5_piece_25 (by decide) ?_
    exact L43 (2 : Int32) rF _ _ _ h hP hD hS (lv_sub hl [0, 1, 2] rfl)
  have L38 : ∀ (rF : Int32) (H : Heap) (locs : List Loc) (ls : Array Slot), wp_X5_piece_L38 p0 p1 rMd rQ rFi rLa rOn rLe rRi Q  rF → va_P D vwCl (wR k aR rF rS rVx rVy rMd rE rAx rAy rBx rBy rO rP rPx rPy rPd rQ rFi rLa rOn rLe rRi rHx rHy rHd rKx rKy rKd) H → va_D A (wR k aR rF rS rVx rVy rMd rE rAx rAy rBx rBy rO rP rPx rPy rPd rQ rFi rLa rOn rLe rRi rHx rHy rHd rKx rKy rKd) → va_S A s.heap H locs → lv_has ls 4 [(0, .ref (aR 0)), (1, .int p0), (2, .int p1)] → W p l e (headSpec wsX5_piece ({ frames := 0, cells := 0, slots := 0, locals := 0 })).room s m args below meth c H locs 0 0 GQ (F0 m 38 ls [.ref (aR 0)]) := by
    intro rF H locs ls h hP hD hS hl
    unfold wp_X5_piece_L38 at h
    refine lv_iconst (v := (3 : Int32)) hx hb dX5_piece_38 (by decide) ?_
    refine lv_goto (tgt := 43) hx hb dX5_piece_39 (by decide) ?_
    exact L43 (3 : Int32) rF _ _ _ h hP hD hS (lv_sub hl [0, 1, 2] rfl)
  unfold wp_X5_piece at h
  refine lv_aload_n hx hb dX5_piece_0 rfl (lv_at hl 0 rfl) ?_
  refine lv_aload_n hx hb dX5_piece_1 rfl (lv_at hl 0 rfl) ?_
  refine va_get (D := D) (ci := 5) (v := .int rMd) (C := RX5) (T := TX5) (N := 27) hx hb hts hiX5 hown hK hP 0 rfl rfl 4 (by decide) f132 (fun _ h9 => h9) rfl dX5_piece_2 ?_
  refine lv_if_ne (tgt := 12) hx hb dX5_piece_5 (by decide) (fun cq => ?_) (fun cq => ?_)
  · have h := h.1 cq
    refine lv_iload_n hx hb dX5_piece_12 rfl (lv_at hl 1 rfl) ?_
    refine lv_if_lt (tgt := 24) hx hb dX5_piece_13 (by decide) (fun cq => ?_) (fun cq => ?_)
    · have h := h.1 cq
      exact L24 rF _ _ _ h hP hD hS (lv_sub hl [0, 1, 2] rfl)
    · have h := h.2 cq
      refine lv_iload_n hx hb dX5_piece_16 rfl (lv_at hl 1 rfl) ?_
      refine lv_aload_n hx hb dX5_piece_17 rfl (lv_at hl 0 rfl) ?_
      refine va_get (D := D) (ci := 5) (v := .int rQ) (C := RX5) (T := TX5) (N := 27) hx hb hts hiX5 hown hK hP 0 rfl rfl 15 (by decide) f116 (fun _ h9 => h9) rfl dX5_piece_18 ?_
      refine lv_icmp_lt (tgt := 28) hx hb dX5_piece_21 (by decide) (fun cq => ?_) (fun cq => ?_)
      · have h := h.1 cq
        refine lv_iload_n hx hb dX5_piece_28 rfl (lv_at hl 2 rfl) ?_
        refine lv_if_lt (tgt := 38) hx hb dX5_piece_29 (by decide) (fun cq => ?_) (fun cq => ?_)
        · have h := h.1 cq
          exact L38 rF _ _ _ h hP hD hS (lv_sub hl [0, 1, 2] rfl)
        · have h := h.2 cq
          refine lv_iload_n hx hb dX5_piece_32 rfl (lv_at hl 2 rfl) ?_
          refine lv_bipush (v := (7 : Int32)) hx hb dX5_piece_33 (by decide) ?_
          refine lv_icmp_le (tgt := 42) hx hb dX5_piece_35 (by decide) (fun cq => ?_) (fun cq => ?_)
          · have h := h.1 cq
            refine lv_iconst (v := (0 : Int32)) hx hb dX5_piece_42 (by decide) ?_
            exact L43 (0 : Int32) rF _ _ _ h hP hD hS (lv_sub hl [0, 1, 2] rfl)
          · have h := h.2 cq
            exact L38 rF _ _ _ h hP hD hS (lv_sub hl [0, 1, 2] rfl)
      · have h := h.2 cq
        exact L24 rF _ _ _ h hP hD hS (lv_sub hl [0, 1, 2] rfl)
  · have h := h.2 cq
    refine lv_iconst (v := (1 : Int32)) hx hb dX5_piece_8 (by decide) ?_
    refine lv_goto (tgt := 43) hx hb dX5_piece_9 (by decide) ?_
    exact L43 (1 : Int32) rF _ _ _ h hP hD hS (lv_sub hl [0, 1, 2] rfl)
set_option maxHeartbeats 4000000 in
set_option maxRecDepth 100000 in
theorem m_X5_noEdges (l : Launch) (D : va_G) (k : Nat → ClassId) (aR : Nat → Nat) (rF : Int32) (rS : Nat → Int32) (rVx : Nat → Int32) (rVy : Nat → Int32) (rMd : Int32) (rE : Int32) (rAx : Nat → Int32) (rAy : Nat → Int32) (rBx : Nat → Int32) (rBy : Nat → Int32) (rO : Nat → Int32) (rP : Int32) (rPx : Nat → Int32) (rPy : Nat → Int32) (rPd : Nat → Int32) (rQ : Int32) (rFi : Nat → Int32) (rLa : Nat → Int32) (rOn : Nat → Int32) (rLe : Nat → Int32) (rRi : Nat → Int32) (rHx : Int64) (rHy : Int64) (rHd : Int64) (rKx : Int64) (rKy : Int64) (rKd : Int64) (p0 : Int32) (p1 : Int32) (Q : Int32 → Prop) (h : wp_X5_noEdges p0 p1 rE Q) : Met l yX5_noEdges wsX5_noEdges ({ frames := 0, cells := 0, slots := 0, locals := 0 }) (Pro D k [.ref (aR 0), .int p0, .int p1] (wR k aR rF rS rVx rVy rMd rE rAx rAy rBx rBy rO rP rPx rPy rPd rQ rFi rLa rOn rLe rRi rHx rHy rHd rKx rKy rKd)) (vp_Si Q) 0 0 (fun _ => False) := by
  refine Met.ofW (cc := cX5_noEdges) (maxL := 3) (ret := (some .boolean)) (by decide) rfl ?_
  intro p e s m args below meth c s₁ B hml hv
  obtain ⟨hav, hP, hE⟩ := hv
  have hx := B.exec
  have hb := B.bytes
  have hr := B.returns
  have hts := atoms_spec (ws := wsX5_noEdges) B.pre
  have hown : s.vm.findClass RX5 = some m.cls := findClass_of_methodNamed B.named
  have hlocks := B.notSynchronized
  have hK := hE.1
  have hl := lv_entry ([.ref (aR 0), .int p0, .int p1]) (n := 3) (Nat.le_of_ble_eq_true rfl)
  rw [show entryFrame m args 3 = entryFrame m ([.ref (aR 0), .int p0, .int p1] : List Value).toArray 3 by rw [hav]]
  rw [lg_entry_eq]
  refine W.gq (fun GQ hGQ => ?_)
  generalize (lg_sl ([.ref (aR 0), .int p0, .int p1]) ++ List.replicate (3 - (lg_sl ([.ref (aR 0), .int p0, .int p1])).length) Slot.unset).toArray = ls at hl ⊢
  have hl : lv_has ls 3 [(0, .ref (aR 0)), (1, .int p0), (2, .int p1)] := hl
  have hiX5 := (by decide +kernel : ∀ w ∈ wsX50, w ∈ wsX5_noEdges)
  have f92 := hts (.fieldLink RX5 92 "PlaneOverlayModel" "edges" "I") (by decide +kernel)
  have L29 : ∀ (z0 : Int32) (ls : Array Slot), wp_X5_noEdges_L29 p0 p1 rE Q  z0 → lv_has ls 3 [] → W p l e (headSpec wsX5_noEdges ({ frames := 0, cells := 0, slots := 0, locals := 0 })).room s m args below meth c s.heap [] 0 0 GQ (F0 m 29 ls [.int z0]) := by
    intro z0 ls h hl
    unfold wp_X5_noEdges_L29 at h
    obtain ⟨hnr, h⟩ := h
    rw [hGQ]
    exact W.zret (v := z0) hx hb hr hnr (fun t ht hW => ⟨_, rfl, h, ht⟩) (fun _ h => by cases h) dX5_noEdges_29
  have L24 : ∀  (ls : Array Slot), wp_X5_noEdges_L24 p0 p1 rE Q   → lv_has ls 3 [] → W p l e (headSpec wsX5_noEdges ({ frames := 0, cells := 0, slots := 0, locals := 0 })).room s m args below meth c s.heap [] 0 0 GQ (F0 m 24 ls []) := by
    intro  ls h hl
    unfold wp_X5_noEdges_L24 at h
    refine lv_iconst (v := (1 : Int32)) hx hb dX5_noEdges_24 (by decide) ?_
    refine lv_goto (tgt := 29) hx hb dX5_noEdges_25 (by decide) ?_
    exact L29 (1 : Int32) _ h (lv_sub hl [] rfl)
  unfold wp_X5_noEdges at h
  refine lv_iload_n hx hb dX5_noEdges_0 rfl (lv_at hl 1 rfl) ?_
  refine lv_if_lt (tgt := 24) hx hb dX5_noEdges_1 (by decide) (fun cq => ?_) (fun cq => ?_)
  · have h := h.1 cq
    exact L24  _ h (lv_sub hl [] rfl)
  · have h := h.2 cq
    refine lv_iload_n hx hb dX5_noEdges_4 rfl (lv_at hl 1 rfl) ?_
    refine lv_aload_n hx hb dX5_noEdges_5 rfl (lv_at hl 0 rfl) ?_
    refine va_get (D := D) (ci := 5) (v := .int rE) (C := RX5) (T := TX5) (N := 27) hx hb hts hiX5 hown hK hP 0 rfl rfl 5 (by decide) f92 (fun _ h9 => h9) rfl dX5_noEdges_6 ?_
    refine lv_icmp_ge (tgt := 24) hx hb dX5_noEdges_9 (by decide) (fun cq => ?_) (fun cq => ?_)
    · have h := h.1 cq
      exact L24  _ h (lv_sub hl [] rfl)
    · have h := h.2 cq
      refine lv_iload_n hx hb dX5_noEdges_12 rfl (lv_at hl 2 rfl) ?_
      refine lv_if_lt (tgt := 24) hx hb dX5_noEdges_13 (by decide) (fun cq => ?_) (fun cq => ?_)
      · have h := h.1 cq
        exact L24  _ h (lv_sub hl [] rfl)
      · have h := h.2 cq
        refine lv_iload_n hx hb dX5_noEdges_16 rfl (lv_at hl 2 rfl) ?_
        refine lv_aload_n hx hb dX5_noEdges_17 rfl (lv_at hl 0 rfl) ?_
        refine va_get (D := D) (ci := 5) (v := .int rE) (C := RX5) (T := TX5) (N := 27) hx hb hts hiX5 hown hK hP 0 rfl rfl 5 (by decide) f92 (fun _ h9 => h9) rfl dX5_noEdges_18 ?_
        refine lv_icmp_lt (tgt := 28) hx hb dX5_noEdges_21 (by decide) (fun cq => ?_) (fun cq => ?_)
        · have h := h.1 cq
          refine lv_iconst (v := (0 : Int32)) hx hb dX5_noEdges_28 (by decide) ?_
          exact L29 (0 : Int32) _ h (lv_sub hl [] rfl)
        · have h := h.2 cq
          exact L24  _ h (lv_sub hl [] rfl)
set_option maxHeartbeats 4000000 in
set_option maxRecDepth 100000 in
theorem m_X5_common (l : Launch) (D : va_G) (k : Nat → ClassId) (aR : Nat → Nat) (rF : Int32) (rS : Nat → Int32) (rVx : Nat → Int32) (rVy : Nat → Int32) (rMd : Int32) (rE : Int32) (rAx : Nat → Int32) (rAy : Nat → Int32) (rBx : Nat → Int32) (rBy : Nat → Int32) (rO : Nat → Int32) (rP : Int32) (rPx : Nat → Int32) (rPy : Nat → Int32) (rPd : Nat → Int32) (rQ : Int32) (rFi : Nat → Int32) (rLa : Nat → Int32) (rOn : Nat → Int32) (rLe : Nat → Int32) (rRi : Nat → Int32) (rHx : Int64) (rHy : Int64) (rHd : Int64) (rKx : Int64) (rKy : Int64) (rKd : Int64) (p0 : Int32) (p1 : Int32) (Q : Int32 → (Int32) → (Int64) → (Int64) → (Int64) → (Int64) → (Int64) → (Int64) → Prop) (sz : Nat) (h : wp_X5_common p0 p1 rF rMd rE rAx rAy rBx rBy rHx rHy rHd rKx rKy rKd Q) : Met l yX5_common wsX5_common ({ frames := 3, cells := 0, slots := 0, locals := 98 }) (Prw D k [.ref (aR 0), .int p0, .int p1] (wR k aR rF rS rVx rVy rMd rE rAx rAy rBx rBy rO rP rPx rPy rPd rQ rFi rLa rOn rLe rRi rHx rHy rHd rKx rKy rKd) sz) (va_Qi (fun (r : Int32) (u : (Int32) × (Int64) × (Int64) × (Int64) × (Int64) × (Int64) × (Int64)) => Q r u.1 u.2.1 u.2.2.1 u.2.2.2.1 u.2.2.2.2.1 u.2.2.2.2.2.1 u.2.2.2.2.2.2) (fun (u : (Int32) × (Int64) × (Int64) × (Int64) × (Int64) × (Int64) × (Int64)) t => va_P D vwCl (wR k aR (u.1) rS rVx rVy rMd rE rAx rAy rBx rBy rO rP rPx rPy rPd rQ rFi rLa rOn rLe rRi (u.2.1) (u.2.2.1) (u.2.2.2.1) (u.2.2.2.2.1) (u.2.2.2.2.2.1) (u.2.2.2.2.2.2)) t.heap ∧ va_D (va_A (wR k aR rF rS rVx rVy rMd rE rAx rAy rBx rBy rO rP rPx rPy rPd rQ rFi rLa rOn rLe rRi rHx rHy rHd rKx rKy rKd) sz) (wR k aR (u.1) rS rVx rVy rMd rE rAx rAy rBx rBy rO rP rPx rPy rPd rQ rFi rLa rOn rLe rRi (u.2.1) (u.2.2.1) (u.2.2.2.1) (u.2.2.2.2.1) (u.2.2.2.2.2.1) (u.2.2.2.2.2.2))) (va_A (wR k aR rF rS rVx rVy rMd rE rAx rAy rBx rBy rO rP rPx rPy rPd rQ rFi rLa rOn rLe rRi rHx rHy rHd rKx rKy rKd) sz)) 0 0 (va_A (wR k aR rF rS rVx rVy rMd rE rAx rAy rBx rBy rO rP rPx rPy rPd rQ rFi rLa rOn rLe rRi rHx rHy rHd rKx rKy rKd) sz) := by
  refine Met.ofW (cc := cX5_common) (maxL := 3) (ret := (some .int)) (by decide) rfl ?_
  intro p e s m args below meth c s₁ B hml hv
  obtain ⟨hav, hsz, hP, hE, hD0⟩ := hv
  subst hsz
  have hx := B.exec
  have hb := B.bytes
  have hr := B.returns
  have hts := atoms_spec (ws := wsX5_common) B.pre
  have hown : s.vm.findClass RX5 = some m.cls := findClass_of_methodNamed B.named
  have hlocks := B.notSynchronized
  have hK := hE.1
  have hD := hD0.self (sz := s.heap.size)
  generalize hAe : va_A (wR k aR rF rS rVx rVy rMd rE rAx rAy rBx rBy rO rP rPx rPy rPd rQ rFi rLa rOn rLe rRi rHx rHy rHd rKx rKy rKd) s.heap.size = A at hD ⊢
  have hA : ∀ q : Nat, s.heap.size ≤ q → A q := fun q h => by rw [← hAe]; exact Or.inr h
  have hS : va_S A s.heap s.heap [] := va_S.rf
  have hl := lv_entry ([.ref (aR 0), .int p0, .int p1]) (n := 3) (Nat.le_of_ble_eq_true rfl)
  rw [show entryFrame m args 3 = entryFrame m ([.ref (aR 0), .int p0, .int p1] : List Value).toArray 3 by rw [hav]]
  rw [lg_entry_eq]
  refine W.gq (fun GQ hGQ => ?_)
  generalize (lg_sl ([.ref (aR 0), .int p0, .int p1]) ++ List.replicate (3 - (lg_sl ([.ref (aR 0), .int p0, .int p1])).length) Slot.unset).toArray = ls at hl ⊢
  have hl : lv_has ls 3 [(0, .ref (aR 0)), (1, .int p0), (2, .int p1)] := hl
  have hiX5 := (by decide +kernel : ∀ w ∈ wsX50, w ∈ wsX5_common)
  have f59 := hts (.fieldLink RX5 59 "PlaneOverlayModel" "fault" "I") (by decide +kernel)
  have f132 := hts (.fieldLink RX5 132 "PlaneOverlayModel" "made" "Z") (by decide +kernel)
  have L51 : ∀ (z0 : Int32) (rF : Int32) (rHx : Int64) (rHy : Int64) (rHd : Int64) (rKx : Int64) (rKy : Int64) (rKd : Int64) (H : Heap) (locs : List Loc) (ls : Array Slot), wp_X5_common_L51 p0 p1 rMd rE rAx rAy rBx rBy Q  z0 rF rHx rHy rHd rKx rKy rKd → va_P D vwCl (wR k aR rF rS rVx rVy rMd rE rAx rAy rBx rBy rO rP rPx rPy rPd rQ rFi rLa rOn rLe rRi rHx rHy rHd rKx rKy rKd) H → va_D A (wR k aR rF rS rVx rVy rMd rE rAx rAy rBx rBy rO rP rPx rPy rPd rQ rFi rLa rOn rLe rRi rHx rHy rHd rKx rKy rKd) → va_S A s.heap H locs → lv_has ls 3 [] → W p l e (headSpec wsX5_common ({ frames := 3, cells := 0, slots := 0, locals := 98 })).room s m args below meth c H locs 0 0 GQ (F0 m 51 ls [.int z0]) := by
    intro z0 rF rHx rHy rHd rKx rKy rKd H locs ls h hP hD hS hl
    unfold wp_X5_common_L51 at h
    rw [hGQ]
    exact W.iret (v := z0) hx hb hr (fun t ht hW => ⟨⟨_, (rF, rHx, rHy, rHd, rKx, rKy, rKd), rfl, h, by rw [ht]; exact hP, hD⟩, hS.F ht⟩) hS.2.2 dX5_common_51
  have L41 : ∀ (rF : Int32) (rHx : Int64) (rHy : Int64) (rHd : Int64) (rKx : Int64) (rKy : Int64) (rKd : Int64) (H : Heap) (locs : List Loc) (ls : Array Slot), wp_X5_common_L41 p0 p1 rMd rE rAx rAy rBx rBy Q  rF rHx rHy rHd rKx rKy rKd → va_P D vwCl (wR k aR rF rS rVx rVy rMd rE rAx rAy rBx rBy rO rP rPx rPy rPd rQ rFi rLa rOn rLe rRi rHx rHy rHd rKx rKy rKd) H → va_D A (wR k aR rF rS rVx rVy rMd rE rAx rAy rBx rBy rO rP rPx rPy rPd rQ rFi rLa rOn rLe rRi rHx rHy rHd rKx rKy rKd) → va_S A s.heap H locs → lv_has ls 3 [] → W p l e (headSpec wsX5_common ({ frames := 3, cells := 0, slots := 0, locals := 98 })).room s m args below meth c H locs 0 0 GQ (F0 m 41 ls []) := by
    intro rF rHx rHy rHd rKx rKy rKd H locs ls h hP hD hS hl
    unfold wp_X5_common_L41 at h
    refine lv_iconst (v := (0 : Int32)) hx hb dX5_common_41 (by decide) ?_
    refine lv_goto (tgt := 51) hx hb dX5_common_42 (by decide) ?_
    exact L51 (0 : Int32) rF rHx rHy rHd rKx rKy rKd _ _ _ h hP hD hS (lv_sub hl [] rfl)
  have L26 : ∀ (z0 : Int32) (rF : Int32) (rHx : Int64) (rHy : Int64) (rHd : Int64) (rKx : Int64) (rKy : Int64) (rKd : Int64) (H : Heap) (locs : List Loc) (ls : Array Slot), wp_X5_common_L26 p0 p1 rMd rE rAx rAy rBx rBy Q  z0 rF rHx rHy rHd rKx rKy rKd → va_P D vwCl (wR k aR rF rS rVx rVy rMd rE rAx rAy rBx rBy rO rP rPx rPy rPd rQ rFi rLa rOn rLe rRi rHx rHy rHd rKx rKy rKd) H → va_D A (wR k aR rF rS rVx rVy rMd rE rAx rAy rBx rBy rO rP rPx rPy rPd rQ rFi rLa rOn rLe rRi rHx rHy rHd rKx rKy rKd) → va_S A s.heap H locs → lv_has ls 3 [(0, .ref (aR 0)), (1, .int p0), (2, .int p1)] → W p l e (headSpec wsX5_common ({ frames := 3, cells := 0, slots := 0, locals := 98 })).room s m args below meth c H locs 0 0 GQ (F0 m 26 ls [.int z0, .ref (aR 0)]) := by
    intro z0 rF rHx rHy rHd rKx rKy rKd H locs ls h hP hD hS hl
    unfold wp_X5_common_L26 at h
    refine va_put (D := D) (ci := 5) (v := .int z0) (ty := .int) (C := RX5) (T := TX5) (N := 27) hx hb hts hiX5 tyX5 tyX5_ok nmX5 hown hK hP hD hS 0 rfl rfl 0 (by decide) f59 (fun _ h9 => h9) rfl (by decide +kernel) rfl rfl (Nat.le_of_ble_eq_true rfl) dX5_common_26 (fun H locs hP hD hS => ?_)
    have hP : va_P D vwCl (wR k aR z0 rS rVx rVy rMd rE rAx rAy rBx rBy rO rP rPx rPy rPd rQ rFi rLa rOn rLe rRi rHx rHy rHd rKx rKy rKd) H := hP
    have hD : va_D A (wR k aR z0 rS rVx rVy rMd rE rAx rAy rBx rBy rO rP rPx rPy rPd rQ rFi rLa rOn rLe rRi rHx rHy rHd rKx rKy rKd) := hD
    refine lv_aload_n hx hb dX5_common_29 rfl (lv_at hl 0 rfl) ?_
    refine va_get (D := D) (ci := 5) (v := .int z0) (C := RX5) (T := TX5) (N := 27) hx hb hts hiX5 hown hK hP 0 rfl rfl 0 (by decide) f59 (fun _ h9 => h9) rfl dX5_common_30 ?_
    refine lv_if_gt (tgt := 41) hx hb dX5_common_33 (by decide) (fun cq => ?_) (fun cq => ?_)
    · have h := h.1 cq
      exact L41 z0 rHx rHy rHd rKx rKy rKd _ _ _ h hP hD hS (lv_sub hl [] rfl)
    · have h := h.2 cq
      refine lv_iload_n hx hb dX5_common_36 rfl (lv_at hl 1 rfl) ?_
      refine lv_iload_n hx hb dX5_common_37 rfl (lv_at hl 2 rfl) ?_
      refine lv_icmp_ne (tgt := 45) hx hb dX5_common_38 (by decide) (fun cq => ?_) (fun cq => ?_)
      · have h := h.1 cq
        refine lv_aload_n hx hb dX5_common_45 rfl (lv_at hl 0 rfl) ?_
        refine lv_iload_n hx hb dX5_common_46 rfl (lv_at hl 1 rfl) ?_
        refine lv_iload_n hx hb dX5_common_47 rfl (lv_at hl 2 rfl) ?_
        have hFc := va_free (wc := wR k aR z0 rS rVx rVy rMd rE rAx rAy rBx rBy rO rP rPx rPy rPd rQ rFi rLa rOn rLe rRi rHx rHy rHd rKx rKy rKd) hD hS hA [0, 1, 2, 3, 4, 5, 6, 7, 8, 9, 10, 11, 12, 13, 14, 15, 16] rfl
        refine va_calli (va_runV (C := RX5) (b := (aR 0)) (As := [.int p0, .int p1]) (rest := []) ⟨hx, hb, hml, hown, hts⟩ (m_X5_meet l D k aR z0 rS rVx rVy rMd rE rAx rAy rBx rBy rO rP rPx rPy rPd rQ rFi rLa rOn rLe rRi rHx rHy rHd rKx rKy rKd p0 p1 _ _ h) (cwV 2 hts gX5_common_X5_meet rfl rfl rfl (by decide +kernel) ⟨Nat.le_of_ble_eq_true rfl, Nat.le_of_ble_eq_true rfl⟩) (preV_rw (ci := 5) (q0 := 0) (C := RX5) (T := TX5) (N := 27) hE hP hD rfl rfl) rfl rfl hl.1 rfl (lv_room (Nat.le_of_ble_eq_true rfl)) dX5_common_48 ⟨Nat.le_of_ble_eq_true rfl, Nat.le_of_ble_eq_true rfl⟩) hS (fun q _ h => hFc q h) hFc (fun r48 u t H1 locs ht hvm h hB hz1 hk1 hS => ?_)
        obtain ⟨rHx_48, rHy_48, rHd_48, rKx_48, rKy_48, rKd_48⟩ := u
        obtain ⟨hP1, hD1⟩ := hB
        rw [ht] at hP1
        obtain ⟨hP, hD⟩ := va_join (wr := ([] : va_W)) (w1 := wR k aR z0 rS rVx rVy rMd rE rAx rAy rBx rBy rO rP rPx rPy rPd rQ rFi rLa rOn rLe rRi rHx_48 rHy_48 rHd_48 rKx_48 rKy_48 rKd_48) hP hD [0, 1, 2, 3, 4, 5, 6, 7, 8, 9, 10, 11, 12, 13, 14, 15, 16] [] rfl rfl (by decide) (by decide) hk1 hFc hP1 hD1
        generalize H1 = H at hP hS ⊢
        have hP : va_P D vwCl (wR k aR z0 rS rVx rVy rMd rE rAx rAy rBx rBy rO rP rPx rPy rPd rQ rFi rLa rOn rLe rRi rHx_48 rHy_48 rHd_48 rKx_48 rKy_48 rKd_48) H := hP.sub [0, 1, 2, 3, 4, 5, 6, 7, 8, 9, 10, 11, 12, 13, 14, 15, 16] rfl
        have hD : va_D A (wR k aR z0 rS rVx rVy rMd rE rAx rAy rBx rBy rO rP rPx rPy rPd rQ rFi rLa rOn rLe rRi rHx_48 rHy_48 rHd_48 rKx_48 rKy_48 rKd_48) := hD.sub [0, 1, 2, 3, 4, 5, 6, 7, 8, 9, 10, 11, 12, 13, 14, 15, 16] (by decide) rfl
        exact L51 r48 z0 rHx_48 rHy_48 rHd_48 rKx_48 rKy_48 rKd_48 _ _ _ h hP hD hS (lv_sub hl [] rfl)
      · have h := h.2 cq
        exact L41 z0 rHx rHy rHd rKx rKy rKd _ _ _ h hP hD hS (lv_sub hl [] rfl)
  unfold wp_X5_common at h
  refine lv_aload_n hx hb dX5_common_0 rfl (lv_at hl 0 rfl) ?_
  refine lv_aload_n hx hb dX5_common_1 rfl (lv_at hl 0 rfl) ?_
  refine va_get (D := D) (ci := 5) (v := .int rMd) (C := RX5) (T := TX5) (N := 27) hx hb hts hiX5 hown hK hP 0 rfl rfl 4 (by decide) f132 (fun _ h9 => h9) rfl dX5_common_2 ?_
  refine lv_if_ne (tgt := 12) hx hb dX5_common_5 (by decide) (fun cq => ?_) (fun cq => ?_)
  · have h := h.1 cq
    refine lv_aload_n hx hb dX5_common_12 rfl (lv_at hl 0 rfl) ?_
    refine lv_iload_n hx hb dX5_common_13 rfl (lv_at hl 1 rfl) ?_
    refine lv_iload_n hx hb dX5_common_14 rfl (lv_at hl 2 rfl) ?_
    refine vp_callSi (W.runV (C := RX5) (b := (aR 0)) (As := [.int p0, .int p1]) (rest := [.ref (aR 0)]) ⟨hx, hb, hml, hown, hts⟩ (m_X5_noEdges l D k aR rF rS rVx rVy rMd rE rAx rAy rBx rBy rO rP rPx rPy rPd rQ rFi rLa rOn rLe rRi rHx rHy rHd rKx rKy rKd p0 p1 _ h) (cwV 2 hts gX5_common_X5_noEdges rfl rfl rfl (by decide +kernel) ⟨Nat.le_of_ble_eq_true rfl, Nat.le_of_ble_eq_true rfl⟩) (preV_ro (ci := 5) (q0 := 0) (C := RX5) (T := TX5) (N := 27) hE hP rfl rfl) rfl rfl hl.1 rfl (lv_room (Nat.le_of_ble_eq_true rfl)) dX5_common_15 ⟨Nat.le_of_ble_eq_true rfl, Nat.le_of_ble_eq_true rfl⟩) (fun r15 h => ?_)
    refine lv_if_eq (tgt := 25) hx hb dX5_common_18 (by decide) (fun cq => ?_) (fun cq => ?_)
    · have h := h.1 cq
      refine lv_iconst (v := (0 : Int32)) hx hb dX5_common_25 (by decide) ?_
      exact L26 (0 : Int32) rF rHx rHy rHd rKx rKy rKd _ _ _ h hP hD hS (lv_sub hl [0, 1, 2] rfl)
    · have h := h.2 cq
      refine lv_iconst (v := (2 : Int32)) hx hb dX5_common_21 (by decide) ?_
      refine lv_goto (tgt := 26) hx hb dX5_common_22 (by decide) ?_
      exact L26 (2 : Int32) rF rHx rHy rHd rKx rKy rKd _ _ _ h hP hD hS (lv_sub hl [0, 1, 2] rfl)
  · have h := h.2 cq
    refine lv_iconst (v := (1 : Int32)) hx hb dX5_common_8 (by decide) ?_
    refine lv_goto (tgt := 26) hx hb dX5_common_9 (by decide) ?_
    exact L26 (1 : Int32) rF rHx rHy rHd rKx rKy rKd _ _ _ h hP hD hS (lv_sub hl [0, 1, 2] rfl)
set_option maxHeartbeats 4000000 in
set_option maxRecDepth 100000 in
theorem m_X5_shared (l : Launch) (D : va_G) (k : Nat → ClassId) (aR : Nat → Nat) (rF : Int32) (rS : Nat → Int32) (rVx : Nat → Int32) (rVy : Nat → Int32) (rMd : Int32) (rE : Int32) (rAx : Nat → Int32) (rAy : Nat → Int32) (rBx : Nat → Int32) (rBy : Nat → Int32) (rO : Nat → Int32) (rP : Int32) (rPx : Nat → Int32) (rPy : Nat → Int32) (rPd : Nat → Int32) (rQ : Int32) (rFi : Nat → Int32) (rLa : Nat → Int32) (rOn : Nat → Int32) (rLe : Nat → Int32) (rRi : Nat → Int32) (rHx : Int64) (rHy : Int64) (rHd : Int64) (rKx : Int64) (rKy : Int64) (rKd : Int64) (p0 : Int32) (p1 : Int32) (p2 : Int32) (Q : Int32 → (Int32) → (Int64) → (Int64) → (Int64) → (Int64) → (Int64) → (Int64) → Prop) (sz : Nat) (h : wp_X5_shared p0 p1 p2 rF rMd rE rAx rAy rBx rBy rP rPx rPy rPd rHx rHy rHd rKx rKy rKd Q) : Met l yX5_shared wsX5_shared ({ frames := 3, cells := 0, slots := 0, locals := 98 }) (Prw D k [.ref (aR 0), .int p0, .int p1, .int p2] (wR k aR rF rS rVx rVy rMd rE rAx rAy rBx rBy rO rP rPx rPy rPd rQ rFi rLa rOn rLe rRi rHx rHy rHd rKx rKy rKd) sz) (va_Qi (fun (r : Int32) (u : (Int32) × (Int64) × (Int64) × (Int64) × (Int64) × (Int64) × (Int64)) => Q r u.1 u.2.1 u.2.2.1 u.2.2.2.1 u.2.2.2.2.1 u.2.2.2.2.2.1 u.2.2.2.2.2.2) (fun (u : (Int32) × (Int64) × (Int64) × (Int64) × (Int64) × (Int64) × (Int64)) t => va_P D vwCl (wR k aR (u.1) rS rVx rVy rMd rE rAx rAy rBx rBy rO rP rPx rPy rPd rQ rFi rLa rOn rLe rRi (u.2.1) (u.2.2.1) (u.2.2.2.1) (u.2.2.2.2.1) (u.2.2.2.2.2.1) (u.2.2.2.2.2.2)) t.heap ∧ va_D (va_A (wR k aR rF rS rVx rVy rMd rE rAx rAy rBx rBy rO rP rPx rPy rPd rQ rFi rLa rOn rLe rRi rHx rHy rHd rKx rKy rKd) sz) (wR k aR (u.1) rS rVx rVy rMd rE rAx rAy rBx rBy rO rP rPx rPy rPd rQ rFi rLa rOn rLe rRi (u.2.1) (u.2.2.1) (u.2.2.2.1) (u.2.2.2.2.1) (u.2.2.2.2.2.1) (u.2.2.2.2.2.2))) (va_A (wR k aR rF rS rVx rVy rMd rE rAx rAy rBx rBy rO rP rPx rPy rPd rQ rFi rLa rOn rLe rRi rHx rHy rHd rKx rKy rKd) sz)) 0 0 (va_A (wR k aR rF rS rVx rVy rMd rE rAx rAy rBx rBy rO rP rPx rPy rPd rQ rFi rLa rOn rLe rRi rHx rHy rHd rKx rKy rKd) sz) := by
  refine Met.ofW (cc := cX5_shared) (maxL := 5) (ret := (some .int)) (by decide) rfl ?_
  intro p e s m args below meth c s₁ B hml hv
  obtain ⟨hav, hsz, hP, hE, hD0⟩ := hv
  subst hsz
  have hx := B.exec
  have hb := B.bytes
  have hr := B.returns
  have hts := atoms_spec (ws := wsX5_shared) B.pre
  have hown : s.vm.findClass RX5 = some m.cls := findClass_of_methodNamed B.named
  have hlocks := B.notSynchronized
  have hK := hE.1
  have hD := hD0.self (sz := s.heap.size)
  generalize hAe : va_A (wR k aR rF rS rVx rVy rMd rE rAx rAy rBx rBy rO rP rPx rPy rPd rQ rFi rLa rOn rLe rRi rHx rHy rHd rKx rKy rKd) s.heap.size = A at hD ⊢
  have hA : ∀ q : Nat, s.heap.size ≤ q → A q := fun q h => by rw [← hAe]; exact Or.inr h
  have hS : va_S A s.heap s.heap [] := va_S.rf
  have hl := lv_entry ([.ref (aR 0), .int p0, .int p1, .int p2]) (n := 5) (Nat.le_of_ble_eq_true rfl)
  rw [show entryFrame m args 5 = entryFrame m ([.ref (aR 0), .int p0, .int p1, .int p2] : List Value).toArray 5 by rw [hav]]
  rw [lg_entry_eq]
  refine W.gq (fun GQ hGQ => ?_)
  generalize (lg_sl ([.ref (aR 0), .int p0, .int p1, .int p2]) ++ List.replicate (5 - (lg_sl ([.ref (aR 0), .int p0, .int p1, .int p2])).length) Slot.unset).toArray = ls at hl ⊢
  have hl : lv_has ls 5 [(0, .ref (aR 0)), (1, .int p0), (2, .int p1), (3, .int p2)] := hl
  have hiX5 := (by decide +kernel : ∀ w ∈ wsX50, w ∈ wsX5_shared)
  have f77 := hts (.fieldLink RX5 77 "PlaneOverlayModel" "hd" "J") (by decide +kernel)
  have f74 := hts (.fieldLink RX5 74 "PlaneOverlayModel" "hy" "J") (by decide +kernel)
  have f109 := hts (.fieldLink RX5 109 "PlaneOverlayModel" "kd" "J") (by decide +kernel)
  have f70 := hts (.fieldLink RX5 70 "PlaneOverlayModel" "hx" "J") (by decide +kernel)
  have f106 := hts (.fieldLink RX5 106 "PlaneOverlayModel" "ky" "J") (by decide +kernel)
  have f103 := hts (.fieldLink RX5 103 "PlaneOverlayModel" "kx" "J") (by decide +kernel)
  have f59 := hts (.fieldLink RX5 59 "PlaneOverlayModel" "fault" "I") (by decide +kernel)
  have f132 := hts (.fieldLink RX5 132 "PlaneOverlayModel" "made" "Z") (by decide +kernel)
  have L121 : ∀ (z0 : Int64) (rF : Int32) (rHx : Int64) (rHy : Int64) (rHd : Int64) (rKx : Int64) (rKy : Int64) (rKd : Int64) (H : Heap) (locs : List Loc) (ls : Array Slot), wp_X5_shared_L121 p0 p1 p2 rMd rE rAx rAy rBx rBy rP rPx rPy rPd Q  z0 rF rHx rHy rHd rKx rKy rKd → va_P D vwCl (wR k aR rF rS rVx rVy rMd rE rAx rAy rBx rBy rO rP rPx rPy rPd rQ rFi rLa rOn rLe rRi rHx rHy rHd rKx rKy rKd) H → va_D A (wR k aR rF rS rVx rVy rMd rE rAx rAy rBx rBy rO rP rPx rPy rPd rQ rFi rLa rOn rLe rRi rHx rHy rHd rKx rKy rKd) → va_S A s.heap H locs → lv_has ls 5 [(0, .ref (aR 0))] → W p l e (headSpec wsX5_shared ({ frames := 3, cells := 0, slots := 0, locals := 98 })).room s m args below meth c H locs 0 0 GQ (F0 m 121 ls [.long z0, .ref (aR 0)]) := by
    intro z0 rF rHx rHy rHd rKx rKy rKd H locs ls h hP hD hS hl
    unfold wp_X5_shared_L121 at h
    refine va_put (D := D) (ci := 5) (v := .long z0) (ty := .long) (C := RX5) (T := TX5) (N := 27) hx hb hts hiX5 tyX5 tyX5_ok nmX5 hown hK hP hD hS 0 rfl rfl 23 (by decide) f77 (fun _ h9 => h9) rfl (by decide +kernel) rfl rfl (Nat.le_of_ble_eq_true rfl) dX5_shared_121 (fun H locs hP hD hS => ?_)
    have hP : va_P D vwCl (wR k aR rF rS rVx rVy rMd rE rAx rAy rBx rBy rO rP rPx rPy rPd rQ rFi rLa rOn rLe rRi rHx rHy z0 rKx rKy rKd) H := hP
    have hD : va_D A (wR k aR rF rS rVx rVy rMd rE rAx rAy rBx rBy rO rP rPx rPy rPd rQ rFi rLa rOn rLe rRi rHx rHy z0 rKx rKy rKd) := hD
    refine lv_aload_n hx hb dX5_shared_124 rfl (lv_at hl 0 rfl) ?_
    refine vp_callSi (W.runV (C := RX5) (b := (aR 0)) (As := []) (rest := []) ⟨hx, hb, hml, hown, hts⟩ (m_X5_find l D k aR rF rS rVx rVy rMd rE rAx rAy rBx rBy rO rP rPx rPy rPd rQ rFi rLa rOn rLe rRi rHx rHy z0 rKx rKy rKd  _ h) (cwV 0 hts gX5_shared_X5_find rfl rfl rfl (by decide +kernel) ⟨Nat.le_of_ble_eq_true rfl, Nat.le_of_ble_eq_true rfl⟩) (preV_ro (ci := 5) (q0 := 0) (C := RX5) (T := TX5) (N := 27) hE hP rfl rfl) rfl rfl hl.1 rfl (lv_room (Nat.le_of_ble_eq_true rfl)) dX5_shared_125 ⟨Nat.le_of_ble_eq_true rfl, Nat.le_of_ble_eq_true rfl⟩) (fun r125 h => ?_)
    rw [hGQ]
    exact W.iret (v := r125) hx hb hr (fun t ht hW => ⟨⟨_, (rF, rHx, rHy, z0, rKx, rKy, rKd), rfl, h, by rw [ht]; exact hP, hD⟩, hS.F ht⟩) hS.2.2 dX5_shared_128
  have L102 : ∀ (z0 : Int64) (rF : Int32) (rHx : Int64) (rHy : Int64) (rHd : Int64) (rKx : Int64) (rKy : Int64) (rKd : Int64) (H : Heap) (locs : List Loc) (ls : Array Slot), wp_X5_shared_L102 p0 p1 p2 rMd rE rAx rAy rBx rBy rP rPx rPy rPd Q  z0 rF rHx rHy rHd rKx rKy rKd → va_P D vwCl (wR k aR rF rS rVx rVy rMd rE rAx rAy rBx rBy rO rP rPx rPy rPd rQ rFi rLa rOn rLe rRi rHx rHy rHd rKx rKy rKd) H → va_D A (wR k aR rF rS rVx rVy rMd rE rAx rAy rBx rBy rO rP rPx rPy rPd rQ rFi rLa rOn rLe rRi rHx rHy rHd rKx rKy rKd) → va_S A s.heap H locs → lv_has ls 5 [(0, .ref (aR 0)), (3, .int p2)] → W p l e (headSpec wsX5_shared ({ frames := 3, cells := 0, slots := 0, locals := 98 })).room s m args below meth c H locs 0 0 GQ (F0 m 102 ls [.long z0, .ref (aR 0)]) := by
    intro z0 rF rHx rHy rHd rKx rKy rKd H locs ls h hP hD hS hl
    unfold wp_X5_shared_L102 at h
    refine va_put (D := D) (ci := 5) (v := .long z0) (ty := .long) (C := RX5) (T := TX5) (N := 27) hx hb hts hiX5 tyX5 tyX5_ok nmX5 hown hK hP hD hS 0 rfl rfl 22 (by decide) f74 (fun _ h9 => h9) rfl (by decide +kernel) rfl rfl (Nat.le_of_ble_eq_true rfl) dX5_shared_102 (fun H locs hP hD hS => ?_)
    have hP : va_P D vwCl (wR k aR rF rS rVx rVy rMd rE rAx rAy rBx rBy rO rP rPx rPy rPd rQ rFi rLa rOn rLe rRi rHx z0 rHd rKx rKy rKd) H := hP
    have hD : va_D A (wR k aR rF rS rVx rVy rMd rE rAx rAy rBx rBy rO rP rPx rPy rPd rQ rFi rLa rOn rLe rRi rHx z0 rHd rKx rKy rKd) := hD
    refine lv_aload_n hx hb dX5_shared_105 rfl (lv_at hl 0 rfl) ?_
    refine lv_iload_n hx hb dX5_shared_106 rfl (lv_at hl 1 rfl) ?_
    refine lv_if_eq (tgt := 117) hx hb dX5_shared_107 (by decide) (fun cq => ?_) (fun cq => ?_)
    · have h := h.1 cq
      refine lv_aload_n hx hb dX5_shared_117 rfl (lv_at hl 0 rfl) ?_
      refine va_get (D := D) (ci := 5) (v := .long rHd) (C := RX5) (T := TX5) (N := 27) hx hb hts hiX5 hown hK hP 0 rfl rfl 23 (by decide) f77 (fun _ h9 => h9) rfl dX5_shared_118 ?_
      exact L121 rHd rF rHx z0 rHd rKx rKy rKd _ _ _ h hP hD hS (lv_sub hl [0] rfl)
    · have h := h.2 cq
      refine lv_aload_n hx hb dX5_shared_110 rfl (lv_at hl 0 rfl) ?_
      refine va_get (D := D) (ci := 5) (v := .long rKd) (C := RX5) (T := TX5) (N := 27) hx hb hts hiX5 hown hK hP 0 rfl rfl 26 (by decide) f109 (fun _ h9 => h9) rfl dX5_shared_111 ?_
      refine lv_goto (tgt := 121) hx hb dX5_shared_114 (by decide) ?_
      exact L121 rKd rF rHx z0 rHd rKx rKy rKd _ _ _ h hP hD hS (lv_sub hl [0] rfl)
  have L83 : ∀ (z0 : Int64) (rF : Int32) (rHx : Int64) (rHy : Int64) (rHd : Int64) (rKx : Int64) (rKy : Int64) (rKd : Int64) (H : Heap) (locs : List Loc) (ls : Array Slot), wp_X5_shared_L83 p0 p1 p2 rMd rE rAx rAy rBx rBy rP rPx rPy rPd Q  z0 rF rHx rHy rHd rKx rKy rKd → va_P D vwCl (wR k aR rF rS rVx rVy rMd rE rAx rAy rBx rBy rO rP rPx rPy rPd rQ rFi rLa rOn rLe rRi rHx rHy rHd rKx rKy rKd) H → va_D A (wR k aR rF rS rVx rVy rMd rE rAx rAy rBx rBy rO rP rPx rPy rPd rQ rFi rLa rOn rLe rRi rHx rHy rHd rKx rKy rKd) → va_S A s.heap H locs → lv_has ls 5 [(0, .ref (aR 0)), (3, .int p2)] → W p l e (headSpec wsX5_shared ({ frames := 3, cells := 0, slots := 0, locals := 98 })).room s m args below meth c H locs 0 0 GQ (F0 m 83 ls [.long z0, .ref (aR 0)]) := by
    intro z0 rF rHx rHy rHd rKx rKy rKd H locs ls h hP hD hS hl
    unfold wp_X5_shared_L83 at h
    refine va_put (D := D) (ci := 5) (v := .long z0) (ty := .long) (C := RX5) (T := TX5) (N := 27) hx hb hts hiX5 tyX5 tyX5_ok nmX5 hown hK hP hD hS 0 rfl rfl 21 (by decide) f70 (fun _ h9 => h9) rfl (by decide +kernel) rfl rfl (Nat.le_of_ble_eq_true rfl) dX5_shared_83 (fun H locs hP hD hS => ?_)
    have hP : va_P D vwCl (wR k aR rF rS rVx rVy rMd rE rAx rAy rBx rBy rO rP rPx rPy rPd rQ rFi rLa rOn rLe rRi z0 rHy rHd rKx rKy rKd) H := hP
    have hD : va_D A (wR k aR rF rS rVx rVy rMd rE rAx rAy rBx rBy rO rP rPx rPy rPd rQ rFi rLa rOn rLe rRi z0 rHy rHd rKx rKy rKd) := hD
    refine lv_aload_n hx hb dX5_shared_86 rfl (lv_at hl 0 rfl) ?_
    refine lv_iload_n hx hb dX5_shared_87 rfl (lv_at hl 1 rfl) ?_
    refine lv_if_eq (tgt := 98) hx hb dX5_shared_88 (by decide) (fun cq => ?_) (fun cq => ?_)
    · have h := h.1 cq
      refine lv_aload_n hx hb dX5_shared_98 rfl (lv_at hl 0 rfl) ?_
      refine va_get (D := D) (ci := 5) (v := .long rHy) (C := RX5) (T := TX5) (N := 27) hx hb hts hiX5 hown hK hP 0 rfl rfl 22 (by decide) f74 (fun _ h9 => h9) rfl dX5_shared_99 ?_
      exact L102 rHy rF z0 rHy rHd rKx rKy rKd _ _ _ h hP hD hS (lv_sub hl [0, 1] rfl)
    · have h := h.2 cq
      refine lv_aload_n hx hb dX5_shared_91 rfl (lv_at hl 0 rfl) ?_
      refine va_get (D := D) (ci := 5) (v := .long rKy) (C := RX5) (T := TX5) (N := 27) hx hb hts hiX5 hown hK hP 0 rfl rfl 25 (by decide) f106 (fun _ h9 => h9) rfl dX5_shared_92 ?_
      refine lv_goto (tgt := 102) hx hb dX5_shared_95 (by decide) ?_
      exact L102 rKy rF z0 rHy rHd rKx rKy rKd _ _ _ h hP hD hS (lv_sub hl [0, 1] rfl)
  have L53 : ∀ (z0 : Int32) (rF : Int32) (rHx : Int64) (rHy : Int64) (rHd : Int64) (rKx : Int64) (rKy : Int64) (rKd : Int64) (H : Heap) (locs : List Loc) (ls : Array Slot), wp_X5_shared_L53 p0 p1 p2 rMd rE rAx rAy rBx rBy rP rPx rPy rPd Q  z0 rF rHx rHy rHd rKx rKy rKd → va_P D vwCl (wR k aR rF rS rVx rVy rMd rE rAx rAy rBx rBy rO rP rPx rPy rPd rQ rFi rLa rOn rLe rRi rHx rHy rHd rKx rKy rKd) H → va_D A (wR k aR rF rS rVx rVy rMd rE rAx rAy rBx rBy rO rP rPx rPy rPd rQ rFi rLa rOn rLe rRi rHx rHy rHd rKx rKy rKd) → va_S A s.heap H locs → lv_has ls 5 [(0, .ref (aR 0)), (3, .int p2)] → W p l e (headSpec wsX5_shared ({ frames := 3, cells := 0, slots := 0, locals := 98 })).room s m args below meth c H locs 0 0 GQ (F0 m 53 ls [.int z0]) := by
    intro z0 rF rHx rHy rHd rKx rKy rKd H locs ls h hP hD hS hl
    unfold wp_X5_shared_L53 at h
    refine lv_istore (lv' := [(4, .int z0), (0, .ref (aR 0)), (3, .int p2)]) hx hb dX5_shared_53 hl (by decide) rfl (fun ls hl => ?_)
    refine lv_iload hx hb dX5_shared_55 (lv_at hl 0 rfl) ?_
    refine lv_if_ne (tgt := 67) hx hb dX5_shared_57 (by decide) (fun cq => ?_) (fun cq => ?_)
    · have h := h.1 cq
      refine lv_aload_n hx hb dX5_shared_67 rfl (lv_at hl 1 rfl) ?_
      refine lv_iload_n hx hb dX5_shared_68 rfl (lv_at hl 2 rfl) ?_
      refine lv_if_eq (tgt := 79) hx hb dX5_shared_69 (by decide) (fun cq => ?_) (fun cq => ?_)
      · have h := h.1 cq
        refine lv_aload_n hx hb dX5_shared_79 rfl (lv_at hl 1 rfl) ?_
        refine va_get (D := D) (ci := 5) (v := .long rHx) (C := RX5) (T := TX5) (N := 27) hx hb hts hiX5 hown hK hP 0 rfl rfl 21 (by decide) f70 (fun _ h9 => h9) rfl dX5_shared_80 ?_
        exact L83 rHx rF rHx rHy rHd rKx rKy rKd _ _ _ h hP hD hS (lv_sub hl [1, 2] rfl)
      · have h := h.2 cq
        refine lv_aload_n hx hb dX5_shared_72 rfl (lv_at hl 1 rfl) ?_
        refine va_get (D := D) (ci := 5) (v := .long rKx) (C := RX5) (T := TX5) (N := 27) hx hb hts hiX5 hown hK hP 0 rfl rfl 24 (by decide) f103 (fun _ h9 => h9) rfl dX5_shared_73 ?_
        refine lv_goto (tgt := 83) hx hb dX5_shared_76 (by decide) ?_
        exact L83 rKx rF rHx rHy rHd rKx rKy rKd _ _ _ h hP hD hS (lv_sub hl [1, 2] rfl)
    · have h := h.2 cq
      refine lv_aload_n hx hb dX5_shared_60 rfl (lv_at hl 1 rfl) ?_
      refine lv_iconst (v := (3 : Int32)) hx hb dX5_shared_61 (by decide) ?_
      refine va_put (D := D) (ci := 5) (v := .int (3 : Int32)) (ty := .int) (C := RX5) (T := TX5) (N := 27) hx hb hts hiX5 tyX5 tyX5_ok nmX5 hown hK hP hD hS 0 rfl rfl 0 (by decide) f59 (fun _ h9 => h9) rfl (by decide +kernel) rfl rfl (Nat.le_of_ble_eq_true rfl) dX5_shared_62 (fun H locs hP hD hS => ?_)
      have hP : va_P D vwCl (wR k aR (3 : Int32) rS rVx rVy rMd rE rAx rAy rBx rBy rO rP rPx rPy rPd rQ rFi rLa rOn rLe rRi rHx rHy rHd rKx rKy rKd) H := hP
      have hD : va_D A (wR k aR (3 : Int32) rS rVx rVy rMd rE rAx rAy rBx rBy rO rP rPx rPy rPd rQ rFi rLa rOn rLe rRi rHx rHy rHd rKx rKy rKd) := hD
      refine lv_iconst (v := (0 : Int32)) hx hb dX5_shared_65 (by decide) ?_
      rw [hGQ]
      exact W.iret (v := (0 : Int32)) hx hb hr (fun t ht hW => ⟨⟨_, ((3 : Int32), rHx, rHy, rHd, rKx, rKy, rKd), rfl, h, by rw [ht]; exact hP, hD⟩, hS.F ht⟩) hS.2.2 dX5_shared_66
  have L26 : ∀ (z0 : Int32) (rF : Int32) (rHx : Int64) (rHy : Int64) (rHd : Int64) (rKx : Int64) (rKy : Int64) (rKd : Int64) (H : Heap) (locs : List Loc) (ls : Array Slot), wp_X5_shared_L26 p0 p1 p2 rMd rE rAx rAy rBx rBy rP rPx rPy rPd Q  z0 rF rHx rHy rHd rKx rKy rKd → va_P D vwCl (wR k aR rF rS rVx rVy rMd rE rAx rAy rBx rBy rO rP rPx rPy rPd rQ rFi rLa rOn rLe rRi rHx rHy rHd rKx rKy rKd) H → va_D A (wR k aR rF rS rVx rVy rMd rE rAx rAy rBx rBy rO rP rPx rPy rPd rQ rFi rLa rOn rLe rRi rHx rHy rHd rKx rKy rKd) → va_S A s.heap H locs → lv_has ls 5 [(0, .ref (aR 0)), (1, .int p0), (2, .int p1), (3, .int p2)] → W p l e (headSpec wsX5_shared ({ frames := 3, cells := 0, slots := 0, locals := 98 })).room s m args below meth c H locs 0 0 GQ (F0 m 26 ls [.int z0, .ref (aR 0)]) := by
    intro z0 rF rHx rHy rHd rKx rKy rKd H locs ls h hP hD hS hl
    unfold wp_X5_shared_L26 at h
    refine va_put (D := D) (ci := 5) (v := .int z0) (ty := .int) (C := RX5) (T := TX5) (N := 27) hx hb hts hiX5 tyX5 tyX5_ok nmX5 hown hK hP hD hS 0 rfl rfl 0 (by decide) f59 (fun _ h9 => h9) rfl (by decide +kernel) rfl rfl (Nat.le_of_ble_eq_true rfl) dX5_shared_26 (fun H locs hP hD hS => ?_)
    have hP : va_P D vwCl (wR k aR z0 rS rVx rVy rMd rE rAx rAy rBx rBy rO rP rPx rPy rPd rQ rFi rLa rOn rLe rRi rHx rHy rHd rKx rKy rKd) H := hP
    have hD : va_D A (wR k aR z0 rS rVx rVy rMd rE rAx rAy rBx rBy rO rP rPx rPy rPd rQ rFi rLa rOn rLe rRi rHx rHy rHd rKx rKy rKd) := hD
    refine lv_aload_n hx hb dX5_shared_29 rfl (lv_at hl 0 rfl) ?_
    refine va_get (D := D) (ci := 5) (v := .int z0) (C := RX5) (T := TX5) (N := 27) hx hb hts hiX5 hown hK hP 0 rfl rfl 0 (by decide) f59 (fun _ h9 => h9) rfl dX5_shared_30 ?_
    refine lv_if_le (tgt := 38) hx hb dX5_shared_33 (by decide) (fun cq => ?_) (fun cq => ?_)
    · have h := h.1 cq
      refine lv_iload_n hx hb dX5_shared_38 rfl (lv_at hl 1 rfl) ?_
      refine lv_iload_n hx hb dX5_shared_39 rfl (lv_at hl 2 rfl) ?_
      refine lv_icmp_ne (tgt := 47) hx hb dX5_shared_40 (by decide) (fun cq => ?_) (fun cq => ?_)
      · have h := h.1 cq
        refine lv_aload_n hx hb dX5_shared_47 rfl (lv_at hl 0 rfl) ?_
        refine lv_iload_n hx hb dX5_shared_48 rfl (lv_at hl 1 rfl) ?_
        refine lv_iload_n hx hb dX5_shared_49 rfl (lv_at hl 2 rfl) ?_
        have hFc := va_free (wc := wR k aR z0 rS rVx rVy rMd rE rAx rAy rBx rBy rO rP rPx rPy rPd rQ rFi rLa rOn rLe rRi rHx rHy rHd rKx rKy rKd) hD hS hA [0, 1, 2, 3, 4, 5, 6, 7, 8, 9, 10, 11, 12, 13, 14, 15, 16] rfl
        refine va_calli (va_runV (C := RX5) (b := (aR 0)) (As := [.int p0, .int p1]) (rest := []) ⟨hx, hb, hml, hown, hts⟩ (m_X5_meet l D k aR z0 rS rVx rVy rMd rE rAx rAy rBx rBy rO rP rPx rPy rPd rQ rFi rLa rOn rLe rRi rHx rHy rHd rKx rKy rKd p0 p1 _ _ h) (cwV 2 hts gX5_shared_X5_meet rfl rfl rfl (by decide +kernel) ⟨Nat.le_of_ble_eq_true rfl, Nat.le_of_ble_eq_true rfl⟩) (preV_rw (ci := 5) (q0 := 0) (C := RX5) (T := TX5) (N := 27) hE hP hD rfl rfl) rfl rfl hl.1 rfl (lv_room (Nat.le_of_ble_eq_true rfl)) dX5_shared_50 ⟨Nat.le_of_ble_eq_true rfl, Nat.le_of_ble_eq_true rfl⟩) hS (fun q _ h => hFc q h) hFc (fun r50 u t H1 locs ht hvm h hB hz1 hk1 hS => ?_)
        obtain ⟨rHx_50, rHy_50, rHd_50, rKx_50, rKy_50, rKd_50⟩ := u
        obtain ⟨hP1, hD1⟩ := hB
        rw [ht] at hP1
        obtain ⟨hP, hD⟩ := va_join (wr := ([] : va_W)) (w1 := wR k aR z0 rS rVx rVy rMd rE rAx rAy rBx rBy rO rP rPx rPy rPd rQ rFi rLa rOn rLe rRi rHx_50 rHy_50 rHd_50 rKx_50 rKy_50 rKd_50) hP hD [0, 1, 2, 3, 4, 5, 6, 7, 8, 9, 10, 11, 12, 13, 14, 15, 16] [] rfl rfl (by decide) (by decide) hk1 hFc hP1 hD1
        generalize H1 = H at hP hS ⊢
        have hP : va_P D vwCl (wR k aR z0 rS rVx rVy rMd rE rAx rAy rBx rBy rO rP rPx rPy rPd rQ rFi rLa rOn rLe rRi rHx_50 rHy_50 rHd_50 rKx_50 rKy_50 rKd_50) H := hP.sub [0, 1, 2, 3, 4, 5, 6, 7, 8, 9, 10, 11, 12, 13, 14, 15, 16] rfl
        have hD : va_D A (wR k aR z0 rS rVx rVy rMd rE rAx rAy rBx rBy rO rP rPx rPy rPd rQ rFi rLa rOn rLe rRi rHx_50 rHy_50 rHd_50 rKx_50 rKy_50 rKd_50) := hD.sub [0, 1, 2, 3, 4, 5, 6, 7, 8, 9, 10, 11, 12, 13, 14, 15, 16] (by decide) rfl
        exact L53 r50 z0 rHx_50 rHy_50 rHd_50 rKx_50 rKy_50 rKd_50 _ _ _ h hP hD hS (lv_sub hl [0, 3] rfl)
      · have h := h.2 cq
        refine lv_iconst (v := (0 : Int32)) hx hb dX5_shared_43 (by decide) ?_
        refine lv_goto (tgt := 53) hx hb dX5_shared_44 (by decide) ?_
        exact L53 (0 : Int32) z0 rHx rHy rHd rKx rKy rKd _ _ _ h hP hD hS (lv_sub hl [0, 3] rfl)
    · have h := h.2 cq
      refine lv_iconst (v := (0 : Int32)) hx hb dX5_shared_36 (by decide) ?_
      rw [hGQ]
      exact W.iret (v := (0 : Int32)) hx hb hr (fun t ht hW => ⟨⟨_, (z0, rHx, rHy, rHd, rKx, rKy, rKd), rfl, h, by rw [ht]; exact hP, hD⟩, hS.F ht⟩) hS.2.2 dX5_shared_37
  unfold wp_X5_shared at h
  refine lv_aload_n hx hb dX5_shared_0 rfl (lv_at hl 0 rfl) ?_
  refine lv_aload_n hx hb dX5_shared_1 rfl (lv_at hl 0 rfl) ?_
  refine va_get (D := D) (ci := 5) (v := .int rMd) (C := RX5) (T := TX5) (N := 27) hx hb hts hiX5 hown hK hP 0 rfl rfl 4 (by decide) f132 (fun _ h9 => h9) rfl dX5_shared_2 ?_
  refine lv_if_ne (tgt := 12) hx hb dX5_shared_5 (by decide) (fun cq => ?_) (fun cq => ?_)
  · have h := h.1 cq
    refine lv_aload_n hx hb dX5_shared_12 rfl (lv_at hl 0 rfl) ?_
    refine lv_iload_n hx hb dX5_shared_13 rfl (lv_at hl 1 rfl) ?_
    refine lv_iload_n hx hb dX5_shared_14 rfl (lv_at hl 2 rfl) ?_
    refine vp_callSi (W.runV (C := RX5) (b := (aR 0)) (As := [.int p0, .int p1]) (rest := [.ref (aR 0)]) ⟨hx, hb, hml, hown, hts⟩ (m_X5_noEdges l D k aR rF rS rVx rVy rMd rE rAx rAy rBx rBy rO rP rPx rPy rPd rQ rFi rLa rOn rLe rRi rHx rHy rHd rKx rKy rKd p0 p1 _ h) (cwV 2 hts gX5_shared_X5_noEdges rfl rfl rfl (by decide +kernel) ⟨Nat.le_of_ble_eq_true rfl, Nat.le_of_ble_eq_true rfl⟩) (preV_ro (ci := 5) (q0 := 0) (C := RX5) (T := TX5) (N := 27) hE hP rfl rfl) rfl rfl hl.1 rfl (lv_room (Nat.le_of_ble_eq_true rfl)) dX5_shared_15 ⟨Nat.le_of_ble_eq_true rfl, Nat.le_of_ble_eq_true rfl⟩) (fun r15 h => ?_)
    refine lv_if_eq (tgt := 25) hx hb dX5_shared_18 (by decide) (fun cq => ?_) (fun cq => ?_)
    · have h := h.1 cq
      refine lv_iconst (v := (0 : Int32)) hx hb dX5_shared_25 (by decide) ?_
      exact L26 (0 : Int32) rF rHx rHy rHd rKx rKy rKd _ _ _ h hP hD hS (lv_sub hl [0, 1, 2, 3] rfl)
    · have h := h.2 cq
      refine lv_iconst (v := (2 : Int32)) hx hb dX5_shared_21 (by decide) ?_
      refine lv_goto (tgt := 26) hx hb dX5_shared_22 (by decide) ?_
      exact L26 (2 : Int32) rF rHx rHy rHd rKx rKy rKd _ _ _ h hP hD hS (lv_sub hl [0, 1, 2, 3] rfl)
  · have h := h.2 cq
    refine lv_iconst (v := (1 : Int32)) hx hb dX5_shared_8 (by decide) ?_
    refine lv_goto (tgt := 26) hx hb dX5_shared_9 (by decide) ?_
    exact L26 (1 : Int32) rF rHx rHy rHd rKx rKy rKd _ _ _ h hP hD hS (lv_sub hl [0, 1, 2, 3] rfl)
set_option maxHeartbeats 4000000 in
set_option maxRecDepth 100000 in
theorem m_X5_bounding (l : Launch) (D : va_G) (k : Nat → ClassId) (aR : Nat → Nat) (rF : Int32) (rS : Nat → Int32) (rVx : Nat → Int32) (rVy : Nat → Int32) (rMd : Int32) (rE : Int32) (rAx : Nat → Int32) (rAy : Nat → Int32) (rBx : Nat → Int32) (rBy : Nat → Int32) (rO : Nat → Int32) (rP : Int32) (rPx : Nat → Int32) (rPy : Nat → Int32) (rPd : Nat → Int32) (rQ : Int32) (rFi : Nat → Int32) (rLa : Nat → Int32) (rOn : Nat → Int32) (rLe : Nat → Int32) (rRi : Nat → Int32) (rHx : Int64) (rHy : Int64) (rHd : Int64) (rKx : Int64) (rKy : Int64) (rKd : Int64) (p0 : Int32) (p1 : Int32) (Q : Int32 → Prop) (h : wp_X5_bounding p0 p1 rLe rRi Q) : Met l yX5_bounding wsX5_bounding ({ frames := 1, cells := 0, slots := 0, locals := 22 }) (Pro D k [.ref (aR 0), .int p0, .int p1] (wR k aR rF rS rVx rVy rMd rE rAx rAy rBx rBy rO rP rPx rPy rPd rQ rFi rLa rOn rLe rRi rHx rHy rHd rKx rKy rKd)) (vp_Si Q) 0 0 (fun _ => False) := by
  refine Met.ofW (cc := cX5_bounding) (maxL := 5) (ret := (some .int)) (by decide) rfl ?_
  intro p e s m args below meth c s₁ B hml hv
  obtain ⟨hav, hP, hE⟩ := hv
  have hx := B.exec
  have hb := B.bytes
  have hr := B.returns
  have hts := atoms_spec (ws := wsX5_bounding) B.pre
  have hown : s.vm.findClass RX5 = some m.cls := findClass_of_methodNamed B.named
  have hlocks := B.notSynchronized
  have hK := hE.1
  have hl := lv_entry ([.ref (aR 0), .int p0, .int p1]) (n := 5) (Nat.le_of_ble_eq_true rfl)
  rw [show entryFrame m args 5 = entryFrame m ([.ref (aR 0), .int p0, .int p1] : List Value).toArray 5 by rw [hav]]
  rw [lg_entry_eq]
  refine W.gq (fun GQ hGQ => ?_)
  generalize (lg_sl ([.ref (aR 0), .int p0, .int p1]) ++ List.replicate (5 - (lg_sl ([.ref (aR 0), .int p0, .int p1])).length) Slot.unset).toArray = ls at hl ⊢
  have hl : lv_has ls 5 [(0, .ref (aR 0)), (1, .int p0), (2, .int p1)] := hl
  have hiX5 := (by decide +kernel : ∀ w ∈ wsX50, w ∈ wsX5_bounding)
  have f52 := hts (.fieldLink RX5 52 "PlaneOverlayModel" "left" "[Z") (by decide +kernel)
  have f56 := hts (.fieldLink RX5 56 "PlaneOverlayModel" "right" "[Z") (by decide +kernel)
  have L66 : ∀ (z0 : Int32) (ls : Array Slot), wp_X5_bounding_L66 p0 p1 rLe rRi Q  z0 → lv_has ls 5 [] → W p l e (headSpec wsX5_bounding ({ frames := 1, cells := 0, slots := 0, locals := 22 })).room s m args below meth c s.heap [] 0 0 GQ (F0 m 66 ls [.int z0]) := by
    intro z0 ls h hl
    unfold wp_X5_bounding_L66 at h
    rw [hGQ]
    exact W.iret (v := z0) hx hb hr (fun t ht hW => ⟨_, rfl, h, ht⟩) (fun _ h => by cases h) dX5_bounding_66
  unfold wp_X5_bounding at h
  refine lv_iload_n hx hb dX5_bounding_0 rfl (lv_at hl 1 rfl) ?_
  refine lv_aload_n hx hb dX5_bounding_1 rfl (lv_at hl 0 rfl) ?_
  refine va_get (D := D) (ci := 5) (v := .ref (aR 15)) (C := RX5) (T := TX5) (N := 27) hx hb hts hiX5 hown hK hP 0 rfl rfl 19 (by decide) f52 (fun _ h9 => h9) rfl dX5_bounding_2 ?_
  refine lv_iconst (v := (2 : Int32)) hx hb dX5_bounding_5 (by decide) ?_
  refine lv_iload_n hx hb dX5_bounding_6 rfl (lv_at hl 2 rfl) ?_
  refine lv_imul hx hb dX5_bounding_7 ?_
  obtain ⟨hin, h⟩ := h
  refine va_zald hx hb hK hP 15 1 rfl rfl hin dX5_bounding_8 ?_
  refine lv_aload_n hx hb dX5_bounding_9 rfl (lv_at hl 0 rfl) ?_
  refine va_get (D := D) (ci := 5) (v := .ref (aR 15)) (C := RX5) (T := TX5) (N := 27) hx hb hts hiX5 hown hK hP 0 rfl rfl 19 (by decide) f52 (fun _ h9 => h9) rfl dX5_bounding_10 ?_
  refine lv_iconst (v := (2 : Int32)) hx hb dX5_bounding_13 (by decide) ?_
  refine lv_iload_n hx hb dX5_bounding_14 rfl (lv_at hl 2 rfl) ?_
  refine lv_imul hx hb dX5_bounding_15 ?_
  refine lv_iconst (v := (1 : Int32)) hx hb dX5_bounding_16 (by decide) ?_
  refine lv_iadd hx hb dX5_bounding_17 ?_
  obtain ⟨hin, h⟩ := h
  refine va_zald hx hb hK hP 15 1 rfl rfl hin dX5_bounding_18 ?_
  refine vp_callSi (W.runS (As := [.int p0, .int (rLe ((2 : Int32) * p1).toNatClampNeg), .int (rLe (((2 : Int32) * p1) + (1 : Int32)).toNatClampNeg)]) (rest := []) ⟨hx, hb, hml, hown, hts⟩ (m_X5_inside l D k   p0 (rLe ((2 : Int32) * p1).toNatClampNeg) (rLe (((2 : Int32) * p1) + (1 : Int32)).toNatClampNeg) _ h) (va_cwS 3 hts gX5_bounding_X5_inside rfl rfl rfl (by decide +kernel) ⟨Nat.le_of_ble_eq_true rfl, Nat.le_of_ble_eq_true rfl⟩) (preS_ro hE vaP0) rfl rfl hl.1 rfl (lv_room (Nat.le_of_ble_eq_true rfl)) dX5_bounding_19 ⟨Nat.le_of_ble_eq_true rfl, Nat.le_of_ble_eq_true rfl⟩) (fun r19 h => ?_)
  refine lv_istore_n (lv' := [(3, .int r19), (0, .ref (aR 0)), (1, .int p0), (2, .int p1)]) hx hb dX5_bounding_22 rfl hl (by decide) rfl (fun ls hl => ?_)
  refine lv_iload_n hx hb dX5_bounding_23 rfl (lv_at hl 2 rfl) ?_
  refine lv_aload_n hx hb dX5_bounding_24 rfl (lv_at hl 1 rfl) ?_
  refine va_get (D := D) (ci := 5) (v := .ref (aR 16)) (C := RX5) (T := TX5) (N := 27) hx hb hts hiX5 hown hK hP 0 rfl rfl 20 (by decide) f56 (fun _ h9 => h9) rfl dX5_bounding_25 ?_
  refine lv_iconst (v := (2 : Int32)) hx hb dX5_bounding_28 (by decide) ?_
  refine lv_iload_n hx hb dX5_bounding_29 rfl (lv_at hl 3 rfl) ?_
  refine lv_imul hx hb dX5_bounding_30 ?_
  obtain ⟨hin, h⟩ := h
  refine va_zald hx hb hK hP 16 1 rfl rfl hin dX5_bounding_31 ?_
  refine lv_aload_n hx hb dX5_bounding_32 rfl (lv_at hl 1 rfl) ?_
  refine va_get (D := D) (ci := 5) (v := .ref (aR 16)) (C := RX5) (T := TX5) (N := 27) hx hb hts hiX5 hown hK hP 0 rfl rfl 20 (by decide) f56 (fun _ h9 => h9) rfl dX5_bounding_33 ?_
  refine lv_iconst (v := (2 : Int32)) hx hb dX5_bounding_36 (by decide) ?_
  refine lv_iload_n hx hb dX5_bounding_37 rfl (lv_at hl 3 rfl) ?_
  refine lv_imul hx hb dX5_bounding_38 ?_
  refine lv_iconst (v := (1 : Int32)) hx hb dX5_bounding_39 (by decide) ?_
  refine lv_iadd hx hb dX5_bounding_40 ?_
  obtain ⟨hin, h⟩ := h
  refine va_zald hx hb hK hP 16 1 rfl rfl hin dX5_bounding_41 ?_
  refine vp_callSi (W.runS (As := [.int p0, .int (rRi ((2 : Int32) * p1).toNatClampNeg), .int (rRi (((2 : Int32) * p1) + (1 : Int32)).toNatClampNeg)]) (rest := []) ⟨hx, hb, hml, hown, hts⟩ (m_X5_inside l D k   p0 (rRi ((2 : Int32) * p1).toNatClampNeg) (rRi (((2 : Int32) * p1) + (1 : Int32)).toNatClampNeg) _ h) (va_cwS 3 hts gX5_bounding_X5_inside rfl rfl rfl (by decide +kernel) ⟨Nat.le_of_ble_eq_true rfl, Nat.le_of_ble_eq_true rfl⟩) (preS_ro hE vaP0) rfl rfl hl.1 rfl (lv_room (Nat.le_of_ble_eq_true rfl)) dX5_bounding_42 ⟨Nat.le_of_ble_eq_true rfl, Nat.le_of_ble_eq_true rfl⟩) (fun r42 h => ?_)
  refine lv_istore (lv' := [(4, .int r42), (3, .int r19), (0, .ref (aR 0)), (1, .int p0), (2, .int p1)]) hx hb dX5_bounding_45 hl (by decide) rfl (fun ls hl => ?_)
  refine lv_iload_n hx hb dX5_bounding_47 rfl (lv_at hl 1 rfl) ?_
  refine lv_iload hx hb dX5_bounding_48 (lv_at hl 0 rfl) ?_
  refine lv_icmp_ne (tgt := 57) hx hb dX5_bounding_50 (by decide) (fun cq => ?_) (fun cq => ?_)
  · have h := h.1 cq
    refine lv_iload_n hx hb dX5_bounding_57 rfl (lv_at hl 1 rfl) ?_
    refine lv_if_eq (tgt := 65) hx hb dX5_bounding_58 (by decide) (fun cq => ?_) (fun cq => ?_)
    · have h := h.1 cq
      refine lv_iconst (v := (-1 : Int32)) hx hb dX5_bounding_65 (by decide) ?_
      exact L66 (-1 : Int32) _ h (lv_sub hl [] rfl)
    · have h := h.2 cq
      refine lv_iconst (v := (1 : Int32)) hx hb dX5_bounding_61 (by decide) ?_
      refine lv_goto (tgt := 66) hx hb dX5_bounding_62 (by decide) ?_
      exact L66 (1 : Int32) _ h (lv_sub hl [] rfl)
  · have h := h.2 cq
    refine lv_iconst (v := (0 : Int32)) hx hb dX5_bounding_53 (by decide) ?_
    refine lv_goto (tgt := 66) hx hb dX5_bounding_54 (by decide) ?_
    exact L66 (0 : Int32) _ h (lv_sub hl [] rfl)
set_option maxHeartbeats 4000000 in
set_option maxRecDepth 100000 in
theorem m_X5_lacks (l : Launch) (D : va_G) (k : Nat → ClassId) (aR : Nat → Nat) (rF : Int32) (rS : Nat → Int32) (rVx : Nat → Int32) (rVy : Nat → Int32) (rMd : Int32) (rE : Int32) (rAx : Nat → Int32) (rAy : Nat → Int32) (rBx : Nat → Int32) (rBy : Nat → Int32) (rO : Nat → Int32) (rP : Int32) (rPx : Nat → Int32) (rPy : Nat → Int32) (rPd : Nat → Int32) (rQ : Int32) (rFi : Nat → Int32) (rLa : Nat → Int32) (rOn : Nat → Int32) (rLe : Nat → Int32) (rRi : Nat → Int32) (rHx : Int64) (rHy : Int64) (rHd : Int64) (rKx : Int64) (rKy : Int64) (rKd : Int64) (p0 : Int32) (Q : Int32 → (Int32) → Prop) (sz : Nat) (h : wp_X5_lacks p0 rF rMd Q) : Met l yX5_lacks wsX5_lacks ({ frames := 0, cells := 0, slots := 0, locals := 0 }) (Prw D k [.ref (aR 0), .int p0] (wR k aR rF rS rVx rVy rMd rE rAx rAy rBx rBy rO rP rPx rPy rPd rQ rFi rLa rOn rLe rRi rHx rHy rHd rKx rKy rKd) sz) (va_Qi (fun (r : Int32) (u : (Int32)) => Q r u) (fun (u : (Int32)) t => va_P D vwCl (wR k aR u rS rVx rVy rMd rE rAx rAy rBx rBy rO rP rPx rPy rPd rQ rFi rLa rOn rLe rRi rHx rHy rHd rKx rKy rKd) t.heap ∧ va_D (va_A (wR k aR rF rS rVx rVy rMd rE rAx rAy rBx rBy rO rP rPx rPy rPd rQ rFi rLa rOn rLe rRi rHx rHy rHd rKx rKy rKd) sz) (wR k aR u rS rVx rVy rMd rE rAx rAy rBx rBy rO rP rPx rPy rPd rQ rFi rLa rOn rLe rRi rHx rHy rHd rKx rKy rKd)) (va_A (wR k aR rF rS rVx rVy rMd rE rAx rAy rBx rBy rO rP rPx rPy rPd rQ rFi rLa rOn rLe rRi rHx rHy rHd rKx rKy rKd) sz)) 0 0 (va_A (wR k aR rF rS rVx rVy rMd rE rAx rAy rBx rBy rO rP rPx rPy rPd rQ rFi rLa rOn rLe rRi rHx rHy rHd rKx rKy rKd) sz) := by
  refine Met.ofW (cc := cX5_lacks) (maxL := 2) (ret := (some .boolean)) (by decide) rfl ?_
  intro p e s m args below meth c s₁ B hml hv
  obtain ⟨hav, hsz, hP, hE, hD0⟩ := hv
  subst hsz
  have hx := B.exec
  have hb := B.bytes
  have hr := B.returns
  have hts := atoms_spec (ws := wsX5_lacks) B.pre
  have hown : s.vm.findClass RX5 = some m.cls := findClass_of_methodNamed B.named
  have hlocks := B.notSynchronized
  have hK := hE.1
  have hD := hD0.self (sz := s.heap.size)
  generalize hAe : va_A (wR k aR rF rS rVx rVy rMd rE rAx rAy rBx rBy rO rP rPx rPy rPd rQ rFi rLa rOn rLe rRi rHx rHy rHd rKx rKy rKd) s.heap.size = A at hD ⊢
  have hA : ∀ q : Nat, s.heap.size ≤ q → A q := fun q h => by rw [← hAe]; exact Or.inr h
  have hS : va_S A s.heap s.heap [] := va_S.rf
  have hl := lv_entry ([.ref (aR 0), .int p0]) (n := 2) (Nat.le_of_ble_eq_true rfl)
  rw [show entryFrame m args 2 = entryFrame m ([.ref (aR 0), .int p0] : List Value).toArray 2 by rw [hav]]
  rw [lg_entry_eq]
  refine W.gq (fun GQ hGQ => ?_)
  generalize (lg_sl ([.ref (aR 0), .int p0]) ++ List.replicate (2 - (lg_sl ([.ref (aR 0), .int p0])).length) Slot.unset).toArray = ls at hl ⊢
  have hl : lv_has ls 2 [(0, .ref (aR 0)), (1, .int p0)] := hl
  have hiX5 := (by decide +kernel : ∀ w ∈ wsX50, w ∈ wsX5_lacks)
  have f59 := hts (.fieldLink RX5 59 "PlaneOverlayModel" "fault" "I") (by decide +kernel)
  have f132 := hts (.fieldLink RX5 132 "PlaneOverlayModel" "made" "Z") (by decide +kernel)
  have L41 : ∀ (z0 : Int32) (rF : Int32) (H : Heap) (locs : List Loc) (ls : Array Slot), wp_X5_lacks_L41 p0 rMd Q  z0 rF → va_P D vwCl (wR k aR rF rS rVx rVy rMd rE rAx rAy rBx rBy rO rP rPx rPy rPd rQ rFi rLa rOn rLe rRi rHx rHy rHd rKx rKy rKd) H → va_D A (wR k aR rF rS rVx rVy rMd rE rAx rAy rBx rBy rO rP rPx rPy rPd rQ rFi rLa rOn rLe rRi rHx rHy rHd rKx rKy rKd) → va_S A s.heap H locs → lv_has ls 2 [] → W p l e (headSpec wsX5_lacks ({ frames := 0, cells := 0, slots := 0, locals := 0 })).room s m args below meth c H locs 0 0 GQ (F0 m 41 ls [.int z0]) := by
    intro z0 rF H locs ls h hP hD hS hl
    unfold wp_X5_lacks_L41 at h
    obtain ⟨hnr, h⟩ := h
    rw [hGQ]
    exact W.zret (v := z0) hx hb hr hnr (fun t ht hW => ⟨⟨_, (rF), rfl, h, by rw [ht]; exact hP, hD⟩, hS.F ht⟩) hS.2.2 dX5_lacks_41
  have L26 : ∀ (z0 : Int32) (rF : Int32) (H : Heap) (locs : List Loc) (ls : Array Slot), wp_X5_lacks_L26 p0 rMd Q  z0 rF → va_P D vwCl (wR k aR rF rS rVx rVy rMd rE rAx rAy rBx rBy rO rP rPx rPy rPd rQ rFi rLa rOn rLe rRi rHx rHy rHd rKx rKy rKd) H → va_D A (wR k aR rF rS rVx rVy rMd rE rAx rAy rBx rBy rO rP rPx rPy rPd rQ rFi rLa rOn rLe rRi rHx rHy rHd rKx rKy rKd) → va_S A s.heap H locs → lv_has ls 2 [(0, .ref (aR 0))] → W p l e (headSpec wsX5_lacks ({ frames := 0, cells := 0, slots := 0, locals := 0 })).room s m args below meth c H locs 0 0 GQ (F0 m 26 ls [.int z0, .ref (aR 0)]) := by
    intro z0 rF H locs ls h hP hD hS hl
    unfold wp_X5_lacks_L26 at h
    refine va_put (D := D) (ci := 5) (v := .int z0) (ty := .int) (C := RX5) (T := TX5) (N := 27) hx hb hts hiX5 tyX5 tyX5_ok nmX5 hown hK hP hD hS 0 rfl rfl 0 (by decide) f59 (fun _ h9 => h9) rfl (by decide +kernel) rfl rfl (Nat.le_of_ble_eq_true rfl) dX5_lacks_26 (fun H locs hP hD hS => ?_)
    have hP : va_P D vwCl (wR k aR z0 rS rVx rVy rMd rE rAx rAy rBx rBy rO rP rPx rPy rPd rQ rFi rLa rOn rLe rRi rHx rHy rHd rKx rKy rKd) H := hP
    have hD : va_D A (wR k aR z0 rS rVx rVy rMd rE rAx rAy rBx rBy rO rP rPx rPy rPd rQ rFi rLa rOn rLe rRi rHx rHy rHd rKx rKy rKd) := hD
    refine lv_aload_n hx hb dX5_lacks_29 rfl (lv_at hl 0 rfl) ?_
    refine va_get (D := D) (ci := 5) (v := .int z0) (C := RX5) (T := TX5) (N := 27) hx hb hts hiX5 hown hK hP 0 rfl rfl 0 (by decide) f59 (fun _ h9 => h9) rfl dX5_lacks_30 ?_
    refine lv_if_le (tgt := 40) hx hb dX5_lacks_33 (by decide) (fun cq => ?_) (fun cq => ?_)
    · have h := h.1 cq
      refine lv_iconst (v := (0 : Int32)) hx hb dX5_lacks_40 (by decide) ?_
      exact L41 (0 : Int32) z0 _ _ _ h hP hD hS (lv_sub hl [] rfl)
    · have h := h.2 cq
      refine lv_iconst (v := (1 : Int32)) hx hb dX5_lacks_36 (by decide) ?_
      refine lv_goto (tgt := 41) hx hb dX5_lacks_37 (by decide) ?_
      exact L41 (1 : Int32) z0 _ _ _ h hP hD hS (lv_sub hl [] rfl)
  have L21 : ∀ (rF : Int32) (H : Heap) (locs : List Loc) (ls : Array Slot), wp_X5_lacks_L21 p0 rMd Q  rF → va_P D vwCl (wR k aR rF rS rVx rVy rMd rE rAx rAy rBx rBy rO rP rPx rPy rPd rQ rFi rLa rOn rLe rRi rHx rHy rHd rKx rKy rKd) H → va_D A (wR k aR rF rS rVx rVy rMd rE rAx rAy rBx rBy rO rP rPx rPy rPd rQ rFi rLa rOn rLe rRi rHx rHy rHd rKx rKy rKd) → va_S A s.heap H locs → lv_has ls 2 [(0, .ref (aR 0))] → W p l e (headSpec wsX5_lacks ({ frames := 0, cells := 0, slots := 0, locals := 0 })).room s m args below meth c H locs 0 0 GQ (F0 m 21 ls [.ref (aR 0)]) := by
    intro rF H locs ls h hP hD hS hl
    unfold wp_X5_lacks_L21 at h
    refine lv_iconst (v := (2 : Int32)) hx hb dX5_lacks_21 (by decide) ?_
    refine lv_goto (tgt := 26) hx hb dX5_lacks_22 (by decide) ?_
    exact L26 (2 : Int32) rF _ _ _ h hP hD hS (lv_sub hl [0] rfl)
  unfold wp_X5_lacks at h
  refine lv_aload_n hx hb dX5_lacks_0 rfl (lv_at hl 0 rfl) ?_
  refine lv_aload_n hx hb dX5_lacks_1 rfl (lv_at hl 0 rfl) ?_
  refine va_get (D := D) (ci := 5) (v := .int rMd) (C := RX5) (T := TX5) (N := 27) hx hb hts hiX5 hown hK hP 0 rfl rfl 4 (by decide) f132 (fun _ h9 => h9) rfl dX5_lacks_2 ?_
  refine lv_if_ne (tgt := 12) hx hb dX5_lacks_5 (by decide) (fun cq => ?_) (fun cq => ?_)
  · have h := h.1 cq
    refine lv_iload_n hx hb dX5_lacks_12 rfl (lv_at hl 1 rfl) ?_
    refine lv_if_lt (tgt := 21) hx hb dX5_lacks_13 (by decide) (fun cq => ?_) (fun cq => ?_)
    · have h := h.1 cq
      exact L21 rF _ _ _ h hP hD hS (lv_sub hl [0] rfl)
    · have h := h.2 cq
      refine lv_iload_n hx hb dX5_lacks_16 rfl (lv_at hl 1 rfl) ?_
      refine lv_iconst (v := (3 : Int32)) hx hb dX5_lacks_17 (by decide) ?_
      refine lv_icmp_le (tgt := 25) hx hb dX5_lacks_18 (by decide) (fun cq => ?_) (fun cq => ?_)
      · have h := h.1 cq
        refine lv_iconst (v := (0 : Int32)) hx hb dX5_lacks_25 (by decide) ?_
        exact L26 (0 : Int32) rF _ _ _ h hP hD hS (lv_sub hl [0] rfl)
      · have h := h.2 cq
        exact L21 rF _ _ _ h hP hD hS (lv_sub hl [0] rfl)
  · have h := h.2 cq
    refine lv_iconst (v := (1 : Int32)) hx hb dX5_lacks_8 (by decide) ?_
    refine lv_goto (tgt := 26) hx hb dX5_lacks_9 (by decide) ?_
    exact L26 (1 : Int32) rF _ _ _ h hP hD hS (lv_sub hl [0] rfl)
set_option maxHeartbeats 4000000 in
set_option maxRecDepth 100000 in
theorem m_X5_bounds (l : Launch) (D : va_G) (k : Nat → ClassId) (aR : Nat → Nat) (rF : Int32) (rS : Nat → Int32) (rVx : Nat → Int32) (rVy : Nat → Int32) (rMd : Int32) (rE : Int32) (rAx : Nat → Int32) (rAy : Nat → Int32) (rBx : Nat → Int32) (rBy : Nat → Int32) (rO : Nat → Int32) (rP : Int32) (rPx : Nat → Int32) (rPy : Nat → Int32) (rPd : Nat → Int32) (rQ : Int32) (rFi : Nat → Int32) (rLa : Nat → Int32) (rOn : Nat → Int32) (rLe : Nat → Int32) (rRi : Nat → Int32) (rHx : Int64) (rHy : Int64) (rHd : Int64) (rKx : Int64) (rKy : Int64) (rKd : Int64) (p0 : Int32) (Q : Int32 → (Int32) → Prop) (sz : Nat) (h : wp_X5_bounds p0 rF rMd rQ rLe rRi Q) : Met l yX5_bounds wsX5_bounds ({ frames := 2, cells := 0, slots := 0, locals := 46 }) (Prw D k [.ref (aR 0), .int p0] (wR k aR rF rS rVx rVy rMd rE rAx rAy rBx rBy rO rP rPx rPy rPd rQ rFi rLa rOn rLe rRi rHx rHy rHd rKx rKy rKd) sz) (va_Qi (fun (r : Int32) (u : (Int32)) => Q r u) (fun (u : (Int32)) t => va_P D vwCl (wR k aR u rS rVx rVy rMd rE rAx rAy rBx rBy rO rP rPx rPy rPd rQ rFi rLa rOn rLe rRi rHx rHy rHd rKx rKy rKd) t.heap ∧ va_D (va_A (wR k aR rF rS rVx rVy rMd rE rAx rAy rBx rBy rO rP rPx rPy rPd rQ rFi rLa rOn rLe rRi rHx rHy rHd rKx rKy rKd) sz) (wR k aR u rS rVx rVy rMd rE rAx rAy rBx rBy rO rP rPx rPy rPd rQ rFi rLa rOn rLe rRi rHx rHy rHd rKx rKy rKd)) (va_A (wR k aR rF rS rVx rVy rMd rE rAx rAy rBx rBy rO rP rPx rPy rPd rQ rFi rLa rOn rLe rRi rHx rHy rHd rKx rKy rKd) sz)) 0 0 (va_A (wR k aR rF rS rVx rVy rMd rE rAx rAy rBx rBy rO rP rPx rPy rPd rQ rFi rLa rOn rLe rRi rHx rHy rHd rKx rKy rKd) sz) := by
  refine Met.ofW (cc := cX5_bounds) (maxL := 4) (ret := (some .int)) (by decide) rfl ?_
  intro p e s m args below meth c s₁ B hml hv
  obtain ⟨hav, hsz, hP, hE, hD0⟩ := hv
  subst hsz
  have hx := B.exec
  have hb := B.bytes
  have hr := B.returns
  have hts := atoms_spec (ws := wsX5_bounds) B.pre
  have hown : s.vm.findClass RX5 = some m.cls := findClass_of_methodNamed B.named
  have hlocks := B.notSynchronized
  have hK := hE.1
  have hD := hD0.self (sz := s.heap.size)
  generalize hAe : va_A (wR k aR rF rS rVx rVy rMd rE rAx rAy rBx rBy rO rP rPx rPy rPd rQ rFi rLa rOn rLe rRi rHx rHy rHd rKx rKy rKd) s.heap.size = A at hD ⊢
  have hA : ∀ q : Nat, s.heap.size ≤ q → A q := fun q h => by rw [← hAe]; exact Or.inr h
  have hS : va_S A s.heap s.heap [] := va_S.rf
  have hl := lv_entry ([.ref (aR 0), .int p0]) (n := 4) (Nat.le_of_ble_eq_true rfl)
  rw [show entryFrame m args 4 = entryFrame m ([.ref (aR 0), .int p0] : List Value).toArray 4 by rw [hav]]
  rw [lg_entry_eq]
  refine W.gq (fun GQ hGQ => ?_)
  generalize (lg_sl ([.ref (aR 0), .int p0]) ++ List.replicate (4 - (lg_sl ([.ref (aR 0), .int p0])).length) Slot.unset).toArray = ls at hl ⊢
  have hl : lv_has ls 4 [(0, .ref (aR 0)), (1, .int p0)] := hl
  have hiX5 := (by decide +kernel : ∀ w ∈ wsX50, w ∈ wsX5_bounds)
  have f116 := hts (.fieldLink RX5 116 "PlaneOverlayModel" "pieces" "I") (by decide +kernel)
  have L14 : ∀ (n14 : Nat) (v2 : Int32) (v3 : Int32) (rF : Int32) (H : Heap) (locs : List Loc) (ls : Array Slot), wp_X5_bounds_L14 p0 rMd rQ rLe rRi Q  n14 v2 v3 rF → va_P D vwCl (wR k aR rF rS rVx rVy rMd rE rAx rAy rBx rBy rO rP rPx rPy rPd rQ rFi rLa rOn rLe rRi rHx rHy rHd rKx rKy rKd) H → va_D A (wR k aR rF rS rVx rVy rMd rE rAx rAy rBx rBy rO rP rPx rPy rPd rQ rFi rLa rOn rLe rRi rHx rHy rHd rKx rKy rKd) → va_S A s.heap H locs → lv_has ls 4 [(0, .ref (aR 0)), (1, .int p0), (2, .int v2), (3, .int v3)] → W p l e (headSpec wsX5_bounds ({ frames := 2, cells := 0, slots := 0, locals := 46 })).room s m args below meth c H locs 0 0 GQ (F0 m 14 ls []) := by
    intro n14
    induction n14 with
    | zero => intro v2 v3 rF H locs ls h hP hD hS hl; exact False.elim h
    | succ n14 ih14 =>
      have L37 : ∀ (v3 : Int32) (z0 : Int32) (z1 : Int32) (rF : Int32) (H : Heap) (locs : List Loc) (ls : Array Slot), wp_X5_bounds_L37 p0 rMd rQ rLe rRi Q (wp_X5_bounds_L14 p0 rMd rQ rLe rRi Q  n14) v3 z0 z1 rF → va_P D vwCl (wR k aR rF rS rVx rVy rMd rE rAx rAy rBx rBy rO rP rPx rPy rPd rQ rFi rLa rOn rLe rRi rHx rHy rHd rKx rKy rKd) H → va_D A (wR k aR rF rS rVx rVy rMd rE rAx rAy rBx rBy rO rP rPx rPy rPd rQ rFi rLa rOn rLe rRi rHx rHy rHd rKx rKy rKd) → va_S A s.heap H locs → lv_has ls 4 [(0, .ref (aR 0)), (1, .int p0), (3, .int v3)] → W p l e (headSpec wsX5_bounds ({ frames := 2, cells := 0, slots := 0, locals := 46 })).room s m args below meth c H locs 0 0 GQ (F0 m 37 ls [.int z0, .int z1]) := by
        intro v3 z0 z1 rF H locs ls h hP hD hS hl
        unfold wp_X5_bounds_L37 at h
        refine lv_iadd hx hb dX5_bounds_37 ?_
        refine lv_topi (fun x38 ex38 => ?_)
        have h := h x38 ex38
        refine lv_istore_n (lv' := [(2, .int x38), (0, .ref (aR 0)), (1, .int p0), (3, .int v3)]) hx hb dX5_bounds_38 rfl hl (by decide) rfl (fun ls hl => ?_)
        refine lv_iinc (v := (v3 + 1)) (lv' := [(3, .int (v3 + 1)), (2, .int x38), (0, .ref (aR 0)), (1, .int p0)]) hx hb dX5_bounds_39 hl (k := 3) rfl rfl (by decide) rfl (fun ls hl => ?_)
        refine lv_goto (tgt := 14) hx hb dX5_bounds_42 (by decide) ?_
        exact ih14 x38 (v3 + 1) rF _ _ _ h hP hD hS (lv_sub hl [2, 3, 1, 0] rfl)
      intro v2 v3 rF H locs ls h hP hD hS hl
      rw [wp_X5_bounds_L14] at h
      refine lv_iload_n hx hb dX5_bounds_14 rfl (lv_at hl 3 rfl) ?_
      refine lv_aload_n hx hb dX5_bounds_15 rfl (lv_at hl 0 rfl) ?_
      refine va_get (D := D) (ci := 5) (v := .int rQ) (C := RX5) (T := TX5) (N := 27) hx hb hts hiX5 hown hK hP 0 rfl rfl 15 (by decide) f116 (fun _ h9 => h9) rfl dX5_bounds_16 ?_
      refine lv_icmp_ge (tgt := 45) hx hb dX5_bounds_19 (by decide) (fun cq => ?_) (fun cq => ?_)
      · have h := h.1 cq
        refine lv_iload_n hx hb dX5_bounds_45 rfl (lv_at hl 2 rfl) ?_
        rw [hGQ]
        exact W.iret (v := v2) hx hb hr (fun t ht hW => ⟨⟨_, (rF), rfl, h, by rw [ht]; exact hP, hD⟩, hS.F ht⟩) hS.2.2 dX5_bounds_46
      · have h := h.2 cq
        refine lv_iload_n hx hb dX5_bounds_22 rfl (lv_at hl 2 rfl) ?_
        refine lv_aload_n hx hb dX5_bounds_23 rfl (lv_at hl 0 rfl) ?_
        refine lv_iload_n hx hb dX5_bounds_24 rfl (lv_at hl 1 rfl) ?_
        refine lv_iload_n hx hb dX5_bounds_25 rfl (lv_at hl 3 rfl) ?_
        refine vp_callSi (W.runV (C := RX5) (b := (aR 0)) (As := [.int p0, .int v3]) (rest := [.int v2]) ⟨hx, hb, hml, hown, hts⟩ (m_X5_bounding l D k aR rF rS rVx rVy rMd rE rAx rAy rBx rBy rO rP rPx rPy rPd rQ rFi rLa rOn rLe rRi rHx rHy rHd rKx rKy rKd p0 v3 _ h) (cwV 2 hts gX5_bounds_X5_bounding rfl rfl rfl (by decide +kernel) ⟨Nat.le_of_ble_eq_true rfl, Nat.le_of_ble_eq_true rfl⟩) (preV_ro (ci := 5) (q0 := 0) (C := RX5) (T := TX5) (N := 27) hE hP rfl rfl) rfl rfl hl.1 rfl (lv_room (Nat.le_of_ble_eq_true rfl)) dX5_bounds_26 ⟨Nat.le_of_ble_eq_true rfl, Nat.le_of_ble_eq_true rfl⟩) (fun r26 h => ?_)
        refine lv_if_eq (tgt := 36) hx hb dX5_bounds_29 (by decide) (fun cq => ?_) (fun cq => ?_)
        · have h := h.1 cq
          refine lv_iconst (v := (0 : Int32)) hx hb dX5_bounds_36 (by decide) ?_
          exact L37 v3 (0 : Int32) v2 rF _ _ _ h hP hD hS (lv_sub hl [0, 1, 3] rfl)
        · have h := h.2 cq
          refine lv_iconst (v := (1 : Int32)) hx hb dX5_bounds_32 (by decide) ?_
          refine lv_goto (tgt := 37) hx hb dX5_bounds_33 (by decide) ?_
          exact L37 v3 (1 : Int32) v2 rF _ _ _ h hP hD hS (lv_sub hl [0, 1, 3] rfl)
  unfold wp_X5_bounds at h
  refine lv_aload_n hx hb dX5_bounds_0 rfl (lv_at hl 0 rfl) ?_
  refine lv_iload_n hx hb dX5_bounds_1 rfl (lv_at hl 1 rfl) ?_
  have hFc := va_free (wc := wR k aR rF rS rVx rVy rMd rE rAx rAy rBx rBy rO rP rPx rPy rPd rQ rFi rLa rOn rLe rRi rHx rHy rHd rKx rKy rKd) hD hS hA [0, 1, 2, 3, 4, 5, 6, 7, 8, 9, 10, 11, 12, 13, 14, 15, 16] rfl
  refine va_calli (va_runV (C := RX5) (b := (aR 0)) (As := [.int p0]) (rest := []) ⟨hx, hb, hml, hown, hts⟩ (m_X5_lacks l D k aR rF rS rVx rVy rMd rE rAx rAy rBx rBy rO rP rPx rPy rPd rQ rFi rLa rOn rLe rRi rHx rHy rHd rKx rKy rKd p0 _ _ h) (cwV 1 hts gX5_bounds_X5_lacks rfl rfl rfl (by decide +kernel) ⟨Nat.le_of_ble_eq_true rfl, Nat.le_of_ble_eq_true rfl⟩) (preV_rw (ci := 5) (q0 := 0) (C := RX5) (T := TX5) (N := 27) hE hP hD rfl rfl) rfl rfl hl.1 rfl (lv_room (Nat.le_of_ble_eq_true rfl)) dX5_bounds_2 ⟨Nat.le_of_ble_eq_true rfl, Nat.le_of_ble_eq_true rfl⟩) hS (fun q _ h => hFc q h) hFc (fun r2 rF_2 t H1 locs ht hvm h hB hz1 hk1 hS => ?_)
  obtain ⟨hP1, hD1⟩ := hB
  rw [ht] at hP1
  obtain ⟨hP, hD⟩ := va_join (wr := ([] : va_W)) (w1 := wR k aR rF_2 rS rVx rVy rMd rE rAx rAy rBx rBy rO rP rPx rPy rPd rQ rFi rLa rOn rLe rRi rHx rHy rHd rKx rKy rKd) hP hD [0, 1, 2, 3, 4, 5, 6, 7, 8, 9, 10, 11, 12, 13, 14, 15, 16] [] rfl rfl (by decide) (by decide) hk1 hFc hP1 hD1
  generalize H1 = H at hP hS ⊢
  have hP : va_P D vwCl (wR k aR rF_2 rS rVx rVy rMd rE rAx rAy rBx rBy rO rP rPx rPy rPd rQ rFi rLa rOn rLe rRi rHx rHy rHd rKx rKy rKd) H := hP.sub [0, 1, 2, 3, 4, 5, 6, 7, 8, 9, 10, 11, 12, 13, 14, 15, 16] rfl
  have hD : va_D A (wR k aR rF_2 rS rVx rVy rMd rE rAx rAy rBx rBy rO rP rPx rPy rPd rQ rFi rLa rOn rLe rRi rHx rHy rHd rKx rKy rKd) := hD.sub [0, 1, 2, 3, 4, 5, 6, 7, 8, 9, 10, 11, 12, 13, 14, 15, 16] (by decide) rfl
  refine lv_if_eq (tgt := 10) hx hb dX5_bounds_5 (by decide) (fun cq => ?_) (fun cq => ?_)
  · have h := h.1 cq
    refine lv_iconst (v := (0 : Int32)) hx hb dX5_bounds_10 (by decide) ?_
    refine lv_istore_n (lv' := [(2, .int (0 : Int32)), (0, .ref (aR 0)), (1, .int p0)]) hx hb dX5_bounds_11 rfl hl (by decide) rfl (fun ls hl => ?_)
    refine lv_iconst (v := (0 : Int32)) hx hb dX5_bounds_12 (by decide) ?_
    refine lv_istore_n (lv' := [(3, .int (0 : Int32)), (2, .int (0 : Int32)), (0, .ref (aR 0)), (1, .int p0)]) hx hb dX5_bounds_13 rfl hl (by decide) rfl (fun ls hl => ?_)
    obtain ⟨n9, h⟩ := h
    exact L14 n9 (0 : Int32) (0 : Int32) rF_2 _ _ _ h hP hD hS (lv_sub hl [2, 3, 1, 0] rfl)
  · have h := h.2 cq
    refine lv_iconst (v := (0 : Int32)) hx hb dX5_bounds_8 (by decide) ?_
    rw [hGQ]
    exact W.iret (v := (0 : Int32)) hx hb hr (fun t ht hW => ⟨⟨_, (rF_2), rfl, h, by rw [ht]; exact hP, hD⟩, hS.F ht⟩) hS.2.2 dX5_bounds_9
set_option maxHeartbeats 4000000 in
set_option maxRecDepth 100000 in
theorem m_X5_bound (l : Launch) (D : va_G) (k : Nat → ClassId) (aR : Nat → Nat) (rF : Int32) (rS : Nat → Int32) (rVx : Nat → Int32) (rVy : Nat → Int32) (rMd : Int32) (rE : Int32) (rAx : Nat → Int32) (rAy : Nat → Int32) (rBx : Nat → Int32) (rBy : Nat → Int32) (rO : Nat → Int32) (rP : Int32) (rPx : Nat → Int32) (rPy : Nat → Int32) (rPd : Nat → Int32) (rQ : Int32) (rFi : Nat → Int32) (rLa : Nat → Int32) (rOn : Nat → Int32) (rLe : Nat → Int32) (rRi : Nat → Int32) (rHx : Int64) (rHy : Int64) (rHd : Int64) (rKx : Int64) (rKy : Int64) (rKd : Int64) (p0 : Int32) (p1 : Int32) (Q : Int32 → (Int32) → Prop) (sz : Nat) (h : wp_X5_bound p0 p1 rF rMd rQ rLe rRi Q) : Met l yX5_bound wsX5_bound ({ frames := 2, cells := 0, slots := 0, locals := 46 }) (Prw D k [.ref (aR 0), .int p0, .int p1] (wR k aR rF rS rVx rVy rMd rE rAx rAy rBx rBy rO rP rPx rPy rPd rQ rFi rLa rOn rLe rRi rHx rHy rHd rKx rKy rKd) sz) (va_Qi (fun (r : Int32) (u : (Int32)) => Q r u) (fun (u : (Int32)) t => va_P D vwCl (wR k aR u rS rVx rVy rMd rE rAx rAy rBx rBy rO rP rPx rPy rPd rQ rFi rLa rOn rLe rRi rHx rHy rHd rKx rKy rKd) t.heap ∧ va_D (va_A (wR k aR rF rS rVx rVy rMd rE rAx rAy rBx rBy rO rP rPx rPy rPd rQ rFi rLa rOn rLe rRi rHx rHy rHd rKx rKy rKd) sz) (wR k aR u rS rVx rVy rMd rE rAx rAy rBx rBy rO rP rPx rPy rPd rQ rFi rLa rOn rLe rRi rHx rHy rHd rKx rKy rKd)) (va_A (wR k aR rF rS rVx rVy rMd rE rAx rAy rBx rBy rO rP rPx rPy rPd rQ rFi rLa rOn rLe rRi rHx rHy rHd rKx rKy rKd) sz)) 0 0 (va_A (wR k aR rF rS rVx rVy rMd rE rAx rAy rBx rBy rO rP rPx rPy rPd rQ rFi rLa rOn rLe rRi rHx rHy rHd rKx rKy rKd) sz) := by
  refine Met.ofW (cc := cX5_bound) (maxL := 5) (ret := (some .int)) (by decide) rfl ?_
  intro p e s m args below meth c s₁ B hml hv
  obtain ⟨hav, hsz, hP, hE, hD0⟩ := hv
  subst hsz
  have hx := B.exec
  have hb := B.bytes
  have hr := B.returns
  have hts := atoms_spec (ws := wsX5_bound) B.pre
  have hown : s.vm.findClass RX5 = some m.cls := findClass_of_methodNamed B.named
  have hlocks := B.notSynchronized
  have hK := hE.1
  have hD := hD0.self (sz := s.heap.size)
  generalize hAe : va_A (wR k aR rF rS rVx rVy rMd rE rAx rAy rBx rBy rO rP rPx rPy rPd rQ rFi rLa rOn rLe rRi rHx rHy rHd rKx rKy rKd) s.heap.size = A at hD ⊢
  have hA : ∀ q : Nat, s.heap.size ≤ q → A q := fun q h => by rw [← hAe]; exact Or.inr h
  have hS : va_S A s.heap s.heap [] := va_S.rf
  have hl := lv_entry ([.ref (aR 0), .int p0, .int p1]) (n := 5) (Nat.le_of_ble_eq_true rfl)
  rw [show entryFrame m args 5 = entryFrame m ([.ref (aR 0), .int p0, .int p1] : List Value).toArray 5 by rw [hav]]
  rw [lg_entry_eq]
  refine W.gq (fun GQ hGQ => ?_)
  generalize (lg_sl ([.ref (aR 0), .int p0, .int p1]) ++ List.replicate (5 - (lg_sl ([.ref (aR 0), .int p0, .int p1])).length) Slot.unset).toArray = ls at hl ⊢
  have hl : lv_has ls 5 [(0, .ref (aR 0)), (1, .int p0), (2, .int p1)] := hl
  have hiX5 := (by decide +kernel : ∀ w ∈ wsX50, w ∈ wsX5_bound)
  have f59 := hts (.fieldLink RX5 59 "PlaneOverlayModel" "fault" "I") (by decide +kernel)
  have f116 := hts (.fieldLink RX5 116 "PlaneOverlayModel" "pieces" "I") (by decide +kernel)
  have L54 : ∀ (rF : Int32) (H : Heap) (locs : List Loc) (ls : Array Slot), wp_X5_bound_L54 p0 p1 rMd rQ rLe rRi Q  rF → va_P D vwCl (wR k aR rF rS rVx rVy rMd rE rAx rAy rBx rBy rO rP rPx rPy rPd rQ rFi rLa rOn rLe rRi rHx rHy rHd rKx rKy rKd) H → va_D A (wR k aR rF rS rVx rVy rMd rE rAx rAy rBx rBy rO rP rPx rPy rPd rQ rFi rLa rOn rLe rRi rHx rHy rHd rKx rKy rKd) → va_S A s.heap H locs → lv_has ls 5 [(0, .ref (aR 0))] → W p l e (headSpec wsX5_bound ({ frames := 2, cells := 0, slots := 0, locals := 46 })).room s m args below meth c H locs 0 0 GQ (F0 m 54 ls []) := by
    intro rF H locs ls h hP hD hS hl
    unfold wp_X5_bound_L54 at h
    refine lv_aload_n hx hb dX5_bound_54 rfl (lv_at hl 0 rfl) ?_
    refine lv_iconst (v := (3 : Int32)) hx hb dX5_bound_55 (by decide) ?_
    refine va_put (D := D) (ci := 5) (v := .int (3 : Int32)) (ty := .int) (C := RX5) (T := TX5) (N := 27) hx hb hts hiX5 tyX5 tyX5_ok nmX5 hown hK hP hD hS 0 rfl rfl 0 (by decide) f59 (fun _ h9 => h9) rfl (by decide +kernel) rfl rfl (Nat.le_of_ble_eq_true rfl) dX5_bound_56 (fun H locs hP hD hS => ?_)
    have hP : va_P D vwCl (wR k aR (3 : Int32) rS rVx rVy rMd rE rAx rAy rBx rBy rO rP rPx rPy rPd rQ rFi rLa rOn rLe rRi rHx rHy rHd rKx rKy rKd) H := hP
    have hD : va_D A (wR k aR (3 : Int32) rS rVx rVy rMd rE rAx rAy rBx rBy rO rP rPx rPy rPd rQ rFi rLa rOn rLe rRi rHx rHy rHd rKx rKy rKd) := hD
    refine lv_iconst (v := (0 : Int32)) hx hb dX5_bound_59 (by decide) ?_
    rw [hGQ]
    exact W.iret (v := (0 : Int32)) hx hb hr (fun t ht hW => ⟨⟨_, ((3 : Int32)), rfl, h, by rw [ht]; exact hP, hD⟩, hS.F ht⟩) hS.2.2 dX5_bound_60
  have L15 : ∀ (n15 : Nat) (v3 : Int32) (v4 : Int32) (rF : Int32) (H : Heap) (locs : List Loc) (ls : Array Slot), wp_X5_bound_L15 p0 p1 rMd rQ rLe rRi Q (fun rF => (wp_X5_bound_L54 p0 p1 rMd rQ rLe rRi Q  rF)) n15 v3 v4 rF → va_P D vwCl (wR k aR rF rS rVx rVy rMd rE rAx rAy rBx rBy rO rP rPx rPy rPd rQ rFi rLa rOn rLe rRi rHx rHy rHd rKx rKy rKd) H → va_D A (wR k aR rF rS rVx rVy rMd rE rAx rAy rBx rBy rO rP rPx rPy rPd rQ rFi rLa rOn rLe rRi rHx rHy rHd rKx rKy rKd) → va_S A s.heap H locs → lv_has ls 5 [(0, .ref (aR 0)), (1, .int p0), (2, .int p1), (3, .int v3), (4, .int v4)] → W p l e (headSpec wsX5_bound ({ frames := 2, cells := 0, slots := 0, locals := 46 })).room s m args below meth c H locs 0 0 GQ (F0 m 15 ls []) := by
    intro n15
    induction n15 with
    | zero => intro v3 v4 rF H locs ls h hP hD hS hl; exact False.elim h
    | succ n15 ih15 =>
      have L48 : ∀ (v3 : Int32) (v4 : Int32) (rF : Int32) (H : Heap) (locs : List Loc) (ls : Array Slot), wp_X5_bound_L48 p0 p1 rMd rQ rLe rRi Q (wp_X5_bound_L15 p0 p1 rMd rQ rLe rRi Q (fun rF => (wp_X5_bound_L54 p0 p1 rMd rQ rLe rRi Q  rF)) n15) v3 v4 rF → va_P D vwCl (wR k aR rF rS rVx rVy rMd rE rAx rAy rBx rBy rO rP rPx rPy rPd rQ rFi rLa rOn rLe rRi rHx rHy rHd rKx rKy rKd) H → va_D A (wR k aR rF rS rVx rVy rMd rE rAx rAy rBx rBy rO rP rPx rPy rPd rQ rFi rLa rOn rLe rRi rHx rHy rHd rKx rKy rKd) → va_S A s.heap H locs → lv_has ls 5 [(0, .ref (aR 0)), (1, .int p0), (2, .int p1), (3, .int v3), (4, .int v4)] → W p l e (headSpec wsX5_bound ({ frames := 2, cells := 0, slots := 0, locals := 46 })).room s m args below meth c H locs 0 0 GQ (F0 m 48 ls []) := by
        intro v3 v4 rF H locs ls h hP hD hS hl
        unfold wp_X5_bound_L48 at h
        refine lv_iinc (v := (v4 + 1)) (lv' := [(4, .int (v4 + 1)), (0, .ref (aR 0)), (1, .int p0), (2, .int p1), (3, .int v3)]) hx hb dX5_bound_48 hl (k := 4) rfl rfl (by decide) rfl (fun ls hl => ?_)
        refine lv_goto (tgt := 15) hx hb dX5_bound_51 (by decide) ?_
        exact ih15 v3 (v4 + 1) rF _ _ _ h hP hD hS (lv_sub hl [1, 2, 3, 4, 0] rfl)
      intro v3 v4 rF H locs ls h hP hD hS hl
      rw [wp_X5_bound_L15] at h
      refine lv_iload hx hb dX5_bound_15 (lv_at hl 4 rfl) ?_
      refine lv_aload_n hx hb dX5_bound_17 rfl (lv_at hl 0 rfl) ?_
      refine va_get (D := D) (ci := 5) (v := .int rQ) (C := RX5) (T := TX5) (N := 27) hx hb hts hiX5 hown hK hP 0 rfl rfl 15 (by decide) f116 (fun _ h9 => h9) rfl dX5_bound_18 ?_
      refine lv_icmp_ge (tgt := 54) hx hb dX5_bound_21 (by decide) (fun cq => ?_) (fun cq => ?_)
      · have h := h.1 cq
        exact L54 rF _ _ _ h hP hD hS (lv_sub hl [0] rfl)
      · have h := h.2 cq
        refine lv_iload_n hx hb dX5_bound_24 rfl (lv_at hl 2 rfl) ?_
        refine lv_if_lt (tgt := 54) hx hb dX5_bound_25 (by decide) (fun cq => ?_) (fun cq => ?_)
        · have h := h.1 cq
          exact L54 rF _ _ _ h hP hD hS (lv_sub hl [0] rfl)
        · have h := h.2 cq
          refine lv_aload_n hx hb dX5_bound_28 rfl (lv_at hl 0 rfl) ?_
          refine lv_iload_n hx hb dX5_bound_29 rfl (lv_at hl 1 rfl) ?_
          refine lv_iload hx hb dX5_bound_30 (lv_at hl 4 rfl) ?_
          refine vp_callSi (W.runV (C := RX5) (b := (aR 0)) (As := [.int p0, .int v4]) (rest := []) ⟨hx, hb, hml, hown, hts⟩ (m_X5_bounding l D k aR rF rS rVx rVy rMd rE rAx rAy rBx rBy rO rP rPx rPy rPd rQ rFi rLa rOn rLe rRi rHx rHy rHd rKx rKy rKd p0 v4 _ h) (cwV 2 hts gX5_bound_X5_bounding rfl rfl rfl (by decide +kernel) ⟨Nat.le_of_ble_eq_true rfl, Nat.le_of_ble_eq_true rfl⟩) (preV_ro (ci := 5) (q0 := 0) (C := RX5) (T := TX5) (N := 27) hE hP rfl rfl) rfl rfl hl.1 rfl (lv_room (Nat.le_of_ble_eq_true rfl)) dX5_bound_32 ⟨Nat.le_of_ble_eq_true rfl, Nat.le_of_ble_eq_true rfl⟩) (fun r32 h => ?_)
          refine lv_if_eq (tgt := 48) hx hb dX5_bound_35 (by decide) (fun cq => ?_) (fun cq => ?_)
          · have h := h.1 cq
            exact L48 v3 v4 rF _ _ _ h hP hD hS (lv_sub hl [0, 1, 2, 3, 4] rfl)
          · have h := h.2 cq
            refine lv_iload_n hx hb dX5_bound_38 rfl (lv_at hl 3 rfl) ?_
            refine lv_if_ne (tgt := 45) hx hb dX5_bound_39 (by decide) (fun cq => ?_) (fun cq => ?_)
            · have h := h.1 cq
              refine lv_iinc (v := (v3 + (-1))) (lv' := [(3, .int (v3 + (-1))), (0, .ref (aR 0)), (1, .int p0), (2, .int p1), (4, .int v4)]) hx hb dX5_bound_45 hl (k := 3) rfl (by rw [show Int32.ofInt (-1) = -1 by decide]) (by decide) rfl (fun ls hl => ?_)
              exact L48 (v3 + (-1)) v4 rF _ _ _ h hP hD hS (lv_sub hl [1, 2, 3, 0, 4] rfl)
            · have h := h.2 cq
              refine lv_iload hx hb dX5_bound_42 (lv_at hl 4 rfl) ?_
              rw [hGQ]
              exact W.iret (v := v4) hx hb hr (fun t ht hW => ⟨⟨_, (rF), rfl, h, by rw [ht]; exact hP, hD⟩, hS.F ht⟩) hS.2.2 dX5_bound_44
  unfold wp_X5_bound at h
  refine lv_aload_n hx hb dX5_bound_0 rfl (lv_at hl 0 rfl) ?_
  refine lv_iload_n hx hb dX5_bound_1 rfl (lv_at hl 1 rfl) ?_
  have hFc := va_free (wc := wR k aR rF rS rVx rVy rMd rE rAx rAy rBx rBy rO rP rPx rPy rPd rQ rFi rLa rOn rLe rRi rHx rHy rHd rKx rKy rKd) hD hS hA [0, 1, 2, 3, 4, 5, 6, 7, 8, 9, 10, 11, 12, 13, 14, 15, 16] rfl
  refine va_calli (va_runV (C := RX5) (b := (aR 0)) (As := [.int p0]) (rest := []) ⟨hx, hb, hml, hown, hts⟩ (m_X5_lacks l D k aR rF rS rVx rVy rMd rE rAx rAy rBx rBy rO rP rPx rPy rPd rQ rFi rLa rOn rLe rRi rHx rHy rHd rKx rKy rKd p0 _ _ h) (cwV 1 hts gX5_bound_X5_lacks rfl rfl rfl (by decide +kernel) ⟨Nat.le_of_ble_eq_true rfl, Nat.le_of_ble_eq_true rfl⟩) (preV_rw (ci := 5) (q0 := 0) (C := RX5) (T := TX5) (N := 27) hE hP hD rfl rfl) rfl rfl hl.1 rfl (lv_room (Nat.le_of_ble_eq_true rfl)) dX5_bound_2 ⟨Nat.le_of_ble_eq_true rfl, Nat.le_of_ble_eq_true rfl⟩) hS (fun q _ h => hFc q h) hFc (fun r2 rF_2 t H1 locs ht hvm h hB hz1 hk1 hS => ?_)
  obtain ⟨hP1, hD1⟩ := hB
  rw [ht] at hP1
  obtain ⟨hP, hD⟩ := va_join (wr := ([] : va_W)) (w1 := wR k aR rF_2 rS rVx rVy rMd rE rAx rAy rBx rBy rO rP rPx rPy rPd rQ rFi rLa rOn rLe rRi rHx rHy rHd rKx rKy rKd) hP hD [0, 1, 2, 3, 4, 5, 6, 7, 8, 9, 10, 11, 12, 13, 14, 15, 16] [] rfl rfl (by decide) (by decide) hk1 hFc hP1 hD1
  generalize H1 = H at hP hS ⊢
  have hP : va_P D vwCl (wR k aR rF_2 rS rVx rVy rMd rE rAx rAy rBx rBy rO rP rPx rPy rPd rQ rFi rLa rOn rLe rRi rHx rHy rHd rKx rKy rKd) H := hP.sub [0, 1, 2, 3, 4, 5, 6, 7, 8, 9, 10, 11, 12, 13, 14, 15, 16] rfl
  have hD : va_D A (wR k aR rF_2 rS rVx rVy rMd rE rAx rAy rBx rBy rO rP rPx rPy rPd rQ rFi rLa rOn rLe rRi rHx rHy rHd rKx rKy rKd) := hD.sub [0, 1, 2, 3, 4, 5, 6, 7, 8, 9, 10, 11, 12, 13, 14, 15, 16] (by decide) rfl
  refine lv_if_eq (tgt := 10) hx hb dX5_bound_5 (by decide) (fun cq => ?_) (fun cq => ?_)
  · have h := h.1 cq
    refine lv_iload_n hx hb dX5_bound_10 rfl (lv_at hl 2 rfl) ?_
    refine lv_istore_n (lv' := [(3, .int p1), (0, .ref (aR 0)), (1, .int p0), (2, .int p1)]) hx hb dX5_bound_11 rfl hl (by decide) rfl (fun ls hl => ?_)
    refine lv_iconst (v := (0 : Int32)) hx hb dX5_bound_12 (by decide) ?_
    refine lv_istore (lv' := [(4, .int (0 : Int32)), (3, .int p1), (0, .ref (aR 0)), (1, .int p0), (2, .int p1)]) hx hb dX5_bound_13 hl (by decide) rfl (fun ls hl => ?_)
    obtain ⟨n9, h⟩ := h
    exact L15 n9 p1 (0 : Int32) rF_2 _ _ _ h hP hD hS (lv_sub hl [2, 3, 4, 1, 0] rfl)
  · have h := h.2 cq
    refine lv_iconst (v := (0 : Int32)) hx hb dX5_bound_8 (by decide) ?_
    rw [hGQ]
    exact W.iret (v := (0 : Int32)) hx hb hr (fun t ht hW => ⟨⟨_, (rF_2), rfl, h, by rw [ht]; exact hP, hD⟩, hS.F ht⟩) hS.2.2 dX5_bound_9
set_option maxHeartbeats 4000000 in
set_option maxRecDepth 100000 in
theorem m_X5_where (l : Launch) (D : va_G) (k : Nat → ClassId) (aR : Nat → Nat) (rF : Int32) (rS : Nat → Int32) (rVx : Nat → Int32) (rVy : Nat → Int32) (rMd : Int32) (rE : Int32) (rAx : Nat → Int32) (rAy : Nat → Int32) (rBx : Nat → Int32) (rBy : Nat → Int32) (rO : Nat → Int32) (rP : Int32) (rPx : Nat → Int32) (rPy : Nat → Int32) (rPd : Nat → Int32) (rQ : Int32) (rFi : Nat → Int32) (rLa : Nat → Int32) (rOn : Nat → Int32) (rLe : Nat → Int32) (rRi : Nat → Int32) (rHx : Int64) (rHy : Int64) (rHd : Int64) (rKx : Int64) (rKy : Int64) (rKd : Int64) (p0 : Int32) (p1 : Int32) (p2 : Int32) (p3 : Int32) (Q : Int32 → (Int32) → Prop) (sz : Nat) (h : wp_X5_where p0 p1 p2 p3 rF rMd rE rAx rAy rBx rBy rO Q) : Met l yX5_where wsX5_where ({ frames := 2, cells := 0, slots := 0, locals := 62 }) (Prw D k [.ref (aR 0), .int p0, .int p1, .int p2, .int p3] (wR k aR rF rS rVx rVy rMd rE rAx rAy rBx rBy rO rP rPx rPy rPd rQ rFi rLa rOn rLe rRi rHx rHy rHd rKx rKy rKd) sz) (va_Qi (fun (r : Int32) (u : (Int32)) => Q r u) (fun (u : (Int32)) t => va_P D vwCl (wR k aR u rS rVx rVy rMd rE rAx rAy rBx rBy rO rP rPx rPy rPd rQ rFi rLa rOn rLe rRi rHx rHy rHd rKx rKy rKd) t.heap ∧ va_D (va_A (wR k aR rF rS rVx rVy rMd rE rAx rAy rBx rBy rO rP rPx rPy rPd rQ rFi rLa rOn rLe rRi rHx rHy rHd rKx rKy rKd) sz) (wR k aR u rS rVx rVy rMd rE rAx rAy rBx rBy rO rP rPx rPy rPd rQ rFi rLa rOn rLe rRi rHx rHy rHd rKx rKy rKd)) (va_A (wR k aR rF rS rVx rVy rMd rE rAx rAy rBx rBy rO rP rPx rPy rPd rQ rFi rLa rOn rLe rRi rHx rHy rHd rKx rKy rKd) sz)) 0 0 (va_A (wR k aR rF rS rVx rVy rMd rE rAx rAy rBx rBy rO rP rPx rPy rPd rQ rFi rLa rOn rLe rRi rHx rHy rHd rKx rKy rKd) sz) := by
  refine Met.ofW (cc := cX5_where) (maxL := 7) (ret := (some .int)) (by decide) rfl ?_
  intro p e s m args below meth c s₁ B hml hv
  obtain ⟨hav, hsz, hP, hE, hD0⟩ := hv
  subst hsz
  have hx := B.exec
  have hb := B.bytes
  have hr := B.returns
  have hts := atoms_spec (ws := wsX5_where) B.pre
  have hown : s.vm.findClass RX5 = some m.cls := findClass_of_methodNamed B.named
  have hlocks := B.notSynchronized
  have hK := hE.1
  have hD := hD0.self (sz := s.heap.size)
  generalize hAe : va_A (wR k aR rF rS rVx rVy rMd rE rAx rAy rBx rBy rO rP rPx rPy rPd rQ rFi rLa rOn rLe rRi rHx rHy rHd rKx rKy rKd) s.heap.size = A at hD ⊢
  have hA : ∀ q : Nat, s.heap.size ≤ q → A q := fun q h => by rw [← hAe]; exact Or.inr h
  have hS : va_S A s.heap s.heap [] := va_S.rf
  have hl := lv_entry ([.ref (aR 0), .int p0, .int p1, .int p2, .int p3]) (n := 7) (Nat.le_of_ble_eq_true rfl)
  rw [show entryFrame m args 7 = entryFrame m ([.ref (aR 0), .int p0, .int p1, .int p2, .int p3] : List Value).toArray 7 by rw [hav]]
  rw [lg_entry_eq]
  refine W.gq (fun GQ hGQ => ?_)
  generalize (lg_sl ([.ref (aR 0), .int p0, .int p1, .int p2, .int p3]) ++ List.replicate (7 - (lg_sl ([.ref (aR 0), .int p0, .int p1, .int p2, .int p3])).length) Slot.unset).toArray = ls at hl ⊢
  have hl : lv_has ls 7 [(0, .ref (aR 0)), (1, .int p0), (2, .int p1), (3, .int p2), (4, .int p3)] := hl
  have hiX5 := (by decide +kernel : ∀ w ∈ wsX50, w ∈ wsX5_where)
  have f92 := hts (.fieldLink RX5 92 "PlaneOverlayModel" "edges" "I") (by decide +kernel)
  have f31 := hts (.fieldLink RX5 31 "PlaneOverlayModel" "owner" "[I") (by decide +kernel)
  have f59 := hts (.fieldLink RX5 59 "PlaneOverlayModel" "fault" "I") (by decide +kernel)
  have f132 := hts (.fieldLink RX5 132 "PlaneOverlayModel" "made" "Z") (by decide +kernel)
  have k176 := hts (.constant RX5 176 (-100000)) (by decide +kernel)
  have k177 := hts (.constant RX5 177 (100000)) (by decide +kernel)
  have L89 : ∀ (n89 : Nat) (v6 : Int32) (rF : Int32) (H : Heap) (locs : List Loc) (ls : Array Slot), wp_X5_where_L89 p0 p1 p2 p3 rMd rE rAx rAy rBx rBy rO Q  n89 v6 rF → va_P D vwCl (wR k aR rF rS rVx rVy rMd rE rAx rAy rBx rBy rO rP rPx rPy rPd rQ rFi rLa rOn rLe rRi rHx rHy rHd rKx rKy rKd) H → va_D A (wR k aR rF rS rVx rVy rMd rE rAx rAy rBx rBy rO rP rPx rPy rPd rQ rFi rLa rOn rLe rRi rHx rHy rHd rKx rKy rKd) → va_S A s.heap H locs → lv_has ls 7 [(0, .ref (aR 0)), (1, .int p0), (2, .int p1), (3, .int p2), (4, .int p3), (6, .int v6)] → W p l e (headSpec wsX5_where ({ frames := 2, cells := 0, slots := 0, locals := 62 })).room s m args below meth c H locs 0 0 GQ (F0 m 89 ls []) := by
    intro n89
    induction n89 with
    | zero => intro v6 rF H locs ls h hP hD hS hl; exact False.elim h
    | succ n89 ih89 =>
      have L127 : ∀ (v6 : Int32) (rF : Int32) (H : Heap) (locs : List Loc) (ls : Array Slot), wp_X5_where_L127 p0 p1 p2 p3 rMd rE rAx rAy rBx rBy rO Q (wp_X5_where_L89 p0 p1 p2 p3 rMd rE rAx rAy rBx rBy rO Q  n89) v6 rF → va_P D vwCl (wR k aR rF rS rVx rVy rMd rE rAx rAy rBx rBy rO rP rPx rPy rPd rQ rFi rLa rOn rLe rRi rHx rHy rHd rKx rKy rKd) H → va_D A (wR k aR rF rS rVx rVy rMd rE rAx rAy rBx rBy rO rP rPx rPy rPd rQ rFi rLa rOn rLe rRi rHx rHy rHd rKx rKy rKd) → va_S A s.heap H locs → lv_has ls 7 [(0, .ref (aR 0)), (1, .int p0), (2, .int p1), (3, .int p2), (4, .int p3), (6, .int v6)] → W p l e (headSpec wsX5_where ({ frames := 2, cells := 0, slots := 0, locals := 62 })).room s m args below meth c H locs 0 0 GQ (F0 m 127 ls []) := by
        intro v6 rF H locs ls h hP hD hS hl
        unfold wp_X5_where_L127 at h
        refine lv_iinc (v := (v6 + 1)) (lv' := [(6, .int (v6 + 1)), (0, .ref (aR 0)), (1, .int p0), (2, .int p1), (3, .int p2), (4, .int p3)]) hx hb dX5_where_127 hl (k := 5) rfl rfl (by decide) rfl (fun ls hl => ?_)
        refine lv_goto (tgt := 89) hx hb dX5_where_130 (by decide) ?_
        exact ih89 (v6 + 1) rF _ _ _ h hP hD hS (lv_sub hl [1, 2, 3, 4, 5, 0] rfl)
      intro v6 rF H locs ls h hP hD hS hl
      rw [wp_X5_where_L89] at h
      refine lv_iload hx hb dX5_where_89 (lv_at hl 5 rfl) ?_
      refine lv_aload_n hx hb dX5_where_91 rfl (lv_at hl 0 rfl) ?_
      refine va_get (D := D) (ci := 5) (v := .int rE) (C := RX5) (T := TX5) (N := 27) hx hb hts hiX5 hown hK hP 0 rfl rfl 5 (by decide) f92 (fun _ h9 => h9) rfl dX5_where_92 ?_
      refine lv_icmp_ge (tgt := 133) hx hb dX5_where_95 (by decide) (fun cq => ?_) (fun cq => ?_)
      · have h := h.1 cq
        refine lv_aload_n hx hb dX5_where_133 rfl (lv_at hl 0 rfl) ?_
        refine lv_iload_n hx hb dX5_where_134 rfl (lv_at hl 1 rfl) ?_
        refine lv_iload_n hx hb dX5_where_135 rfl (lv_at hl 2 rfl) ?_
        refine lv_i2l hx hb dX5_where_136 rfl ?_
        refine lv_iload_n hx hb dX5_where_137 rfl (lv_at hl 3 rfl) ?_
        refine lv_i2l hx hb dX5_where_138 rfl ?_
        refine lv_iload hx hb dX5_where_139 (lv_at hl 4 rfl) ?_
        refine lv_i2l hx hb dX5_where_141 rfl ?_
        refine vp_callSi (W.runV (C := RX5) (b := (aR 0)) (As := [.int p0, .long (p1.toInt64), .long (p2.toInt64), .long (p3.toInt64)]) (rest := []) ⟨hx, hb, hml, hown, hts⟩ (m_X5_above l D k aR rF rS rVx rVy rMd rE rAx rAy rBx rBy rO rP rPx rPy rPd rQ rFi rLa rOn rLe rRi rHx rHy rHd rKx rKy rKd p0 (p1.toInt64) (p2.toInt64) (p3.toInt64) _ h) (cwV 4 hts gX5_where_X5_above rfl rfl rfl (by decide +kernel) ⟨Nat.le_of_ble_eq_true rfl, Nat.le_of_ble_eq_true rfl⟩) (preV_ro (ci := 5) (q0 := 0) (C := RX5) (T := TX5) (N := 27) hE hP rfl rfl) rfl rfl hl.1 rfl (lv_room (Nat.le_of_ble_eq_true rfl)) dX5_where_142 ⟨Nat.le_of_ble_eq_true rfl, Nat.le_of_ble_eq_true rfl⟩) (fun r142 h => ?_)
        refine lv_iconst (v := (2 : Int32)) hx hb dX5_where_145 (by decide) ?_
        obtain ⟨hne, h⟩ := h
        refine lv_irem hx hb dX5_where_146 hne ?_
        rw [hGQ]
        exact W.iret (v := (r142 - r142 / (2 : Int32) * (2 : Int32))) hx hb hr (fun t ht hW => ⟨⟨_, (rF), rfl, h, by rw [ht]; exact hP, hD⟩, hS.F ht⟩) hS.2.2 dX5_where_147
      · have h := h.2 cq
        refine lv_aload_n hx hb dX5_where_98 rfl (lv_at hl 0 rfl) ?_
        refine va_get (D := D) (ci := 5) (v := .ref (aR 8)) (C := RX5) (T := TX5) (N := 27) hx hb hts hiX5 hown hK hP 0 rfl rfl 10 (by decide) f31 (fun _ h9 => h9) rfl dX5_where_99 ?_
        refine lv_iload hx hb dX5_where_102 (lv_at hl 5 rfl) ?_
        obtain ⟨hin, h⟩ := h
        refine va_iald hx hb hK hP 8 0 rfl rfl hin dX5_where_104 ?_
        refine lv_iload_n hx hb dX5_where_105 rfl (lv_at hl 1 rfl) ?_
        refine lv_icmp_ne (tgt := 127) hx hb dX5_where_106 (by decide) (fun cq => ?_) (fun cq => ?_)
        · have h := h.1 cq
          exact L127 v6 rF _ _ _ h hP hD hS (lv_sub hl [0, 1, 2, 3, 4, 5] rfl)
        · have h := h.2 cq
          refine lv_aload_n hx hb dX5_where_109 rfl (lv_at hl 0 rfl) ?_
          refine lv_iload hx hb dX5_where_110 (lv_at hl 5 rfl) ?_
          refine lv_iload_n hx hb dX5_where_112 rfl (lv_at hl 2 rfl) ?_
          refine lv_i2l hx hb dX5_where_113 rfl ?_
          refine lv_iload_n hx hb dX5_where_114 rfl (lv_at hl 3 rfl) ?_
          refine lv_i2l hx hb dX5_where_115 rfl ?_
          refine lv_iload hx hb dX5_where_116 (lv_at hl 4 rfl) ?_
          refine lv_i2l hx hb dX5_where_118 rfl ?_
          refine vp_callSi (W.runV (C := RX5) (b := (aR 0)) (As := [.int v6, .long (p1.toInt64), .long (p2.toInt64), .long (p3.toInt64)]) (rest := []) ⟨hx, hb, hml, hown, hts⟩ (m_X5_onEdge l D k aR rF rS rVx rVy rMd rE rAx rAy rBx rBy rO rP rPx rPy rPd rQ rFi rLa rOn rLe rRi rHx rHy rHd rKx rKy rKd v6 (p1.toInt64) (p2.toInt64) (p3.toInt64) _ h) (cwV 4 hts gX5_where_X5_onEdge rfl rfl rfl (by decide +kernel) ⟨Nat.le_of_ble_eq_true rfl, Nat.le_of_ble_eq_true rfl⟩) (preV_ro (ci := 5) (q0 := 0) (C := RX5) (T := TX5) (N := 27) hE hP rfl rfl) rfl rfl hl.1 rfl (lv_room (Nat.le_of_ble_eq_true rfl)) dX5_where_119 ⟨Nat.le_of_ble_eq_true rfl, Nat.le_of_ble_eq_true rfl⟩) (fun r119 h => ?_)
          refine lv_if_eq (tgt := 127) hx hb dX5_where_122 (by decide) (fun cq => ?_) (fun cq => ?_)
          · have h := h.1 cq
            exact L127 v6 rF _ _ _ h hP hD hS (lv_sub hl [0, 1, 2, 3, 4, 5] rfl)
          · have h := h.2 cq
            refine lv_iconst (v := (2 : Int32)) hx hb dX5_where_125 (by decide) ?_
            rw [hGQ]
            exact W.iret (v := (2 : Int32)) hx hb hr (fun t ht hW => ⟨⟨_, (rF), rfl, h, by rw [ht]; exact hP, hD⟩, hS.F ht⟩) hS.2.2 dX5_where_126
  have L74 : ∀ (z0 : Int32) (rF : Int32) (H : Heap) (locs : List Loc) (ls : Array Slot), wp_X5_where_L74 p0 p1 p2 p3 rMd rE rAx rAy rBx rBy rO Q  z0 rF → va_P D vwCl (wR k aR rF rS rVx rVy rMd rE rAx rAy rBx rBy rO rP rPx rPy rPd rQ rFi rLa rOn rLe rRi rHx rHy rHd rKx rKy rKd) H → va_D A (wR k aR rF rS rVx rVy rMd rE rAx rAy rBx rBy rO rP rPx rPy rPd rQ rFi rLa rOn rLe rRi rHx rHy rHd rKx rKy rKd) → va_S A s.heap H locs → lv_has ls 7 [(0, .ref (aR 0)), (1, .int p0), (2, .int p1), (3, .int p2), (4, .int p3)] → W p l e (headSpec wsX5_where ({ frames := 2, cells := 0, slots := 0, locals := 62 })).room s m args below meth c H locs 0 0 GQ (F0 m 74 ls [.int z0, .ref (aR 0)]) := by
    intro z0 rF H locs ls h hP hD hS hl
    unfold wp_X5_where_L74 at h
    refine va_put (D := D) (ci := 5) (v := .int z0) (ty := .int) (C := RX5) (T := TX5) (N := 27) hx hb hts hiX5 tyX5 tyX5_ok nmX5 hown hK hP hD hS 0 rfl rfl 0 (by decide) f59 (fun _ h9 => h9) rfl (by decide +kernel) rfl rfl (Nat.le_of_ble_eq_true rfl) dX5_where_74 (fun H locs hP hD hS => ?_)
    have hP : va_P D vwCl (wR k aR z0 rS rVx rVy rMd rE rAx rAy rBx rBy rO rP rPx rPy rPd rQ rFi rLa rOn rLe rRi rHx rHy rHd rKx rKy rKd) H := hP
    have hD : va_D A (wR k aR z0 rS rVx rVy rMd rE rAx rAy rBx rBy rO rP rPx rPy rPd rQ rFi rLa rOn rLe rRi rHx rHy rHd rKx rKy rKd) := hD
    refine lv_aload_n hx hb dX5_where_77 rfl (lv_at hl 0 rfl) ?_
    refine va_get (D := D) (ci := 5) (v := .int z0) (C := RX5) (T := TX5) (N := 27) hx hb hts hiX5 hown hK hP 0 rfl rfl 0 (by decide) f59 (fun _ h9 => h9) rfl dX5_where_78 ?_
    refine lv_if_le (tgt := 86) hx hb dX5_where_81 (by decide) (fun cq => ?_) (fun cq => ?_)
    · have h := h.1 cq
      refine lv_iconst (v := (0 : Int32)) hx hb dX5_where_86 (by decide) ?_
      refine lv_istore (lv' := [(6, .int (0 : Int32)), (0, .ref (aR 0)), (1, .int p0), (2, .int p1), (3, .int p2), (4, .int p3)]) hx hb dX5_where_87 hl (by decide) rfl (fun ls hl => ?_)
      obtain ⟨n9, h⟩ := h
      exact L89 n9 (0 : Int32) z0 _ _ _ h hP hD hS (lv_sub hl [1, 2, 3, 4, 5, 0] rfl)
    · have h := h.2 cq
      refine lv_iconst (v := (0 : Int32)) hx hb dX5_where_84 (by decide) ?_
      rw [hGQ]
      exact W.iret (v := (0 : Int32)) hx hb hr (fun t ht hW => ⟨⟨_, (z0), rfl, h, by rw [ht]; exact hP, hD⟩, hS.F ht⟩) hS.2.2 dX5_where_85
  have L50 : ∀ (z0 : Int32) (rF : Int32) (H : Heap) (locs : List Loc) (ls : Array Slot), wp_X5_where_L50 p0 p1 p2 p3 rMd rE rAx rAy rBx rBy rO Q  z0 rF → va_P D vwCl (wR k aR rF rS rVx rVy rMd rE rAx rAy rBx rBy rO rP rPx rPy rPd rQ rFi rLa rOn rLe rRi rHx rHy rHd rKx rKy rKd) H → va_D A (wR k aR rF rS rVx rVy rMd rE rAx rAy rBx rBy rO rP rPx rPy rPd rQ rFi rLa rOn rLe rRi rHx rHy rHd rKx rKy rKd) → va_S A s.heap H locs → lv_has ls 7 [(0, .ref (aR 0)), (1, .int p0), (2, .int p1), (3, .int p2), (4, .int p3)] → W p l e (headSpec wsX5_where ({ frames := 2, cells := 0, slots := 0, locals := 62 })).room s m args below meth c H locs 0 0 GQ (F0 m 50 ls [.int z0]) := by
    intro z0 rF H locs ls h hP hD hS hl
    unfold wp_X5_where_L50 at h
    refine lv_istore (lv' := [(5, .int z0), (0, .ref (aR 0)), (1, .int p0), (2, .int p1), (3, .int p2), (4, .int p3)]) hx hb dX5_where_50 hl (by decide) rfl (fun ls hl => ?_)
    refine lv_aload_n hx hb dX5_where_52 rfl (lv_at hl 1 rfl) ?_
    refine lv_aload_n hx hb dX5_where_53 rfl (lv_at hl 1 rfl) ?_
    refine va_get (D := D) (ci := 5) (v := .int rMd) (C := RX5) (T := TX5) (N := 27) hx hb hts hiX5 hown hK hP 0 rfl rfl 4 (by decide) f132 (fun _ h9 => h9) rfl dX5_where_54 ?_
    refine lv_if_ne (tgt := 64) hx hb dX5_where_57 (by decide) (fun cq => ?_) (fun cq => ?_)
    · have h := h.1 cq
      refine lv_iload hx hb dX5_where_64 (lv_at hl 0 rfl) ?_
      refine lv_if_ne (tgt := 73) hx hb dX5_where_66 (by decide) (fun cq => ?_) (fun cq => ?_)
      · have h := h.1 cq
        refine lv_iconst (v := (0 : Int32)) hx hb dX5_where_73 (by decide) ?_
        exact L74 (0 : Int32) rF _ _ _ h hP hD hS (lv_sub hl [1, 2, 3, 4, 5] rfl)
      · have h := h.2 cq
        refine lv_iconst (v := (2 : Int32)) hx hb dX5_where_69 (by decide) ?_
        refine lv_goto (tgt := 74) hx hb dX5_where_70 (by decide) ?_
        exact L74 (2 : Int32) rF _ _ _ h hP hD hS (lv_sub hl [1, 2, 3, 4, 5] rfl)
    · have h := h.2 cq
      refine lv_iconst (v := (1 : Int32)) hx hb dX5_where_60 (by decide) ?_
      refine lv_goto (tgt := 74) hx hb dX5_where_61 (by decide) ?_
      exact L74 (1 : Int32) rF _ _ _ h hP hD hS (lv_sub hl [1, 2, 3, 4, 5] rfl)
  have L49 : ∀ (rF : Int32) (H : Heap) (locs : List Loc) (ls : Array Slot), wp_X5_where_L49 p0 p1 p2 p3 rMd rE rAx rAy rBx rBy rO Q  rF → va_P D vwCl (wR k aR rF rS rVx rVy rMd rE rAx rAy rBx rBy rO rP rPx rPy rPd rQ rFi rLa rOn rLe rRi rHx rHy rHd rKx rKy rKd) H → va_D A (wR k aR rF rS rVx rVy rMd rE rAx rAy rBx rBy rO rP rPx rPy rPd rQ rFi rLa rOn rLe rRi rHx rHy rHd rKx rKy rKd) → va_S A s.heap H locs → lv_has ls 7 [(0, .ref (aR 0)), (1, .int p0), (2, .int p1), (3, .int p2), (4, .int p3)] → W p l e (headSpec wsX5_where ({ frames := 2, cells := 0, slots := 0, locals := 62 })).room s m args below meth c H locs 0 0 GQ (F0 m 49 ls []) := by
    intro rF H locs ls h hP hD hS hl
    unfold wp_X5_where_L49 at h
    refine lv_iconst (v := (0 : Int32)) hx hb dX5_where_49 (by decide) ?_
    exact L50 (0 : Int32) rF _ _ _ h hP hD hS (lv_sub hl [0, 1, 2, 3, 4] rfl)
  unfold wp_X5_where at h
  refine lv_iload_n hx hb dX5_where_0 rfl (lv_at hl 1 rfl) ?_
  refine vp_callSi (W.runS (As := [.int p0]) (rest := []) ⟨hx, hb, hml, hown, hts⟩ (m_X5_isPolygon l D k   p0 _ h) (va_cwS 1 hts gX5_where_X5_isPolygon rfl rfl rfl (by decide +kernel) ⟨Nat.le_of_ble_eq_true rfl, Nat.le_of_ble_eq_true rfl⟩) (preS_ro hE vaP0) rfl rfl hl.1 rfl (lv_room (Nat.le_of_ble_eq_true rfl)) dX5_where_1 ⟨Nat.le_of_ble_eq_true rfl, Nat.le_of_ble_eq_true rfl⟩) (fun r1 h => ?_)
  refine lv_if_eq (tgt := 49) hx hb dX5_where_4 (by decide) (fun cq => ?_) (fun cq => ?_)
  · have h := h.1 cq
    exact L49 rF _ _ _ h hP hD hS (lv_sub hl [0, 1, 2, 3, 4] rfl)
  · have h := h.2 cq
    refine lv_iload_n hx hb dX5_where_7 rfl (lv_at hl 2 rfl) ?_
    refine lv_ldc (v := (-100000 : Int32)) hx hb hown k176 dX5_where_8 ?_
    refine lv_icmp_lt (tgt := 49) hx hb dX5_where_10 (by decide) (fun cq => ?_) (fun cq => ?_)
    · have h := h.1 cq
      exact L49 rF _ _ _ h hP hD hS (lv_sub hl [0, 1, 2, 3, 4] rfl)
    · have h := h.2 cq
      refine lv_iload_n hx hb dX5_where_13 rfl (lv_at hl 2 rfl) ?_
      refine lv_ldc (v := (100000 : Int32)) hx hb hown k177 dX5_where_14 ?_
      refine lv_icmp_gt (tgt := 49) hx hb dX5_where_16 (by decide) (fun cq => ?_) (fun cq => ?_)
      · have h := h.1 cq
        exact L49 rF _ _ _ h hP hD hS (lv_sub hl [0, 1, 2, 3, 4] rfl)
      · have h := h.2 cq
        refine lv_iload_n hx hb dX5_where_19 rfl (lv_at hl 3 rfl) ?_
        refine lv_ldc (v := (-100000 : Int32)) hx hb hown k176 dX5_where_20 ?_
        refine lv_icmp_lt (tgt := 49) hx hb dX5_where_22 (by decide) (fun cq => ?_) (fun cq => ?_)
        · have h := h.1 cq
          exact L49 rF _ _ _ h hP hD hS (lv_sub hl [0, 1, 2, 3, 4] rfl)
        · have h := h.2 cq
          refine lv_iload_n hx hb dX5_where_25 rfl (lv_at hl 3 rfl) ?_
          refine lv_ldc (v := (100000 : Int32)) hx hb hown k177 dX5_where_26 ?_
          refine lv_icmp_gt (tgt := 49) hx hb dX5_where_28 (by decide) (fun cq => ?_) (fun cq => ?_)
          · have h := h.1 cq
            exact L49 rF _ _ _ h hP hD hS (lv_sub hl [0, 1, 2, 3, 4] rfl)
          · have h := h.2 cq
            refine lv_iload hx hb dX5_where_31 (lv_at hl 4 rfl) ?_
            refine lv_iconst (v := (1 : Int32)) hx hb dX5_where_33 (by decide) ?_
            refine lv_icmp_lt (tgt := 49) hx hb dX5_where_34 (by decide) (fun cq => ?_) (fun cq => ?_)
            · have h := h.1 cq
              exact L49 rF _ _ _ h hP hD hS (lv_sub hl [0, 1, 2, 3, 4] rfl)
            · have h := h.2 cq
              refine lv_iload hx hb dX5_where_37 (lv_at hl 4 rfl) ?_
              refine lv_sipush (v := (1000 : Int32)) hx hb dX5_where_39 (by decide) ?_
              refine lv_icmp_gt (tgt := 49) hx hb dX5_where_42 (by decide) (fun cq => ?_) (fun cq => ?_)
              · have h := h.1 cq
                exact L49 rF _ _ _ h hP hD hS (lv_sub hl [0, 1, 2, 3, 4] rfl)
              · have h := h.2 cq
                refine lv_iconst (v := (1 : Int32)) hx hb dX5_where_45 (by decide) ?_
                refine lv_goto (tgt := 50) hx hb dX5_where_46 (by decide) ?_
                exact L50 (1 : Int32) rF _ _ _ h hP hD hS (lv_sub hl [0, 1, 2, 3, 4] rfl)
set_option maxHeartbeats 4000000 in
set_option maxRecDepth 100000 in
theorem m_X5_area (l : Launch) (D : va_G) (k : Nat → ClassId) (aR : Nat → Nat) (rF : Int32) (rS : Nat → Int32) (rVx : Nat → Int32) (rVy : Nat → Int32) (rMd : Int32) (rE : Int32) (rAx : Nat → Int32) (rAy : Nat → Int32) (rBx : Nat → Int32) (rBy : Nat → Int32) (rO : Nat → Int32) (rP : Int32) (rPx : Nat → Int32) (rPy : Nat → Int32) (rPd : Nat → Int32) (rQ : Int32) (rFi : Nat → Int32) (rLa : Nat → Int32) (rOn : Nat → Int32) (rLe : Nat → Int32) (rRi : Nat → Int32) (rHx : Int64) (rHy : Int64) (rHd : Int64) (rKx : Int64) (rKy : Int64) (rKd : Int64) (p0 : Int32) (Q : UInt64 → (Int32) → Prop) (sz : Nat) (h : wp_X5_area p0 rF rMd rPx rPy rPd rQ rFi rLa rLe rRi Q) : Met l yX5_area wsX5_area ({ frames := 2, cells := 0, slots := 0, locals := 46 }) (Prw D k [.ref (aR 0), .int p0] (wR k aR rF rS rVx rVy rMd rE rAx rAy rBx rBy rO rP rPx rPy rPd rQ rFi rLa rOn rLe rRi rHx rHy rHd rKx rKy rKd) sz) (va_Qd (fun (r : UInt64) (u : (Int32)) => Q r u) (fun (u : (Int32)) t => va_P D vwCl (wR k aR u rS rVx rVy rMd rE rAx rAy rBx rBy rO rP rPx rPy rPd rQ rFi rLa rOn rLe rRi rHx rHy rHd rKx rKy rKd) t.heap ∧ va_D (va_A (wR k aR rF rS rVx rVy rMd rE rAx rAy rBx rBy rO rP rPx rPy rPd rQ rFi rLa rOn rLe rRi rHx rHy rHd rKx rKy rKd) sz) (wR k aR u rS rVx rVy rMd rE rAx rAy rBx rBy rO rP rPx rPy rPd rQ rFi rLa rOn rLe rRi rHx rHy rHd rKx rKy rKd)) (va_A (wR k aR rF rS rVx rVy rMd rE rAx rAy rBx rBy rO rP rPx rPy rPd rQ rFi rLa rOn rLe rRi rHx rHy rHd rKx rKy rKd) sz)) 0 0 (va_A (wR k aR rF rS rVx rVy rMd rE rAx rAy rBx rBy rO rP rPx rPy rPd rQ rFi rLa rOn rLe rRi rHx rHy rHd rKx rKy rKd) sz) := by
  refine Met.ofW (cc := cX5_area) (maxL := 14) (ret := (some .double)) (by decide) rfl ?_
  intro p e s m args below meth c s₁ B hml hv
  obtain ⟨hav, hsz, hP, hE, hD0⟩ := hv
  subst hsz
  have hx := B.exec
  have hb := B.bytes
  have hr := B.returns
  have hts := atoms_spec (ws := wsX5_area) B.pre
  have hown : s.vm.findClass RX5 = some m.cls := findClass_of_methodNamed B.named
  have hlocks := B.notSynchronized
  have hK := hE.1
  have hD := hD0.self (sz := s.heap.size)
  generalize hAe : va_A (wR k aR rF rS rVx rVy rMd rE rAx rAy rBx rBy rO rP rPx rPy rPd rQ rFi rLa rOn rLe rRi rHx rHy rHd rKx rKy rKd) s.heap.size = A at hD ⊢
  have hA : ∀ q : Nat, s.heap.size ≤ q → A q := fun q h => by rw [← hAe]; exact Or.inr h
  have hS : va_S A s.heap s.heap [] := va_S.rf
  have hl := lv_entry ([.ref (aR 0), .int p0]) (n := 14) (Nat.le_of_ble_eq_true rfl)
  rw [show entryFrame m args 14 = entryFrame m ([.ref (aR 0), .int p0] : List Value).toArray 14 by rw [hav]]
  rw [lg_entry_eq]
  refine W.gq (fun GQ hGQ => ?_)
  generalize (lg_sl ([.ref (aR 0), .int p0]) ++ List.replicate (14 - (lg_sl ([.ref (aR 0), .int p0])).length) Slot.unset).toArray = ls at hl ⊢
  have hl : lv_has ls 14 [(0, .ref (aR 0)), (1, .int p0)] := hl
  have hiX5 := (by decide +kernel : ∀ w ∈ wsX50, w ∈ wsX5_area)
  have f116 := hts (.fieldLink RX5 116 "PlaneOverlayModel" "pieces" "I") (by decide +kernel)
  have f43 := hts (.fieldLink RX5 43 "PlaneOverlayModel" "first" "[I") (by decide +kernel)
  have f46 := hts (.fieldLink RX5 46 "PlaneOverlayModel" "last" "[I") (by decide +kernel)
  have f34 := hts (.fieldLink RX5 34 "PlaneOverlayModel" "px" "[I") (by decide +kernel)
  have f37 := hts (.fieldLink RX5 37 "PlaneOverlayModel" "py" "[I") (by decide +kernel)
  have f40 := hts (.fieldLink RX5 40 "PlaneOverlayModel" "pd" "[I") (by decide +kernel)
  have L15 : ∀ (n15 : Nat) (v2 : UInt64) (v4 : Int32) (rF : Int32) (H : Heap) (locs : List Loc) (ls : Array Slot), wp_X5_area_L15 p0 rMd rPx rPy rPd rQ rFi rLa rLe rRi Q  n15 v2 v4 rF → va_P D vwCl (wR k aR rF rS rVx rVy rMd rE rAx rAy rBx rBy rO rP rPx rPy rPd rQ rFi rLa rOn rLe rRi rHx rHy rHd rKx rKy rKd) H → va_D A (wR k aR rF rS rVx rVy rMd rE rAx rAy rBx rBy rO rP rPx rPy rPd rQ rFi rLa rOn rLe rRi rHx rHy rHd rKx rKy rKd) → va_S A s.heap H locs → lv_has ls 14 [(0, .ref (aR 0)), (1, .int p0), (2, .double v2), (4, .int v4)] → W p l e (headSpec wsX5_area ({ frames := 2, cells := 0, slots := 0, locals := 46 })).room s m args below meth c H locs 0 0 GQ (F0 m 15 ls []) := by
    intro n15
    induction n15 with
    | zero => intro v2 v4 rF H locs ls h hP hD hS hl; exact False.elim h
    | succ n15 ih15 =>
      have L130 : ∀ (v2 : UInt64) (v4 : Int32) (rF : Int32) (H : Heap) (locs : List Loc) (ls : Array Slot), wp_X5_area_L130 p0 rMd rPx rPy rPd rQ rFi rLa rLe rRi Q (wp_X5_area_L15 p0 rMd rPx rPy rPd rQ rFi rLa rLe rRi Q  n15) v2 v4 rF → va_P D vwCl (wR k aR rF rS rVx rVy rMd rE rAx rAy rBx rBy rO rP rPx rPy rPd rQ rFi rLa rOn rLe rRi rHx rHy rHd rKx rKy rKd) H → va_D A (wR k aR rF rS rVx rVy rMd rE rAx rAy rBx rBy rO rP rPx rPy rPd rQ rFi rLa rOn rLe rRi rHx rHy rHd rKx rKy rKd) → va_S A s.heap H locs → lv_has ls 14 [(0, .ref (aR 0)), (1, .int p0), (2, .double v2), (4, .int v4)] → W p l e (headSpec wsX5_area ({ frames := 2, cells := 0, slots := 0, locals := 46 })).room s m args below meth c H locs 0 0 GQ (F0 m 130 ls []) := by
        intro v2 v4 rF H locs ls h hP hD hS hl
        unfold wp_X5_area_L130 at h
        refine lv_iinc (v := (v4 + 1)) (lv' := [(4, .int (v4 + 1)), (0, .ref (aR 0)), (1, .int p0), (2, .double v2)]) hx hb dX5_area_130 hl (k := 3) rfl rfl (by decide) rfl (fun ls hl => ?_)
        refine lv_goto (tgt := 15) hx hb dX5_area_133 (by decide) ?_
        exact ih15 v2 (v4 + 1) rF _ _ _ h hP hD hS (lv_sub hl [1, 2, 3, 0] rfl)
      intro v2 v4 rF H locs ls h hP hD hS hl
      rw [wp_X5_area_L15] at h
      refine lv_iload hx hb dX5_area_15 (lv_at hl 3 rfl) ?_
      refine lv_aload_n hx hb dX5_area_17 rfl (lv_at hl 0 rfl) ?_
      refine va_get (D := D) (ci := 5) (v := .int rQ) (C := RX5) (T := TX5) (N := 27) hx hb hts hiX5 hown hK hP 0 rfl rfl 15 (by decide) f116 (fun _ h9 => h9) rfl dX5_area_18 ?_
      refine lv_icmp_ge (tgt := 136) hx hb dX5_area_21 (by decide) (fun cq => ?_) (fun cq => ?_)
      · have h := h.1 cq
        refine lv_dload_n hx hb dX5_area_136 rfl (lv_at hl 2 rfl) ?_
        rw [hGQ]
        exact W.dret (v := v2) hx hb hr (fun t ht hW => ⟨⟨_, (rF), rfl, h, by rw [ht]; exact hP, hD⟩, hS.F ht⟩) hS.2.2 dX5_area_137
      · have h := h.2 cq
        refine lv_aload_n hx hb dX5_area_24 rfl (lv_at hl 0 rfl) ?_
        refine lv_iload_n hx hb dX5_area_25 rfl (lv_at hl 1 rfl) ?_
        refine lv_iload hx hb dX5_area_26 (lv_at hl 3 rfl) ?_
        refine vp_callSi (W.runV (C := RX5) (b := (aR 0)) (As := [.int p0, .int v4]) (rest := []) ⟨hx, hb, hml, hown, hts⟩ (m_X5_bounding l D k aR rF rS rVx rVy rMd rE rAx rAy rBx rBy rO rP rPx rPy rPd rQ rFi rLa rOn rLe rRi rHx rHy rHd rKx rKy rKd p0 v4 _ h) (cwV 2 hts gX5_area_X5_bounding rfl rfl rfl (by decide +kernel) ⟨Nat.le_of_ble_eq_true rfl, Nat.le_of_ble_eq_true rfl⟩) (preV_ro (ci := 5) (q0 := 0) (C := RX5) (T := TX5) (N := 27) hE hP rfl rfl) rfl rfl hl.1 rfl (lv_room (Nat.le_of_ble_eq_true rfl)) dX5_area_28 ⟨Nat.le_of_ble_eq_true rfl, Nat.le_of_ble_eq_true rfl⟩) (fun r28 h => ?_)
        refine lv_istore (lv' := [(5, .int r28), (0, .ref (aR 0)), (1, .int p0), (2, .double v2), (4, .int v4)]) hx hb dX5_area_31 hl (by decide) rfl (fun ls hl => ?_)
        refine lv_iload hx hb dX5_area_33 (lv_at hl 0 rfl) ?_
        refine lv_if_eq (tgt := 130) hx hb dX5_area_35 (by decide) (fun cq => ?_) (fun cq => ?_)
        · have h := h.1 cq
          exact L130 v2 v4 rF _ _ _ h hP hD hS (lv_sub hl [1, 2, 3, 4] rfl)
        · have h := h.2 cq
          refine lv_aload_n hx hb dX5_area_38 rfl (lv_at hl 1 rfl) ?_
          refine va_get (D := D) (ci := 5) (v := .ref (aR 12)) (C := RX5) (T := TX5) (N := 27) hx hb hts hiX5 hown hK hP 0 rfl rfl 16 (by decide) f43 (fun _ h9 => h9) rfl dX5_area_39 ?_
          refine lv_iload hx hb dX5_area_42 (lv_at hl 4 rfl) ?_
          obtain ⟨hin, h⟩ := h
          refine va_iald hx hb hK hP 12 0 rfl rfl hin dX5_area_44 ?_
          refine lv_topi (fun x45 ex45 => ?_)
          have h := h x45 ex45
          refine lv_istore (lv' := [(6, .int x45), (5, .int r28), (0, .ref (aR 0)), (1, .int p0), (2, .double v2), (4, .int v4)]) hx hb dX5_area_45 hl (by decide) rfl (fun ls hl => ?_)
          refine lv_aload_n hx hb dX5_area_47 rfl (lv_at hl 2 rfl) ?_
          refine va_get (D := D) (ci := 5) (v := .ref (aR 13)) (C := RX5) (T := TX5) (N := 27) hx hb hts hiX5 hown hK hP 0 rfl rfl 17 (by decide) f46 (fun _ h9 => h9) rfl dX5_area_48 ?_
          refine lv_iload hx hb dX5_area_51 (lv_at hl 5 rfl) ?_
          obtain ⟨hin, h⟩ := h
          refine va_iald hx hb hK hP 13 0 rfl rfl hin dX5_area_53 ?_
          refine lv_topi (fun x54 ex54 => ?_)
          have h := h x54 ex54
          refine lv_istore (lv' := [(7, .int x54), (6, .int x45), (5, .int r28), (0, .ref (aR 0)), (1, .int p0), (2, .double v2), (4, .int v4)]) hx hb dX5_area_54 hl (by decide) rfl (fun ls hl => ?_)
          refine lv_aload_n hx hb dX5_area_56 rfl (lv_at hl 3 rfl) ?_
          refine va_get (D := D) (ci := 5) (v := .ref (aR 9)) (C := RX5) (T := TX5) (N := 27) hx hb hts hiX5 hown hK hP 0 rfl rfl 12 (by decide) f34 (fun _ h9 => h9) rfl dX5_area_57 ?_
          refine lv_iload hx hb dX5_area_60 (lv_at hl 1 rfl) ?_
          obtain ⟨hin, h⟩ := h
          refine va_iald hx hb hK hP 9 0 rfl rfl hin dX5_area_62 ?_
          refine lv_i2l hx hb dX5_area_63 rfl ?_
          refine lv_aload_n hx hb dX5_area_64 rfl (lv_at hl 3 rfl) ?_
          refine va_get (D := D) (ci := 5) (v := .ref (aR 10)) (C := RX5) (T := TX5) (N := 27) hx hb hts hiX5 hown hK hP 0 rfl rfl 13 (by decide) f37 (fun _ h9 => h9) rfl dX5_area_65 ?_
          refine lv_iload hx hb dX5_area_68 (lv_at hl 0 rfl) ?_
          obtain ⟨hin, h⟩ := h
          refine va_iald hx hb hK hP 10 0 rfl rfl hin dX5_area_70 ?_
          refine lv_i2l hx hb dX5_area_71 rfl ?_
          refine lv_lmul hx hb dX5_area_72 ?_
          refine lv_aload_n hx hb dX5_area_73 rfl (lv_at hl 3 rfl) ?_
          refine va_get (D := D) (ci := 5) (v := .ref (aR 9)) (C := RX5) (T := TX5) (N := 27) hx hb hts hiX5 hown hK hP 0 rfl rfl 12 (by decide) f34 (fun _ h9 => h9) rfl dX5_area_74 ?_
          refine lv_iload hx hb dX5_area_77 (lv_at hl 0 rfl) ?_
          obtain ⟨hin, h⟩ := h
          refine va_iald hx hb hK hP 9 0 rfl rfl hin dX5_area_79 ?_
          refine lv_i2l hx hb dX5_area_80 rfl ?_
          refine lv_aload_n hx hb dX5_area_81 rfl (lv_at hl 3 rfl) ?_
          refine va_get (D := D) (ci := 5) (v := .ref (aR 10)) (C := RX5) (T := TX5) (N := 27) hx hb hts hiX5 hown hK hP 0 rfl rfl 13 (by decide) f37 (fun _ h9 => h9) rfl dX5_area_82 ?_
          refine lv_iload hx hb dX5_area_85 (lv_at hl 1 rfl) ?_
          obtain ⟨hin, h⟩ := h
          refine va_iald hx hb hK hP 10 0 rfl rfl hin dX5_area_87 ?_
          refine lv_i2l hx hb dX5_area_88 rfl ?_
          refine lv_lmul hx hb dX5_area_89 ?_
          refine lv_lsub hx hb dX5_area_90 ?_
          refine lv_l2d hx hb dX5_area_91 ?_
          refine lv_topd (fun x92 ex92 => ?_)
          have h := h x92 ex92
          refine lv_dstore (lv' := [(8, .double x92), (7, .int x54), (6, .int x45), (5, .int r28), (0, .ref (aR 0)), (1, .int p0), (2, .double v2), (4, .int v4)]) hx hb dX5_area_92 hl (by decide) rfl (fun ls hl => ?_)
          refine lv_aload_n hx hb dX5_area_94 rfl (lv_at hl 4 rfl) ?_
          refine va_get (D := D) (ci := 5) (v := .ref (aR 11)) (C := RX5) (T := TX5) (N := 27) hx hb hts hiX5 hown hK hP 0 rfl rfl 14 (by decide) f40 (fun _ h9 => h9) rfl dX5_area_95 ?_
          refine lv_iload hx hb dX5_area_98 (lv_at hl 2 rfl) ?_
          obtain ⟨hin, h⟩ := h
          refine va_iald hx hb hK hP 11 0 rfl rfl hin dX5_area_100 ?_
          refine lv_i2l hx hb dX5_area_101 rfl ?_
          refine lv_aload_n hx hb dX5_area_102 rfl (lv_at hl 4 rfl) ?_
          refine va_get (D := D) (ci := 5) (v := .ref (aR 11)) (C := RX5) (T := TX5) (N := 27) hx hb hts hiX5 hown hK hP 0 rfl rfl 14 (by decide) f40 (fun _ h9 => h9) rfl dX5_area_103 ?_
          refine lv_iload hx hb dX5_area_106 (lv_at hl 1 rfl) ?_
          obtain ⟨hin, h⟩ := h
          refine va_iald hx hb hK hP 11 0 rfl rfl hin dX5_area_108 ?_
          refine lv_i2l hx hb dX5_area_109 rfl ?_
          refine lv_lmul hx hb dX5_area_110 ?_
          refine lv_l2d hx hb dX5_area_111 ?_
          refine lv_topd (fun x112 ex112 => ?_)
          have h := h x112 ex112
          refine lv_dstore (lv' := [(10, .double x112), (8, .double x92), (7, .int x54), (6, .int x45), (5, .int r28), (0, .ref (aR 0)), (1, .int p0), (2, .double v2), (4, .int v4)]) hx hb dX5_area_112 hl (by decide) rfl (fun ls hl => ?_)
          refine lv_dload hx hb dX5_area_114 (lv_at hl 1 rfl) ?_
          refine lv_dload hx hb dX5_area_116 (lv_at hl 0 rfl) ?_
          obtain ⟨hne, h⟩ := h
          refine lv_ddiv hx hb dX5_area_118 hne ?_
          refine lv_topd (fun x119 ex119 => ?_)
          have h := h x119 ex119
          refine lv_dstore (lv' := [(12, .double x119), (10, .double x112), (8, .double x92), (7, .int x54), (6, .int x45), (5, .int r28), (0, .ref (aR 0)), (1, .int p0), (2, .double v2), (4, .int v4)]) hx hb dX5_area_119 hl (by decide) rfl (fun ls hl => ?_)
          refine lv_dload_n hx hb dX5_area_121 rfl (lv_at hl 8 rfl) ?_
          refine lv_iload hx hb dX5_area_122 (lv_at hl 5 rfl) ?_
          refine lv_i2d hx hb dX5_area_124 ?_
          refine lv_dload hx hb dX5_area_125 (lv_at hl 0 rfl) ?_
          obtain ⟨hne, h⟩ := h
          refine lv_dmul hx hb dX5_area_127 hne ?_
          obtain ⟨hne, h⟩ := h
          refine lv_dadd hx hb dX5_area_128 hne ?_
          refine lv_topd (fun x129 ex129 => ?_)
          have h := h x129 ex129
          refine lv_dstore_n (lv' := [(2, .double x129), (12, .double x119), (10, .double x112), (8, .double x92), (7, .int x54), (6, .int x45), (5, .int r28), (0, .ref (aR 0)), (1, .int p0), (4, .int v4)]) hx hb dX5_area_129 rfl hl (by decide) rfl (fun ls hl => ?_)
          exact L130 x129 v4 rF _ _ _ h hP hD hS (lv_sub hl [7, 8, 0, 9] rfl)
  unfold wp_X5_area at h
  refine lv_aload_n hx hb dX5_area_0 rfl (lv_at hl 0 rfl) ?_
  refine lv_iload_n hx hb dX5_area_1 rfl (lv_at hl 1 rfl) ?_
  have hFc := va_free (wc := wR k aR rF rS rVx rVy rMd rE rAx rAy rBx rBy rO rP rPx rPy rPd rQ rFi rLa rOn rLe rRi rHx rHy rHd rKx rKy rKd) hD hS hA [0, 1, 2, 3, 4, 5, 6, 7, 8, 9, 10, 11, 12, 13, 14, 15, 16] rfl
  refine va_calli (va_runV (C := RX5) (b := (aR 0)) (As := [.int p0]) (rest := []) ⟨hx, hb, hml, hown, hts⟩ (m_X5_lacks l D k aR rF rS rVx rVy rMd rE rAx rAy rBx rBy rO rP rPx rPy rPd rQ rFi rLa rOn rLe rRi rHx rHy rHd rKx rKy rKd p0 _ _ h) (cwV 1 hts gX5_area_X5_lacks rfl rfl rfl (by decide +kernel) ⟨Nat.le_of_ble_eq_true rfl, Nat.le_of_ble_eq_true rfl⟩) (preV_rw (ci := 5) (q0 := 0) (C := RX5) (T := TX5) (N := 27) hE hP hD rfl rfl) rfl rfl hl.1 rfl (lv_room (Nat.le_of_ble_eq_true rfl)) dX5_area_2 ⟨Nat.le_of_ble_eq_true rfl, Nat.le_of_ble_eq_true rfl⟩) hS (fun q _ h => hFc q h) hFc (fun r2 rF_2 t H1 locs ht hvm h hB hz1 hk1 hS => ?_)
  obtain ⟨hP1, hD1⟩ := hB
  rw [ht] at hP1
  obtain ⟨hP, hD⟩ := va_join (wr := ([] : va_W)) (w1 := wR k aR rF_2 rS rVx rVy rMd rE rAx rAy rBx rBy rO rP rPx rPy rPd rQ rFi rLa rOn rLe rRi rHx rHy rHd rKx rKy rKd) hP hD [0, 1, 2, 3, 4, 5, 6, 7, 8, 9, 10, 11, 12, 13, 14, 15, 16] [] rfl rfl (by decide) (by decide) hk1 hFc hP1 hD1
  generalize H1 = H at hP hS ⊢
  have hP : va_P D vwCl (wR k aR rF_2 rS rVx rVy rMd rE rAx rAy rBx rBy rO rP rPx rPy rPd rQ rFi rLa rOn rLe rRi rHx rHy rHd rKx rKy rKd) H := hP.sub [0, 1, 2, 3, 4, 5, 6, 7, 8, 9, 10, 11, 12, 13, 14, 15, 16] rfl
  have hD : va_D A (wR k aR rF_2 rS rVx rVy rMd rE rAx rAy rBx rBy rO rP rPx rPy rPd rQ rFi rLa rOn rLe rRi rHx rHy rHd rKx rKy rKd) := hD.sub [0, 1, 2, 3, 4, 5, 6, 7, 8, 9, 10, 11, 12, 13, 14, 15, 16] (by decide) rfl
  refine lv_if_eq (tgt := 10) hx hb dX5_area_5 (by decide) (fun cq => ?_) (fun cq => ?_)
  · have h := h.1 cq
    refine lv_dconst0 hx hb dX5_area_10 ?_
    refine lv_topd (fun x11 ex11 => ?_)
    have h := h x11 ex11
    refine lv_dstore_n (lv' := [(2, .double x11), (0, .ref (aR 0)), (1, .int p0)]) hx hb dX5_area_11 rfl hl (by decide) rfl (fun ls hl => ?_)
    refine lv_iconst (v := (0 : Int32)) hx hb dX5_area_12 (by decide) ?_
    refine lv_istore (lv' := [(4, .int (0 : Int32)), (2, .double x11), (0, .ref (aR 0)), (1, .int p0)]) hx hb dX5_area_13 hl (by decide) rfl (fun ls hl => ?_)
    obtain ⟨n9, h⟩ := h
    exact L15 n9 x11 (0 : Int32) rF_2 _ _ _ h hP hD hS (lv_sub hl [2, 3, 1, 0] rfl)
  · have h := h.2 cq
    refine lv_dconst0 hx hb dX5_area_8 ?_
    rw [hGQ]
    exact W.dret (v := FP.dconst0) hx hb hr (fun t ht hW => ⟨⟨_, (rF_2), rfl, h, by rw [ht]; exact hP, hD⟩, hS.F ht⟩) hS.2.2 dX5_area_9
