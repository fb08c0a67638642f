set_option maxHeartbeats 4000000 in
set_option maxRecDepth 100000 in
theorem m_X0_init (l : Launch) (D : va_G) (k : Nat → ClassId) (h0 : Nat) (sz : Nat) : Met l yX0_init wsX0_init ({ frames := 1, cells := 5, slots := 50, locals := 12 }) (Prw D k [.ref h0] ([(h0, .inr (0, [.null, .null, .null, .null, .null, .int 0]))]) sz) (va_Qv (fun (u : Nat → Nat) => u 0 = h0) (fun (u : Nat → Nat) t => va_P D vwCl (wE k u (fun _ => 0) (fun _ => 0) (fun _ => 0) (fun _ => 0) (fun _ => 0) 0) t.heap ∧ va_D (va_A ([(h0, .inr (0, [.null, .null, .null, .null, .null, .int 0]))]) sz) (wE k u (fun _ => 0) (fun _ => 0) (fun _ => 0) (fun _ => 0) (fun _ => 0) 0)) (va_A ([(h0, .inr (0, [.null, .null, .null, .null, .null, .int 0]))]) sz)) 5 50 (va_A ([(h0, .inr (0, [.null, .null, .null, .null, .null, .int 0]))]) sz) := by
  refine Met.ofW (cc := cX0_init) (maxL := 1) (ret := none) (by decide) rfl ?_
  intro p e s m args below meth c s₁ B hml hv
  obtain ⟨hav, hsz, hP, hE, hD0⟩ := hv
  subst hsz
  have hx := B.exec
  have hb := B.bytes
  have hr := B.returns
  have hts := atoms_spec (ws := wsX0_init) B.pre
  have hown : s.vm.findClass RX0 = some m.cls := findClass_of_methodNamed B.named
  have hlocks := B.notSynchronized
  have hin : meth.name = "<init>" := (name_of_methodNamed B.named B.method).1
  have hK := hE.1
  have hD := hD0.self (sz := s.heap.size)
  generalize hAe : va_A ([(h0, .inr (0, [.null, .null, .null, .null, .null, .int 0]))]) s.heap.size = A at hD ⊢
  have hA : ∀ q : Nat, s.heap.size ≤ q → A q := fun q h => by rw [← hAe]; exact Or.inr h
  have hS : va_S A s.heap s.heap [] := va_S.rf
  have hP : va_P D vwCl ([(h0, .inr (0, [.null, .null, .null, .null, .null, .int 0]))]) s.heap := hP
  have hl := lv_entry ([.ref h0]) (n := 1) (Nat.le_of_ble_eq_true rfl)
  rw [show entryFrame m args 1 = entryFrame m ([.ref h0] : List Value).toArray 1 by rw [hav]]
  rw [lg_entry_eq]
  refine W.gq (fun GQ hGQ => ?_)
  generalize (lg_sl ([.ref h0]) ++ List.replicate (1 - (lg_sl ([.ref h0])).length) Slot.unset).toArray = ls at hl ⊢
  have hl : lv_has ls 1 [(0, .ref h0)] := hl
  have f9 := hts (.fieldLink RX0 9 "PlaneOverlay$Edges" "firstX" "[I") (by decide +kernel)
  have hiX0 := (by decide +kernel : ∀ w ∈ wsX00, w ∈ wsX0_init)
  have f15 := hts (.fieldLink RX0 15 "PlaneOverlay$Edges" "firstY" "[I") (by decide +kernel)
  have f18 := hts (.fieldLink RX0 18 "PlaneOverlay$Edges" "lastX" "[I") (by decide +kernel)
  have f21 := hts (.fieldLink RX0 21 "PlaneOverlay$Edges" "lastY" "[I") (by decide +kernel)
  have f24 := hts (.fieldLink RX0 24 "PlaneOverlay$Edges" "ofPolygon" "[I") (by decide +kernel)
  have f27 := hts (.fieldLink RX0 27 "PlaneOverlay$Edges" "count" "I") (by decide +kernel)
  refine lv_aload_n hx hb dX0_init_0 rfl (lv_at hl 0 rfl) ?_
  refine W.objInit hx hb hown (hts (.methodLink RX0 3 objectInit) (by decide +kernel)) (hts (.instanceMethod objectInit) (by decide +kernel)) (hts (.code objectInit ⟨#[0xb1]⟩ 1 none) (List.mem_of_getElem? (i := 3) rfl)) rfl (by rw [hml]; exact hl.1) rfl dX0_init_1 (Nat.le_of_ble_eq_true rfl) (Nat.le_of_ble_eq_true rfl) ?_
  refine W.eq (g2 := F0 m 4 ls []) rfl ?_
  refine lv_aload_n hx hb dX0_init_4 rfl (lv_at hl 0 rfl) ?_
  refine lv_bipush (v := (12 : Int32)) hx hb dX0_init_5 (by decide) ?_
  refine va_newa (a0 := (12, .inl (fun _ => 0))) (N' := 12) (ty := .int) (atype := .int) hx hb (hts (.arrayClass .int) (by decide +kernel)) rfl hK hP hD hS hA (fun _ => rfl) (by decide) (by decide) (Nat.le_of_ble_eq_true rfl) (Nat.le_of_ble_eq_true rfl) (Nat.le_of_ble_eq_true rfl) dX0_init_7 (fun q1 cA H hK1 hP hD hS => ?_)
  have hcA := kA_int (i := 0) (fun C h => by cases h) hK1 rfl
  subst hcA
  have hP : va_P D vwCl ([(h0, .inr (0, [.null, .null, .null, .null, .null, .int 0])), (q1, .inl (k 0, 12, .inl (fun _ => 0)))]) H := hP
  have hD : va_D A ([(h0, .inr (0, [.null, .null, .null, .null, .null, .int 0])), (q1, .inl (k 0, 12, .inl (fun _ => 0)))]) := hD
  refine W.widen (k := 1) (n := 12) (by decide) (by decide) ?_
  refine va_putF (D := D) (ci := 0) (v := .ref q1) (ty := .array .int) (C := RX0) (T := TX0) (N := 6) hx hb hts hiX0 tyX0 tyX0_ok nmX0 hown hK hP hD hS 0 rfl rfl 0 (by decide) f9 (fun _ h9 => h9) rfl hin rfl (by decide +kernel) rfl rfl (Nat.le_of_ble_eq_true rfl) dX0_init_9 (fun H locs hP hD hS => ?_)
  have hP : va_P D vwCl ([(h0, .inr (0, [.ref q1, .null, .null, .null, .null, .int 0])), (q1, .inl (k 0, 12, .inl (fun _ => 0)))]) H := hP
  have hD : va_D A ([(h0, .inr (0, [.ref q1, .null, .null, .null, .null, .int 0])), (q1, .inl (k 0, 12, .inl (fun _ => 0)))]) := hD
  refine lv_aload_n hx hb dX0_init_12 rfl (lv_at hl 0 rfl) ?_
  refine lv_bipush (v := (12 : Int32)) hx hb dX0_init_13 (by decide) ?_
  refine va_newa (a0 := (12, .inl (fun _ => 0))) (N' := 12) (ty := .int) (atype := .int) hx hb (hts (.arrayClass .int) (by decide +kernel)) rfl hK hP hD hS hA (fun _ => rfl) (by decide) (by decide) (Nat.le_of_ble_eq_true rfl) (Nat.le_of_ble_eq_true rfl) (Nat.le_of_ble_eq_true rfl) dX0_init_15 (fun q2 cA H hK1 hP hD hS => ?_)
  have hcA := kA_int (i := 0) (fun C h => by cases h) hK1 rfl
  subst hcA
  have hP : va_P D vwCl ([(h0, .inr (0, [.ref q1, .null, .null, .null, .null, .int 0])), (q1, .inl (k 0, 12, .inl (fun _ => 0))), (q2, .inl (k 0, 12, .inl (fun _ => 0)))]) H := hP
  have hD : va_D A ([(h0, .inr (0, [.ref q1, .null, .null, .null, .null, .int 0])), (q1, .inl (k 0, 12, .inl (fun _ => 0))), (q2, .inl (k 0, 12, .inl (fun _ => 0)))]) := hD
  refine W.widen (k := 2) (n := 24) (by decide) (by decide) ?_
  refine va_putF (D := D) (ci := 0) (v := .ref q2) (ty := .array .int) (C := RX0) (T := TX0) (N := 6) hx hb hts hiX0 tyX0 tyX0_ok nmX0 hown hK hP hD hS 0 rfl rfl 1 (by decide) f15 (fun _ h9 => h9) rfl hin rfl (by decide +kernel) rfl rfl (Nat.le_of_ble_eq_true rfl) dX0_init_17 (fun H locs hP hD hS => ?_)
  have hP : va_P D vwCl ([(h0, .inr (0, [.ref q1, .ref q2, .null, .null, .null, .int 0])), (q1, .inl (k 0, 12, .inl (fun _ => 0))), (q2, .inl (k 0, 12, .inl (fun _ => 0)))]) H := hP
  have hD : va_D A ([(h0, .inr (0, [.ref q1, .ref q2, .null, .null, .null, .int 0])), (q1, .inl (k 0, 12, .inl (fun _ => 0))), (q2, .inl (k 0, 12, .inl (fun _ => 0)))]) := hD
  refine lv_aload_n hx hb dX0_init_20 rfl (lv_at hl 0 rfl) ?_
  refine lv_bipush (v := (12 : Int32)) hx hb dX0_init_21 (by decide) ?_
  refine va_newa (a0 := (12, .inl (fun _ => 0))) (N' := 12) (ty := .int) (atype := .int) hx hb (hts (.arrayClass .int) (by decide +kernel)) rfl hK hP hD hS hA (fun _ => rfl) (by decide) (by decide) (Nat.le_of_ble_eq_true rfl) (Nat.le_of_ble_eq_true rfl) (Nat.le_of_ble_eq_true rfl) dX0_init_23 (fun q3 cA H hK1 hP hD hS => ?_)
  have hcA := kA_int (i := 0) (fun C h => by cases h) hK1 rfl
  subst hcA
  have hP : va_P D vwCl ([(h0, .inr (0, [.ref q1, .ref q2, .null, .null, .null, .int 0])), (q1, .inl (k 0, 12, .inl (fun _ => 0))), (q2, .inl (k 0, 12, .inl (fun _ => 0))), (q3, .inl (k 0, 12, .inl (fun _ => 0)))]) H := hP
  have hD : va_D A ([(h0, .inr (0, [.ref q1, .ref q2, .null, .null, .null, .int 0])), (q1, .inl (k 0, 12, .inl (fun _ => 0))), (q2, .inl (k 0, 12, .inl (fun _ => 0))), (q3, .inl (k 0, 12, .inl (fun _ => 0)))]) := hD
  refine W.widen (k := 3) (n := 36) (by decide) (by decide) ?_
  refine va_putF (D := D) (ci := 0) (v := .ref q3) (ty := .array .int) (C := RX0) (T := TX0) (N := 6) hx hb hts hiX0 tyX0 tyX0_ok nmX0 hown hK hP hD hS 0 rfl rfl 2 (by decide) f18 (fun _ h9 => h9) rfl hin rfl (by decide +kernel) rfl rfl (Nat.le_of_ble_eq_true rfl) dX0_init_25 (fun H locs hP hD hS => ?_)
  have hP : va_P D vwCl ([(h0, .inr (0, [.ref q1, .ref q2, .ref q3, .null, .null, .int 0])), (q1, .inl (k 0, 12, .inl (fun _ => 0))), (q2, .inl (k 0, 12, .inl (fun _ => 0))), (q3, .inl (k 0, 12, .inl (fun _ => 0)))]) H := hP
  have hD : va_D A ([(h0, .inr (0, [.ref q1, .ref q2, .ref q3, .null, .null, .int 0])), (q1, .inl (k 0, 12, .inl (fun _ => 0))), (q2, .inl (k 0, 12, .inl (fun _ => 0))), (q3, .inl (k 0, 12, .inl (fun _ => 0)))]) := hD
  refine lv_aload_n hx hb dX0_init_28 rfl (lv_at hl 0 rfl) ?_
  refine lv_bipush (v := (12 : Int32)) hx hb dX0_init_29 (by decide) ?_
  refine va_newa (a0 := (12, .inl (fun _ => 0))) (N' := 12) (ty := .int) (atype := .int) hx hb (hts (.arrayClass .int) (by decide +kernel)) rfl hK hP hD hS hA (fun _ => rfl) (by decide) (by decide) (Nat.le_of_ble_eq_true rfl) (Nat.le_of_ble_eq_true rfl) (Nat.le_of_ble_eq_true rfl) dX0_init_31 (fun q4 cA H hK1 hP hD hS => ?_)
  have hcA := kA_int (i := 0) (fun C h => by cases h) hK1 rfl
  subst hcA
  have hP : va_P D vwCl ([(h0, .inr (0, [.ref q1, .ref q2, .ref q3, .null, .null, .int 0])), (q1, .inl (k 0, 12, .inl (fun _ => 0))), (q2, .inl (k 0, 12, .inl (fun _ => 0))), (q3, .inl (k 0, 12, .inl (fun _ => 0))), (q4, .inl (k 0, 12, .inl (fun _ => 0)))]) H := hP
  have hD : va_D A ([(h0, .inr (0, [.ref q1, .ref q2, .ref q3, .null, .null, .int 0])), (q1, .inl (k 0, 12, .inl (fun _ => 0))), (q2, .inl (k 0, 12, .inl (fun _ => 0))), (q3, .inl (k 0, 12, .inl (fun _ => 0))), (q4, .inl (k 0, 12, .inl (fun _ => 0)))]) := hD
  refine W.widen (k := 4) (n := 48) (by decide) (by decide) ?_
  refine va_putF (D := D) (ci := 0) (v := .ref q4) (ty := .array .int) (C := RX0) (T := TX0) (N := 6) hx hb hts hiX0 tyX0 tyX0_ok nmX0 hown hK hP hD hS 0 rfl rfl 3 (by decide) f21 (fun _ h9 => h9) rfl hin rfl (by decide +kernel) rfl rfl (Nat.le_of_ble_eq_true rfl) dX0_init_33 (fun H locs hP hD hS => ?_)
  have hP : va_P D vwCl ([(h0, .inr (0, [.ref q1, .ref q2, .ref q3, .ref q4, .null, .int 0])), (q1, .inl (k 0, 12, .inl (fun _ => 0))), (q2, .inl (k 0, 12, .inl (fun _ => 0))), (q3, .inl (k 0, 12, .inl (fun _ => 0))), (q4, .inl (k 0, 12, .inl (fun _ => 0)))]) H := hP
  have hD : va_D A ([(h0, .inr (0, [.ref q1, .ref q2, .ref q3, .ref q4, .null, .int 0])), (q1, .inl (k 0, 12, .inl (fun _ => 0))), (q2, .inl (k 0, 12, .inl (fun _ => 0))), (q3, .inl (k 0, 12, .inl (fun _ => 0))), (q4, .inl (k 0, 12, .inl (fun _ => 0)))]) := hD
  refine lv_aload_n hx hb dX0_init_36 rfl (lv_at hl 0 rfl) ?_
  refine lv_iconst (v := (2 : Int32)) hx hb dX0_init_37 (by decide) ?_
  refine va_newa (a0 := (2, .inl (fun _ => 0))) (N' := 2) (ty := .int) (atype := .int) hx hb (hts (.arrayClass .int) (by decide +kernel)) rfl hK hP hD hS hA (fun _ => rfl) (by decide) (by decide) (Nat.le_of_ble_eq_true rfl) (Nat.le_of_ble_eq_true rfl) (Nat.le_of_ble_eq_true rfl) dX0_init_38 (fun q5 cA H hK1 hP hD hS => ?_)
  have hcA := kA_int (i := 0) (fun C h => by cases h) hK1 rfl
  subst hcA
  have hP : va_P D vwCl ([(h0, .inr (0, [.ref q1, .ref q2, .ref q3, .ref q4, .null, .int 0])), (q1, .inl (k 0, 12, .inl (fun _ => 0))), (q2, .inl (k 0, 12, .inl (fun _ => 0))), (q3, .inl (k 0, 12, .inl (fun _ => 0))), (q4, .inl (k 0, 12, .inl (fun _ => 0))), (q5, .inl (k 0, 2, .inl (fun _ => 0)))]) H := hP
  have hD : va_D A ([(h0, .inr (0, [.ref q1, .ref q2, .ref q3, .ref q4, .null, .int 0])), (q1, .inl (k 0, 12, .inl (fun _ => 0))), (q2, .inl (k 0, 12, .inl (fun _ => 0))), (q3, .inl (k 0, 12, .inl (fun _ => 0))), (q4, .inl (k 0, 12, .inl (fun _ => 0))), (q5, .inl (k 0, 2, .inl (fun _ => 0)))]) := hD
  refine W.widen (k := 5) (n := 50) (by decide) (by decide) ?_
  refine va_putF (D := D) (ci := 0) (v := .ref q5) (ty := .array .int) (C := RX0) (T := TX0) (N := 6) hx hb hts hiX0 tyX0 tyX0_ok nmX0 hown hK hP hD hS 0 rfl rfl 4 (by decide) f24 (fun _ h9 => h9) rfl hin rfl (by decide +kernel) rfl rfl (Nat.le_of_ble_eq_true rfl) dX0_init_40 (fun H locs hP hD hS => ?_)
  have hP : va_P D vwCl ([(h0, .inr (0, [.ref q1, .ref q2, .ref q3, .ref q4, .ref q5, .int 0])), (q1, .inl (k 0, 12, .inl (fun _ => 0))), (q2, .inl (k 0, 12, .inl (fun _ => 0))), (q3, .inl (k 0, 12, .inl (fun _ => 0))), (q4, .inl (k 0, 12, .inl (fun _ => 0))), (q5, .inl (k 0, 2, .inl (fun _ => 0)))]) H := hP
  have hD : va_D A ([(h0, .inr (0, [.ref q1, .ref q2, .ref q3, .ref q4, .ref q5, .int 0])), (q1, .inl (k 0, 12, .inl (fun _ => 0))), (q2, .inl (k 0, 12, .inl (fun _ => 0))), (q3, .inl (k 0, 12, .inl (fun _ => 0))), (q4, .inl (k 0, 12, .inl (fun _ => 0))), (q5, .inl (k 0, 2, .inl (fun _ => 0)))]) := hD
  refine lv_aload_n hx hb dX0_init_43 rfl (lv_at hl 0 rfl) ?_
  refine lv_iconst (v := (0 : Int32)) hx hb dX0_init_44 (by decide) ?_
  refine va_put (D := D) (ci := 0) (v := .int 0) (ty := .int) (C := RX0) (T := TX0) (N := 6) hx hb hts hiX0 tyX0 tyX0_ok nmX0 hown hK hP hD hS 0 rfl rfl 5 (by decide) f27 (fun _ h9 => h9) rfl (by decide +kernel) rfl rfl (Nat.le_of_ble_eq_true rfl) dX0_init_45 (fun H locs hP hD hS => ?_)
  have hP : va_P D vwCl ([(h0, .inr (0, [.ref q1, .ref q2, .ref q3, .ref q4, .ref q5, .int 0])), (q1, .inl (k 0, 12, .inl (fun _ => 0))), (q2, .inl (k 0, 12, .inl (fun _ => 0))), (q3, .inl (k 0, 12, .inl (fun _ => 0))), (q4, .inl (k 0, 12, .inl (fun _ => 0))), (q5, .inl (k 0, 2, .inl (fun _ => 0)))]) H := hP
  have hD : va_D A ([(h0, .inr (0, [.ref q1, .ref q2, .ref q3, .ref q4, .ref q5, .int 0])), (q1, .inl (k 0, 12, .inl (fun _ => 0))), (q2, .inl (k 0, 12, .inl (fun _ => 0))), (q3, .inl (k 0, 12, .inl (fun _ => 0))), (q4, .inl (k 0, 12, .inl (fun _ => 0))), (q5, .inl (k 0, 2, .inl (fun _ => 0)))]) := hD
  rw [hGQ]
  exact W.vret hx hb hr (fun t ht hW => ⟨⟨(fun i => ([h0, q1, q2, q3, q4, q5] : List Nat).getD i 0), rfl, rfl, by rw [ht]; exact hP, hD⟩, hS.F ht⟩) hS.2.2 dX0_init_48
