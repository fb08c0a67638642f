set_option maxHeartbeats 4000000 in
set_option maxRecDepth 100000 in
theorem m_X2_init (l : Launch) (D : va_G) (k : Nat → ClassId) (h0 : Nat) (sz : Nat) : Met l yX2_init wsX2_init ({ frames := 1, cells := 9, slots := 2216, locals := 12 }) (Prw D k [.ref h0] ([(h0, .inr (2, [.null, .int 0]))]) sz) (va_Qv (fun (u : Nat → Nat) => u 0 = h0) (fun (u : Nat → Nat) t => va_P D vwCl (wQ k u (fun _ _ => 0) 0) t.heap ∧ va_D (va_A ([(h0, .inr (2, [.null, .int 0]))]) sz) (wQ k u (fun _ _ => 0) 0)) (va_A ([(h0, .inr (2, [.null, .int 0]))]) sz)) 9 2216 (va_A ([(h0, .inr (2, [.null, .int 0]))]) sz) := by
  refine Met.ofW (cc := cX2_init) (maxL := 1) (ret := none) (by decide) rfl ?_
  intro p e s m args below meth c s₁ B hml hv
  obtain ⟨hav, hsz, hP, hE, hD0⟩ := hv
  subst hsz
  have hx := B.exec
  have hb := B.bytes
  have hr := B.returns
  have hts := atoms_spec (ws := wsX2_init) B.pre
  have hown : s.vm.findClass RX2 = some m.cls := findClass_of_methodNamed B.named
  have hlocks := B.notSynchronized
  have hin : meth.name = "<init>" := (name_of_methodNamed B.named B.method).1
  have hK := hE.1
  have hD := hD0.self (sz := s.heap.size)
  generalize hAe : va_A ([(h0, .inr (2, [.null, .int 0]))]) s.heap.size = A at hD ⊢
  have hA : ∀ q : Nat, s.heap.size ≤ q → A q := fun q h => by rw [← hAe]; exact Or.inr h
  have hS : va_S A s.heap s.heap [] := va_S.rf
  have hP : va_P D vwCl ([(h0, .inr (2, [.null, .int 0]))]) s.heap := hP
  have hl := lv_entry ([.ref h0]) (n := 1) (Nat.le_of_ble_eq_true rfl)
  rw [show entryFrame m args 1 = entryFrame m ([.ref h0] : List Value).toArray 1 by rw [hav]]
  rw [lg_entry_eq]
  refine W.gq (fun GQ hGQ => ?_)
  generalize (lg_sl ([.ref h0]) ++ List.replicate (1 - (lg_sl ([.ref h0])).length) Slot.unset).toArray = ls at hl ⊢
  have hl : lv_has ls 1 [(0, .ref h0)] := hl
  have cm11 := hts (.classLink RX2 11 "[[I") (by decide +kernel)
  have f13 := hts (.fieldLink RX2 13 "PlaneOverlay$Pieces" "facts" "[[I") (by decide +kernel)
  have hiX2 := (by decide +kernel : ∀ w ∈ wsX20, w ∈ wsX2_init)
  have f16 := hts (.fieldLink RX2 16 "PlaneOverlay$Pieces" "count" "I") (by decide +kernel)
  refine lv_aload_n hx hb dX2_init_0 rfl (lv_at hl 0 rfl) ?_
  refine W.objInit hx hb hown (hts (.methodLink RX2 3 objectInit) (by decide +kernel)) (hts (.instanceMethod objectInit) (by decide +kernel)) (hts (.code objectInit ⟨#[0xb1]⟩ 1 none) (List.mem_of_getElem? (i := 3) rfl)) rfl (by rw [hml]; exact hl.1) rfl dX2_init_1 (Nat.le_of_ble_eq_true rfl) (Nat.le_of_ble_eq_true rfl) ?_
  refine W.eq (g2 := F0 m 4 ls []) rfl ?_
  refine lv_aload_n hx hb dX2_init_4 rfl (lv_at hl 0 rfl) ?_
  refine lv_bipush (v := (8 : Int32)) hx hb dX2_init_5 (by decide) ?_
  refine lv_sipush (v := (276 : Int32)) hx hb dX2_init_7 (by decide) ?_
  have hP : va_P D vwCl (([(h0, .inr (2, [.null, .int 0]))]) ++ va_pl [] (fun _ => .inl (k 0, 0, .inl (fun _ => 0)))) _ := hP
  have hD : va_D A (([(h0, .inr (2, [.null, .int 0]))]) ++ va_pl [] (fun _ => .inl (k 0, 0, .inl (fun _ => 0)))) := hD
  refine va_mna (N' := 8) (K' := 276) (ty := .int) (cy := k 0) (z := (276, .inl (fun _ => 0))) hx hb hown cm11 hE.2.2.2 (hts (.arrayClass .int) (by decide +kernel)) (hK.2 0 _ rfl).2 hK hP hD hS hA (by decide) (by decide) rfl rfl (by decide) (by decide) (by decide) rfl rfl (Nat.le_of_ble_eq_true rfl) (Nat.le_of_ble_eq_true rfl) (fun _ => rfl) dX2_init_10 (fun q1 r1 cA H hr1 hr2 hK1 hP hD hS => ?_)
  have hcA := kA_int (i := 4) (fun C h => by cases h) hK1 rfl
  subst hcA
  rw [List.nil_append, pl_rows] at hP hD
  have hP : va_P D vwCl ([(h0, .inr (2, [.null, .int 0])), (q1, .inl (k 4, 8, .inr (.inr (.inr (.inr (fun i => if i < 8 then some (r1 i) else none)))))), (r1 0, .inl (k 0, 276, .inl (fun _ => 0))), (r1 1, .inl (k 0, 276, .inl (fun _ => 0))), (r1 2, .inl (k 0, 276, .inl (fun _ => 0))), (r1 3, .inl (k 0, 276, .inl (fun _ => 0))), (r1 4, .inl (k 0, 276, .inl (fun _ => 0))), (r1 5, .inl (k 0, 276, .inl (fun _ => 0))), (r1 6, .inl (k 0, 276, .inl (fun _ => 0))), (r1 7, .inl (k 0, 276, .inl (fun _ => 0)))]) H := hP
  have hD : va_D A ([(h0, .inr (2, [.null, .int 0])), (q1, .inl (k 4, 8, .inr (.inr (.inr (.inr (fun i => if i < 8 then some (r1 i) else none)))))), (r1 0, .inl (k 0, 276, .inl (fun _ => 0))), (r1 1, .inl (k 0, 276, .inl (fun _ => 0))), (r1 2, .inl (k 0, 276, .inl (fun _ => 0))), (r1 3, .inl (k 0, 276, .inl (fun _ => 0))), (r1 4, .inl (k 0, 276, .inl (fun _ => 0))), (r1 5, .inl (k 0, 276, .inl (fun _ => 0))), (r1 6, .inl (k 0, 276, .inl (fun _ => 0))), (r1 7, .inl (k 0, 276, .inl (fun _ => 0)))]) := hD
  refine W.widen (k := 9) (n := 2216) (by decide) (by decide) ?_
  refine va_putF (D := D) (ci := 2) (v := .ref q1) (ty := .array (.array .int)) (C := RX2) (T := TX2) (N := 2) hx hb hts hiX2 tyX2 tyX2_ok nmX2 hown hK hP hD hS 0 rfl rfl 0 (by decide) f13 (fun _ h9 => h9) rfl hin rfl (by decide +kernel) rfl rfl (Nat.le_of_ble_eq_true rfl) dX2_init_14 (fun H locs hP hD hS => ?_)
  have hP : va_P D vwCl ([(h0, .inr (2, [.ref q1, .int 0])), (q1, .inl (k 4, 8, .inr (.inr (.inr (.inr (fun i => if i < 8 then some (r1 i) else none)))))), (r1 0, .inl (k 0, 276, .inl (fun _ => 0))), (r1 1, .inl (k 0, 276, .inl (fun _ => 0))), (r1 2, .inl (k 0, 276, .inl (fun _ => 0))), (r1 3, .inl (k 0, 276, .inl (fun _ => 0))), (r1 4, .inl (k 0, 276, .inl (fun _ => 0))), (r1 5, .inl (k 0, 276, .inl (fun _ => 0))), (r1 6, .inl (k 0, 276, .inl (fun _ => 0))), (r1 7, .inl (k 0, 276, .inl (fun _ => 0)))]) H := hP
  have hD : va_D A ([(h0, .inr (2, [.ref q1, .int 0])), (q1, .inl (k 4, 8, .inr (.inr (.inr (.inr (fun i => if i < 8 then some (r1 i) else none)))))), (r1 0, .inl (k 0, 276, .inl (fun _ => 0))), (r1 1, .inl (k 0, 276, .inl (fun _ => 0))), (r1 2, .inl (k 0, 276, .inl (fun _ => 0))), (r1 3, .inl (k 0, 276, .inl (fun _ => 0))), (r1 4, .inl (k 0, 276, .inl (fun _ => 0))), (r1 5, .inl (k 0, 276, .inl (fun _ => 0))), (r1 6, .inl (k 0, 276, .inl (fun _ => 0))), (r1 7, .inl (k 0, 276, .inl (fun _ => 0)))]) := hD
  refine lv_aload_n hx hb dX2_init_17 rfl (lv_at hl 0 rfl) ?_
  refine lv_iconst (v := (0 : Int32)) hx hb dX2_init_18 (by decide) ?_
  refine va_put (D := D) (ci := 2) (v := .int 0) (ty := .int) (C := RX2) (T := TX2) (N := 2) hx hb hts hiX2 tyX2 tyX2_ok nmX2 hown hK hP hD hS 0 rfl rfl 1 (by decide) f16 (fun _ h9 => h9) rfl (by decide +kernel) rfl rfl (Nat.le_of_ble_eq_true rfl) dX2_init_19 (fun H locs hP hD hS => ?_)
  have hP : va_P D vwCl ([(h0, .inr (2, [.ref q1, .int 0])), (q1, .inl (k 4, 8, .inr (.inr (.inr (.inr (fun i => if i < 8 then some (r1 i) else none)))))), (r1 0, .inl (k 0, 276, .inl (fun _ => 0))), (r1 1, .inl (k 0, 276, .inl (fun _ => 0))), (r1 2, .inl (k 0, 276, .inl (fun _ => 0))), (r1 3, .inl (k 0, 276, .inl (fun _ => 0))), (r1 4, .inl (k 0, 276, .inl (fun _ => 0))), (r1 5, .inl (k 0, 276, .inl (fun _ => 0))), (r1 6, .inl (k 0, 276, .inl (fun _ => 0))), (r1 7, .inl (k 0, 276, .inl (fun _ => 0)))]) H := hP
  have hD : va_D A ([(h0, .inr (2, [.ref q1, .int 0])), (q1, .inl (k 4, 8, .inr (.inr (.inr (.inr (fun i => if i < 8 then some (r1 i) else none)))))), (r1 0, .inl (k 0, 276, .inl (fun _ => 0))), (r1 1, .inl (k 0, 276, .inl (fun _ => 0))), (r1 2, .inl (k 0, 276, .inl (fun _ => 0))), (r1 3, .inl (k 0, 276, .inl (fun _ => 0))), (r1 4, .inl (k 0, 276, .inl (fun _ => 0))), (r1 5, .inl (k 0, 276, .inl (fun _ => 0))), (r1 6, .inl (k 0, 276, .inl (fun _ => 0))), (r1 7, .inl (k 0, 276, .inl (fun _ => 0)))]) := hD
  have hfun : ([(h0, .inr (2, [.ref q1, .int 0])), (q1, .inl (k 4, 8, .inr (.inr (.inr (.inr (fun i => if i < 8 then some (r1 i) else none)))))), (r1 0, .inl (k 0, 276, .inl (fun _ => 0))), (r1 1, .inl (k 0, 276, .inl (fun _ => 0))), (r1 2, .inl (k 0, 276, .inl (fun _ => 0))), (r1 3, .inl (k 0, 276, .inl (fun _ => 0))), (r1 4, .inl (k 0, 276, .inl (fun _ => 0))), (r1 5, .inl (k 0, 276, .inl (fun _ => 0))), (r1 6, .inl (k 0, 276, .inl (fun _ => 0))), (r1 7, .inl (k 0, 276, .inl (fun _ => 0)))]) = (wQ k (fun i => ([h0, q1, r1 0, r1 1, r1 2, r1 3, r1 4, r1 5, r1 6, r1 7] : List Nat).getD i 0) (fun _ _ => 0) 0) := by
    have hf : ∀ (r : Nat → Nat) (b : Nat) (a : Nat → Nat), (∀ i, i < 8 → a (b + i) = r i) → (fun i => if i < 8 then some (r i) else none) = (fun i => if i < 8 then some (a (b + i)) else none) := by
      intro r b a h9; funext i; by_cases hi : i < 8
      · simp only [if_pos hi]; rw [h9 i hi]
      · simp only [if_neg hi]
    rw [hf r1 2 (fun i => ([h0, q1, r1 0, r1 1, r1 2, r1 3, r1 4, r1 5, r1 6, r1 7] : List Nat).getD i 0) (fun i hi => co_8 (P := fun i => (fun i => ([h0, q1, r1 0, r1 1, r1 2, r1 3, r1 4, r1 5, r1 6, r1 7] : List Nat).getD i 0) (2 + i) = r1 i) rfl rfl rfl rfl rfl rfl rfl rfl hi)]
    rfl
  rw [hfun] at hP hD
  rw [hGQ]
  exact W.vret hx hb hr (fun t ht hW => ⟨⟨(fun i => ([h0, q1, r1 0, r1 1, r1 2, r1 3, r1 4, r1 5, r1 6, r1 7] : List Nat).getD i 0), rfl, rfl, by rw [ht]; exact hP, hD⟩, hS.F ht⟩) hS.2.2 dX2_init_22
