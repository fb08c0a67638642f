theorem arr_of {args : Array Value} {s : State} {ty : FieldType} (hty : ∀ C, ty ≠ .object C) (h : (Cond.arrayClass ty).before args s = true) : ∃ cA, ArrOfT s cA ty ∧ va_RA s cA ty := by
  obtain ⟨c, k, comp, h1, h2, h3⟩ := Cond.arrayClass_spec h
  refine ⟨c, fun n z => ⟨fun q hq => (by cases hq), k, h2, comp, h3⟩, ?_⟩
  cases ty with
  | object C => exact absurd rfl (hty C)
  | _ => exact h1
theorem arr_ofA {t : FieldType} {u : State} (h : va_AOA t u) : ∃ cA, ArrOfT u cA (.array t) ∧ va_RA u cA (.array t) := by
  unfold va_AOA Cond.before Cond.holds at h
  simp only [Cond.value, beq_iff_eq] at h
  cases hc : u.vm.findClass (FieldType.array t).toString with
  | none => simp [hc] at h
  | some comp =>
    simp only [hc, Option.bind_some, Option.bind_eq_some_iff, Option.map_eq_some_iff] at h
    obtain ⟨c, hi, k, hk, hb⟩ := h
    cases hkind : k.kind with
    | array comp2 ty =>
      rw [hkind] at hb
      simp only [Bool.and_eq_true, decide_eq_true_eq] at hb
      obtain ⟨rfl, hf⟩ := hb
      exact ⟨c, fun n z => ⟨fun q hq => (by cases hq), k, hk, comp2, hkind⟩, hf⟩
    | _ => rw [hkind] at hb; simp at hb
theorem lt_off {l : Launch} (hf : l.flags = flags0) : l.stackTraces = false := by
  unfold Launch.stackTraces
  rw [hf]
  decide
set_option maxRecDepth 100000 in
theorem nestF_in : ∀ q ∈ nestF, Cond.fieldLinkNest q.1 q.2.1 q.2.2.1 q.2.2.2.1 q.2.2.2.2 "PlaneOverlay" ∈ lw_tbl := by decide +kernel
set_option maxRecDepth 100000 in
theorem nestM_in : ∀ q ∈ nestM, Cond.methodLinkNest q.1 q.2.1 q.2.2 "PlaneOverlay" ∈ lw_tbl := by decide +kernel
set_option maxRecDepth 100000 in
theorem thStr_in : ∀ q ∈ thStr, Cond.stringRef RX4 q.1 q.2 ∈ lw_tbl := by decide +kernel
set_option maxRecDepth 100000 in
theorem thCl_in : ∀ c ∈ thCl, Cond.castable c c ∈ lw_tbl := by decide +kernel
set_option maxRecDepth 100000 in
theorem thDe_in : ∀ y ∈ thDe, Cond.declares y ∈ lw_tbl := by decide +kernel
set_option maxRecDepth 100000 in
theorem thNc_in : ∀ q ∈ thNc, Cond.not (.castable q.1 q.2) ∈ flatC (Jvm.Cond.and given_1 narrow_1) := by decide +kernel
set_option maxRecDepth 100000 in
theorem thU_in : Cond.isRef (.static Bundle.tN "UNASSIGNED_STACK" Bundle.steD) ∈ flatC (Jvm.Cond.and given_1 narrow_1) := by decide +kernel
set_option maxRecDepth 100000 in
theorem thS_in : Cond.isRef (.static Bundle.tN "SUPPRESSED_SENTINEL" Bundle.listD) ∈ flatC (Jvm.Cond.and given_1 narrow_1) := by decide +kernel
set_option maxRecDepth 100000 in
theorem thL_in : ∀ w ∈ [Cond.laysStatic Bundle.tN "UNASSIGNED_STACK" Bundle.steD, Cond.laysStatic Bundle.tN "SUPPRESSED_SENTINEL" Bundle.listD, Cond.initialized Bundle.tN, Cond.arrayOver (.array .int), Cond.arrayClass .int, Cond.arrayClass .boolean, Cond.arrayClass .long, Cond.arrayClass .double, Cond.initialized RX4, Cond.initialized RX5, Cond.classLink RL 8 RX4, Cond.classLink RL 57 RX5, Cond.methodLink RL 56 yX4_init, Cond.methodLink RL 59 yX5_init, Cond.instanceMethod yX4_init, Cond.instanceMethod yX5_init, Cond.instantiable RX0 6, Cond.instantiable RX1 3, Cond.instantiable RX2 2, Cond.instantiable RX3 5, Cond.instantiable RX4 8, Cond.instantiable RX5 27], w ∈ lw_tbl := by decide +kernel
