set_option maxHeartbeats 40000000 in
set_option maxRecDepth 100000 in
theorem whole_start {p : Program} {e : Env} {s : State} {m : MethodId} {below : List Frame} {meth : Method} {c : Code} (l : Launch) (hlt : l.stackTraces = false) {b L : Nat} {xs : Nat → Int32} (hL : L ≤ 2560) (C0 : lw_At p s m meth c b L xs) : W p l e room_1 s m #[Value.ref b] below meth c s.heap [] 0 0 (lw_Z below #[Value.ref b] s) (entryFrame m ([Value.ref b] : List Value).toArray 9) := by
  obtain ⟨hx, hb, hr, hml, hown, hts0, hX, hbl, hlocks, hgv⟩ := id C0
  have hA : ∀ q : Nat, s.heap.size ≤ q → (fun q : Nat => s.heap.size ≤ q) q := fun _ h => h
  have hts : ∀ w ∈ wsL_law, w.before #[Value.ref b] s = true := fun w h => hts0 w (wsL_law_in w h)
  have hb : c.code = cL_law := hb
  have hown : s.vm.findClass RL = some m.cls := hown
  obtain ⟨c0, iS0, hKn0⟩ := u_known (C := RX0) (T := TX0) (N := 6) (n := 6) hts0 inX0 (hts0 _ (thL_in _ (List.mem_of_getElem? (i := 16) rfl)))
  obtain ⟨c1, iS1, hKn1⟩ := u_known (C := RX1) (T := TX1) (N := 3) (n := 3) hts0 inX1 (hts0 _ (thL_in _ (List.mem_of_getElem? (i := 17) rfl)))
  obtain ⟨c2, iS2, hKn2⟩ := u_known (C := RX2) (T := TX2) (N := 2) (n := 2) hts0 inX2 (hts0 _ (thL_in _ (List.mem_of_getElem? (i := 18) rfl)))
  obtain ⟨c3, iS3, hKn3⟩ := u_known (C := RX3) (T := TX3) (N := 5) (n := 5) hts0 inX3 (hts0 _ (thL_in _ (List.mem_of_getElem? (i := 19) rfl)))
  obtain ⟨c4, iS4, hKn4⟩ := u_known (C := RX4) (T := TX4) (N := 8) (n := 8) hts0 inX4 (hts0 _ (thL_in _ (List.mem_of_getElem? (i := 20) rfl)))
  obtain ⟨c5, iS5, hKn5⟩ := u_known (C := RX5) (T := TX5) (N := 27) (n := 27) hts0 inX5 (hts0 _ (thL_in _ (List.mem_of_getElem? (i := 21) rfl)))
  obtain ⟨D, hKc⟩ : ∃ D : va_G, ∀ (k : Nat) (q : vw_C), vwCl[k]? = some q → u_Kn s q.1 q.2.1 q.2.2 (D.1 k) (D.2 k) := by
    refine ⟨(fun k => [c0, c1, c2, c3, c4, c5].getD k c0, fun k => [iS0, iS1, iS2, iS3, iS4, iS5].getD k iS0), ?_⟩
    intro k q hq
    match k, hq with
    | 0, hq => cases hq; exact hKn0
    | 1, hq => cases hq; exact hKn1
    | 2, hq => cases hq; exact hKn2
    | 3, hq => cases hq; exact hKn3
    | 4, hq => cases hq; exact hKn4
    | 5, hq => cases hq; exact hKn5
    | k + 6, hq => simp [vwCl] at hq
  obtain ⟨aI, hAI⟩ := arr_of (ty := .int) (fun C h => by cases h) (hts0 _ (thL_in _ (List.mem_of_getElem? (i := 4) rfl)))
  obtain ⟨aZ, hAZ⟩ := arr_of (ty := .boolean) (fun C h => by cases h) (hts0 _ (thL_in _ (List.mem_of_getElem? (i := 5) rfl)))
  obtain ⟨aJ, hAJ⟩ := arr_of (ty := .long) (fun C h => by cases h) (hts0 _ (thL_in _ (List.mem_of_getElem? (i := 6) rfl)))
  obtain ⟨aF, hAF⟩ := arr_of (ty := .double) (fun C h => by cases h) (hts0 _ (thL_in _ (List.mem_of_getElem? (i := 7) rfl)))
  have hAOA : va_AOA .int s := va_AOA.of (hts0 _ (thL_in _ (List.mem_of_getElem? (i := 3) rfl)))
  obtain ⟨aR0, hAR⟩ := arr_ofA hAOA
  obtain ⟨k, hk⟩ : ∃ k : Nat → ClassId, k = fun i => [aI, aZ, aJ, aF, aR0].getD i aI := ⟨_, rfl⟩
  have hK : va_K D vwCl (gTys k) s := by
    refine ⟨hKc, fun j q hq => ?_⟩
    subst hk
    match j, hq with
    | 0, hq => cases hq; exact hAI
    | 1, hq => cases hq; exact hAZ
    | 2, hq => cases hq; exact hAJ
    | 3, hq => cases hq; exact hAF
    | 4, hq => cases hq; exact hAR
    | j + 5, hq => simp at hq
  have hE : En D k s := ⟨hK, fun q hq => va_Nw.of rfl (hts0 _ (nestF_in q hq)), fun q hq => va_Nw.of rfl (hts0 _ (nestM_in q hq)), hAOA⟩
  have hfl := flat_of_before _ hgv
  have hnA : ∀ a : Nat, a < s.heap.size → ¬ (fun q : Nat => s.heap.size ≤ q) a := fun a h => Nat.not_le.mpr h
  have hcX4 : ∃ cur, s.vm.findClass RX4 = some cur := by obtain ⟨cC, kC, hfc, -⟩ := Cond.instantiable_spec (hts0 _ (thL_in _ (List.mem_of_getElem? (i := 20) rfl))); exact ⟨cC, hfc⟩
  obtain ⟨cur, hcur⟩ := hcX4
  have hT : Tx (fun q : Nat => s.heap.size ≤ q) s := by
    refine ⟨vx_Zqof (hts0 _ (thL_in _ (List.mem_of_getElem? (i := 0) rfl))) (hts0 _ (thL_in _ (List.mem_of_getElem? (i := 2) rfl))) (hfl _ thU_in) hnA, vx_Zqof (hts0 _ (thL_in _ (List.mem_of_getElem? (i := 1) rfl))) (hts0 _ (thL_in _ (List.mem_of_getElem? (i := 2) rfl))) (hfl _ thS_in) hnA, fun q hq => ?_, fun c hc => va_Nw.of rfl (hts0 _ (thCl_in c hc)), fun y hy => va_Nw.of rfl (hts0 _ (thDe_in y hy)), fun q hq => va_Nc.of (hfl _ (thNc_in q hq))⟩
    obtain ⟨k, cf, i, a, -, -, -, -, -, hev⟩ := Cond.stringRef_spec hcur (hts0 _ (thStr_in q hq))
    exact ⟨a, vk_R.of (hts0 _ (thStr_in q hq)) hev⟩
  have hS : va_S (fun q : Nat => s.heap.size ≤ q) s.heap s.heap [] := va_S.rf
  have hP : va_P D vwCl ([] : va_W) s.heap := vaP0
  have hD : va_D (fun q : Nat => s.heap.size ≤ q) ([] : va_W) := vaD0
  have hl := lv_entry ([.ref b]) (n := 9) (Nat.le_of_ble_eq_true rfl)
  rw [lg_entry_eq]
  generalize (lg_sl ([.ref b]) ++ List.replicate (9 - (lg_sl ([.ref b])).length) Slot.unset).toArray = ls at hl ⊢
  have hl : lv_has ls 9 [(0, .ref b)] := hl
  refine va_new (ci := 4) (fs := [.null, .null, .null, .null, .null, .null, .null, .int 0]) (C := RX4) (T := TX4) (N := 8) hx hb hts0 inX4 tyX4 tyX4_ok hown (hts0 _ (thL_in _ (List.mem_of_getElem? (i := 10) rfl))) (hts0 _ (thL_in _ (List.mem_of_getElem? (i := 20) rfl))) (hts0 _ (thL_in _ (List.mem_of_getElem? (i := 8) rfl))) hK hP hD hS hA rfl (fun j hj => by rcases (show j = 0 ∨ j = 1 ∨ j = 2 ∨ j = 3 ∨ j = 4 ∨ j = 5 ∨ j = 6 ∨ j = 7 by omega) with rfl | rfl | rfl | rfl | rfl | rfl | rfl | rfl <;> rfl) (by change _ ≤ 601024; omega) (by change _ ≤ 7293034; omega) dL_law_0 (fun q1 H hP hD hS => ?_)
  have hP : va_P D vwCl ([(q1, .inr (4, [.null, .null, .null, .null, .null, .null, .null, .int 0]))]) H := hP
  have hD : va_D (fun q : Nat => s.heap.size ≤ q) ([(q1, .inr (4, [.null, .null, .null, .null, .null, .null, .null, .int 0]))]) := hD
  refine W.widen (k := 1) (n := 8) (by omega) (by omega) ?_
  refine lv_dup hx hb dL_law_3 rfl ?_
  have hFc := va_free (wc := [(q1, .inr (4, [.null, .null, .null, .null, .null, .null, .null, .int 0]))]) hD hS hA [0] rfl
  have hPc := hP
  have hDc := hD
  refine va_callv (va_runI (As := []) (rest := [.ref q1]) ⟨hx, hb, hml, hown, hts⟩ (m_X4_init l D k q1 H.size) (cwI 0 hts gL_law_X4_init rfl rfl rfl (hts0 _ (thL_in _ (List.mem_of_getElem? (i := 8) rfl))) (hts0 _ (thL_in _ (List.mem_of_getElem? (i := 12) rfl))) (hts0 _ (thL_in _ (List.mem_of_getElem? (i := 14) rfl))) rfl (by decide +kernel) ⟨Nat.le_of_ble_eq_true rfl, Nat.le_of_ble_eq_true rfl⟩) (preS_rw hE hPc hDc) rfl rfl hl.1 rfl (lv_room (Nat.le_of_ble_eq_true rfl)) dL_law_4 ⟨by change _ ≤ 601024; omega, by change _ ≤ 7293034; omega⟩) hS (fun q _ h => hFc q h) hFc (fun u t H1 locs ht hvm hw hB hz1 hk1 hS => ?_)
  obtain ⟨aC, aE, aP, aQ, aM⟩ := u
  obtain ⟨hP1, hD1⟩ := hB
  rw [ht] at hP1
  obtain ⟨hP, hD⟩ := va_join (wr := ([] : va_W)) (w1 := wC k aC aE aP aQ aM (fun _ _ => 0) (fun _ _ => 0) (fun _ => 0) 0 ++ wE k aE (fun _ => 0) (fun _ => 0) (fun _ => 0) (fun _ => 0) (fun _ => 0) 0 ++ wP k aP (fun _ => 0) (fun _ => 0) (fun _ => 0) (fun _ => 0) 0 ++ wQ k aQ (fun _ _ => 0) 0 ++ wM k aM (fun _ => 0) 0 0) hP hD [0] [] rfl rfl (by decide) (by decide) hk1 hFc hP1 hD1
  generalize H1 = H at hP hS ⊢
  have hP : va_P D vwCl (wC k aC aE aP aQ aM (fun _ _ => 0) (fun _ _ => 0) (fun _ => 0) 0 ++ wE k aE (fun _ => 0) (fun _ => 0) (fun _ => 0) (fun _ => 0) (fun _ => 0) 0 ++ wP k aP (fun _ => 0) (fun _ => 0) (fun _ => 0) (fun _ => 0) 0 ++ wQ k aQ (fun _ _ => 0) 0 ++ wM k aM (fun _ => 0) 0 0) H := hP
  have hD : va_D (fun q : Nat => s.heap.size ≤ q) (wC k aC aE aP aQ aM (fun _ _ => 0) (fun _ _ => 0) (fun _ => 0) 0 ++ wE k aE (fun _ => 0) (fun _ => 0) (fun _ => 0) (fun _ => 0) (fun _ => 0) 0 ++ wP k aP (fun _ => 0) (fun _ => 0) (fun _ => 0) (fun _ => 0) 0 ++ wQ k aQ (fun _ _ => 0) 0 ++ wM k aM (fun _ => 0) 0 0) := hD
  have hw : aC 0 = q1 := hw
  rw [← hw]
  refine W.widen (k := 31) (n := 2644) (by omega) (by omega) ?_
  refine lv_astore_n (lv' := [(1, .ref (aC 0)), (0, .ref b)]) hx hb dL_law_7 rfl hl (by decide) rfl (fun ls hl => ?_)
  refine va_new (ci := 5) (fs := [.int 0, .null, .null, .null, .int 0, .int 0, .null, .null, .null, .null, .null, .int 0, .null, .null, .null, .int 0, .null, .null, .null, .null, .null, .long 0, .long 0, .long 0, .long 0, .long 0, .long 0]) (C := RX5) (T := TX5) (N := 27) hx hb hts0 inX5 tyX5 tyX5_ok hown (hts0 _ (thL_in _ (List.mem_of_getElem? (i := 11) rfl))) (hts0 _ (thL_in _ (List.mem_of_getElem? (i := 21) rfl))) (hts0 _ (thL_in _ (List.mem_of_getElem? (i := 9) rfl))) hK hP hD hS hA rfl (fun j hj => by rcases (show j = 0 ∨ j = 1 ∨ j = 2 ∨ j = 3 ∨ j = 4 ∨ j = 5 ∨ j = 6 ∨ j = 7 ∨ j = 8 ∨ j = 9 ∨ j = 10 ∨ j = 11 ∨ j = 12 ∨ j = 13 ∨ j = 14 ∨ j = 15 ∨ j = 16 ∨ j = 17 ∨ j = 18 ∨ j = 19 ∨ j = 20 ∨ j = 21 ∨ j = 22 ∨ j = 23 ∨ j = 24 ∨ j = 25 ∨ j = 26 by omega) with rfl | rfl | rfl | rfl | rfl | rfl | rfl | rfl | rfl | rfl | rfl | rfl | rfl | rfl | rfl | rfl | rfl | rfl | rfl | rfl | rfl | rfl | rfl | rfl | rfl | rfl | rfl <;> rfl) (by change _ ≤ 601024; omega) (by change _ ≤ 7293034; omega) dL_law_8 (fun q2 H hP hD hS => ?_)
  have hP : va_P D vwCl (wC k aC aE aP aQ aM (fun _ _ => 0) (fun _ _ => 0) (fun _ => 0) 0 ++ wE k aE (fun _ => 0) (fun _ => 0) (fun _ => 0) (fun _ => 0) (fun _ => 0) 0 ++ wP k aP (fun _ => 0) (fun _ => 0) (fun _ => 0) (fun _ => 0) 0 ++ wQ k aQ (fun _ _ => 0) 0 ++ wM k aM (fun _ => 0) 0 0 ++ [(q2, .inr (5, [.int 0, .null, .null, .null, .int 0, .int 0, .null, .null, .null, .null, .null, .int 0, .null, .null, .null, .int 0, .null, .null, .null, .null, .null, .long 0, .long 0, .long 0, .long 0, .long 0, .long 0]))]) H := hP
  have hD : va_D (fun q : Nat => s.heap.size ≤ q) (wC k aC aE aP aQ aM (fun _ _ => 0) (fun _ _ => 0) (fun _ => 0) 0 ++ wE k aE (fun _ => 0) (fun _ => 0) (fun _ => 0) (fun _ => 0) (fun _ => 0) 0 ++ wP k aP (fun _ => 0) (fun _ => 0) (fun _ => 0) (fun _ => 0) 0 ++ wQ k aQ (fun _ _ => 0) 0 ++ wM k aM (fun _ => 0) 0 0 ++ [(q2, .inr (5, [.int 0, .null, .null, .null, .int 0, .int 0, .null, .null, .null, .null, .null, .int 0, .null, .null, .null, .int 0, .null, .null, .null, .null, .null, .long 0, .long 0, .long 0, .long 0, .long 0, .long 0]))]) := hD
  refine W.widen (k := 32) (n := 2671) (by omega) (by omega) ?_
  refine lv_dup hx hb dL_law_11 rfl ?_
  have hPc := hP.sub (ws' := [(q2, .inr (5, [.int 0, .null, .null, .null, .int 0, .int 0, .null, .null, .null, .null, .null, .int 0, .null, .null, .null, .int 0, .null, .null, .null, .null, .null, .long 0, .long 0, .long 0, .long 0, .long 0, .long 0]))]) [31] rfl
  have hDc := hD.sub (ws' := [(q2, .inr (5, [.int 0, .null, .null, .null, .int 0, .int 0, .null, .null, .null, .null, .null, .int 0, .null, .null, .null, .int 0, .null, .null, .null, .null, .null, .long 0, .long 0, .long 0, .long 0, .long 0, .long 0]))]) [31] (by decide) rfl
  have hFc := va_free (wc := [(q2, .inr (5, [.int 0, .null, .null, .null, .int 0, .int 0, .null, .null, .null, .null, .null, .int 0, .null, .null, .null, .int 0, .null, .null, .null, .null, .null, .long 0, .long 0, .long 0, .long 0, .long 0, .long 0]))]) hD hS hA [31] rfl
  refine va_callv (va_runI (As := []) (rest := [.ref q2]) ⟨hx, hb, hml, hown, hts⟩ (m_X5_init l D k q2 H.size) (cwI 0 hts gL_law_X5_init rfl rfl rfl (hts0 _ (thL_in _ (List.mem_of_getElem? (i := 9) rfl))) (hts0 _ (thL_in _ (List.mem_of_getElem? (i := 13) rfl))) (hts0 _ (thL_in _ (List.mem_of_getElem? (i := 15) rfl))) rfl (by decide +kernel) ⟨Nat.le_of_ble_eq_true rfl, Nat.le_of_ble_eq_true rfl⟩) (preS_rw hE hPc hDc) rfl rfl hl.1 rfl (lv_room (Nat.le_of_ble_eq_true rfl)) dL_law_12 ⟨by change _ ≤ 601024; omega, by change _ ≤ 7293034; omega⟩) hS (fun q _ h => hFc q h) hFc (fun aR t H1 locs ht hvm hw hB hz1 hk1 hS => ?_)
  obtain ⟨hP1, hD1⟩ := hB
  rw [ht] at hP1
  obtain ⟨hP, hD⟩ := va_join (wr := wC k aC aE aP aQ aM (fun _ _ => 0) (fun _ _ => 0) (fun _ => 0) 0 ++ wE k aE (fun _ => 0) (fun _ => 0) (fun _ => 0) (fun _ => 0) (fun _ => 0) 0 ++ wP k aP (fun _ => 0) (fun _ => 0) (fun _ => 0) (fun _ => 0) 0 ++ wQ k aQ (fun _ _ => 0) 0 ++ wM k aM (fun _ => 0) 0 0) (w1 := wR k aR 0 (fun _ => 0) (fun _ => 0) (fun _ => 0) 0 0 (fun _ => 0) (fun _ => 0) (fun _ => 0) (fun _ => 0) (fun _ => 0) 0 (fun _ => 0) (fun _ => 0) (fun _ => 0) 0 (fun _ => 0) (fun _ => 0) (fun _ => 0) (fun _ => 0) (fun _ => 0) 0 0 0 0 0 0) hP hD [31] [0, 1, 2, 3, 4, 5, 6, 7, 8, 9, 10, 11, 12, 13, 14, 15, 16, 17, 18, 19, 20, 21, 22, 23, 24, 25, 26, 27, 28, 29, 30] rfl rfl (by decide) (by decide) hk1 hFc hP1 hD1
  generalize H1 = H at hP hS ⊢
  have hP : va_P D vwCl (wC k aC aE aP aQ aM (fun _ _ => 0) (fun _ _ => 0) (fun _ => 0) 0 ++ wE k aE (fun _ => 0) (fun _ => 0) (fun _ => 0) (fun _ => 0) (fun _ => 0) 0 ++ wP k aP (fun _ => 0) (fun _ => 0) (fun _ => 0) (fun _ => 0) 0 ++ wQ k aQ (fun _ _ => 0) 0 ++ wM k aM (fun _ => 0) 0 0 ++ wR k aR 0 (fun _ => 0) (fun _ => 0) (fun _ => 0) 0 0 (fun _ => 0) (fun _ => 0) (fun _ => 0) (fun _ => 0) (fun _ => 0) 0 (fun _ => 0) (fun _ => 0) (fun _ => 0) 0 (fun _ => 0) (fun _ => 0) (fun _ => 0) (fun _ => 0) (fun _ => 0) 0 0 0 0 0 0) H := hP
  have hD : va_D (fun q : Nat => s.heap.size ≤ q) (wC k aC aE aP aQ aM (fun _ _ => 0) (fun _ _ => 0) (fun _ => 0) 0 ++ wE k aE (fun _ => 0) (fun _ => 0) (fun _ => 0) (fun _ => 0) (fun _ => 0) 0 ++ wP k aP (fun _ => 0) (fun _ => 0) (fun _ => 0) (fun _ => 0) 0 ++ wQ k aQ (fun _ _ => 0) 0 ++ wM k aM (fun _ => 0) 0 0 ++ wR k aR 0 (fun _ => 0) (fun _ => 0) (fun _ => 0) 0 0 (fun _ => 0) (fun _ => 0) (fun _ => 0) (fun _ => 0) (fun _ => 0) 0 (fun _ => 0) (fun _ => 0) (fun _ => 0) 0 (fun _ => 0) (fun _ => 0) (fun _ => 0) (fun _ => 0) (fun _ => 0) 0 0 0 0 0 0) := hD
  have hw : aR 0 = q2 := hw
  rw [← hw]
  refine W.widen (k := 48) (n := 5397) (by omega) (by omega) ?_
  refine lv_astore_n (lv' := [(2, .ref (aR 0)), (1, .ref (aC 0)), (0, .ref b)]) hx hb dL_law_15 rfl hl (by decide) rfl (fun ls hl => ?_)
  refine lv_iconst (v := (1 : Int32)) hx hb dL_law_16 (by decide) ?_
  refine va_newa (a0 := (1, .inr (.inl (fun _ => 0)))) (N' := 1) (ty := .long) (atype := .long) hx hb (hts0 _ (thL_in _ (List.mem_of_getElem? (i := 6) rfl))) rfl hK hP hD hS hA (fun _ => rfl) (by decide) (by decide) (Nat.le_of_ble_eq_true rfl) (by change _ ≤ 601024; omega) (by change _ ≤ 7293034; omega) dL_law_17 (fun o1 cA H hK1 hP hD hS => ?_)
  have hcA := kA_int (i := 2) (fun C h => by cases h) hK1 rfl
  subst hcA
  have hP : va_P D vwCl ((wC k aC aE aP aQ aM (fun _ _ => 0) (fun _ _ => 0) (fun _ => 0) 0 ++ wE k aE (fun _ => 0) (fun _ => 0) (fun _ => 0) (fun _ => 0) (fun _ => 0) 0 ++ wP k aP (fun _ => 0) (fun _ => 0) (fun _ => 0) (fun _ => 0) 0 ++ wQ k aQ (fun _ _ => 0) 0 ++ wM k aM (fun _ => 0) 0 0 ++ wR k aR 0 (fun _ => 0) (fun _ => 0) (fun _ => 0) 0 0 (fun _ => 0) (fun _ => 0) (fun _ => 0) (fun _ => 0) (fun _ => 0) 0 (fun _ => 0) (fun _ => 0) (fun _ => 0) 0 (fun _ => 0) (fun _ => 0) (fun _ => 0) (fun _ => 0) (fun _ => 0) 0 0 0 0 0 0) ++ [(o1, .inl (k 2, 1, .inr (.inl (fun _ => 0))))]) H := hP
  have hD : va_D (fun q : Nat => s.heap.size ≤ q) ((wC k aC aE aP aQ aM (fun _ _ => 0) (fun _ _ => 0) (fun _ => 0) 0 ++ wE k aE (fun _ => 0) (fun _ => 0) (fun _ => 0) (fun _ => 0) (fun _ => 0) 0 ++ wP k aP (fun _ => 0) (fun _ => 0) (fun _ => 0) (fun _ => 0) 0 ++ wQ k aQ (fun _ _ => 0) 0 ++ wM k aM (fun _ => 0) 0 0 ++ wR k aR 0 (fun _ => 0) (fun _ => 0) (fun _ => 0) 0 0 (fun _ => 0) (fun _ => 0) (fun _ => 0) (fun _ => 0) (fun _ => 0) 0 (fun _ => 0) (fun _ => 0) (fun _ => 0) 0 (fun _ => 0) (fun _ => 0) (fun _ => 0) (fun _ => 0) (fun _ => 0) 0 0 0 0 0 0) ++ [(o1, .inl (k 2, 1, .inr (.inl (fun _ => 0))))]) := hD
  refine W.widen (k := 49) (n := 5398) (by omega) (by omega) ?_
  refine lv_astore_n (lv' := [(3, .ref o1), (2, .ref (aR 0)), (1, .ref (aC 0)), (0, .ref b)]) hx hb dL_law_19 rfl hl (by decide) rfl (fun ls hl => ?_)
  refine lv_iconst (v := (1 : Int32)) hx hb dL_law_20 (by decide) ?_
  refine va_newa (a0 := (1, .inr (.inr (.inr (.inl (fun _ => 0)))))) (N' := 1) (ty := .double) (atype := .double) hx hb (hts0 _ (thL_in _ (List.mem_of_getElem? (i := 7) rfl))) rfl hK hP hD hS hA (fun _ => rfl) (by decide) (by decide) (Nat.le_of_ble_eq_true rfl) (by change _ ≤ 601024; omega) (by change _ ≤ 7293034; omega) dL_law_21 (fun o2 cA H hK1 hP hD hS => ?_)
  have hcA := kA_int (i := 3) (fun C h => by cases h) hK1 rfl
  subst hcA
  have hP : va_P D vwCl (((wC k aC aE aP aQ aM (fun _ _ => 0) (fun _ _ => 0) (fun _ => 0) 0 ++ wE k aE (fun _ => 0) (fun _ => 0) (fun _ => 0) (fun _ => 0) (fun _ => 0) 0 ++ wP k aP (fun _ => 0) (fun _ => 0) (fun _ => 0) (fun _ => 0) 0 ++ wQ k aQ (fun _ _ => 0) 0 ++ wM k aM (fun _ => 0) 0 0 ++ wR k aR 0 (fun _ => 0) (fun _ => 0) (fun _ => 0) 0 0 (fun _ => 0) (fun _ => 0) (fun _ => 0) (fun _ => 0) (fun _ => 0) 0 (fun _ => 0) (fun _ => 0) (fun _ => 0) 0 (fun _ => 0) (fun _ => 0) (fun _ => 0) (fun _ => 0) (fun _ => 0) 0 0 0 0 0 0) ++ [(o1, .inl (k 2, 1, .inr (.inl (fun _ => 0))))]) ++ [(o2, .inl (k 3, 1, .inr (.inr (.inr (.inl (fun _ => 0))))))]) H := hP
  have hD : va_D (fun q : Nat => s.heap.size ≤ q) (((wC k aC aE aP aQ aM (fun _ _ => 0) (fun _ _ => 0) (fun _ => 0) 0 ++ wE k aE (fun _ => 0) (fun _ => 0) (fun _ => 0) (fun _ => 0) (fun _ => 0) 0 ++ wP k aP (fun _ => 0) (fun _ => 0) (fun _ => 0) (fun _ => 0) 0 ++ wQ k aQ (fun _ _ => 0) 0 ++ wM k aM (fun _ => 0) 0 0 ++ wR k aR 0 (fun _ => 0) (fun _ => 0) (fun _ => 0) 0 0 (fun _ => 0) (fun _ => 0) (fun _ => 0) (fun _ => 0) (fun _ => 0) 0 (fun _ => 0) (fun _ => 0) (fun _ => 0) 0 (fun _ => 0) (fun _ => 0) (fun _ => 0) (fun _ => 0) (fun _ => 0) 0 0 0 0 0 0) ++ [(o1, .inl (k 2, 1, .inr (.inl (fun _ => 0))))]) ++ [(o2, .inl (k 3, 1, .inr (.inr (.inr (.inl (fun _ => 0))))))]) := hD
  refine W.widen (k := 50) (n := 5399) (by omega) (by omega) ?_
  refine lv_astore (lv' := [(4, .ref o2), (3, .ref o1), (2, .ref (aR 0)), (1, .ref (aC 0)), (0, .ref b)]) hx hb dL_law_23 hl (by decide) rfl (fun ls hl => ?_)
  refine lv_iconst (v := (0 : Int32)) hx hb dL_law_25 (by decide) ?_
  refine lv_istore (lv' := [(5, .int 0), (4, .ref o2), (3, .ref o1), (2, .ref (aR 0)), (1, .ref (aC 0)), (0, .ref b)]) hx hb dL_law_26 hl (by decide) rfl (fun ls hl => ?_)
  exact law_loop l hlt C0 D k hE hT aC aE aP aQ aM aR (fun i => ([o1, o2] : List Nat).getD i 0) 513 0 (fun _ _ => 0) (fun _ _ => 0) (fun _ => 0) 0 (fun _ => 0) (fun _ => 0) (fun _ => 0) (fun _ => 0) (fun _ => 0) 0 (fun _ => 0) (fun _ => 0) (fun _ => 0) (fun _ => 0) 0 (fun _ _ => 0) 0 (fun _ => 0) 0 0 0 (fun _ => 0) (fun _ => 0) (fun _ => 0) 0 0 (fun _ => 0) (fun _ => 0) (fun _ => 0) (fun _ => 0) (fun _ => 0) 0 (fun _ => 0) (fun _ => 0) (fun _ => 0) 0 (fun _ => 0) (fun _ => 0) (fun _ => 0) (fun _ => 0) (fun _ => 0) 0 0 0 0 0 0 (fun _ => 0) (fun _ => 0) _ _ _ _ _ (by omega) (by omega) (law_pure L xs hL) hP hD hS (lv_sub hl [5, 4, 3, 2, 1, 0] rfl)
