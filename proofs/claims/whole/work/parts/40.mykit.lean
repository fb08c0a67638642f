/-! my kit: the ambient facts, contracts of methods that only read and of methods that write, rows on arrays of arrays -/
def nestF : List (String × Nat × String × String × String) := [("PlaneOverlay", 87, "PlaneOverlay$Edges", "count", "I"), ("PlaneOverlay", 95, "PlaneOverlay$Pieces", "count", "I"), ("PlaneOverlay", 99, "PlaneOverlay$Points", "count", "I"), ("PlaneOverlay", 100, "PlaneOverlay$Meetings", "parts", "I"), ("PlaneOverlay", 103, "PlaneOverlay$Meetings", "pairs", "I"), ("PlaneOverlay", 113, "PlaneOverlay$Points", "x", "[I"), ("PlaneOverlay", 116, "PlaneOverlay$Points", "y", "[I"), ("PlaneOverlay", 119, "PlaneOverlay$Points", "d", "[I"), ("PlaneOverlay", 128, "PlaneOverlay$Pieces", "facts", "[[I"), ("PlaneOverlay", 160, "PlaneOverlay$Edges", "ofPolygon", "[I"), ("PlaneOverlay$Meetings", 37, "PlaneOverlay$Points", "count", "I"), ("PlaneOverlay$Meetings", 42, "PlaneOverlay$Points", "onEdges", "[I"), ("PlaneOverlay$Pieces", 20, "PlaneOverlay$Points", "count", "I"), ("PlaneOverlay$Pieces", 23, "PlaneOverlay$Points", "onEdges", "[I"), ("PlaneOverlay$Pieces", 42, "PlaneOverlay$Points", "d", "[I"), ("PlaneOverlay$Pieces", 45, "PlaneOverlay$Points", "x", "[I"), ("PlaneOverlay$Pieces", 48, "PlaneOverlay$Points", "y", "[I"), ("PlaneOverlay$Pieces", 59, "PlaneOverlay$Edges", "ofPolygon", "[I"), ("PlaneOverlay$Points", 28, "PlaneOverlay$Edges", "count", "I"), ("PlaneOverlay$Points", 31, "PlaneOverlay$Edges", "firstX", "[I"), ("PlaneOverlay$Points", 34, "PlaneOverlay$Edges", "firstY", "[I"), ("PlaneOverlay$Points", 41, "PlaneOverlay$Edges", "lastX", "[I"), ("PlaneOverlay$Points", 44, "PlaneOverlay$Edges", "lastY", "[I")]
def nestM : List (String × Nat × MethodName) := [("PlaneOverlay", 23, ⟨"PlaneOverlay$Edges", "<init>", "()V"⟩), ("PlaneOverlay", 30, ⟨"PlaneOverlay$Points", "<init>", "()V"⟩), ("PlaneOverlay", 37, ⟨"PlaneOverlay$Pieces", "<init>", "()V"⟩), ("PlaneOverlay", 44, ⟨"PlaneOverlay$Meetings", "<init>", "()V"⟩)]
theorem va_AOA.moved {t : FieldType} {u U : State} (hvm : u.vm.Alike U.vm) (h : va_AOA t u) : va_AOA t U := by
  unfold va_AOA Cond.before Cond.holds at h ⊢
  simp only [Cond.value, beq_iff_eq] at h ⊢
  cases hc : u.vm.findClass (FieldType.array t).toString with
  | none => simp [hc] at h
  | some comp =>
    simp only [hc, Option.bind_some, Option.bind_eq_some_iff, Option.map_eq_some_iff] at h
    obtain ⟨c, hi, k, hk, hb⟩ := h
    obtain ⟨k', hk', he⟩ := hvm.2.2 _ _ hk
    have hi' : (U.vm.classes.findIdx? fun (x : Class) => match x.kind with | .array component _ => component == comp | _ => false) = some c := by
      have e1 : U.vm.bare = u.vm.bare := by first | exact hvm.bare_eq | exact hvm.bare_eq.symm
      refine Eq.trans (Eq.symm (va_idx_bare U.vm comp)) ?_
      rw [e1]
      exact (va_idx_bare u.vm comp).trans hi
    have f1 : U.vm.findClass (FieldType.array t).toString = some comp := by rw [hvm.findClass]; exact hc
    have hkind : k'.kind = k.kind := by rw [he]
    simp only [f1, Option.bind_some, Option.bind_eq_some_iff, Option.map_eq_some_iff]
    refine ⟨c, hi', k', hk', ?_⟩
    rw [hkind, hvm.findClass]
    exact hb
abbrev gTys (k : Nat → ClassId) : List (ClassId × FieldType) := [(k 0, .int), (k 1, .boolean), (k 2, .long), (k 3, .double), (k 4, .array .int)]
/-- what every method takes as given of the machine's tables: class numbers and slots, array classes, the links across the nest -/
def En (D : va_G) (k : Nat → ClassId) (U : State) : Prop := va_K D vwCl (gTys k) U ∧ (∀ q ∈ nestF, va_Nw (.fieldLinkNest q.1 q.2.1 q.2.2.1 q.2.2.2.1 q.2.2.2.2 "PlaneOverlay") U) ∧ (∀ q ∈ nestM, va_Nw (.methodLinkNest q.1 q.2.1 q.2.2 "PlaneOverlay") U) ∧ va_AOA .int U
theorem En.warm {D : va_G} {k : Nat → ClassId} {s U : State} (h : En D k s) (hW : s.WarmedH U.vm) : En D k U := ⟨va_K.moved hW.alike h.1, fun q hq => va_Nw.warmF hW (h.2.1 q hq), fun q hq => va_Nw.warmM hW (h.2.2.1 q hq), va_AOA.moved hW.alike h.2.2.2⟩
theorem En.same {D : va_G} {k : Nat → ClassId} {s U : State} (h : En D k s) (hv : s.vm = U.vm) : En D k U := ⟨va_K.moved (by rw [hv]; exact Vm.Alike.refl _) h.1, fun q hq => va_Nw.same rfl hv (h.2.1 q hq), fun q hq => va_Nw.same rfl hv (h.2.2.1 q hq), va_AOA.moved (by rw [hv]; exact Vm.Alike.refl _) h.2.2.2⟩
theorem En.nf {D : va_G} {k : Nat → ClassId} {s : State} {A : Array Value} (h : En D k s) (q : String × Nat × String × String × String) (hq : q ∈ nestF) : (Cond.fieldLinkNest q.1 q.2.1 q.2.2.1 q.2.2.2.1 q.2.2.2.2 "PlaneOverlay").before A s = true := va_Nw.use rfl (h.2.1 q hq)
theorem En.nm {D : va_G} {k : Nat → ClassId} {s : State} (h : En D k s) (q : String × Nat × MethodName) (hq : q ∈ nestM) : va_Nw (.methodLinkNest q.1 q.2.1 q.2.2 "PlaneOverlay") s := h.2.2.1 q hq
/-- a method that only reads: its start -/
def Pro (D : va_G) (k : Nat → ClassId) (av : List Value) (ws : va_W) : Array Value → State → Prop := va_Pc av (fun U => va_P D vwCl ws U.heap ∧ En D k U)
/-- a method that writes: its start -/
def Prw (D : va_G) (k : Nat → ClassId) (av : List Value) (ws : va_W) (sz : Nat) : Array Value → State → Prop := va_Pc av (fun U => U.heap.size = sz ∧ va_P D vwCl ws U.heap ∧ En D k U ∧ va_D (fun _ => True) ws)
theorem vaP0 {D : va_G} {cl : List vw_C} {H : Heap} : va_P D cl ([] : va_W) H := fun k q h => by simp at h
theorem fb_ro {D : va_G} {k : Nat → ClassId} {av : List Value} {ws : va_W} : FrameBlind (Pro D k av ws) := fun a U g mk q => ⟨q.1, q.2.1, En.same (U := U.calling g mk a) q.2.2 rfl⟩
theorem fb_rw {D : va_G} {k : Nat → ClassId} {av : List Value} {ws : va_W} {sz : Nat} : FrameBlind (Prw D k av ws sz) := fun a U g mk q => ⟨q.1, q.2.1, q.2.2.1, En.same (U := U.calling g mk a) q.2.2.2.1 rfl, q.2.2.2.2⟩
theorem preS_ro {D : va_G} {k : Nat → ClassId} {s : State} {H : Heap} {ws : va_W} {As : List Value} (hE : En D k s) (hP : va_P D vwCl ws H) : PreS s H (Pro D k As ws) As := ⟨fb_ro, fun U hU hW => ⟨rfl, by rw [hU]; exact hP, hE.warm hW⟩⟩
theorem preV_ro {D : va_G} {k : Nat → ClassId} {s : State} {H : Heap} {ws : va_W} {As : List Value} {b ci q0 N : Nat} {C : String} {T : u_T} {fs : List Value} (hE : En D k s) (hP : va_P D vwCl ws H) (hc : vwCl[ci]? = some (C, T, N)) (he : ws[q0]? = some (b, .inr (ci, fs))) : PreV s H C b (Pro D k (.ref b :: As) ws) As := ⟨fb_ro, va_recv hE.1 hP hc he, fun U hU hW => ⟨rfl, by rw [hU]; exact hP, hE.warm hW⟩⟩
theorem preV_rw {D : va_G} {k : Nat → ClassId} {s : State} {H : Heap} {A : Nat → Prop} {ws : va_W} {As : List Value} {b ci q0 N : Nat} {C : String} {T : u_T} {fs : List Value} (hE : En D k s) (hP : va_P D vwCl ws H) (hD : va_D A ws) (hc : vwCl[ci]? = some (C, T, N)) (he : ws[q0]? = some (b, .inr (ci, fs))) : PreV s H C b (Prw D k (.ref b :: As) ws H.size) As := ⟨fb_rw, va_recv hE.1 hP hc he, fun U hU hW => ⟨rfl, by rw [hU], by rw [hU]; exact hP, hE.warm hW, hD.weaken (fun _ _ _ _ => trivial)⟩⟩
theorem vp_lt {i : Int32} {n : Nat} (h : vp_in i n) : i.toNatClampNeg < n := Nat.not_le.mp fun q => h (Or.inr q)
theorem co_8 {P : Nat → Prop} (h0 : P 0) (h1 : P 1) (h2 : P 2) (h3 : P 3) (h4 : P 4) (h5 : P 5) (h6 : P 6) (h7 : P 7) {i : Nat} (hi : i < 8) : P i := by
  rcases (show i = 0 ∨ i = 1 ∨ i = 2 ∨ i = 3 ∨ i = 4 ∨ i = 5 ∨ i = 6 ∨ i = 7 by omega) with rfl | rfl | rfl | rfl | rfl | rfl | rfl | rfl <;> assumption
section MK
variable {p : Program} {l : Launch} {e : Env} {R : Room} {s : State} {m : MethodId} {args : Array Value} {below : List Frame} {meth : Method} {c : Code} {H : Heap} {locs : List Loc} {cells slots : Nat} {Q : State → Prop}
variable {cc : ByteArray} {pc : Nat} {ls : Array Slot} {rest : List Value} {D : va_G} {cl : List vw_C} {tys : List (ClassId × FieldType)} {ws : va_W}
theorem W.gq {g : JFrame} (k : ∀ GQ : State → Prop, GQ = Q → W p l e R s m args below meth c H locs cells slots GQ g) : W p l e R s m args below meth c H locs cells slots Q g := k Q rfl
/-- a row of an array of arrays -/
theorem ra_ald (hexec : p.tables.exec = Jvm.exec) (hb : c.code = cc) (hK : va_K D cl tys s) (hP : va_P D cl ws H) (q0 t0 : Nat) {ad : Nat} {cA : ClassId} {n b : Nat} {a : Nat → Nat} (ha : ws[q0]? = some (ad, .inl (cA, n, .inr (.inr (.inr (.inr (fun i => if i < n then some (a (b + i)) else none))))))) (ht : tys[t0]? = some (cA, .array .int)) {i : Int32} (hin : vp_in i n) (hdg : decode cc pc = .ok (.aaload, 1))
    (kk : W p l e R s m args below meth c H locs cells slots Q (F0 m (pc + 1) ls (.ref (a (b + i.toNatClampNeg)) :: rest))) : W p l e R s m args below meth c H locs cells slots Q (F0 m pc ls (.int i :: .ref ad :: rest)) := by
  have hlt := vp_lt hin
  refine W.aald (v := .ref (a (b + i.toNatClampNeg))) (ty := .array .int) hexec hb (hP q0 _ ha) ((hK.2 t0 _ ht).1 n (fun j => va_rf ((fun i => if i < n then some (a (b + i)) else none) j))) rfl (fun q => by cases q) (by show ¬ (i < 0 ∨ (arrV _ _ _).slots.size ≤ _); rw [arrV_size]; exact hin) ?_ rfl rfl hdg kk
  show (arrV _ _ _).slots[_]? = _
  rw [arrV_read _ _ hlt]
  simp [hlt, va_rf]
end MK
theorem sw_out4 {x : Int32} (c0 : ¬ x = 0) (c1 : ¬ x = 1) (c2 : ¬ x = 2) (c3 : ¬ x = 3) (c4 : ¬ x = 4) : x.toInt < 0 ∨ 4 < x.toInt := by
  have h0 := lv_neT c0 (show (0 : Int32).toInt = 0 from rfl)
  have h1 := lv_neT c1 (show (1 : Int32).toInt = 1 from rfl)
  have h2 := lv_neT c2 (show (2 : Int32).toInt = 2 from rfl)
  have h3 := lv_neT c3 (show (3 : Int32).toInt = 3 from rfl)
  have h4 := lv_neT c4 (show (4 : Int32).toInt = 4 from rfl)
  omega
theorem sw_out2 {x : Int32} (c0 : ¬ x = 0) (c1 : ¬ x = 1) (c2 : ¬ x = 2) : x.toInt < 0 ∨ 2 < x.toInt := by
  have h0 := lv_neT c0 (show (0 : Int32).toInt = 0 from rfl)
  have h1 := lv_neT c1 (show (1 : Int32).toInt = 1 from rfl)
  have h2 := lv_neT c2 (show (2 : Int32).toInt = 2 from rfl)
  omega
/-! what a method that may throw takes as given: Throwable's statics (outside of what it may write), the texts, what the tables say of the exceptions' classes -/
def thStr : List (Nat × String) := [(63, "a coordinate is out of range"), (70, "the polygon is full"), (106, "there is no such size"), (110, "there is no such point"), (122, "a point has no such number"), (124, "there is no such piece"), (126, "a piece has no such number"), (144, "the same edge was named twice"), (147, "the edges have nothing in common"), (155, "so many pieces do not bound the result"), (158, "the divisor is out of range"), (185, "there is no overlay"), (187, "there is no such polygon"), (189, "there is no such result"), (191, "there is no such edge")]
def thCl : List String := [xIA, xIS, xIO, xNS]
def thDe : List MethodName := [Bundle.initS "java/lang/RuntimeException", Bundle.initS "java/lang/Exception", Bundle.initS "java/lang/Throwable"]
def thNc : List (String × String) := [(xIA, xIS), (xIA, xIO), (xIA, xNS), (xIS, xIA), (xIS, xIO), (xIS, xNS), (xIO, xIA), (xIO, xIS), (xIO, xNS), (xNS, xIA), (xNS, xIS), (xNS, xIO)]
def Tx (A : Nat → Prop) (U : State) : Prop := vx_Zq Bundle.tN "UNASSIGNED_STACK" Bundle.steD A U U.heap ∧ vx_Zq Bundle.tN "SUPPRESSED_SENTINEL" Bundle.listD A U U.heap ∧ (∀ q ∈ thStr, ∃ sa, vk_R RX4 q.1 q.2 sa U) ∧ (∀ c ∈ thCl, va_Nw (.castable c c) U) ∧ (∀ y ∈ thDe, va_Nw (.declares y) U) ∧ (∀ q ∈ thNc, va_Nc q.1 q.2 U)
theorem va_Nw_castable {c : String} {s U : State} (hv : s.vm.Alike U.vm) (h : va_Nw (.castable c c) s) : va_Nw (.castable c c) U := va_tabs rfl (rfl : (s.setVm U.vm).vm = U.vm) ((Cond.castable_setVm (args := #[]) hv c c).trans h)
theorem va_Nw_declares {y : MethodName} {s U : State} (hv : s.vm.Alike U.vm) (h : va_Nw (.declares y) s) : va_Nw (.declares y) U := va_tabs rfl (rfl : (s.setVm U.vm).vm = U.vm) ((Cond.declares_setVm (args := #[]) hv y).trans h)
theorem Tx.at {A B : Nat → Prop} {s U : State} {H : Heap} {locs : List Loc} (h : Tx A s) (hS : va_S A s.heap H locs) (hU : U.heap = H) (hW : s.WarmedH U.vm) (hAB : ∀ q, B q → A q) : Tx B U := by
  obtain ⟨h1, h2, h3, h4, h5, h6⟩ := h
  refine ⟨?_, ?_, fun q hq => ?_, fun c hc => va_Nw_castable hW.alike (h4 c hc), fun y hy => va_Nw_declares hW.alike (h5 y hy), fun q hq => va_Nc.moved hW.alike (h6 q hq)⟩
  · rw [hU]; exact (vx_Zq.moved hW.alike (h1.kept hS.2.1)).narrow hAB
  · rw [hU]; exact (vx_Zq.moved hW.alike (h2.kept hS.2.1)).narrow hAB
  · obtain ⟨sa, h⟩ := h3 q hq
    exact ⟨sa, vk_R.warm hW h⟩
theorem Tx.same {A : Nat → Prop} {s U : State} (h : Tx A s) (hv : s.vm = U.vm) (hh : s.heap = U.heap) : Tx A U := by
  obtain ⟨h1, h2, h3, h4, h5, h6⟩ := h
  have ha : s.vm.Alike U.vm := by rw [hv]; exact Vm.Alike.refl _
  refine ⟨?_, ?_, fun q hq => ?_, fun c hc => va_Nw_castable ha (h4 c hc), fun y hy => va_Nw_declares ha (h5 y hy), fun q hq => va_Nc.moved ha (h6 q hq)⟩
  · rw [← hh]; exact vx_Zq.moved ha h1
  · rw [← hh]; exact vx_Zq.moved ha h2
  · obtain ⟨sa, h⟩ := h3 q hq
    exact ⟨sa, vk_R.warm (by rw [← hv]; exact State.WarmedH.refl s) h⟩
def Pth (D : va_G) (k : Nat → ClassId) (av : List Value) (ws : va_W) (sz : Nat) : Array Value → State → Prop := va_Pc av (fun U => U.heap.size = sz ∧ va_P D vwCl ws U.heap ∧ En D k U ∧ va_D (fun _ => True) ws ∧ Tx (va_A ws sz) U)
theorem fb_th {D : va_G} {k : Nat → ClassId} {av : List Value} {ws : va_W} {sz : Nat} : FrameBlind (Pth D k av ws sz) := fun a U g mk q => ⟨q.1, q.2.1, q.2.2.1, En.same (U := U.calling g mk a) q.2.2.2.1 rfl, q.2.2.2.2.1, Tx.same (U := U.calling g mk a) q.2.2.2.2.2 rfl rfl⟩
theorem preV_th {D : va_G} {k : Nat → ClassId} {s : State} {H : Heap} {A : Nat → Prop} {locs : List Loc} {ws : va_W} {As : List Value} {b ci q0 N : Nat} {C : String} {T : u_T} {fs : List Value} (hE : En D k s) (hT : Tx A s) (hS : va_S A s.heap H locs) (hF : ∀ q, va_A ws H.size q → A q) (hP : va_P D vwCl ws H) (hD : va_D A ws) (hc : vwCl[ci]? = some (C, T, N)) (he : ws[q0]? = some (b, .inr (ci, fs))) : PreV s H C b (Pth D k (.ref b :: As) ws H.size) As := ⟨fb_th, va_recv hE.1 hP hc he, fun U hU hW => ⟨rfl, by rw [hU], by rw [hU]; exact hP, hE.warm hW, hD.weaken (fun _ _ _ _ => trivial), hT.at hS hU hW hF⟩⟩
theorem preS_th {D : va_G} {k : Nat → ClassId} {s : State} {H : Heap} {A : Nat → Prop} {locs : List Loc} {ws : va_W} {As : List Value} (hE : En D k s) (hT : Tx A s) (hS : va_S A s.heap H locs) (hF : ∀ q, va_A ws H.size q → A q) (hP : va_P D vwCl ws H) (hD : va_D A ws) : PreS s H (Pth D k As ws H.size) As := ⟨fb_th, fun U hU hW => ⟨rfl, by rw [hU], by rw [hU]; exact hP, hE.warm hW, hD.weaken (fun _ _ _ _ => trivial), hT.at hS hU hW hF⟩⟩
theorem preS_rw {D : va_G} {k : Nat → ClassId} {s : State} {H : Heap} {A : Nat → Prop} {ws : va_W} {As : List Value} (hE : En D k s) (hP : va_P D vwCl ws H) (hD : va_D A ws) : PreS s H (Prw D k As ws H.size) As := ⟨fb_rw, fun U hU hW => ⟨rfl, by rw [hU], by rw [hU]; exact hP, hE.warm hW, hD.weaken (fun _ _ _ _ => trivial)⟩⟩
theorem vaD0 {A : Nat → Prop} : va_D A ([] : va_W) := ⟨fun i j p q h => by simp at h, fun k q h => by simp at h⟩
theorem P_ext {D : va_G} {cl : List vw_C} {ws : va_W} {H H1 : Heap} (h : va_P D cl ws H) (h2 : ∀ q : Nat, q < H.size → H1[q]? = H[q]?) : va_P D cl ws H1 := h.kept (fun k q hk => h2 q.1 (h k q hk).lt)
theorem F_ext {A : Nat → Prop} {s t : State} {H : Heap} {locs : List Loc} (hS : va_S A s.heap H locs) (h1 : H.size ≤ t.heap.size) (h2 : ∀ q : Nat, q < H.size → t.heap[q]? = H[q]?) : va_F A s t := ⟨Nat.le_trans hS.1 h1, fun q hq hn => (h2 q (Nat.lt_of_lt_of_le hq hS.1)).trans (hS.2.1 q hq hn)⟩
def rtN : List String := ["java/lang/RuntimeException", "java/lang/Exception"]
theorem th_bad (X : String) (ic : Nat) (hX : X ∈ [(xIA : String), xIS, xIO]) (hic : ic ∈ [65, 72, 112]) : ∀ w ∈ (vx_atS RX4 ic X rtN).filter (fun w => !goodWord w), w ∈ Cond.castable X X :: thDe.map Cond.declares := by
  simp only [List.mem_cons, List.not_mem_nil, or_false] at hX hic
  rcases hX with rfl | rfl | rfl <;> rcases hic with rfl | rfl | rfl <;> decide +kernel
theorem th_badN : ∀ w ∈ (vx_atN RX4 146).filter (fun w => !goodWord w), w ∈ Cond.castable xNS xNS :: thDe.map Cond.declares := by decide +kernel
theorem th_b3 {A : Nat → Prop} {s : State} {args : Array Value} (h : Tx A s) {X : String} (hX : X ∈ thCl) : ∀ w ∈ Cond.castable X X :: thDe.map Cond.declares, w.before args s = true := by
  intro w hw
  rcases List.mem_cons.mp hw with rfl | hw
  · exact va_Nw.use rfl (h.2.2.2.1 X hX)
  · obtain ⟨y, hy, rfl⟩ := List.mem_map.mp hw
    exact va_Nw.use rfl (h.2.2.2.2.1 y hy)

theorem kA_int {D : va_G} {cl : List vw_C} {tys : List (ClassId × FieldType)} {s : State} {ty : FieldType} {cA cI : ClassId} (hty : ∀ C, ty ≠ .object C) (hA : va_K D cl (tys ++ [(cA, ty)]) s) {i : Nat} (hi : tys[i]? = some (cI, ty)) : cA = cI := by
  have h1 := (hA.2 tys.length (cA, ty) (by rw [List.getElem?_append_right (Nat.le_refl _)]; simp)).2
  have hlt := (List.getElem?_eq_some_iff.mp hi).1
  have h2 := (hA.2 i (cI, ty) (by rw [List.getElem?_append_left hlt]; exact hi)).2
  cases ty with
  | object C => exact absurd rfl (hty C)
  | _ =>
    have h1 : s.vm.findClass _ = some cA := h1
    have h2 : s.vm.findClass _ = some cI := h2
    exact Option.some.inj (h1.symm.trans h2)
theorem pl_rows {l : List Nat} {f : Nat → va_E} {v : va_E} : va_pl l (vr_up f l v) = l.map (fun a => (a, v)) := by
  unfold va_pl
  apply List.map_congr_left
  intro a ha
  rw [vr_up_in ha]
theorem sw_out11 {x : Int32} (c0 : ¬ x = 0) (c1 : ¬ x = 1) (c2 : ¬ x = 2) (c3 : ¬ x = 3) (c4 : ¬ x = 4) (c5 : ¬ x = 5) (c6 : ¬ x = 6) (c7 : ¬ x = 7) (c8 : ¬ x = 8) (c9 : ¬ x = 9) (c10 : ¬ x = 10) (c11 : ¬ x = 11) : x.toInt < 0 ∨ 11 < x.toInt := by
  have h0 := lv_neT c0 (show (0 : Int32).toInt = 0 from rfl)
  have h1 := lv_neT c1 (show (1 : Int32).toInt = 1 from rfl)
  have h2 := lv_neT c2 (show (2 : Int32).toInt = 2 from rfl)
  have h3 := lv_neT c3 (show (3 : Int32).toInt = 3 from rfl)
  have h4 := lv_neT c4 (show (4 : Int32).toInt = 4 from rfl)
  have h5 := lv_neT c5 (show (5 : Int32).toInt = 5 from rfl)
  have h6 := lv_neT c6 (show (6 : Int32).toInt = 6 from rfl)
  have h7 := lv_neT c7 (show (7 : Int32).toInt = 7 from rfl)
  have h8 := lv_neT c8 (show (8 : Int32).toInt = 8 from rfl)
  have h9 := lv_neT c9 (show (9 : Int32).toInt = 9 from rfl)
  have h10 := lv_neT c10 (show (10 : Int32).toInt = 10 from rfl)
  have h11 := lv_neT c11 (show (11 : Int32).toInt = 11 from rfl)
  omega
abbrev wE (k : Nat → ClassId) (a : Nat → Nat) (fX : Nat → Int32) (fY : Nat → Int32) (lX : Nat → Int32) (lY : Nat → Int32) (oP : Nat → Int32) (nE : Int32) : va_W := [(a 0, .inr (0, [.ref (a 1), .ref (a 2), .ref (a 3), .ref (a 4), .ref (a 5), .int nE])), ((a 1), .inl (k 0, 12, .inl fX)), ((a 2), .inl (k 0, 12, .inl fY)), ((a 3), .inl (k 0, 12, .inl lX)), ((a 4), .inl (k 0, 12, .inl lY)), ((a 5), .inl (k 0, 2, .inl oP))]
abbrev wP (k : Nat → ClassId) (a : Nat → Nat) (pX : Nat → Int32) (pY : Nat → Int32) (pD : Nat → Int32) (pO : Nat → Int32) (nP : Int32) : va_W := [(a 0, .inr (3, [.ref (a 1), .ref (a 2), .ref (a 3), .ref (a 4), .int nP])), ((a 1), .inl (k 0, 78, .inl pX)), ((a 2), .inl (k 0, 78, .inl pY)), ((a 3), .inl (k 0, 78, .inl pD)), ((a 4), .inl (k 0, 78, .inl pO))]
abbrev wQ (k : Nat → ClassId) (a : Nat → Nat) (qF : Nat → Nat → Int32) (nQ : Int32) : va_W := [(a 0, .inr (2, [.ref (a 1), .int nQ])), ((a 1), .inl (k 4, 8, .inr (.inr (.inr (.inr (fun i => if i < 8 then some (a (2 + i)) else none)))))), ((a 2), .inl (k 0, 276, .inl (qF 0))), ((a 3), .inl (k 0, 276, .inl (qF 1))), ((a 4), .inl (k 0, 276, .inl (qF 2))), ((a 5), .inl (k 0, 276, .inl (qF 3))), ((a 6), .inl (k 0, 276, .inl (qF 4))), ((a 7), .inl (k 0, 276, .inl (qF 5))), ((a 8), .inl (k 0, 276, .inl (qF 6))), ((a 9), .inl (k 0, 276, .inl (qF 7)))]
abbrev wM (k : Nat → ClassId) (a : Nat → Nat) (mR : Nat → Int32) (mQ : Int32) (mN : Int32) : va_W := [(a 0, .inr (1, [.ref (a 1), .int mQ, .int mN])), ((a 1), .inl (k 0, 12, .inl mR))]
abbrev wC (k : Nat → ClassId) (a : Nat → Nat) (aE aP aQ aM : Nat → Nat) (cX : Nat → Nat → Int32) (cY : Nat → Nat → Int32) (cN : Nat → Int32) (cM : Int32) : va_W := [(a 0, .inr (4, [.ref (a 1), .ref (a 4), .ref (a 7), .ref (aE 0), .ref (aP 0), .ref (aQ 0), .ref (aM 0), .int cM])), ((a 1), .inl (k 4, 2, .inr (.inr (.inr (.inr (fun i => if i < 2 then some (a (2 + i)) else none)))))), ((a 2), .inl (k 0, 6, .inl (cX 0))), ((a 3), .inl (k 0, 6, .inl (cX 1))), ((a 4), .inl (k 4, 2, .inr (.inr (.inr (.inr (fun i => if i < 2 then some (a (5 + i)) else none)))))), ((a 5), .inl (k 0, 6, .inl (cY 0))), ((a 6), .inl (k 0, 6, .inl (cY 1))), ((a 7), .inl (k 0, 2, .inl cN))]
abbrev wR (k : Nat → ClassId) (a : Nat → Nat) (rF : Int32) (rS : Nat → Int32) (rVx : Nat → Int32) (rVy : Nat → Int32) (rMd : Int32) (rE : Int32) (rAx : Nat → Int32) (rAy : Nat → Int32) (rBx : Nat → Int32) (rBy : Nat → Int32) (rO : Nat → Int32) (rP : Int32) (rPx : Nat → Int32) (rPy : Nat → Int32) (rPd : Nat → Int32) (rQ : Int32) (rFi : Nat → Int32) (rLa : Nat → Int32) (rOn : Nat → Int32) (rLe : Nat → Int32) (rRi : Nat → Int32) (rHx : Int64) (rHy : Int64) (rHd : Int64) (rKx : Int64) (rKy : Int64) (rKd : Int64) : va_W := [(a 0, .inr (5, [.int rF, .ref (a 1), .ref (a 2), .ref (a 3), .int rMd, .int rE, .ref (a 4), .ref (a 5), .ref (a 6), .ref (a 7), .ref (a 8), .int rP, .ref (a 9), .ref (a 10), .ref (a 11), .int rQ, .ref (a 12), .ref (a 13), .ref (a 14), .ref (a 15), .ref (a 16), .long rHx, .long rHy, .long rHd, .long rKx, .long rKy, .long rKd])), ((a 1), .inl (k 0, 2, .inl rS)), ((a 2), .inl (k 0, 12, .inl rVx)), ((a 3), .inl (k 0, 12, .inl rVy)), ((a 4), .inl (k 0, 12, .inl rAx)), ((a 5), .inl (k 0, 12, .inl rAy)), ((a 6), .inl (k 0, 12, .inl rBx)), ((a 7), .inl (k 0, 12, .inl rBy)), ((a 8), .inl (k 0, 12, .inl rO)), ((a 9), .inl (k 0, 80, .inl rPx)), ((a 10), .inl (k 0, 80, .inl rPy)), ((a 11), .inl (k 0, 80, .inl rPd)), ((a 12), .inl (k 0, 300, .inl rFi)), ((a 13), .inl (k 0, 300, .inl rLa)), ((a 14), .inl (k 0, 600, .inl rOn)), ((a 15), .inl (k 1, 600, .inl rLe)), ((a 16), .inl (k 1, 600, .inl rRi))]
abbrev wO (k : Nat → ClassId) (a : Nat → Nat) (oL : Nat → Int64) (oD : Nat → UInt64) : va_W := [((a 0), .inl (k 2, 1, .inr (.inl oL))), ((a 1), .inl (k 3, 1, .inr (.inr (.inr (.inl oD)))))]
