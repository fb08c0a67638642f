/-! the edges out of the vertices -/
abbrev Vt : Type := Int × Int
def VtB (v : Vt) : Prop := v.1.natAbs ≤ 30 ∧ v.2.natAbs ≤ 30
def mkE (p : Nat) (u v : Vt) : Ed := if lxe u.1 u.2 v.1 v.2 then (u.1, u.2, v.1, v.2, p) else (v.1, v.2, u.1, u.2, p)
def addE (p : Nat) (u v : Vt) (es : List Ed) : List Ed := if u = v then es else es ++ [mkE p u v]
def tkF (vs : List Vt) (p : Nat) (es : List Ed) : Nat → List Ed
  | 0 => es
  | n + 1 => match vs[n]?, vs[(n + 1) % vs.length]? with
    | some u, some v => addE p u v (tkF vs p es n)
    | _, _ => tkF vs p es n
def tkE (vs : List Vt) (p : Nat) (es : List Ed) : List Ed := tkF vs p es vs.length
def esOf (V : Nat → List Vt) : List Ed := tkE (V 1) 1 (tkE (V 0) 0 [])
theorem tkF_at {vs : List Vt} {p : Nat} {es : List Ed} {n : Nat} {u v : Vt} (h1 : vs[n]? = some u) (h2 : vs[(n + 1) % vs.length]? = some v) : tkF vs p es (n + 1) = addE p u v (tkF vs p es n) := by
  rw [tkF, h1, h2]
theorem addE_len {p : Nat} {u v : Vt} {es : List Ed} : (addE p u v es).length ≤ es.length + 1 := by
  unfold addE; split
  · omega
  · simp
theorem tkF_len {vs : List Vt} {p : Nat} {es : List Ed} : ∀ {n : Nat}, (tkF vs p es n).length ≤ es.length + n
  | 0 => Nat.le_refl _
  | n + 1 => by
    have ih := tkF_len (vs := vs) (p := p) (es := es) (n := n)
    rw [tkF]
    split
    · have := addE_len (p := p) (u := ‹Vt›) (v := ‹Vt›) (es := tkF vs p es n)
      refine Nat.le_trans addE_len (by omega)
    · omega
theorem mkE_ok {p : Nat} {u v : Vt} (hp : p < 2) (hu : VtB u) (hv : VtB v) (h : u ≠ v) : EdOK (mkE p u v) := by
  unfold mkE
  by_cases c : lxe u.1 u.2 v.1 v.2
  · rw [if_pos c]; exact ⟨hu.1, hu.2, hv.1, hv.2, c, hp⟩
  · rw [if_neg c]
    refine ⟨hv.1, hv.2, hu.1, hu.2, ?_, hp⟩
    have hn : ¬ (u.1 = v.1 ∧ u.2 = v.2) := fun z => h (Prod.ext z.1 z.2)
    show lxe v.1 v.2 u.1 u.2
    unfold lxe at *; omega
def ownB (es : List Ed) (p e : Nat) : Bool := (es[e]?).any (fun q => q.2.2.2.2 == p)
theorem ownB_at {es : List Ed} {p e : Nat} {q : Ed} (h : es[e]? = some q) : ownB es p e = (q.2.2.2.2 == p) := by unfold ownB; rw [h]; rfl
/-- the class's rows -/
def RO (oP : Nat → Int32) (es : List Ed) : Prop := ∀ p, p < 2 → oP p = nI (mk (ownB es p) es.length)
/-- the reference's row of owners -/
def RW (rO : Nat → Int32) (es : List Ed) : Prop := ∀ e q, es[e]? = some q → rO e = nI q.2.2.2.2
theorem push_get {α : Type} {es : List α} {q : α} (e : Nat) : (es ++ [q])[e]? = if e < es.length then es[e]? else if e = es.length then some q else none := by
  by_cases h : e < es.length
  · rw [if_pos h, List.getElem?_append_left h]
  · rw [if_neg h, List.getElem?_append_right (by omega)]
    by_cases e1 : e = es.length
    · subst e1; simp
    · rw [if_neg e1, List.getElem?_eq_none (by simp; omega)]
theorem RE_push {fX fY lX lY : Nat → Int32} {es : List Ed} (h : RE fX fY lX lY es) (hl : es.length < 12) {q : Ed} (hq : EdOK q) {a b c d : Int32} (ha : a.toInt = q.1) (hb : b.toInt = q.2.1) (hc : c.toInt = q.2.2.1) (hd : d.toInt = q.2.2.2.1) : RE (upd fX es.length a) (upd fY es.length b) (upd lX es.length c) (upd lY es.length d) (es ++ [q]) := by
  refine ⟨by simp; omega, fun r hr => ?_, fun e r he => ?_⟩
  · rcases List.mem_append.mp hr with hr | hr
    · exact h.2.1 r hr
    · rw [List.mem_singleton.mp hr]; exact hq
  · rw [push_get] at he
    by_cases c1 : e < es.length
    · rw [if_pos c1] at he
      have hne : e ≠ es.length := by omega
      rw [pk_un hne, pk_un hne, pk_un hne, pk_un hne]
      exact h.2.2 e r he
    · rw [if_neg c1] at he
      by_cases c2 : e = es.length
      · rw [if_pos c2] at he
        injection he with he
        subst c2; subst he
        rw [pk_us, pk_us, pk_us, pk_us]
        exact ⟨ha, hb, hc, hd⟩
      · rw [if_neg c2] at he; cases he
theorem RW_push {rO : Nat → Int32} {es : List Ed} (h : RW rO es) {q : Ed} {a : Int32} (ha : a = nI q.2.2.2.2) : RW (upd rO es.length a) (es ++ [q]) := by
  intro e r he
  rw [push_get] at he
  by_cases c1 : e < es.length
  · rw [if_pos c1] at he
    rw [pk_un (by omega)]; exact h e r he
  · rw [if_neg c1] at he
    by_cases c2 : e = es.length
    · rw [if_pos c2] at he
      injection he with he
      subst c2; subst he
      rw [pk_us]; exact ha
    · rw [if_neg c2] at he; cases he
theorem RO_push {oP : Nat → Int32} {es : List Ed} (h : RO oP es) (hl : es.length < 12) {q : Ed} (hq : q.2.2.2.2 < 2) : RO (upd oP q.2.2.2.2 (oP q.2.2.2.2 ||| (1 : Int32) <<< (nI es.length &&& 31))) (es ++ [q]) := by
  intro p hp
  have e1 : mk (ownB (es ++ [q]) p) es.length = mk (ownB es p) es.length := mk_congr (fun i hi => by unfold ownB; rw [push_get, if_pos hi])
  have e2 : ownB (es ++ [q]) p es.length = (q.2.2.2.2 == p) := by unfold ownB; rw [push_get]; simp
  rw [List.length_append, List.length_singleton, mk, e1, e2]
  by_cases c : p = q.2.2.2.2
  · subst c
    rw [pk_us, h _ hp, nI_shl _ hl, nI_or]
    simp
  · rw [pk_un c, h _ hp, if_neg (by simpa using fun z => c z.symm)]
theorem s_eadd {fX fY lX lY oP : Nat → Int32} {es : List Ed} (hR : RE fX fY lX lY es) (hO : RO oP es) (hl : es.length < 12) {p : Nat} (hp : p < 2) {u v : Vt} (hu : VtB u) (hv : VtB v) {a b c d : Int32} (ha : R3 a u.1 30) (hb : R3 b u.2 30) (hc : R3 c v.1 30) (hd : R3 d v.2 30) (Q : (Nat → Int32) → (Nat → Int32) → (Nat → Int32) → (Nat → Int32) → (Nat → Int32) → Int32 → Prop)
    (h : ∀ fX fY lX lY oP, RE fX fY lX lY (addE p u v es) → RO oP (addE p u v es) → Q fX fY lX lY oP (nI (addE p u v es).length)) : wp_X0_add (nI p) a b c d fX fY lX lY oP (nI es.length) Q := by
  have hv12 := vin hl (show 12 < 2 ^ 31 by decide)
  have hv2 := vin hp (show 2 < 2 ^ 31 by decide)
  have same : u = v → Q fX fY lX lY oP (nI es.length) := fun z => by unfold addE at h; rw [if_pos z] at h; exact h _ _ _ _ _ hR hO
  unfold wp_X0_add
  rw [ha.eq hc, hb.eq hd]
  have t22 : u ≠ v → wp_X0_add_L22 (nI p) a b c d Q fX fY lX lY oP (nI es.length) := by
    intro hne
    have hok := mkE_ok hp hu hv hne
    have ho : (mkE p u v).2.2.2.2 = p := by unfold mkE; split <;> rfl
    have hlen : (es ++ [mkE p u v]).length = es.length + 1 := by simp
    unfold addE at h
    rw [if_neg hne, hlen] at h
    have hO2 := RO_push hO hl hok.2.2.2.2.2
    rw [ho] at hO2
    have fwd : lxe u.1 u.2 v.1 v.2 → wp_X0_add_L40 (nI p) a b c d Q fX fY lX lY oP (nI es.length) := by
      intro hf
      have hE := RE_push hR hl hok (a := a) (b := b) (c := c) (d := d) (by unfold mkE; rw [if_pos hf]; exact ha.1) (by unfold mkE; rw [if_pos hf]; exact hb.1) (by unfold mkE; rw [if_pos hf]; exact hc.1) (by unfold mkE; rw [if_pos hf]; exact hd.1)
      refine ⟨fun z => absurd z (by decide), fun _ => ⟨hv12, fun y66 e66 => ⟨fun z => absurd z (by decide), fun _ => ⟨hv12, fun y86 e86 => ⟨fun z => absurd z (by decide), fun _ => ⟨hv12, fun y106 e106 => ⟨fun z => absurd z (by decide), fun _ => ⟨hv12, fun y126 e126 => ⟨hv2, hv2, fun y145 e145 => fun x153 e153 => ?_⟩⟩⟩⟩⟩⟩⟩⟩⟩
      rw [cl_nI (by omega)] at e66 e86 e106 e126 e145
      subst e66 e86 e106 e126 e145 e153
      rw [nI_1]
      exact h _ _ _ _ _ hE hO2
    have bwd : ¬ lxe u.1 u.2 v.1 v.2 → wp_X0_add_L44 (nI p) a b c d Q fX fY lX lY oP (nI es.length) := by
      intro hf
      have hE := RE_push hR hl hok (a := c) (b := d) (c := a) (d := b) (by unfold mkE; rw [if_neg hf]; exact hc.1) (by unfold mkE; rw [if_neg hf]; exact hd.1) (by unfold mkE; rw [if_neg hf]; exact ha.1) (by unfold mkE; rw [if_neg hf]; exact hb.1)
      refine ⟨fun _ => ⟨hv12, fun y66 e66 => ⟨fun _ => ⟨hv12, fun y86 e86 => ⟨fun _ => ⟨hv12, fun y106 e106 => ⟨fun _ => ⟨hv12, fun y126 e126 => ⟨hv2, hv2, fun y145 e145 => fun x153 e153 => ?_⟩⟩, fun z => absurd rfl z⟩⟩, fun z => absurd rfl z⟩⟩, fun z => absurd rfl z⟩⟩, fun z => absurd rfl z⟩
      rw [cl_nI (by omega)] at e66 e86 e106 e126 e145
      subst e66 e86 e106 e126 e145 e153
      rw [nI_1]
      exact h _ _ _ _ _ hE hO2
    unfold wp_X0_add_L22
    rw [ha.lt hc, ha.eq hc, hd.le hb]
    exact ⟨fun z => fwd (Or.inl z), fun z1 => ⟨fun z2 => bwd (by unfold lxe; omega), fun z2 => ⟨fun z3 => bwd (by unfold lxe; omega), fun z3 => fwd (by unfold lxe; omega)⟩⟩⟩
  refine ⟨fun z => absurd z (by rw [show (12 : Int32) = nI 12 by decide]; exact nI_ge hl (by decide)), fun _ => ⟨fun z => t22 (fun e => z (by rw [e])), fun z1 => ⟨fun z => t22 (fun e => z (by rw [e])), fun z2 => same (Prod.ext z1 z2)⟩⟩⟩
/-- the class's vertices -/
def RVc (cX cY : Nat → Nat → Int32) (cN : Nat → Int32) (V : Nat → List Vt) : Prop := ∀ p, p < 2 → cN p = nI (V p).length ∧ ∀ k v, (V p)[k]? = some v → (cX p k).toInt = v.1 ∧ (cY p k).toInt = v.2
/-- the reference's vertices -/
def RVr (rS rVx rVy : Nat → Int32) (V : Nat → List Vt) : Prop := ∀ p, p < 2 → rS p = nI (V p).length ∧ ∀ k v, (V p)[k]? = some v → (rVx (6 * p + k)).toInt = v.1 ∧ (rVy (6 * p + k)).toInt = v.2
def VOK (V : Nat → List Vt) : Prop := ∀ p, p < 2 → (V p).length ≤ 6 ∧ ∀ v ∈ V p, VtB v
theorem s_take {cX cY : Nat → Nat → Int32} {cN : Nat → Int32} {V : Nat → List Vt} (hV : RVc cX cY cN V) (hK : VOK V) {p : Nat} (hp : p < 2) {fX fY lX lY oP : Nat → Int32} {es : List Ed} (hR : RE fX fY lX lY es) (hO : RO oP es) (hl : es.length ≤ 6) (Q : (Nat → Int32) → (Nat → Int32) → (Nat → Int32) → (Nat → Int32) → (Nat → Int32) → Int32 → Prop)
    (h : ∀ fX fY lX lY oP, RE fX fY lX lY (tkE (V p) p es) → RO oP (tkE (V p) p es) → Q fX fY lX lY oP (nI (tkE (V p) p es).length)) : wp_X4_takeEdges (nI p) cX cY cN fX fY lX lY oP (nI es.length) Q := by
  obtain ⟨hn, hc⟩ := hV p hp
  obtain ⟨h6, hB⟩ := hK p hp
  have hv2 := vin hp (show 2 < 2 ^ 31 by decide)
  have key : ∀ m n fX fY lX lY oP, n + m = (V p).length → RE fX fY lX lY (tkF (V p) p es n) → RO oP (tkF (V p) p es n) → wp_X4_takeEdges_L25 (nI p) cX cY cN Q (m + 1) (nI (V p).length) (nI n) fX fY lX lY oP (nI (tkF (V p) p es n).length) := by
    intro m
    induction m with
    | zero =>
      intro n fX fY lX lY oP hn hR hO
      rw [wp_X4_takeEdges_L25]
      refine ⟨fun _ => ?_, fun z => absurd (nI_le (by omega) (by omega)) z⟩
      have e : n = (V p).length := by omega
      subst e
      exact h _ _ _ _ _ hR hO
    | succ m ih =>
      intro n fX fY lX lY oP hn hR hO
      obtain ⟨u, hu⟩ := lg (show n < (V p).length by omega)
      have hmod := Nat.mod_lt (n + 1) (show 0 < (V p).length by omega)
      obtain ⟨v, hv⟩ := lg hmod
      have hlen := tkF_len (vs := V p) (p := p) (es := es) (n := n)
      have step : ∀ z0, z0 = (n + 1) % (V p).length → wp_X4_takeEdges_L47 (nI p) cX cY cN Q (wp_X4_takeEdges_L25 (nI p) cX cY cN Q (m + 1)) (nI (V p).length) (nI n) (nI z0) fX fY lX lY oP (nI (tkF (V p) p es n).length) := by
        intro z0 ez
        subst ez
        have hu6 := vin (show n < 6 by omega) (show 6 < 2 ^ 31 by decide)
        have hz6 := vin (show (n + 1) % (V p).length < 6 by omega) (show 6 < 2 ^ 31 by decide)
        unfold wp_X4_takeEdges_L47
        rw [cl_nI (show p < 2 ^ 31 by omega), cl_nI (show n < 2 ^ 31 by omega), cl_nI (show (n + 1) % (V p).length < 2 ^ 31 by omega)]
        have bu := hB u (List.mem_of_getElem? hu)
        have bv := hB v (List.mem_of_getElem? hv)
        refine ⟨hv2, hu6, hv2, hu6, hv2, hz6, hv2, hz6, s_eadd hR hO (by omega) hp bu bv ⟨(hc _ _ hu).1, bu.1⟩ ⟨(hc _ _ hu).2, bu.2⟩ ⟨(hc _ _ hv).1, bv.1⟩ ⟨(hc _ _ hv).2, bv.2⟩ _ (fun f1 f2 f3 f4 f5 k1 k2 => ?_)⟩
        rw [← tkF_at hu hv] at k1 k2 ⊢
        rw [nI_1]
        exact ih (n + 1) _ _ _ _ _ (by omega) k1 k2
      rw [wp_X4_takeEdges_L25, nI_1]
      refine ⟨fun z => absurd z (nI_ge (by omega) (by omega)), fun _ => ⟨fun z => ?_, fun z => step (n + 1) ?_⟩⟩
      · rw [ble_nI (by omega) (by omega)] at z
        rw [← nI_0]
        exact step 0 (by rw [show n + 1 = (V p).length by omega, Nat.mod_self])
      · rw [ble_nI (by omega) (by omega)] at z
        rw [Nat.mod_eq_of_lt (by omega)]
  unfold wp_X4_takeEdges
  rw [cl_nI (show p < 2 ^ 31 by omega), hn]
  refine ⟨hv2, fun x6 e6 => ⟨hv2, hv2, (V p).length + 1, ?_⟩⟩
  subst e6
  exact key (V p).length 0 _ _ _ _ _ (by omega) hR hO
theorem s_empty {oP : Nat → Int32} {nE : Int32} (Q : (Nat → Int32) → Int32 → Prop) (h : ∀ oP, RO oP [] → Q oP 0) : wp_X0_empty oP nE Q := by
  refine ⟨3, ?_⟩
  rw [wp_X0_empty_L7]
  refine ⟨fun z => absurd z (by decide), fun _ => ⟨vin (e := 0) (by decide) (by decide), fun y1 e1 => ?_⟩⟩
  rw [wp_X0_empty_L7]
  refine ⟨fun z => absurd z (by decide), fun _ => ⟨vin (e := 1) (by decide) (by decide), fun y2 e2 => ?_⟩⟩
  rw [wp_X0_empty_L7]
  refine ⟨fun _ => h y2 (fun p hp => ?_), fun z => absurd (by decide) z⟩
  show y2 p = 0
  rw [e2, e1]
  have c0 : (0 : Int32).toNatClampNeg = 0 := by decide
  have c1 : ((0 : Int32) + 1).toNatClampNeg = 1 := by decide
  rw [c0, c1]
  rcases (show p = 0 ∨ p = 1 by omega) with rfl | rfl
  · rw [pk_un (by decide), pk_us]
  · rw [pk_us]
