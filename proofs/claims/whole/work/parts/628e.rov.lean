/-! the reference's overlay -/
theorem s_raddE {rS rVx rVy : Nat → Int32} {V : Nat → List Vt} (hV : RVr rS rVx rVy V) (hK : VOK V) {p : Nat} (hp : p < 2) {rAx rAy rBx rBy rO : Nat → Int32} {es : List Ed} (hR : RE rAx rAy rBx rBy es) (hW : RW rO es) (hl : es.length < 12) {k k2 : Nat} {u v : Vt} (hu : (V p)[k]? = some u) (hv : (V p)[k2]? = some v) (Q : Int32 → (Nat → Int32) → (Nat → Int32) → (Nat → Int32) → (Nat → Int32) → (Nat → Int32) → Prop)
    (h : ∀ fX fY lX lY oP, RE fX fY lX lY (addE p u v es) → RW oP (addE p u v es) → Q (nI (addE p u v es).length) fX fY lX lY oP) : wp_X5_addEdge (nI p) (nI (6 * p + k)) (nI (6 * p + k2)) rVx rVy (nI es.length) rAx rAy rBx rBy rO Q := by
  have hc := (hV p hp).2
  obtain ⟨h6, hB⟩ := hK p hp
  have lu := lgl hu
  have lv := lgl hv
  have bu := hB u (List.mem_of_getElem? hu)
  have bv := hB v (List.mem_of_getElem? hv)
  have ha : R3 (rVx (6 * p + k)) u.1 30 := ⟨(hc _ _ hu).1, bu.1⟩
  have hb : R3 (rVy (6 * p + k)) u.2 30 := ⟨(hc _ _ hu).2, bu.2⟩
  have hcc : R3 (rVx (6 * p + k2)) v.1 30 := ⟨(hc _ _ hv).1, bv.1⟩
  have hd : R3 (rVy (6 * p + k2)) v.2 30 := ⟨(hc _ _ hv).2, bv.2⟩
  have hv12 := vin hl (show 12 < 2 ^ 31 by decide)
  have v1 := vin (show 6 * p + k < 12 by omega) (show 12 < 2 ^ 31 by decide)
  have v2 := vin (show 6 * p + k2 < 12 by omega) (show 12 < 2 ^ 31 by decide)
  have same : u = v → Q (nI es.length) rAx rAy rBx rBy rO := fun z => by unfold addE at h; rw [if_pos z] at h; exact h _ _ _ _ _ hR hW
  have t47 : u ≠ v → wp_X5_addEdge_L47 (nI p) (nI (6 * p + k)) (nI (6 * p + k2)) rVx rVy Q (rVx (6 * p + k)) (rVy (6 * p + k)) (rVx (6 * p + k2)) (rVy (6 * p + k2)) (nI es.length) rAx rAy rBx rBy rO := by
    intro hne
    have hok := mkE_ok hp bu bv hne
    have ho : (mkE p u v).2.2.2.2 = p := by unfold mkE; split <;> rfl
    have hlen : (es ++ [mkE p u v]).length = es.length + 1 := by simp
    unfold addE at h
    rw [if_neg hne, hlen] at h
    have hW2 := RW_push hW (q := mkE p u v) (a := nI p) (by rw [ho])
    have fwd : lxe u.1 u.2 v.1 v.2 → wp_X5_addEdge_L73 (nI p) (nI (6 * p + k)) (nI (6 * p + k2)) rVx rVy Q (rVx (6 * p + k)) (rVy (6 * p + k)) (rVx (6 * p + k2)) (rVy (6 * p + k2)) 1 (nI es.length) rAx rAy rBx rBy rO := by
      intro hf
      have hE := RE_push hR hl hok (a := rVx (6 * p + k)) (b := rVy (6 * p + k)) (c := rVx (6 * p + k2)) (d := rVy (6 * p + k2)) (by unfold mkE; rw [if_pos hf]; exact ha.1) (by unfold mkE; rw [if_pos hf]; exact hb.1) (by unfold mkE; rw [if_pos hf]; exact hcc.1) (by unfold mkE; rw [if_pos hf]; exact hd.1)
      refine ⟨fun z => absurd z (by decide), fun _ => ⟨hv12, fun y1 e1 => ⟨fun z => absurd z (by decide), fun _ => ⟨hv12, fun y2 e2 => ⟨fun z => absurd z (by decide), fun _ => ⟨hv12, fun y3 e3 => ⟨fun z => absurd z (by decide), fun _ => ⟨hv12, fun y4 e4 => ⟨hv12, fun y5 e5 => fun x6 e6 => ?_⟩⟩⟩⟩⟩⟩⟩⟩⟩
      rw [cl_nI (by omega)] at e1 e2 e3 e4 e5
      subst e1 e2 e3 e4 e5 e6
      rw [nI_1]
      exact h _ _ _ _ _ hE hW2
    have bwd : ¬ lxe u.1 u.2 v.1 v.2 → wp_X5_addEdge_L73 (nI p) (nI (6 * p + k)) (nI (6 * p + k2)) rVx rVy Q (rVx (6 * p + k)) (rVy (6 * p + k)) (rVx (6 * p + k2)) (rVy (6 * p + k2)) 0 (nI es.length) rAx rAy rBx rBy rO := by
      intro hf
      have hE := RE_push hR hl hok (a := rVx (6 * p + k2)) (b := rVy (6 * p + k2)) (c := rVx (6 * p + k)) (d := rVy (6 * p + k)) (by unfold mkE; rw [if_neg hf]; exact hcc.1) (by unfold mkE; rw [if_neg hf]; exact hd.1) (by unfold mkE; rw [if_neg hf]; exact ha.1) (by unfold mkE; rw [if_neg hf]; exact hb.1)
      refine ⟨fun _ => ⟨hv12, fun y1 e1 => ⟨fun _ => ⟨hv12, fun y2 e2 => ⟨fun _ => ⟨hv12, fun y3 e3 => ⟨fun _ => ⟨hv12, fun y4 e4 => ⟨hv12, fun y5 e5 => fun x6 e6 => ?_⟩⟩, fun z => absurd rfl z⟩⟩, fun z => absurd rfl z⟩⟩, fun z => absurd rfl z⟩⟩, fun z => absurd rfl z⟩
      rw [cl_nI (by omega)] at e1 e2 e3 e4 e5
      subst e1 e2 e3 e4 e5 e6
      rw [nI_1]
      exact h _ _ _ _ _ hE hW2
    unfold wp_X5_addEdge_L47
    rw [ha.lt hcc, ha.eq hcc, hd.le hb]
    exact ⟨fun z => fwd (Or.inl z), fun z1 => ⟨fun z2 => bwd (by unfold lxe; omega), fun z2 => ⟨fun z3 => bwd (by unfold lxe; omega), fun z3 => fwd (by unfold lxe; omega)⟩⟩⟩
  unfold wp_X5_addEdge
  rw [cl_nI (show 6 * p + k < 2 ^ 31 by omega), cl_nI (show 6 * p + k2 < 2 ^ 31 by omega)]
  refine ⟨v1, fun x6 e6 => ⟨v1, fun x14 e14 => ⟨v2, fun x22 e22 => ⟨v2, fun x30 e30 => ?_⟩⟩⟩⟩
  subst e6 e14 e22 e30
  rw [ha.eq hcc, hb.eq hd]
  exact ⟨fun z => t47 (fun e => z (by rw [e])), fun z1 => ⟨fun z => t47 (fun e => z (by rw [e])), fun z2 => same (Prod.ext z1 z2)⟩⟩
theorem s_redges {rS rVx rVy : Nat → Int32} {V : Nat → List Vt} (hV : RVr rS rVx rVy V) (hK : VOK V) {p : Nat} (hp : p < 2) {es : List Ed} {rAx rAy rBx rBy rO : Nat → Int32} (hR : RE rAx rAy rBx rBy es) (hW : RW rO es) (hl : es.length ≤ 6) {Q K rF rMd rP rPx rPy rPd rQ rFi rLa rOn rLe rRi rHx rHy rHd rKx rKy rKd}
    (h : ∀ rAx rAy rBx rBy rO, RE rAx rAy rBx rBy (tkE (V p) p es) → RW rO (tkE (V p) p es) → K (nI p) rF rMd (nI (tkE (V p) p es).length) rAx rAy rBx rBy rO rP rPx rPy rPd rQ rFi rLa rOn rLe rRi rHx rHy rHd rKx rKy rKd) :
    ∃ n, wp_X5_overlay_L34 rS rVx rVy Q K n (nI p) 0 rF rMd (nI es.length) rAx rAy rBx rBy rO rP rPx rPy rPd rQ rFi rLa rOn rLe rRi rHx rHy rHd rKx rKy rKd := by
  have hn := (hV p hp).1
  obtain ⟨h6, hB⟩ := hK p hp
  have hv2 := vin hp (show 2 < 2 ^ 31 by decide)
  have key : ∀ m n rAx rAy rBx rBy rO, n + m = (V p).length → RE rAx rAy rBx rBy (tkF (V p) p es n) → RW rO (tkF (V p) p es n) → wp_X5_overlay_L34 rS rVx rVy Q K (m + 1) (nI p) (nI n) rF rMd (nI (tkF (V p) p es n).length) rAx rAy rBx rBy rO rP rPx rPy rPd rQ rFi rLa rOn rLe rRi rHx rHy rHd rKx rKy rKd := by
    intro m
    induction m with
    | zero =>
      intro n rAx rAy rBx rBy rO hm hR hW
      rw [wp_X5_overlay_L34, cl_nI (show p < 2 ^ 31 by omega), hn]
      refine ⟨hv2, fun _ => ?_, fun z => absurd (nI_le (by omega) (by omega)) z⟩
      have e : n = (V p).length := by omega
      subst e
      exact h _ _ _ _ _ hR hW
    | succ m ih =>
      intro n rAx rAy rBx rBy rO hm hR hW
      obtain ⟨u, hu⟩ := lg (show n < (V p).length by omega)
      obtain ⟨v, hv⟩ := lg (Nat.mod_lt (n + 1) (show 0 < (V p).length by omega))
      have hlen := tkF_len (vs := V p) (p := p) (es := es) (n := n)
      rw [wp_X5_overlay_L34, cl_nI (show p < 2 ^ 31 by omega), hn, nI_1, pk_rem (by omega) (by omega) (by omega), show (6 : Int32) = nI 6 by decide, pk_mul, nI_add, nI_add]
      refine ⟨hv2, fun z => absurd z (nI_ge (by omega) (by omega)), fun _ => ⟨hv2, nI_ne0 (by omega) (by omega), s_raddE hV hK hp hR hW (by omega) hu hv _ (fun f1 f2 f3 f4 f5 k1 k2 => ?_)⟩⟩
      rw [← tkF_at hu hv] at k1 k2 ⊢
      exact ih (n + 1) _ _ _ _ _ (by omega) k1 k2
  exact ⟨(V p).length + 1, key (V p).length 0 _ _ _ _ _ (by omega) hR hW⟩
theorem insL_same {n : Pt} : ∀ {l : List Pt}, l.Pairwise plt → n ∈ l → insL n l = l
  | [], _, h => absurd h List.not_mem_nil
  | p :: t, hs, h => by
    have hp := List.pairwise_cons.mp hs
    unfold insL
    by_cases c : plt p n
    · rw [if_pos c]
      rcases List.mem_cons.mp h with e | h'
      · subst e; exact absurd c plt_irr
      · rw [insL_same hp.2 h']
    · rw [if_neg c]
      by_cases e : p = n
      · rw [if_pos e]
      · rcases List.mem_cons.mp h with e' | h'
        · exact absurd e'.symm e
        · exact absurd (hp.1 n h') c
theorem noc_mO {q r : Ed} (h : NoC q r) : ¬ mO q r := fun z => h (mP q r) (mD_pos z.1) ⟨z.2.1, z.2.2⟩
theorem plt_npeq {p q : Pt} (h1 : plt p q) (h2 : peq p q) : False := by
  obtain ⟨e1, e2⟩ := h2
  rcases h1 with c | ⟨-, c⟩
  · exact absurd e1 (Int.ne_of_lt c)
  · exact absurd e2 (Int.ne_of_lt c)
theorem com_mO {q r : Ed} {H K : Pt} (h : Com q r H K) (hlt : plt H K) : ¬ mO q r := by
  intro z
  obtain ⟨h1, h2, h3, h4, h5, h6, -⟩ := h
  have a : peq H (mP q r) := mP_uni z.1 h3.1 h4.1
  have b : peq K (mP q r) := mP_uni z.1 h5.1 h6.1
  have hm : 0 < (mP q r).2.2 := mD_pos z.1
  exact plt_npeq hlt (peq_tr (q := mP q r) h1 hm h2 a (peq_sym b))
theorem s_rmeets {es : List Ed} {rAx rAy rBx rBy : Nat → Int32} (hE : RE rAx rAy rBx rBy es) {a : Nat} {q : Ed} (ha : es[a]? = some q) {l : List Pt} (hfi : fi q ∈ l) (hfr : ∀ (b : Nat) (r : Ed), b < a → es[b]? = some r → fi r ∈ l) (h78 : (mtF es q l a).length ≤ 78) {rPx rPy rPd : Nat → Int32} (hP : RP rPx rPy rPd l) {rS rVx rVy Q K rF rMd rE rO rQ rFi rLa rOn rLe rRi rHx rHy rHd rKx rKy rKd}
    (h : ∀ rPx rPy rPd rHx rHy rHd rKx rKy rKd, RP rPx rPy rPd (mtF es q l a) → K (nI a) rF rMd rE rAx rAy rBx rBy rO (nI (mtF es q l a).length) rPx rPy rPd rQ rFi rLa rOn rLe rRi rHx rHy rHd rKx rKy rKd) :
    ∃ n, wp_X5_overlay_L156 rS rVx rVy Q K n (nI a) 0 rF rMd rE rAx rAy rBx rBy rO (nI l.length) rPx rPy rPd rQ rFi rLa rOn rLe rRi rHx rHy rHd rKx rKy rKd := by
  have hla := hE.lt ha
  have hlen := lgl ha
  have key : ∀ m b rPx rPy rPd rHx rHy rHd rKx rKy rKd, b + m = a → RP rPx rPy rPd (mtF es q l b) → wp_X5_overlay_L156 rS rVx rVy Q K (m + 1) (nI a) (nI b) rF rMd rE rAx rAy rBx rBy rO (nI (mtF es q l b).length) rPx rPy rPd rQ rFi rLa rOn rLe rRi rHx rHy rHd rKx rKy rKd := by
    intro m
    induction m with
    | zero =>
      intro b rPx rPy rPd rHx rHy rHd rKx rKy rKd hb hP
      rw [wp_X5_overlay_L156]
      refine ⟨fun _ => ?_, fun z => absurd (nI_le (by omega) (by omega)) z⟩
      have e : b = a := by omega
      subst e
      exact h _ _ _ _ _ _ _ _ _ hP
    | succ m ih =>
      intro b rPx rPy rPd rHx rHy rHd rKx rKy rKd hb hP
      obtain ⟨r, hr⟩ := lg (show b < es.length by omega)
      have hat := mtF_at (q := q) (l := l) hr
      have hin : (mtF es q l (b + 1)).length ≤ 78 := by
        have := mtF_len (es := es) (q := q) (l := l) (n := b + 1) (m := m)
        rw [show b + 1 + m = a by omega] at this
        omega
      have no : ¬ mO q r → ∀ rHx rHy rHd rKx rKy rKd, wp_X5_overlay_L175 rS rVx rVy Q (wp_X5_overlay_L156 rS rVx rVy Q K (m + 1)) (nI a) (nI b) rF rMd rE rAx rAy rBx rBy rO (nI (mtF es q l b).length) rPx rPy rPd rQ rFi rLa rOn rLe rRi rHx rHy rHd rKx rKy rKd := by
        intro hno rHx rHy rHd rKx rKy rKd
        have e : mtF es q l (b + 1) = mtF es q l b := by rw [hat]; unfold mtL; rw [if_neg hno]
        have := ih (b + 1) rPx rPy rPd rHx rHy rHd rKx rKy rKd (by omega) (by rw [e]; exact hP)
        rw [e, ← nI_1] at this
        exact this
      rw [wp_X5_overlay_L156]
      refine ⟨fun z => absurd z (nI_ge (by omega) (by omega)), fun _ => s_meet hE ha hr _ (fun hno o1 o2 o3 o4 o5 o6 => ⟨fun _ => no (noc_mO hno) _ _ _ _ _ _, fun z => absurd z (by decide)⟩) (fun c H K' o1 o2 o3 o4 o5 o6 hc hcom hsrc hH hKK => ?_)⟩
      rcases hc with ⟨hc, hpe⟩ | ⟨hc, hlt⟩
      · subst hc
        refine ⟨fun z => absurd (by decide) z, fun _ => ?_⟩
        have hl2 : insL (rdc H.1 H.2.1 H.2.2) (mtF es q l b) = mtF es q l (b + 1) := by
          rw [hat]
          unfold mtL
          rcases hsrc with ⟨hO, hHe⟩ | ⟨hd, hHe⟩
          · rw [if_pos hO, hHe]
          · rw [if_neg (fun z => z.1 hd)]
            have hred : red H := by rcases hHe with e | e <;> (rw [e]; exact red_one _ _)
            rw [rdc_self hred]
            refine insL_same hP.2.1.1 ?_
            rw [mtF_mem]
            left
            rcases hHe with e | e
            · rw [e]; exact hfi
            · rw [e]; exact hfr b r (by omega) hr
        refine s_addPoint hP hH (by rw [hl2]; exact hin) _ (fun x' y' d' a' b' c' hP' => ?_)
        rw [hl2] at hP' ⊢
        have := ih (b + 1) x' y' d' a' b' c' o4 o5 o6 (by omega) hP'
        rw [← nI_1] at this
        exact this
      · subst hc
        exact ⟨fun _ => no (com_mO hcom hlt) _ _ _ _ _ _, fun z => absurd z (by decide)⟩
  exact ⟨a + 1, key a 0 _ _ _ _ _ _ _ _ _ (by omega) hP⟩
theorem s_rgather {es : List Ed} {rAx rAy rBx rBy : Nat → Int32} (hE : RE rAx rAy rBx rBy es) (h78 : (gaL es).length ≤ 78) {rS rVx rVy Q K rF rMd rO rPx rPy rPd rQ rFi rLa rOn rLe rRi rHx rHy rHd rKx rKy rKd}
    (h : ∀ rPx rPy rPd rHx rHy rHd rKx rKy rKd, RP rPx rPy rPd (gaL es) → K rF rMd (nI es.length) rAx rAy rBx rBy rO (nI (gaL es).length) rPx rPy rPd rQ rFi rLa rOn rLe rRi rHx rHy rHd rKx rKy rKd) :
    ∃ n, wp_X5_overlay_L84 rS rVx rVy Q K n 0 rF rMd (nI es.length) rAx rAy rBx rBy rO 0 rPx rPy rPd rQ rFi rLa rOn rLe rRi rHx rHy rHd rKx rKy rKd := by
  have hn := hE.1
  have key : ∀ m a rPx rPy rPd rHx rHy rHd rKx rKy rKd, a + m = es.length → RP rPx rPy rPd (gaF es a) → wp_X5_overlay_L84 rS rVx rVy Q K (m + 1) (nI a) rF rMd (nI es.length) rAx rAy rBx rBy rO (nI (gaF es a).length) rPx rPy rPd rQ rFi rLa rOn rLe rRi rHx rHy rHd rKx rKy rKd := by
    intro m
    induction m with
    | zero =>
      intro a rPx rPy rPd rHx rHy rHd rKx rKy rKd ha hP
      rw [wp_X5_overlay_L84]
      refine ⟨fun _ => ?_, fun z => absurd (nI_le (by omega) (by omega)) z⟩
      have e : a = es.length := by omega
      subst e
      exact h _ _ _ _ _ _ _ _ _ hP
    | succ m ih =>
      intro a rPx rPy rPd rHx rHy rHd rKx rKy rKd ha hP
      obtain ⟨q, hq⟩ := lg (show a < es.length by omega)
      have hv := vin (hE.lt hq) (show 12 < 2 ^ 31 by decide)
      obtain ⟨a1, a2, a3, a4⟩ := hE.r hq
      have hfin := gaF_at hq
      have hlast : (gaF es (a + 1)).length ≤ 78 := by
        have := gaF_len (es := es) (n := a + 1) (m := m)
        rw [show a + 1 + m = es.length by omega] at this
        exact Nat.le_trans this h78
      rw [hfin] at hlast
      have h0 : (insL (q.2.2.1, q.2.2.2.1, 1) (insL (q.1, q.2.1, 1) (gaF es a))).length ≤ 78 := by
        have := mtF_len (es := es) (q := q) (l := insL (q.2.2.1, q.2.2.2.1, 1) (insL (q.1, q.2.1, 1) (gaF es a))) (n := 0) (m := a)
        rw [Nat.zero_add] at this
        exact Nat.le_trans this hlast
      rw [wp_X5_overlay_L84, cl_nI (show a < 2 ^ 31 by omega)]
      refine ⟨fun z => absurd z (nI_ge (by omega) (by omega)), fun _ => ⟨hv, fun x100 e100 => ⟨hv, fun x111 e111 => ?_⟩⟩⟩
      subst e100 e111
      refine s_addPoint (H := (q.1, q.2.1, 1)) hP ⟨a1.i2l.weak (by decide), a2.i2l.weak (by decide), R6_1.weak (by decide), Int.one_pos⟩ (by rw [rdc_self (red_one _ _)]; exact Nat.le_trans insL_len h0) _ (fun x' y' d' u1 u2 u3 hP1 => ⟨hv, fun x131 e131 => ⟨hv, fun x142 e142 => ?_⟩⟩)
      rw [rdc_self (red_one _ _)] at hP1 ⊢
      subst e131 e142
      refine s_addPoint (H := (q.2.2.1, q.2.2.2.1, 1)) hP1 ⟨a3.i2l.weak (by decide), a4.i2l.weak (by decide), R6_1.weak (by decide), Int.one_pos⟩ (by rw [rdc_self (red_one _ _)]; exact h0) _ (fun x' y' d' u1 u2 u3 hP2 => ?_)
      rw [rdc_self (red_one _ _)] at hP2 ⊢
      refine s_rmeets hE hq (insL_mem.mpr (Or.inr (insL_mem.mpr (Or.inl rfl)))) (fun b r hb hr => insL_mem.mpr (Or.inr (insL_mem.mpr (Or.inr (gaF_mem.mpr ⟨b, r, hb, hr, Or.inl rfl⟩))))) hlast hP2 (fun x3 y3 d3 v1 v2 v3 v4 v5 v6 hP3 => ?_)
      rw [← hfin] at hP3 ⊢
      have := ih (a + 1) x3 y3 d3 v1 v2 v3 v4 v5 v6 (by omega) hP3
      rw [← nI_1] at this
      exact this
  exact ⟨es.length + 1, key es.length 0 _ _ _ _ _ _ _ _ _ (by omega) ⟨Nat.zero_le _, ⟨List.Pairwise.nil, fun p hp => absurd hp List.not_mem_nil⟩, fun p hp => absurd hp List.not_mem_nil, fun j p hj => by simp [gaF] at hj⟩⟩
theorem s_rcuts {es : List Ed} {rAx rAy rBx rBy rO : Nat → Int32} (hE : RE rAx rAy rBx rBy es) (hW : RW rO es) {P : List Pt} {rPx rPy rPd : Nat → Int32} (hP : RP rPx rPy rPd P) (h24 : ∀ e, ct (fun k => onK es P e k) P.length ≤ 24) {rS rVx rVy Q K rF rMd rFi rLa rOn rLe rRi rHx rHy rHd rKx rKy rKd}
    (h : ∀ rFi rLa rOn l, SP l (Fpc es P) → RR rFi rLa rOn l (lay es P) → l.length ≤ 276 → K rF rMd (nI es.length) rAx rAy rBx rBy rO (nI P.length) rPx rPy rPd (nI l.length) rFi rLa rOn rLe rRi rHx rHy rHd rKx rKy rKd) :
    ∃ n, wp_X5_overlay_L189 rS rVx rVy Q K n 0 rF rMd (nI es.length) rAx rAy rBx rBy rO (nI P.length) rPx rPy rPd 0 rFi rLa rOn rLe rRi rHx rHy rHd rKx rKy rKd := by
  have hn := hE.1
  have key : ∀ m e rFi rLa rOn l, e + m = es.length → SP l (FC es P e 0) → RR rFi rLa rOn l (cF es P e 0) → l.length ≤ 23 * e → wp_X5_overlay_L189 rS rVx rVy Q K (m + 1) (nI e) rF rMd (nI es.length) rAx rAy rBx rBy rO (nI P.length) rPx rPy rPd (nI l.length) rFi rLa rOn rLe rRi rHx rHy rHd rKx rKy rKd := by
    intro m
    induction m with
    | zero =>
      intro e rFi rLa rOn l he hS hR hl
      rw [wp_X5_overlay_L189]
      refine ⟨fun _ => ?_, fun z => absurd (nI_le (by omega) (by omega)) z⟩
      have e' : e = es.length := by omega
      subst e'
      refine h _ _ _ l (hS.congr (fun a b => ?_)) (RR_congr hR (fun p i j => ?_)) (by omega)
      · unfold FC Fpc
        constructor
        · rintro (z | z)
          · exact z
          · exact absurd z.2 (by omega)
        · exact Or.inl
      · unfold cF lay; simp
    | succ m ih =>
      intro e rFi rLa rOn l he hS hR hl
      rw [wp_X5_overlay_L189]
      refine ⟨fun z => absurd z (nI_ge (by omega) (by omega)), fun _ => s_rcut hE hW hP (by omega) (h24 e) hS hR hl _ (fun f1 f2 f3 l' k1 k2 k3 => ?_)⟩
      rw [nI_1]
      exact ih (e + 1) f1 f2 f3 l' (by omega) k1 k2 k3
  exact ⟨es.length + 1, key es.length 0 rFi rLa rOn [] (by omega) ⟨List.Pairwise.nil, fun a b => ⟨fun z => absurd z List.not_mem_nil, fun z => by
    rcases z with ⟨e', h1, -⟩ | z
    · omega
    · exact absurd z.2 (by omega)⟩⟩ (fun k ij hk => by simp at hk) (Nat.zero_le _)⟩
/-- what the reference holds of an overlay -/
def RefO (es : List Ed) (P : List Pt) (pcs : List (Nat × Nat)) (rAx rAy rBx rBy rO rPx rPy rPd rFi rLa rOn rLe rRi : Nat → Int32) : Prop := RE rAx rAy rBx rBy es ∧ RW rO es ∧ RP rPx rPy rPd P ∧ RR rFi rLa rOn pcs (lay es P) ∧ RT rLe rRi es P pcs pcs.length
theorem s_rtells {V : Nat → List Vt} {rAx rAy rBx rBy rO : Nat → Int32} (hE : RE rAx rAy rBx rBy (esOf V)) (hW : RW rO (esOf V)) {rPx rPy rPd : Nat → Int32} (hP : RP rPx rPy rPd (gaL (esOf V))) {l : List (Nat × Nat)} {rFi rLa rOn : Nat → Int32} (hS : SP l (Fpc (esOf V) (gaL (esOf V)))) (hR : RR rFi rLa rOn l (lay (esOf V) (gaL (esOf V)))) (hl : l.length ≤ 276) {rS rVx rVy Q rF rMd rLe rRi rHx rHy rHd rKx rKy rKd}
    (h : ∀ rLe rRi, RT rLe rRi (esOf V) (gaL (esOf V)) l l.length → Q (nI l.length) rF rMd (nI (esOf V).length) rAx rAy rBx rBy rO (nI (gaL (esOf V)).length) rPx rPy rPd (nI l.length) rFi rLa rOn rLe rRi rHx rHy rHd rKx rKy rKd) :
    ∃ n, wp_X5_overlay_L210 rS rVx rVy Q n 0 rF rMd (nI (esOf V).length) rAx rAy rBx rBy rO (nI (gaL (esOf V)).length) rPx rPy rPd (nI l.length) rFi rLa rOn rLe rRi rHx rHy rHd rKx rKy rKd := by
  have key : ∀ m k rLe rRi, k + m = l.length → RT rLe rRi (esOf V) (gaL (esOf V)) l k → wp_X5_overlay_L210 rS rVx rVy Q (m + 1) (nI k) rF rMd (nI (esOf V).length) rAx rAy rBx rBy rO (nI (gaL (esOf V)).length) rPx rPy rPd (nI l.length) rFi rLa rOn rLe rRi rHx rHy rHd rKx rKy rKd := by
    intro m
    induction m with
    | zero =>
      intro k rLe rRi hk hT
      rw [wp_X5_overlay_L210]
      refine ⟨fun _ => ?_, fun z => absurd (nI_le (by omega) (by omega)) z⟩
      have e' : k = l.length := by omega
      subst e'
      exact h _ _ hT
    | succ m ih =>
      intro k rLe rRi hk hT
      obtain ⟨⟨i, j⟩, hij⟩ := lg (show k < l.length by omega)
      have hF := (hS.2 i j).mp (List.mem_of_getElem? hij)
      obtain ⟨e, hel, hx⟩ := hF
      obtain ⟨-, n1, n2, -⟩ := nx_iff.mp hx
      obtain ⟨a, ha⟩ := lg (onK_lt n1).1
      obtain ⟨b, hb⟩ := lg (onK_lt n2).1
      rw [wp_X5_overlay_L210]
      refine ⟨fun z => absurd z (nI_ge (by omega) (by omega)), fun _ => s_tell hE hW hP hR (by omega) hij ha hb hT (fun hu p _ => up_par hE.2.1 ha hb hx hu p) _ (fun f1 f2 hT' => ?_)⟩
      rw [nI_1]
      exact ih (k + 1) f1 f2 (by omega) hT'
  exact ⟨l.length + 1, key l.length 0 _ _ (by omega) (fun k ij hk => absurd hk (by omega))⟩
theorem s_rover {rS rVx rVy : Nat → Int32} {V : Nat → List Vt} (hV : RVr rS rVx rVy V) (hK : VOK V) {Q rF rMd rE rAx rAy rBx rBy rO rP rPx rPy rPd rQ rFi rLa rOn rLe rRi rHx rHy rHd rKx rKy rKd}
    (h : ∀ rAx rAy rBx rBy rO rPx rPy rPd rFi rLa rOn rLe rRi rHx rHy rHd rKx rKy rKd l, SP l (Fpc (esOf V) (gaL (esOf V))) → l.length ≤ 276 → RefO (esOf V) (gaL (esOf V)) l rAx rAy rBx rBy rO rPx rPy rPd rFi rLa rOn rLe rRi → Q (nI l.length) 0 1 (nI (esOf V).length) rAx rAy rBx rBy rO (nI (gaL (esOf V)).length) rPx rPy rPd (nI l.length) rFi rLa rOn rLe rRi rHx rHy rHd rKx rKy rKd) :
    wp_X5_overlay rF rS rVx rVy rMd rE rAx rAy rBx rBy rO rP rPx rPy rPd rQ rFi rLa rOn rLe rRi rHx rHy rHd rKx rKy rKd Q := by
  have h0 : (tkE (V 0) 0 []).length ≤ 6 := by
    have := tkF_len (vs := V 0) (p := 0) (es := []) (n := (V 0).length)
    have h2 := (hK 0 (by decide)).1
    rw [List.length_nil] at this
    unfold tkE; omega
  refine ⟨3, ?_⟩
  rw [wp_X5_overlay_L27]
  refine ⟨fun z => absurd z (by decide), fun _ => s_redges hV hK (p := 0) (by decide) (es := []) ⟨Nat.zero_le _, fun q hq => absurd hq List.not_mem_nil, fun e q he => by simp at he⟩ (fun e q he => by simp at he) (Nat.zero_le _) (fun x1 x2 x3 x4 x5 hR1 hW1 => ?_)⟩
  show wp_X5_overlay_L27 _ _ _ _ _ _ (nI 0 + 1) _ _ _ _ _ _ _ _ _ _ _ _ _ _ _ _ _ _ _ _ _ _ _ _
  rw [nI_1, wp_X5_overlay_L27]
  refine ⟨fun z => absurd z (by decide), fun _ => s_redges hV hK (p := 1) (by decide) hR1 hW1 h0 (fun y1 y2 y3 y4 y5 hR2 hW2 => ?_)⟩
  show wp_X5_overlay_L27 _ _ _ _ _ _ (nI 1 + 1) _ _ _ _ _ _ _ _ _ _ _ _ _ _ _ _ _ _ _ _ _ _ _ _
  rw [nI_1, wp_X5_overlay_L27]
  refine ⟨fun _ => ?_, fun z => absurd (by decide) z⟩
  have hE : RE y1 y2 y3 y4 (esOf V) := hR2
  have hW : RW y5 (esOf V) := hW2
  refine s_rgather hE (ga_78 hK hE.1) (fun z1 z2 z3 w1 w2 w3 w4 w5 w6 hP => ?_)
  refine s_rcuts hE hW hP (fun e => on_24 hE.2.1 hE.1 e) (fun f1 f2 f3 l hS hR hl => ?_)
  exact s_rtells hE hW hP hS hR hl (fun g1 g2 hT => h _ _ _ _ _ _ _ _ _ _ _ _ _ _ _ _ _ _ _ l hS hl ⟨hE, hW, hP, hR, hT⟩)
