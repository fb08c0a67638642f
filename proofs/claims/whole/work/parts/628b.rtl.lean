/-! the reference tells the sides -/
abbrev bes (q : Ed) (x y d : Int) : Prop := (if q.2.1 < q.2.2.2.1 then q.2.1 else q.2.2.2.1) * d ≤ y ∧ y < (if q.2.1 < q.2.2.2.1 then q.2.2.2.1 else q.2.1) * d ∧ (if q.2.1 < q.2.2.2.1 then 0 < sdE q x y d else sdE q x y d < 0)
def besB (es : List Ed) (x y d : Int) (e : Nat) : Bool := (es[e]?).any (fun q => decide (bes q x y d))
theorem s_rabove {fX fY lX lY rO : Nat → Int32} {es : List Ed} (hE : RE fX fY lX lY es) (hW : RW rO es) {p : Nat} (hp : p < 2) {x y d : Int64} {X Y D : Int} (hx : R6 x X (2 ^ 40)) (hy : R6 y Y (2 ^ 40)) (hd : R6 d D (2 ^ 34)) (Q : Int32 → Prop) (h : Q (nI (ct (fun e => abB es X Y D e && ownB es p e) es.length))) : wp_X5_above (nI p) x y d (nI es.length) fX fY lX lY rO Q := by
  have hn := hE.1
  have key : ∀ m e, e + m = es.length → wp_X5_above_L6 (nI p) x y d (nI es.length) fX fY lX lY rO Q (m + 1) (nI (ct (fun e => abB es X Y D e && ownB es p e) e)) (nI e) := by
    intro m
    induction m with
    | zero =>
      intro e he
      rw [wp_X5_above_L6]
      refine ⟨fun _ => ?_, fun z => absurd (nI_le (by omega) (by omega)) z⟩
      have : e = es.length := by omega
      subst this; exact h
    | succ m ih =>
      intro e he
      obtain ⟨q, hq⟩ := lg (show e < es.length by omega)
      obtain ⟨h1, h2, h3, h4⟩ := hE.r hq
      have hown : q.2.2.2.2 < 2 := (hE.ok hq).2.2.2.2.2
      have hv := vin (hE.lt hq) (show 12 < 2 ^ 31 by decide)
      have ih2 := ih (e + 1) (by omega)
      have hb : abB es X Y D e = decide (abv q X Y D) := by unfold abB; rw [hq]; rfl
      have ho : ownB es p e = (q.2.2.2.2 == p) := ownB_at hq
      have g1 := h1.i2l.mul hd (by decide)
      have g2 := h3.i2l.mul hd (by decide)
      have no : ¬ (abv q X Y D ∧ q.2.2.2.2 = p) → wp_X5_above_L92 (nI p) x y d (nI es.length) fX fY lX lY rO Q (wp_X5_above_L6 (nI p) x y d (nI es.length) fX fY lX lY rO Q (m + 1)) (nI e) (nI (ct (fun e => abB es X Y D e && ownB es p e) e)) := by
        intro c x94 e94
        rw [show nI (ct (fun e => abB es X Y D e && ownB es p e) e) + 0 = nI (ct (fun e => abB es X Y D e && ownB es p e) e) from by rw [← nI_0, nI_add, Nat.add_zero]] at e94
        rw [e94, nI_1]
        rw [ct, if_neg (by rw [hb, ho, Bool.and_eq_true, decide_eq_true_eq, beq_iff_eq]; exact c), Nat.add_zero] at ih2
        exact ih2
      have no62 : ¬ (abv q X Y D ∧ q.2.2.2.2 = p) → wp_X5_above_L62 (nI p) x y d (nI es.length) fX fY lX lY rO Q (wp_X5_above_L6 (nI p) x y d (nI es.length) fX fY lX lY rO Q (m + 1)) (nI (ct (fun e => abB es X Y D e && ownB es p e) e)) (nI e) := fun c => ⟨fun _ => no c, fun z => absurd rfl z⟩
      rw [wp_X5_above_L6, cl_nI (show e < 2 ^ 31 by omega), hW e q hq, nI_eq (by omega) (by omega), hx.lt g1, g2.le hx]
      refine ⟨fun z => absurd z (nI_ge (by omega) (by omega)), fun _ => ⟨hv, fun c => no62 (fun z => c z.2), fun c0 => ⟨hv, fun c => no62 (fun z => by have := z.1.1; omega), fun c1 => ⟨hv, fun c => no62 (fun z => by have := z.1.2.1; omega), fun c2 => ⟨fun z => absurd z (by decide), fun _ => s_side hE hq hx hy hd _ (fun v hv2 => ⟨fun c => no (fun z => ?_), fun c3 => fun x94 e94 => ?_⟩)⟩⟩⟩⟩⟩
      · have := (R6_0.le hv2).mp c; have := z.1.2.2; omega
      · have c3' := fun z => c3 ((R6_0.le hv2).mpr z)
        rw [nI_1] at e94
        rw [e94, nI_1]
        rw [ct, if_pos (by rw [hb, ho, Bool.and_eq_true, decide_eq_true_eq, beq_iff_eq]; exact ⟨⟨Int.not_lt.mp c1, Int.not_le.mp c2, Int.not_le.mp c3'⟩, c0⟩)] at ih2
        exact ih2
  exact ⟨es.length + 1, key es.length 0 (by omega)⟩
theorem s_rbeside {fX fY lX lY rO : Nat → Int32} {es : List Ed} (hE : RE fX fY lX lY es) (hW : RW rO es) {p : Nat} (hp : p < 2) {x y d : Int64} {X Y D : Int} (hx : R6 x X (2 ^ 40)) (hy : R6 y Y (2 ^ 40)) (hd : R6 d D (2 ^ 34)) (Q : Int32 → Prop) (h : Q (nI (ct (fun e => besB es X Y D e && ownB es p e) es.length))) : wp_X5_beside (nI p) x y d (nI es.length) fX fY lX lY rO Q := by
  have hn := hE.1
  have key : ∀ m e, e + m = es.length → wp_X5_beside_L6 (nI p) x y d (nI es.length) fX fY lX lY rO Q (m + 1) (nI (ct (fun e => besB es X Y D e && ownB es p e) e)) (nI e) := by
    intro m
    induction m with
    | zero =>
      intro e he
      rw [wp_X5_beside_L6]
      refine ⟨fun _ => ?_, fun z => absurd (nI_le (by omega) (by omega)) z⟩
      have : e = es.length := by omega
      subst this; exact h
    | succ m ih =>
      intro e he
      obtain ⟨q, hq⟩ := lg (show e < es.length by omega)
      obtain ⟨h1, h2, h3, h4⟩ := hE.r hq
      have hown : q.2.2.2.2 < 2 := (hE.ok hq).2.2.2.2.2
      have hv := vin (hE.lt hq) (show 12 < 2 ^ 31 by decide)
      have ih2 := ih (e + 1) (by omega)
      have ec := cl_nI (show e < 2 ^ 31 by omega)
      have hb : besB es X Y D e = decide (bes q X Y D) := by unfold besB; rw [hq]; rfl
      have ho : ownB es p e = (q.2.2.2.2 == p) := ownB_at hq
      have no : ¬ (bes q X Y D ∧ q.2.2.2.2 = p) → wp_X5_beside_L196 (nI p) x y d (nI es.length) fX fY lX lY rO Q (wp_X5_beside_L6 (nI p) x y d (nI es.length) fX fY lX lY rO Q (m + 1)) (nI e) (nI (ct (fun e => besB es X Y D e && ownB es p e) e)) := by
        intro c x94 e94
        rw [show nI (ct (fun e => besB es X Y D e && ownB es p e) e) + 0 = nI (ct (fun e => besB es X Y D e && ownB es p e) e) from by rw [← nI_0, nI_add, Nat.add_zero]] at e94
        rw [e94, nI_1]
        rw [ct, if_neg (by rw [hb, ho, Bool.and_eq_true, decide_eq_true_eq, beq_iff_eq]; exact c), Nat.add_zero] at ih2
        exact ih2
      have yes : (bes q X Y D ∧ q.2.2.2.2 = p) → wp_X5_beside_L192 (nI p) x y d (nI es.length) fX fY lX lY rO Q (wp_X5_beside_L6 (nI p) x y d (nI es.length) fX fY lX lY rO Q (m + 1)) (nI e) (nI (ct (fun e => besB es X Y D e && ownB es p e) e)) := by
        intro c x94 e94
        rw [nI_1] at e94
        rw [e94, nI_1]
        rw [ct, if_pos (by rw [hb, ho, Bool.and_eq_true, decide_eq_true_eq, beq_iff_eq]; exact c)] at ih2
        exact ih2
      have no126 : ¬ (bes q X Y D ∧ q.2.2.2.2 = p) → wp_X5_beside_L126 (nI p) x y d (nI es.length) fX fY lX lY rO Q (wp_X5_beside_L6 (nI p) x y d (nI es.length) fX fY lX lY rO Q (m + 1)) (nI (ct (fun e => besB es X Y D e && ownB es p e) e)) (nI e) := fun c => ⟨fun _ => ⟨fun _ => no c, fun z => absurd rfl z⟩, fun z => absurd rfl z⟩
      have t85 : ∀ lo hi : Int32, R3 lo (if q.2.1 < q.2.2.2.1 then q.2.1 else q.2.2.2.1) 30 → R3 hi (if q.2.1 < q.2.2.2.1 then q.2.2.2.1 else q.2.1) 30 → wp_X5_beside_L85 (nI p) x y d (nI es.length) fX fY lX lY rO Q (wp_X5_beside_L6 (nI p) x y d (nI es.length) fX fY lX lY rO Q (m + 1)) (nI (ct (fun e => besB es X Y D e && ownB es p e) e)) (nI e) lo hi := by
        intro lo hi rl rh
        have g1 := rl.i2l.mul hd (by decide)
        have g2 := rh.i2l.mul hd (by decide)
        unfold wp_X5_beside_L85
        rw [ec, hW e q hq, nI_eq (by omega) (by omega), hy.lt g1, g2.le hy]
        refine ⟨hv, fun c => no126 (fun z => c z.2), fun c0 => ⟨fun c => no126 (fun z => by have := z.1.1; omega), fun c1 => ⟨fun c => no126 (fun z => by have := z.1.2.1; omega), fun c2 => ⟨fun z => absurd z (by decide), fun _ => s_side hE hq hx hy hd _ (fun v hv2 => ⟨fun z => absurd z (by decide), fun _ => ⟨hv, hv, ?_⟩⟩)⟩⟩⟩⟩
        rw [ec, h4.le h2, R6_0.le hv2, hv2.le R6_0]
        refine ⟨fun c3 => ⟨fun c4 => no (fun z => ?_), fun c4 => yes ⟨⟨Int.not_lt.mp c1, Int.not_le.mp c2, ?_⟩, c0⟩⟩, fun c3 => ⟨fun c4 => no (fun z => ?_), fun c4 => yes ⟨⟨Int.not_lt.mp c1, Int.not_le.mp c2, ?_⟩, c0⟩⟩⟩
        · have := z.1.2.2; rw [if_neg (by omega)] at this; omega
        · rw [if_neg (by omega)]; omega
        · have := z.1.2.2; rw [if_pos (by omega)] at this; omega
        · rw [if_pos (by omega)]; omega
      have t49 : ∀ lo : Int32, R3 lo (if q.2.1 < q.2.2.2.1 then q.2.1 else q.2.2.2.1) 30 → wp_X5_beside_L49 (nI p) x y d (nI es.length) fX fY lX lY rO Q (wp_X5_beside_L6 (nI p) x y d (nI es.length) fX fY lX lY rO Q (m + 1)) (nI (ct (fun e => besB es X Y D e && ownB es p e) e)) (nI e) lo := by
        intro lo rl
        unfold wp_X5_beside_L49
        rw [ec, h4.le h2]
        refine ⟨hv, hv, fun c => ⟨hv, t85 _ _ rl ?_⟩, fun c => ⟨hv, t85 _ _ rl ?_⟩⟩
        · rw [if_neg (by omega)]; exact h2
        · rw [if_pos (by omega)]; exact h4
      rw [wp_X5_beside_L6, ec, h4.le h2]
      refine ⟨fun z => absurd z (nI_ge (by omega) (by omega)), fun _ => ⟨hv, hv, fun c => ⟨hv, t49 _ ?_⟩, fun c => ⟨hv, t49 _ ?_⟩⟩⟩
      · rw [if_neg (by omega)]; exact h4
      · rw [if_pos (by omega)]; exact h2
  exact ⟨es.length + 1, key es.length 0 (by omega)⟩
theorem vnb : ∀ a, a < 2 → vp_nar .boolean (nI a) = nI a := by decide
def RT (rLe rRi : Nat → Int32) (es : List Ed) (P : List Pt) (l : List (Nat × Nat)) (m : Nat) : Prop := ∀ k ij, k < m → l[k]? = some ij → ∀ p, p < 2 → rLe (2 * k + p) = nI (lef es P p ij.1 ij.2) ∧ rRi (2 * k + p) = nI (rig es P p ij.1 ij.2)
theorem s_tell {fX fY lX lY rO : Nat → Int32} {es : List Ed} (hE : RE fX fY lX lY es) (hW : RW rO es) {pX pY pD : Nat → Int32} {P : List Pt} (hP : RP pX pY pD P) {rFi rLa rOn rLe rRi : Nat → Int32} {l : List (Nat × Nat)} (hR : RR rFi rLa rOn l (lay es P)) (hl : l.length ≤ 300) {k i j : Nat} {a b : Pt} (hk : l[k]? = some (i, j)) (hi : P[i]? = some a) (hj : P[j]? = some b) (hT : RT rLe rRi es P l k)
    (hup : a.1 * b.2.2 = b.1 * a.2.2 → ∀ p, p < 2 → ct (fun e => besB es (mdP a b).1 (mdP a b).2.1 (mdP a b).2.2 e && ownB es p e) es.length % 2 = neaM es p (mdP a b)) (Q : (Nat → Int32) → (Nat → Int32) → Prop) (h : ∀ rLe rRi, RT rLe rRi es P l (k + 1) → Q rLe rRi) : wp_X5_tell (nI k) (nI es.length) fX fY lX lY rO pX pY pD rFi rLa rOn rLe rRi Q := by
  have hn := hE.1
  have hkl := lgl hk
  have ra := hP.r hi
  have rb := hP.r hj
  have li := hP.lt hi
  have lj := hP.lt hj
  have vi := vin (show i < 80 by omega) (show 80 < 2 ^ 31 by decide)
  have vj := vin (show j < 80 by omega) (show 80 < 2 ^ 31 by decide)
  have vk := vin (show k < 300 by omega) (show 300 < 2 ^ 31 by decide)
  have ei := cl_nI (show i < 2 ^ 31 by omega)
  have ej := cl_nI (show j < 2 ^ 31 by omega)
  obtain ⟨m1, m2, m3⟩ := mdP_R ra rb
  have u1 := ra.1.i2l.mul rb.2.2.i2l (by decide)
  have u2 := rb.1.i2l.mul ra.2.2.i2l (by decide)
  obtain ⟨g1, g2, g3, g4, g5⟩ := hR k (i, j) hk
  dsimp only at g3 g4 g5
  have hu := upr_at hi hj
  have t183 : ∀ n p c v4 v6 v8 v10 f g, p < 2 → c ≤ 12 → c % 2 = nea es P p i j → v10 = (if upr P i j then 1 else 0) →
      wp_X5_tell_L145 (nI k) (nI es.length) fX fY lX lY rO pX pY pD rFi rLa rOn Q n v4 v6 v8 v10 (nI (p + 1)) (upd f (2 * k + p) (nI (lef es P p i j))) (upd g (2 * k + p) (nI (rig es P p i j))) →
      wp_X5_tell_L183 (nI k) (nI es.length) fX fY lX lY rO pX pY pD rFi rLa rOn Q (wp_X5_tell_L145 (nI k) (nI es.length) fX fY lX lY rO pX pY pD rFi rLa rOn Q n) v4 v6 v8 v10 (nI p) (nI c) f g := by
    intro n p c v4 v6 v8 v10 f g hp hc hcn hv10 hcont
    have hlay := lay_le (es := es) (P := P) (p := p) (i := i) (j := j)
    have hnl := nea_lt (es := es) (P := P) (p := p) (i := i) (j := j)
    have v600 := vin (show 2 * k + p < 600 by omega) (show 600 < 2 ^ 31 by decide)
    have t225 : ∀ z13 z0 : Int32, z13 = nI (nea es P p i j) → z0 = nI ((nea es P p i j + lay es P p i j) % 2) → wp_X5_tell_L225 (nI k) (nI es.length) fX fY lX lY rO pX pY pD rFi rLa rOn Q (wp_X5_tell_L145 (nI k) (nI es.length) fX fY lX lY rO pX pY pD rFi rLa rOn Q n) v4 v6 v8 v10 (nI p) z13 z0 f g := by
      intro z13 z0 e13 e0
      have hfl := Nat.mod_lt (nea es P p i j + lay es P p i j) (show 0 < 2 by decide)
      unfold wp_X5_tell_L225
      rw [t2, nI_add]
      by_cases cu : upr P i j = true
      · rw [if_pos cu] at hv10
        refine ⟨fun z => absurd z (by rw [hv10]; decide), fun _ => ⟨v600, fun y249 e249 => ⟨fun z => absurd z (by rw [hv10]; decide), fun _ => ?_⟩⟩⟩
        rw [t2, nI_add]
        refine ⟨v600, fun y272 e272 => ?_⟩
        rw [cl_nI (show 2 * k + p < 2 ^ 31 by omega), e0, vnb _ hfl] at e249
        rw [cl_nI (show 2 * k + p < 2 ^ 31 by omega), e13, vnb _ hnl] at e272
        rw [e249, e272, nI_1]
        unfold lef rig at hcont
        rw [if_pos cu, if_pos cu] at hcont
        exact hcont
      · rw [if_neg cu] at hv10
        refine ⟨fun _ => ⟨v600, fun y249 e249 => ⟨fun _ => ?_, fun z => absurd hv10 z⟩⟩, fun z => absurd hv10 z⟩
        rw [t2, nI_add]
        refine ⟨v600, fun y272 e272 => ?_⟩
        rw [cl_nI (show 2 * k + p < 2 ^ 31 by omega), e13, vnb _ hnl] at e249
        rw [cl_nI (show 2 * k + p < 2 ^ 31 by omega), e0, vnb _ hfl] at e272
        rw [e249, e272, nI_1]
        unfold lef rig at hcont
        rw [if_neg cu, if_neg cu] at hcont
        exact hcont
    have t198 : ∀ z0 : Int32, z0 = nI (nea es P p i j) → wp_X5_tell_L198 (nI k) (nI es.length) fX fY lX lY rO pX pY pD rFi rLa rOn Q (wp_X5_tell_L145 (nI k) (nI es.length) fX fY lX lY rO pX pY pD rFi rLa rOn Q n) v4 v6 v8 v10 (nI p) (nI c) z0 f g := by
      intro z0 e0
      unfold wp_X5_tell_L198
      rw [t2, nI_add, cl_nI (show 2 * k + p < 2 ^ 31 by omega), g5 p hp, nI_add, show (2 : Int32) = nI 2 by decide, pk_rem (by omega) (by decide) (by decide), show (1 : Int32) = nI 1 by decide, nI_eq (by omega) (by decide)]
      refine ⟨v600, by decide, fun z => t225 _ _ e0 ?_, fun z => t225 _ _ e0 ?_⟩
      · rw [← nI_0]; congr 1; omega
      · congr 1; omega
    unfold wp_X5_tell_L183
    rw [show (2 : Int32) = nI 2 by decide, pk_rem (by omega) (by decide) (by decide), show (1 : Int32) = nI 1 by decide, nI_eq (by omega) (by decide), hcn]
    refine ⟨by decide, fun z => t198 _ ?_, fun z => t198 _ ?_⟩
    · rw [← nI_0]; congr 1; omega
    · rw [z]
  have loop : ∀ v10, v10 = (if upr P i j then 1 else 0) → ∀ x33 x66 x99, R6 x66 (mdP a b).1 (2 ^ 40) → R6 x99 (mdP a b).2.1 (2 ^ 40) → R6 x33 (mdP a b).2.2 (2 ^ 34) → wp_X5_tell_L140 (nI k) (nI es.length) fX fY lX lY rO pX pY pD rFi rLa rOn Q x33 x66 x99 v10 rLe rRi := by
    intro v10 hv10 x33 x66 x99 r66 r99 r33
    have it : ∀ n p f g, p < 2 → wp_X5_tell_L145 (nI k) (nI es.length) fX fY lX lY rO pX pY pD rFi rLa rOn Q n x33 x66 x99 v10 (nI (p + 1)) (upd f (2 * k + p) (nI (lef es P p i j))) (upd g (2 * k + p) (nI (rig es P p i j))) → wp_X5_tell_L145 (nI k) (nI es.length) fX fY lX lY rO pX pY pD rFi rLa rOn Q (n + 1) x33 x66 x99 v10 (nI p) f g := by
      intro n p f g hp hcont
      rw [wp_X5_tell_L145]
      refine ⟨fun z => absurd z (by rw [show (2 : Int32) = nI 2 by decide]; exact nI_ge hp (by decide)), fun _ => ⟨fun z => ?_, fun z => ?_⟩⟩
      · refine s_rabove hE hW hp r66 r99 r33 _ (t183 n p _ _ _ _ _ f g hp (Nat.le_trans (ct_le _ _) hn) ?_ hv10 hcont)
        rw [nea_at hi hj]; rfl
      · refine s_rbeside hE hW hp r66 r99 r33 _ (t183 n p _ _ _ _ _ f g hp (Nat.le_trans (ct_le _ _) hn) ?_ hv10 hcont)
        rw [nea_at hi hj]
        refine hup ?_ p hp
        by_cases cu : upr P i j = true
        · rw [hu] at cu; exact of_decide_eq_true cu
        · rw [if_neg cu] at hv10; exact absurd hv10 z
    refine ⟨3, it 2 0 _ _ (by decide) (it 1 1 _ _ (by decide) ?_)⟩
    rw [wp_X5_tell_L145]
    refine ⟨fun _ => h _ _ (fun k' ij hk' hg p hp => ?_), fun z => absurd (by decide) z⟩
    by_cases ck : k' = k
    · subst ck
      rw [hk] at hg; injection hg with hg; subst hg
      rcases (show p = 0 ∨ p = 1 by omega) with rfl | rfl
      · refine ⟨?_, ?_⟩
        · rw [pk_un (by omega), pk_us]
        · rw [pk_un (by omega), pk_us]
      · rw [pk_us, pk_us]; exact ⟨rfl, rfl⟩
    · rw [pk_un (by omega), pk_un (by omega), pk_un (by omega), pk_un (by omega)]
      exact hT k' ij (by omega) hg p hp
  unfold wp_X5_tell
  rw [cl_nI (show k < 2 ^ 31 by omega), g3, g4]
  refine ⟨vk, fun x6 e6 => ⟨vk, fun x13 e13 => ?_⟩⟩
  subst e6 e13
  rw [ei, ej]
  refine ⟨vi, vj, fun x33 e33 => ⟨vi, vj, vj, vi, fun x66 e66 => ⟨vi, vj, vj, vi, fun x99 e99 => ⟨vi, vj, vj, vi, fun z => ?_, fun z => ?_⟩⟩⟩⟩
  · subst e33 e66 e99
    refine loop _ ?_ _ _ _ m1 m2 m3
    rw [u1.eq u2] at z
    rw [hu, if_neg (by simpa using z)]
  · subst e33 e66 e99
    refine loop _ ?_ _ _ _ m1 m2 m3
    rw [u1.eq u2] at z
    rw [hu, if_pos (by simpa using z)]
