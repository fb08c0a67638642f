/-! the ray up and the ray to the right -/
theorem ray_c {p q u v d : Int} (hd : 0 < d) (hp : 0 ≤ p) (hn : 0 ≤ u → u < p * d → 0 ≤ v → v < q * d → p * v ≠ q * u) :
    (((0 ≤ u ∧ u < p * d ∧ p * v < q * u) ↔ ((0 < q ∧ 0 ≤ v ∧ v < q * d ∧ q * u < p * v) ∨ (¬ 0 < q ∧ q * d ≤ v ∧ v < 0 ∧ p * v < q * u))) ↔ ((u < 0 ∧ v < 0) ↔ (u < p * d ∧ v < q * d))) := by
  have k3 : p * (q * d) = q * (p * d) := by grind
  have f1 : p * d ≤ u → 0 < q → v < q * d → p * v ≤ q * u := fun hu hq hv => by
    have k1 := Int.mul_le_mul_of_nonneg_left (Int.le_of_lt hv) hp
    have k2 := Int.mul_le_mul_of_nonneg_left hu (Int.le_of_lt hq)
    omega
  have f2 : p * d ≤ u → ¬ 0 < q → q * d ≤ v → q * u ≤ p * v := fun hu hq hv => by
    have k1 := Int.mul_le_mul_of_nonneg_left hv hp
    have k2 := Int.mul_le_mul_of_nonneg_left hu (show 0 ≤ -q by omega)
    rw [Int.neg_mul, Int.neg_mul] at k2
    omega
  have f3 : u < 0 → 0 < q → 0 ≤ v → q * u < p * v := fun hu hq hv => by
    have k1 := Int.mul_nonneg hp hv
    have k2 := Int.mul_neg_of_pos_of_neg hq hu
    omega
  have f7 : 0 < q ↔ 0 < q * d := by rw [Int.mul_comm q d]; exact (pm_po hd).symm
  have f8 : q < 0 ↔ q * d < 0 := by rw [Int.mul_comm q d]; exact (pm_ng hd).symm
  have f4 : u < 0 → ¬ 0 < q → q * d ≤ v → v < 0 → p * v < q * u := fun hu hq hv hv2 => by
    have k1 := Int.mul_nonneg hp (show 0 ≤ -v by omega)
    rw [Int.mul_neg] at k1
    have k2 := Int.mul_pos_of_neg_of_neg (show q < 0 by omega) hu
    omega
  have f5 : 0 ≤ u → u < p * d → 0 ≤ v → q * d ≤ v → q * u ≤ p * v := fun h0 hu hv hv2 => by
    have k1 := Int.mul_nonneg hp hv
    by_cases c : 0 < q
    · have k2 := Int.mul_le_mul_of_nonneg_left (Int.le_of_lt hu) (Int.le_of_lt c)
      have k4 := Int.mul_le_mul_of_nonneg_left hv2 hp
      omega
    · have k2 := Int.mul_nonneg (show 0 ≤ -q by omega) h0
      rw [Int.neg_mul] at k2
      omega
  have f6 : 0 ≤ u → u < p * d → v < 0 → v < q * d → p * v < q * u := fun h0 hu hv hv2 => by
    have hpp : 0 < p := by
      rcases (show p = 0 ∨ 0 < p by omega) with c | c
      · rw [c, Int.zero_mul] at hu; omega
      · exact c
    by_cases c : 0 ≤ q
    · have k1 := Int.mul_neg_of_pos_of_neg hpp hv
      have k2 := Int.mul_nonneg c h0
      omega
    · have k2 := Int.mul_le_mul_of_nonneg_left (Int.le_of_lt hu) (show 0 ≤ -q by omega)
      rw [Int.neg_mul, Int.neg_mul] at k2
      have k4 := Int.mul_lt_mul_of_pos_left hv2 hpp
      omega
  have f9 : 0 ≤ p * d := Int.mul_nonneg hp (Int.le_of_lt hd)
  clear k3
  generalize p * v = a at *
  generalize q * u = b at *
  generalize p * d = c at *
  generalize q * d = e at *
  by_cases c0 : 0 < q
  · have := f7.mp c0
    by_cases c1 : 0 ≤ u <;> by_cases c2 : u < c <;> by_cases c3 : 0 ≤ v <;> by_cases c4 : v < e <;> simp only [c0, c1, c2, c3, c4, true_and, and_true, false_and, and_false, not_true_eq_false, or_false, false_or, true_iff, iff_true, false_iff, iff_false, Decidable.not_not] <;> omega
  · have : ¬ 0 < e := fun z => c0 (f7.mpr z)
    by_cases c1 : 0 ≤ u <;> by_cases c2 : u < c <;> by_cases c3 : v < 0 <;> by_cases c4 : e ≤ v <;> simp only [c0, c1, c2, c3, c4, true_and, and_true, false_and, and_false, not_false_eq_true, or_false, false_or, true_iff, iff_true, false_iff, iff_false, Decidable.not_not] <;> omega
def qB (x y d u w : Int) : Nat := if x < u * d ∧ y < w * d then 1 else 0
theorem par4 {A B C D : Prop} [Decidable A] [Decidable B] [Decidable C] [Decidable D] (h : (A ↔ B) ↔ (C ↔ D)) : ((if A then 1 else 0) + (if B then 1 else 0) + ((if C then 1 else 0) + (if D then 1 else 0))) % 2 = 0 := by
  by_cases a : A <;> by_cases b : B <;> by_cases c : C <;> by_cases d : D <;> simp [a, b, c, d] at h ⊢
theorem ray_e {q : Ed} (hq : EdOK q) {x y d : Int} (hd : 0 < d) (hn : q.1 * d ≤ x → x < q.2.2.1 * d → q.2.1 * d ≤ y → y < q.2.2.2.1 * d → sdE q x y d ≠ 0) :
    ((if abv q x y d then 1 else 0) + (if bes q x y d then 1 else 0) + (qB x y d q.1 q.2.1 + qB x y d q.2.2.1 q.2.2.2.1)) % 2 = 0 := by
  obtain ⟨ax, ay, bx, bz, o⟩ := q
  have hl := hq.2.2.2.2.1
  dsimp only at hl hn
  have e1 : (bx - ax) * d = bx * d - ax * d := Int.sub_mul _ _ _
  have e2 : (bz - ay) * d = bz * d - ay * d := Int.sub_mul _ _ _
  have es : sd ax ay bx bz x y d = (bx - ax) * (y - ay * d) - (bz - ay) * (x - ax * d) := rfl
  have hs : sdE (ax, ay, bx, bz, o) x y d = (bx - ax) * (y - ay * d) - (bz - ay) * (x - ax * d) := rfl
  rw [hs] at hn
  have key := ray_c (p := bx - ax) (q := bz - ay) (u := x - ax * d) (v := y - ay * d) hd (by unfold lxe at hl; omega) (fun h1 h2 h3 h4 h5 => hn (by omega) (by omega) (by omega) (by omega) (by omega))
  rw [e1, e2] at key
  have ha : abv (ax, ay, bx, bz, o) x y d ↔ (0 ≤ x - ax * d ∧ x - ax * d < bx * d - ax * d ∧ (bx - ax) * (y - ay * d) < (bz - ay) * (x - ax * d)) := by
    show (ax * d ≤ x ∧ x < bx * d ∧ sdE (ax, ay, bx, bz, o) x y d < 0) ↔ _
    rw [hs]; omega
  have hb : bes (ax, ay, bx, bz, o) x y d ↔ ((0 < bz - ay ∧ 0 ≤ y - ay * d ∧ y - ay * d < bz * d - ay * d ∧ (bz - ay) * (x - ax * d) < (bx - ax) * (y - ay * d)) ∨ (¬ 0 < bz - ay ∧ bz * d - ay * d ≤ y - ay * d ∧ y - ay * d < 0 ∧ (bx - ax) * (y - ay * d) < (bz - ay) * (x - ax * d))) := by
    show ((if ay < bz then ay else bz) * d ≤ y ∧ y < (if ay < bz then bz else ay) * d ∧ (if ay < bz then 0 < sdE (ax, ay, bx, bz, o) x y d else sdE (ax, ay, bx, bz, o) x y d < 0)) ↔ _
    rw [hs]
    by_cases c : ay < bz
    · rw [if_pos c, if_pos c, if_pos c]; omega
    · rw [if_neg c, if_neg c, if_neg c]; omega
  have h1 : qB x y d ax ay = if (x - ax * d < 0 ∧ y - ay * d < 0) then 1 else 0 := by
    unfold qB
    by_cases c : x < ax * d ∧ y < ay * d
    · rw [if_pos c, if_pos (by omega)]
    · rw [if_neg c, if_neg (by omega)]
  have h2 : qB x y d bx bz = if (x - ax * d < bx * d - ax * d ∧ y - ay * d < bz * d - ay * d) then 1 else 0 := by
    unfold qB
    by_cases c : x < bx * d ∧ y < bz * d
    · rw [if_pos c, if_pos (by omega)]
    · rw [if_neg c, if_neg (by omega)]
  show ((if abv (ax, ay, bx, bz, o) x y d then 1 else 0) + (if bes (ax, ay, bx, bz, o) x y d then 1 else 0) + (qB x y d ax ay + qB x y d bx bz)) % 2 = 0
  rw [h1, h2]
  rw [← ha, ← hb] at key
  exact par4 key
/-! all edges' ends, counted for a polygon: even -/
def sT (x y d : Int) (p : Nat) (es : List Ed) (e : Nat) : Nat := match es[e]? with
  | some q => if q.2.2.2.2 = p then qB x y d q.1 q.2.1 + qB x y d q.2.2.1 q.2.2.2.1 else 0
  | none => 0
def sN (x y d : Int) (p : Nat) (es : List Ed) : Nat → Nat
  | 0 => 0
  | n + 1 => sN x y d p es n + sT x y d p es n
theorem ray_n {es : List Ed} (hok : ∀ q ∈ es, EdOK q) {x y d : Int} (hd : 0 < d) (hn : ∀ q ∈ es, q.1 * d ≤ x → x < q.2.2.1 * d → q.2.1 * d ≤ y → y < q.2.2.2.1 * d → sdE q x y d ≠ 0) (p : Nat) : ∀ n, (ct (fun e => abB es x y d e && ownB es p e) n + ct (fun e => besB es x y d e && ownB es p e) n + sN x y d p es n) % 2 = 0
  | 0 => rfl
  | n + 1 => by
    have ih := ray_n hok hd hn p n
    rw [ct, ct, sN]
    unfold sT
    cases hq : es[n]? with
    | none =>
      have h1 : abB es x y d n = false := by unfold abB; rw [hq]; rfl
      have h2 : besB es x y d n = false := by unfold besB; rw [hq]; rfl
      rw [h1, h2]; simp only [Bool.false_and, Bool.false_eq_true, if_false]
      omega
    | some q =>
      have hm := List.mem_of_getElem? hq
      have h1 : abB es x y d n = decide (abv q x y d) := by unfold abB; rw [hq]; rfl
      have h2 : besB es x y d n = decide (bes q x y d) := by unfold besB; rw [hq]; rfl
      rw [h1, h2, ownB_at hq]
      have hr := ray_e (hok q hm) hd (hn q hm)
      by_cases c : q.2.2.2.2 = p
      · have c' : (q.2.2.2.2 == p) = true := beq_iff_eq.mpr c
        simp only [c', Bool.and_true, decide_eq_true_eq]
        rw [if_pos c]
        omega
      · have c' : (q.2.2.2.2 == p) = false := Bool.eq_false_iff.mpr (fun z => c (beq_iff_eq.mp z))
        simp only [c', Bool.and_false, Bool.false_eq_true, if_false]
        rw [if_neg c]
        omega
theorem sN_push {x y d : Int} {p : Nat} {es : List Ed} {q : Ed} : ∀ {n : Nat}, n ≤ es.length → sN x y d p (es ++ [q]) n = sN x y d p es n
  | 0, _ => rfl
  | n + 1, h => by
    rw [sN, sN, sN_push (by omega)]
    congr 1
    unfold sT
    rw [push_get, if_pos (by omega)]
theorem sN_addE {x y d : Int} {p p' : Nat} {u v : Vt} {es : List Ed} : sN x y d p (addE p' u v es) (addE p' u v es).length % 2 = (sN x y d p es es.length + (if p' = p then qB x y d u.1 u.2 + qB x y d v.1 v.2 else 0)) % 2 := by
  unfold addE
  by_cases c : u = v
  · rw [if_pos c]
    subst c
    split <;> omega
  · rw [if_neg c, List.length_append, List.length_singleton, sN, sN_push (Nat.le_refl _)]
    have hT : sT x y d p (es ++ [mkE p' u v]) es.length = if p' = p then qB x y d u.1 u.2 + qB x y d v.1 v.2 else 0 := by
      have hg : (es ++ [mkE p' u v])[es.length]? = some (mkE p' u v) := by rw [push_get]; simp
      unfold sT
      rw [hg]
      unfold mkE
      by_cases c2 : lxe u.1 u.2 v.1 v.2
      · simp only [if_pos c2]
      · simp only [if_neg c2]
        by_cases c3 : p' = p
        · rw [if_pos c3, if_pos c3]; omega
        · rw [if_neg c3, if_neg c3]
    rw [hT]
def wQv (x y d : Int) (vs : List Vt) (k : Nat) : Nat := match vs[k]? with
  | some v => qB x y d v.1 v.2
  | none => 0
theorem wQv_at {x y d : Int} {vs : List Vt} {k : Nat} {v : Vt} (h : vs[k]? = some v) : wQv x y d vs k = qB x y d v.1 v.2 := by unfold wQv; rw [h]
theorem sN_tkF {x y d : Int} {p p' : Nat} {vs : List Vt} {es : List Ed} : ∀ {n : Nat}, n ≤ vs.length → sN x y d p (tkF vs p' es n) (tkF vs p' es n).length % 2 = (sN x y d p es es.length + (if p' = p then wQv x y d vs 0 + wQv x y d vs (n % vs.length) else 0)) % 2
  | 0, _ => by
    rw [tkF, Nat.zero_mod]
    split <;> omega
  | n + 1, h => by
    have ih := sN_tkF (x := x) (y := y) (d := d) (p := p) (p' := p') (vs := vs) (es := es) (n := n) (by omega)
    obtain ⟨u, hu⟩ := lg (show n < vs.length by omega)
    obtain ⟨v, hv⟩ := lg (Nat.mod_lt (n + 1) (show 0 < vs.length by omega))
    rw [tkF_at hu hv, sN_addE]
    rw [Nat.mod_eq_of_lt (show n < vs.length by omega), wQv_at hu] at ih
    rw [wQv_at hv]
    by_cases c : p' = p
    · rw [if_pos c] at ih ⊢
      rw [if_pos c]
      omega
    · rw [if_neg c] at ih ⊢
      rw [if_neg c]
      omega
theorem sN_tkE {x y d : Int} {p p' : Nat} {vs : List Vt} {es : List Ed} : sN x y d p (tkE vs p' es) (tkE vs p' es).length % 2 = sN x y d p es es.length % 2 := by
  unfold tkE
  rw [sN_tkF (Nat.le_refl _), Nat.mod_self]
  split <;> omega
theorem sN_esOf {x y d : Int} {p : Nat} {V : Nat → List Vt} : sN x y d p (esOf V) (esOf V).length % 2 = 0 := by
  unfold esOf
  rw [sN_tkE, sN_tkE]
  rfl
/-! places in the row -/
theorem srt_at {l : List Pt} (h : srt l) {i k : Nat} {a m : Pt} (hi : l[i]? = some a) (hk : l[k]? = some m) (hlt : i < k) : plt a m := by
  have := List.pairwise_iff_getElem.mp h.1 i k (lgl hi) (lgl hk) hlt
  rw [List.getElem?_eq_getElem (lgl hi)] at hi
  rw [List.getElem?_eq_getElem (lgl hk)] at hk
  injection hi with hi
  injection hk with hk
  rw [hi, hk] at this
  exact this
theorem srt_lt {l : List Pt} (h : srt l) {i k : Nat} {a m : Pt} (hi : l[i]? = some a) (hk : l[k]? = some m) (hlt : plt a m) : i < k := by
  rcases Nat.lt_trichotomy i k with c | c | c
  · exact c
  · subst c; rw [hi] at hk; injection hk with hk; subst hk; exact absurd hlt plt_irr
  · have := srt_at h hk hi c
    unfold plt lxlt at this hlt; omega
/-- a point on two edges that are not parallel is in the row -/
theorem meet_in {es : List Ed} {a b : Nat} {q r : Ed} (ha : es[a]? = some q) (hb : es[b]? = some r) (hd : dtE q r ≠ 0) {p : Pt} (hp : 0 < p.2.2) (h1 : onP q p) (h2 : onP r p) : ∃ (k : Nat) (m : Pt), (gaL es)[k]? = some m ∧ peq m p := by
  have hm : red (rdc p.1 p.2.1 p.2.2) := rdc_red hp
  have he : peq (rdc p.1 p.2.1 p.2.2) p := rdc_peq
  have g1 : onP q (rdc p.1 p.2.1 p.2.2) := onP_peq hp hm.1 (peq_sym he) h1
  have g2 : onP r (rdc p.1 p.2.1 p.2.2) := onP_peq hp hm.1 (peq_sym he) h2
  have hd' : dtE r q ≠ 0 := by
    have : dtE r q = - dtE q r := by unfold dtE dt; grind
    omega
  have m1 := mR_uni hd hm g1 g2
  have m2 := mR_uni hd' hm g2 g1
  have hmem : rdc p.1 p.2.1 p.2.2 ∈ gaL es := by
    rw [gaL_mem]
    rcases Nat.lt_trichotomy a b with c | c | c
    · exact ⟨b, r, hb, Or.inr (Or.inr ⟨a, q, c, ha, m2.2, m2.1⟩)⟩
    · subst c
      rw [ha] at hb; injection hb with hb; subst hb
      exfalso; apply hd
      unfold dtE dt; grind
    · exact ⟨a, q, ha, Or.inr (Or.inr ⟨b, r, c, hb, m1.2, m1.1⟩)⟩
  obtain ⟨k, hk⟩ := List.mem_iff_getElem?.mp hmem
  exact ⟨k, _, hk, he⟩
theorem md_pos {a b : Pt} (ha : 0 < a.2.2) (hb : 0 < b.2.2) : 0 < (mdP a b).2.2 := by
  show 0 < 2 * a.2.2 * b.2.2
  exact Int.mul_pos (Int.mul_pos (by decide) ha) hb
theorem md_lt {a b : Pt} (ha : 0 < a.2.2) (hb : 0 < b.2.2) (h : plt a b) : plt a (mdP a b) ∧ plt (mdP a b) b := by
  obtain ⟨x, y, d⟩ := a
  obtain ⟨z, w, e⟩ := b
  dsimp only at ha hb
  have h' : x * e < z * d ∨ (x * e = z * d ∧ y * e < w * d) := h
  have g (s t : Int) : s * (2 * d * e) = d * (2 * (s * e)) ∧ (s * e + t * d) * d = d * (s * e + t * d) ∧ (s * e + t * d) * e = e * (s * e + t * d) ∧ t * (2 * d * e) = e * (2 * (t * d)) := by
    refine ⟨?_, ?_, ?_, ?_⟩ <;> grind
  constructor
  · show x * (2 * d * e) < (x * e + z * d) * d ∨ (x * (2 * d * e) = (x * e + z * d) * d ∧ y * (2 * d * e) < (y * e + w * d) * d)
    rw [(g x z).1, (g x z).2.1, (g y w).1, (g y w).2.1, pm_lt ha, pm_lt ha, pm_eq (by omega)]
    omega
  · show (x * e + z * d) * e < z * (2 * d * e) ∨ ((x * e + z * d) * e = z * (2 * d * e) ∧ (y * e + w * d) * e < w * (2 * d * e))
    rw [(g x z).2.2.1, (g x z).2.2.2, (g y w).2.2.1, (g y w).2.2.2, pm_lt hb, pm_lt hb, pm_eq (by omega)]
    omega
theorem md_sd {r : Ed} {a b : Pt} (h1 : sdE r a.1 a.2.1 a.2.2 = 0) (h2 : sdE r b.1 b.2.1 b.2.2 = 0) : sdE r (mdP a b).1 (mdP a b).2.1 (mdP a b).2.2 = 0 := by
  have e : sdE r (mdP a b).1 (mdP a b).2.1 (mdP a b).2.2 = b.2.2 * sdE r a.1 a.2.1 a.2.2 + a.2.2 * sdE r b.1 b.2.1 b.2.2 := by
    unfold sdE sd mdP; grind
  rw [e, h1, h2]; simp
theorem md_on {r : Ed} {a b : Pt} (ha : 0 < a.2.2) (hb : 0 < b.2.2) (h : plt a b) (h1 : onP r a) (h2 : onP r b) : onP r (mdP a b) := by
  have hm := md_pos ha hb
  obtain ⟨l1, l2⟩ := md_lt ha hb h
  exact ⟨md_sd h1.1 h2.1, ple_tr (p := fi r) Int.one_pos ha hm h1.2.1 (plt_ple l1), ple_tr (r := la r) hm hb Int.one_pos (plt_ple l2) h2.2.2⟩
/-- in the middle of an upright piece the two rays agree -/
theorem up_par {V : Nat → List Vt} (hok : ∀ q ∈ esOf V, EdOK q) {i j e : Nat} {a b : Pt} (hi : (gaL (esOf V))[i]? = some a) (hj : (gaL (esOf V))[j]? = some b) (hx : nx (esOf V) (gaL (esOf V)) i j e = true) (hu : a.1 * b.2.2 = b.1 * a.2.2) (p : Nat) : ct (fun e => besB (esOf V) (mdP a b).1 (mdP a b).2.1 (mdP a b).2.2 e && ownB (esOf V) p e) (esOf V).length % 2 = neaM (esOf V) p (mdP a b) := by
  generalize hes : esOf V = es at *
  have hS : srt (gaL es) := gaF_srt
  obtain ⟨hij, n1, n2, n3⟩ := nx_iff.mp hx
  obtain ⟨r, hr⟩ := lg (onK_lt n1).2
  have hrok := hok r (List.mem_of_getElem? hr)
  rw [onK_at hr hi, decide_eq_true_eq] at n1
  rw [onK_at hr hj, decide_eq_true_eq] at n2
  have ra := (hS.2 a (List.mem_of_getElem? hi)).1
  have rb := (hS.2 b (List.mem_of_getElem? hj)).1
  have hab := srt_at hS hi hj hij
  have hm := md_pos ra rb
  have hon := md_on ra rb hab n1 n2
  obtain ⟨l1, l2⟩ := md_lt ra rb hab
  have hvert : r.2.2.1 - r.1 = 0 := by
    have s1 : sdE r a.1 a.2.1 a.2.2 = 0 := n1.1
    have s2 : sdE r b.1 b.2.1 b.2.2 = 0 := n2.1
    have hy : a.2.1 * b.2.2 - b.2.1 * a.2.2 ≠ 0 := by
      have hab' : a.1 * b.2.2 < b.1 * a.2.2 ∨ (a.1 * b.2.2 = b.1 * a.2.2 ∧ a.2.1 * b.2.2 < b.2.1 * a.2.2) := hab
      omega
    have hz : (a.2.1 * b.2.2 - b.2.1 * a.2.2) * (r.2.2.1 - r.1) = 0 := by
      have e1 : b.2.2 * sdE r a.1 a.2.1 a.2.2 - a.2.2 * sdE r b.1 b.2.1 b.2.2 = (a.2.1 * b.2.2 - b.2.1 * a.2.2) * (r.2.2.1 - r.1) - (r.2.2.2.1 - r.2.1) * (a.1 * b.2.2 - b.1 * a.2.2) := by
        unfold sdE sd; grind
      rw [s1, s2, hu, Int.sub_self, Int.mul_zero, Int.mul_zero, Int.mul_zero] at e1
      omega
    exact (pm_z hy).mp hz
  have hno : ∀ q ∈ es, q.1 * (mdP a b).2.2 ≤ (mdP a b).1 → (mdP a b).1 < q.2.2.1 * (mdP a b).2.2 → q.2.1 * (mdP a b).2.2 ≤ (mdP a b).2.1 → (mdP a b).2.1 < q.2.2.2.1 * (mdP a b).2.2 → sdE q (mdP a b).1 (mdP a b).2.1 (mdP a b).2.2 ≠ 0 := by
    intro q hq c1 c2 c3 c4 hs
    obtain ⟨f, hf⟩ := List.mem_iff_getElem?.mp hq
    have hqM : onP q (mdP a b) := ⟨hs, by unfold lxle; omega, by unfold lxle; omega⟩
    have hqd : q.2.2.1 - q.1 ≠ 0 := by
      intro z
      have : q.2.2.1 = q.1 := by omega
      rw [this] at c2; omega
    have hrd : r.2.2.2.1 - r.2.1 ≠ 0 := by
      have := hrok.2.2.2.2.1
      unfold lxe at this; omega
    have hd : dtE q r ≠ 0 := by
      have : dtE q r = (q.2.2.1 - q.1) * (r.2.2.2.1 - r.2.1) - (q.2.2.2.1 - q.2.1) * (r.2.2.1 - r.1) := rfl
      rw [this, hvert, Int.mul_zero, Int.sub_zero]
      exact Int.mul_ne_zero hqd hrd
    obtain ⟨k, m, hk, hpm⟩ := meet_in hf hr hd hm hqM hon
    have rm := (hS.2 m (List.mem_of_getElem? hk)).1
    have k1 := srt_lt hS hi hk (plt_le ra hm rm l1 (peq_ple (peq_sym hpm)))
    have k2 := srt_lt hS hk hj (ple_lt rm hm rb (peq_ple hpm) l2)
    have := n3 k k2 k1
    rw [onK_at hr hk, decide_eq_false_iff_not] at this
    exact this (onP_peq hm rm (peq_sym hpm) hon)
  have key := ray_n hok hm hno p es.length
  have hs := sN_esOf (x := (mdP a b).1) (y := (mdP a b).2.1) (d := (mdP a b).2.2) (p := p) (V := V)
  rw [hes] at hs
  unfold neaM
  omega
