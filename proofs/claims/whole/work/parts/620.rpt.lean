/-! the reference: order, gcd, find, addPoint, side, onEdge -/
def ordV (X Y D Z W E : Int) : Int32 := if lxlt X Y D Z W E then -1 else if eqv X Y D Z W E then 0 else 1
theorem ord_lt {X Y D Z W E : Int} : ordV X Y D Z W E < 0 ↔ lxlt X Y D Z W E := by
  unfold ordV; split
  · exact ⟨fun _ => by assumption, fun _ => by decide⟩
  · split
    · exact ⟨fun z => absurd z (by decide), fun z => absurd z (by assumption)⟩
    · exact ⟨fun z => absurd z (by decide), fun z => absurd z (by assumption)⟩
theorem ord_ge {X Y D Z W E : Int} : 0 ≤ ordV X Y D Z W E ↔ ¬ lxlt X Y D Z W E := by
  unfold ordV; split
  · exact ⟨fun z => absurd z (by decide), fun z => absurd (by assumption) z⟩
  · split
    · exact ⟨fun _ => by assumption, fun z => by decide⟩
    · exact ⟨fun _ => by assumption, fun z => by decide⟩
theorem ord_eq {X Y D Z W E : Int} : ordV X Y D Z W E = 0 ↔ eqv X Y D Z W E := by
  unfold ordV; split
  · refine ⟨fun z => absurd z (by decide), fun z => ?_⟩
    rename_i h
    unfold lxlt at h; unfold eqv at z; omega
  · split
    · exact ⟨fun _ => by assumption, fun z => rfl⟩
    · exact ⟨fun z => absurd z (by decide), fun z => absurd z (by assumption)⟩
theorem ord_le {X Y D Z W E : Int} : ordV X Y D Z W E ≤ 0 ↔ lxle X Y D Z W E := by
  unfold ordV; split
  · rename_i h
    refine ⟨fun _ => ?_, fun _ => by decide⟩
    unfold lxlt at h; unfold lxle; omega
  · split
    · rename_i h
      refine ⟨fun _ => ?_, fun _ => by decide⟩
      unfold eqv at h; unfold lxle; omega
    · rename_i h1 h2
      refine ⟨fun z => absurd z (by decide), fun z => ?_⟩
      unfold eqv at h2; unfold lxlt at h1; unfold lxle at z; omega
theorem ord_gt {X Y D Z W E : Int} : 0 < ordV X Y D Z W E ↔ ¬ lxle X Y D Z W E := by
  rw [← ord_le]
  unfold ordV; split
  · decide
  · split <;> decide
theorem s_order {x y d z w e : Int64} {X Y D Z W E : Int} (hx : R6 x X (2 ^ 40)) (hy : R6 y Y (2 ^ 40)) (hd : R6 d D (2 ^ 34)) (hz : R6 z Z (2 ^ 20)) (hw : R6 w W (2 ^ 20)) (he : R6 e E (2 ^ 20)) (Q : Int32 → Prop) (h : Q (ordV X Y D Z W E)) : wp_X5_order x y d z w e Q := by
  intro x10 e10 x22 e22
  have r10 : R6 x10 (X * E - Z * D) (2 ^ 61) := by rw [e10]; exact ((hx.mul he (by decide)).sub (hz.mul hd (by decide)) (by decide)).weak (by decide)
  have r22 : R6 x22 (Y * E - W * D) (2 ^ 61) := by rw [e22]; exact ((hy.mul he (by decide)).sub (hw.mul hd (by decide)) (by decide)).weak (by decide)
  have f1 : ¬ lxlt X Y D Z W E → ¬ eqv X Y D Z W E → Q 1 := fun z1 z2 => by unfold ordV at h; rw [if_neg z1, if_neg z2] at h; exact h
  have f2 : lxlt X Y D Z W E → Q (-1) := fun z1 => by unfold ordV at h; rw [if_pos z1] at h; exact h
  have f3 : ¬ lxlt X Y D Z W E → eqv X Y D Z W E → Q 0 := fun z1 z2 => by unfold ordV at h; rw [if_neg z1, if_pos z2] at h; exact h
  rw [r10.eq R6_0, R6_0.le r10, r22.eq R6_0, R6_0.le r22]
  refine ⟨fun c1 => ⟨fun c2 => ⟨fun c3 => f1 ?_ ?_, fun c3 => f2 ?_⟩, fun c2 => f3 ?_ ?_⟩, fun c1 => ⟨fun c3 => f1 ?_ ?_, fun c3 => f2 ?_⟩⟩
  all_goals first | (unfold lxlt; omega) | (unfold eqv; omega)
theorem s_rgcd {a b : Int64} {A B : Int} (ha : R6 a A (2 ^ 20)) (hb : R6 b B (2 ^ 20)) (Q : Int64 → Prop) (h : ∀ v, R6 v (Int.gcd A B) (2 ^ 20) → Q v) : wp_X5_gcd a b Q := by
  have key : ∀ s, ∀ g v w, g ≤ 2 ^ 20 → s ≤ 2 ^ 20 → R6 v (g : Nat) (2 ^ 20) → R6 w (s : Nat) (2 ^ 20) → Nat.gcd g s = Int.gcd A B → ∃ n, wp_X5_gcd_L28 a b Q n v w := by
    intro s
    induction s using Nat.strongRecOn with
    | ind s ih =>
      intro g v w hg hs hv hw he
      by_cases c : s = 0
      · subst c
        refine ⟨1, ?_⟩
        rw [wp_X5_gcd_L28]
        refine ⟨fun _ => h v ?_, fun z => absurd ((hw.eq R6_0).mpr rfl) z⟩
        rw [Nat.gcd_zero_right] at he
        rw [← he]; exact hv
      · have hlt := Nat.mod_lt g (Nat.pos_of_ne_zero c)
        have hx : R6 (v - v / w * w) ((g % s : Nat) : Int) (2 ^ 20) := by
          have h1 := (hv.sub ((hv.div hw (by decide)).mul hw (by decide)) (by decide)).1
          refine ⟨h1.trans ?_, by omega⟩
          rw [Int.tdiv_eq_ediv_of_nonneg (by omega), ← Int.natCast_ediv, ← Int.natCast_mul]
          have := Nat.div_add_mod g s
          rw [Nat.mul_comm] at this
          omega
        obtain ⟨n, hn⟩ := ih (g % s) hlt s w (v - v / w * w) hs (by omega) hw hx (by rw [← he, Nat.gcd_comm s, ← Nat.gcd_rec, Nat.gcd_comm])
        refine ⟨n + 1, ?_⟩
        rw [wp_X5_gcd_L28]
        have hne : ¬ w = 0 := fun z => by have := (hw.eq R6_0).mp z; omega
        exact ⟨fun z => absurd z hne, fun _ => ⟨hne, fun x40 e40 => by subst e40; exact hn⟩⟩
  have hA := ha.2
  have hB := hb.2
  have fin : ∀ v, R6 v (A.natAbs : Nat) (2 ^ 20) → wp_X5_gcd_L12 a b Q v := by
    intro v hv
    refine ⟨fun c => ?_, fun c => ?_⟩
    · rw [R6_0.le hb] at c
      exact key B.natAbs A.natAbs v b hA hB hv (hb.to (by omega)) rfl
    · rw [R6_0.le hb] at c
      exact key B.natAbs A.natAbs v (-b) hA hB hv ((hb.neg (by decide)).to (by omega)) rfl
  refine ⟨fun c => fin _ ?_, fun c => fin _ ?_⟩
  · rw [R6_0.le ha] at c; exact ha.to (by omega)
  · rw [R6_0.le ha] at c; exact (ha.neg (by decide)).to (by omega)
/-- a point given by three longs -/
def RLg (x y d : Int64) (H : Pt) : Prop := R6 x H.1 (2 ^ 20) ∧ R6 y H.2.1 (2 ^ 20) ∧ R6 d H.2.2 (2 ^ 13) ∧ 0 < H.2.2
theorem s_find {x y d : Nat → Int32} {l : List Pt} (hR : RP x y d l) {a b c : Int64} {H : Pt} (hH : RLg a b c H) (Q : Int32 → Prop)
    (h1 : ∀ k p, l[k]? = some p → peq p H → (∀ j q, j < k → l[j]? = some q → plt q H) → Q (nI k))
    (h2 : ∀ k, k ≤ l.length → (∀ j q, j < k → l[j]? = some q → plt q H) → (∀ p, l[k]? = some p → plt H p) → Q (-1 - nI k)) : wp_X5_find (nI l.length) x y d a b c Q := by
  have hl := hR.1
  obtain ⟨ha, hb, hc, hpos⟩ := hH
  have key : ∀ m k, k + m = l.length → (∀ j q, j < k → l[j]? = some q → plt q H) → wp_X5_find_L2 (nI l.length) x y d a b c Q (fun v1 v2 => (wp_X5_find_L51 (nI l.length) x y d a b c Q v1 v2)) (m + 1) (nI k) := by
    intro m
    induction m with
    | zero =>
      intro k hk hj
      rw [wp_X5_find_L2]
      have e : k = l.length := by omega
      subst e
      exact ⟨fun _ => h2 _ (Nat.le_refl _) hj (fun p hp => by have := lgl hp; omega), fun z => absurd (nI_le (Nat.le_refl _) (by omega)) z⟩
    | succ m ih =>
      intro k hk hj
      obtain ⟨p, hp⟩ := lg (show k < l.length by omega)
      have hv := vin (show k < 80 by omega) (show 80 < 2 ^ 31 by decide)
      obtain ⟨p1, p2, p3⟩ := hR.r hp
      rw [wp_X5_find_L2]
      refine ⟨fun z => absurd z (nI_ge (by omega) (by omega)), fun _ => ⟨hv, hv, hv, ?_⟩⟩
      rw [cl_nI (show k < 2 ^ 31 by omega)]
      refine s_order (p1.i2l.weak (by decide)) (p2.i2l.weak (by decide)) (p3.i2l.weak (by decide)) ha hb (hc.weak (by decide)) _ ⟨fun z => ?_, fun z => ?_⟩
      · rw [ord_lt] at z
        rw [nI_1]
        refine ih (k + 1) (by omega) (fun j q hj2 hq => ?_)
        by_cases e : j = k
        · subst e; rw [hp] at hq; injection hq with hq; exact hq ▸ z
        · exact hj j q (by omega) hq
      · rw [ord_lt] at z
        refine ⟨fun z2 => ?_, fun z2 => ?_⟩
        · rw [ord_eq] at z2
          refine h2 k (by omega) hj (fun q hq => ?_)
          rw [hp] at hq; injection hq with hq
          rw [← hq]
          rcases p_tri p H with t | t | t
          · exact absurd t z
          · exact absurd t z2
          · exact t
        · rw [ord_eq] at z2
          exact h1 k p hp z2 hj
  exact ⟨l.length + 1, key l.length 0 (by omega) (fun j p hj => absurd hj (by omega))⟩
theorem m1m1 (a : Int32) : -1 - (-1 - a) = a := by grind
theorem s_addPoint {x y d : Nat → Int32} {l : List Pt} (hR : RP x y d l) {a b c : Int64} {H : Pt} (hH : RLg a b c H) (h78 : (insL (rdc H.1 H.2.1 H.2.2) l).length ≤ 78) (Q : Int32 → (Nat → Int32) → (Nat → Int32) → (Nat → Int32) → Int64 → Int64 → Int64 → Prop)
    (h : ∀ x' y' d' a' b' c', RP x' y' d' (insL (rdc H.1 H.2.1 H.2.2) l) → Q (nI (insL (rdc H.1 H.2.1 H.2.2) l).length) x' y' d' a' b' c') : wp_X5_addPoint (nI l.length) x y d a b c Q := by
  have hl := hR.1
  obtain ⟨ha, hb, hc, hpos⟩ := hH
  have hgp := gof_pos (X := H.1) (Y := H.2.1) hpos
  unfold wp_X5_addPoint
  refine s_rgcd ha hb _ (fun v8 r8 => s_rgcd r8 (hc.weak (by decide)) _ (fun v17 r17 => ?_))
  have r17' : R6 v17 (gof H.1 H.2.1 H.2.2 : Nat) (2 ^ 20) := r17
  have hne : ¬ v17 = 0 := fun z => by have := (r17'.eq R6_0).mp z; omega
  refine ⟨hne, fun x28 e28 => ⟨hne, fun x38 e38 => ⟨hne, fun x48 e48 => ?_⟩⟩⟩
  have rx : R6 x28 (rdc H.1 H.2.1 H.2.2).1 (2 ^ 20) := by rw [e28]; exact ha.div r17' (by decide)
  have ry : R6 x38 (rdc H.1 H.2.1 H.2.2).2.1 (2 ^ 20) := by rw [e38]; exact hb.div r17' (by decide)
  have rd : R6 x48 (rdc H.1 H.2.1 H.2.2).2.2 (2 ^ 13) := by rw [e48]; exact hc.div r17' (by decide)
  have hred := rdc_red (X := H.1) (Y := H.2.1) hpos
  generalize rdc H.1 H.2.1 H.2.2 = n at *
  have hn : RN x28.toInt32 x38.toInt32 x48.toInt32 n := ⟨rx.l2i (by decide), ry.l2i (by decide), rd.l2i (by decide)⟩
  refine s_find hR ⟨rx, ry, rd, hred.1⟩ _ (fun k p hp hpe hj => ?_) (fun k hk hj1 hj2 => ?_)
  · refine ⟨fun z => absurd z (nI_pos (by have := lgl hp; omega)), fun _ => ?_⟩
    have hi := insL_at (n := n) (l := l) (k := k) (Nat.le_of_lt (lgl hp)) hj (fun q hq => by
      rw [hp] at hq; injection hq with hq; rw [← hq]; intro z; unfold plt lxlt at z; unfold peq eqv at hpe; omega)
    rw [if_pos (by rw [hp, red_eq (hR.red hp) hred hpe])] at hi
    rw [hi] at h
    exact h _ _ _ _ _ _ hR
  · have hi := insL_at (n := n) (l := l) (k := k) hk hj1 (fun q hq z => by
      have := hj2 q hq; unfold plt lxlt at z this; omega)
    rw [if_neg (fun z => by have := hj2 n z; unfold plt lxlt at this; omega)] at hi
    have hs := insL_srt hred hR.2.1
    rw [hi] at hs h h78
    rw [ins_len hk] at h h78
    refine ⟨fun _ => ?_, fun z => absurd (show -1 - nI k < 0 from by rw [(R3_m1.sub (R3_nI (n := k) (by omega)) (by omega)).lt R3_0]; omega) z⟩
    rw [m1m1]
    intro x64 e64
    subst e64
    have key : ∀ m x' y' d', k + m ≤ l.length → shf x x' (k + m) l.length → shf y y' (k + m) l.length → shf d d' (k + m) l.length → wp_X5_addPoint_L72 Q (m + 1) (nI k) (nI (k + m)) (nI l.length) x' y' d' x28 x38 x48 := by
      intro m
      induction m with
      | zero =>
        intro x' y' d' _ hx hy hd
        rw [wp_X5_addPoint_L72]
        refine ⟨fun _ => ?_, fun z => absurd (nI_le (Nat.le_refl _) (by omega)) z⟩
        have hv := vin (show k < 80 by omega) (show 80 < 2 ^ 31 by decide)
        rw [cl_nI (show k < 2 ^ 31 by omega)]
        refine ⟨hv, fun y1 e1 => ⟨hv, fun y2 e2 => ⟨hv, fun y3 e3 => fun x4 e4 => ?_⟩⟩⟩
        subst e1 e2 e3 e4
        rw [nI_1]
        exact h _ _ _ _ _ _ (RP_ins hR hn hk hs h78 hx hy hd)
      | succ m ih =>
        intro x' y' d' hm hx hy hd
        rw [wp_X5_addPoint_L72]
        refine ⟨fun z => absurd z (nI_ge (by omega) (by omega)), fun _ => ?_⟩
        rw [show k + (m + 1) = (k + m) + 1 by omega, nI_pred, pk_m1, cl_nI (show k + m + 1 < 2 ^ 31 by omega), cl_nI (show k + m < 2 ^ 31 by omega)]
        have hv := vin (show k + m + 1 < 80 by omega) (show 80 < 2 ^ 31 by decide)
        have hv' := vin (show k + m < 80 by omega) (show 80 < 2 ^ 31 by decide)
        refine ⟨hv', hv, fun y1 e1 => ⟨hv', hv, fun y2 e2 => ⟨hv', hv, fun y3 e3 => ?_⟩⟩⟩
        subst e1 e2 e3
        exact ih _ _ _ (by omega) (shf_step hx) (shf_step hy) (shf_step hd)
    obtain ⟨m, hm⟩ : ∃ m, l.length = k + m := ⟨l.length - k, by omega⟩
    refine ⟨m + 1, ?_⟩
    have := key m x y d (by omega) (hm ▸ shf0) (hm ▸ shf0) (hm ▸ shf0)
    rw [← hm] at this
    exact this
theorem s_side {fX fY lX lY : Nat → Int32} {es : List Ed} (hR : RE fX fY lX lY es) {e : Nat} {q : Ed} (he : es[e]? = some q) {x y d : Int64} {X Y D : Int} (hx : R6 x X (2 ^ 40)) (hy : R6 y Y (2 ^ 40)) (hd : R6 d D (2 ^ 34)) (Q : Int64 → Prop) (h : ∀ v, R6 v (sdE q X Y D) (2 ^ 50) → Q v) : wp_X5_side (nI e) x y d fX fY lX lY Q := by
  have hl := hR.lt he
  obtain ⟨h1, h2, h3, h4⟩ := hR.r he
  have hv := vin hl (show 12 < 2 ^ 31 by decide)
  refine ⟨hv, hv, hv, hv, hv, hv, ?_⟩
  rw [cl_nI (by omega)]
  exact h _ (tv_R h1 h2 h3 h4 hx hy hd)
theorem s_onEdge {fX fY lX lY : Nat → Int32} {es : List Ed} (hR : RE fX fY lX lY es) {e : Nat} {q : Ed} (he : es[e]? = some q) {x y d : Int64} {X Y D : Int} (hx : R6 x X (2 ^ 40)) (hy : R6 y Y (2 ^ 40)) (hd : R6 d D (2 ^ 34)) (Q : Int32 → Prop) (h : Q (if onE q X Y D then 1 else 0)) : wp_X5_onEdge (nI e) x y d fX fY lX lY Q := by
  have hl := hR.lt he
  obtain ⟨h1, h2, h3, h4⟩ := hR.r he
  have hv := vin hl (show 12 < 2 ^ 31 by decide)
  have no : ¬ onE q X Y D → wp_X5_onEdge_L71 (nI e) x y d fX fY lX lY Q := fun z => ⟨nb0, by rw [if_neg z] at h; exact h⟩
  unfold wp_X5_onEdge
  rw [cl_nI (show e < 2 ^ 31 by omega)]
  refine s_side hR he hx hy hd _ (fun v hv2 => ⟨fun c => no (fun z => c ((hv2.eq R6_0).mpr z.1)), fun c1 => ⟨hv, hv, ?_⟩⟩)
  refine s_order hx hy hd (h1.i2l.weak (by decide)) (h2.i2l.weak (by decide)) (R6_1.weak (by decide)) _ ⟨fun c => no (fun z => ?_), fun c2 => ⟨hv, hv, ?_⟩⟩
  · rw [ord_lt] at c
    have := z.2.1
    unfold lxle at this; unfold lxlt at c; omega
  refine s_order hx hy hd (h3.i2l.weak (by decide)) (h4.i2l.weak (by decide)) (R6_1.weak (by decide)) _ ⟨fun c => no (fun z => ?_), fun c3 => ⟨nb1, ?_⟩⟩
  · rw [ord_gt] at c
    exact c z.2.2
  · rw [ord_lt] at c2
    rw [ord_gt] at c3
    have : onE q X Y D := ⟨(hv2.eq R6_0).mp c1, by unfold lxlt at c2; unfold lxle; omega, Decidable.not_not.mp c3⟩
    rw [if_pos this] at h
    exact h
