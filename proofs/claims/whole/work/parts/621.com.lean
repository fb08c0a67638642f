/-! what two edges have in common -/
abbrev onP (q : Ed) (p : Pt) : Prop := onE q p.1 p.2.1 p.2.2
theorem par_tr {ux uy vx vy wx wy : Int} (h1 : ux * vy = uy * vx) (h2 : vx * wy = vy * wx) (hv : vx ≠ 0 ∨ vy ≠ 0) : ux * wy = uy * wx := by
  rcases hv with h | h
  · rw [← pm_eq h]; grind
  · rw [← pm_eq h]; grind
theorem onP_peq {q : Ed} {p p' : Pt} (hp : 0 < p.2.2) (hp' : 0 < p'.2.2) (h : peq p p') (ho : onP q p) : onP q p' := by
  obtain ⟨h1, h2, h3⟩ := ho
  refine ⟨(sd_eqv h hp hp').mp h1, ?_, ?_⟩
  · exact ple_tr (p := (q.1, q.2.1, 1)) (q := p) (r := p') Int.one_pos hp hp' h2 (peq_ple h)
  · exact ple_tr (p := p') (q := p) (r := (q.2.2.1, q.2.2.2.1, 1)) hp' hp Int.one_pos (peq_ple (peq_sym h)) h3
theorem lxe_ne {q : Ed} (h : EdOK q) : q.2.2.1 - q.1 ≠ 0 ∨ q.2.2.2.1 - q.2.1 ≠ 0 := by
  have := h.2.2.2.2.1
  unfold lxe at this; omega
theorem same_line {q r : Ed} (hq : EdOK q) (hr : EdOK r) (hd : dtE q r = 0) (hs : sdE q r.1 r.2.1 1 = 0) (X Y D : Int) : sdE q X Y D = 0 ↔ sdE r X Y D = 0 := by
  have nq := lxe_ne hq
  have nr := lxe_ne hr
  have k1 : (q.2.2.1 - q.1) * (r.2.2.2.1 - r.2.1) = (q.2.2.2.1 - q.2.1) * (r.2.2.1 - r.1) := by unfold dtE dt at hd; omega
  have k2 : (q.2.2.1 - q.1) * (r.2.1 - q.2.1) = (q.2.2.2.1 - q.2.1) * (r.1 - q.1) := by unfold sdE sd at hs; rw [Int.mul_one, Int.mul_one] at hs; omega
  unfold sdE sd
  constructor
  · intro h
    have k3 : (q.2.2.1 - q.1) * (Y - r.2.1 * D) = (q.2.2.2.1 - q.2.1) * (X - r.1 * D) := by grind
    have := par_tr (ux := r.2.2.1 - r.1) (uy := r.2.2.2.1 - r.2.1) (vx := q.2.2.1 - q.1) (vy := q.2.2.2.1 - q.2.1) (wx := X - r.1 * D) (wy := Y - r.2.1 * D) (by grind) k3 nq
    omega
  · intro h
    have := par_tr (ux := q.2.2.1 - q.1) (uy := q.2.2.2.1 - q.2.1) (vx := r.2.2.1 - r.1) (vy := r.2.2.2.1 - r.2.1) (wx := X - r.1 * D) (wy := Y - r.2.1 * D) k1 (by omega) nr
    grind
theorem apart {q r : Ed} (hr : EdOK r) (hd : dtE q r = 0) {X Y D : Int} (hD : 0 < D) (h1 : sdE q X Y D = 0) (h2 : sdE r X Y D = 0) : sdE q r.1 r.2.1 1 = 0 := by
  have nr := lxe_ne hr
  have k1 : (q.2.2.1 - q.1) * (r.2.2.2.1 - r.2.1) = (q.2.2.2.1 - q.2.1) * (r.2.2.1 - r.1) := by unfold dtE dt at hd; omega
  unfold sdE sd at *
  have := par_tr (ux := q.2.2.1 - q.1) (uy := q.2.2.2.1 - q.2.1) (vx := r.2.2.1 - r.1) (vy := r.2.2.2.1 - r.2.1) (wx := X - r.1 * D) (wy := Y - r.2.1 * D) k1 (by omega) nr
  rw [← pm_z (p := D) (by omega)]
  grind
def NoC (q r : Ed) : Prop := ∀ p : Pt, 0 < p.2.2 → ¬ (onP q p ∧ onP r p)
def Com (q r : Ed) (H K : Pt) : Prop := 0 < H.2.2 ∧ 0 < K.2.2 ∧ onP q H ∧ onP r H ∧ onP q K ∧ onP r K ∧ ∀ p : Pt, 0 < p.2.2 → onP q p → onP r p → ple H p ∧ ple p K
abbrev mP (q r : Ed) : Pt := (mX q r, mY q r, mD q r)
theorem mP_uni {q r : Ed} (hd : dtE q r ≠ 0) {p : Pt} (h1 : sdE q p.1 p.2.1 p.2.2 = 0) (h2 : sdE r p.1 p.2.1 p.2.2 = 0) : peq p (mP q r) := by
  obtain ⟨k1, k2⟩ := meet_uni h1 h2
  have e : dtE q r = dt q.1 q.2.1 q.2.2.1 q.2.2.2.1 r.1 r.2.1 r.2.2.1 r.2.2.2.1 := rfl
  rw [← e] at k1 k2
  constructor
  · show p.1 * mD q r = mX q r * p.2.2
    unfold mX mT mD
    generalize sg (dtE q r) = s
    generalize dtE q r = D at *
    have h3 : s * _ = s * _ := congrArg (s * ·) k1
    grind
  · show p.2.1 * mD q r = mY q r * p.2.2
    unfold mY mT mD
    generalize sg (dtE q r) = s
    generalize dtE q r = D at *
    have h3 : s * _ = s * _ := congrArg (s * ·) k2
    grind
theorem com_X {q r : Ed} (h : mO q r) : Com q r (mP q r) (mP q r) := by
  have hp := mD_pos h.1
  refine ⟨hp, hp, h.2.1, h.2.2, h.2.1, h.2.2, fun p hpp h1 h2 => ?_⟩
  have := mP_uni h.1 h1.1 h2.1
  exact ⟨peq_ple (peq_sym this), peq_ple this⟩
theorem noc_X {q r : Ed} (hd : dtE q r ≠ 0) (h : ¬ mO q r) : NoC q r := by
  rintro p hp ⟨h1, h2⟩
  have hm := mD_pos hd
  have := mP_uni hd h1.1 h2.1
  exact h ⟨hd, onP_peq (p' := mP q r) hp hm this h1, onP_peq (p' := mP q r) hp hm this h2⟩
/-- for edges on one line -/
def laF (q r : Ed) : Pt := if lxlt q.1 q.2.1 1 r.1 r.2.1 1 then (r.1, r.2.1, 1) else (q.1, q.2.1, 1)
def soL (q r : Ed) : Pt := if lxle q.2.2.1 q.2.2.2.1 1 r.2.2.1 r.2.2.2.1 1 then (q.2.2.1, q.2.2.2.1, 1) else (r.2.2.1, r.2.2.2.1, 1)
theorem sd_f (q : Ed) : sdE q q.1 q.2.1 1 = 0 := by unfold sdE sd; grind
theorem sd_l (q : Ed) : sdE q q.2.2.1 q.2.2.2.1 1 = 0 := by unfold sdE sd; grind
theorem laF_s {q r : Ed} (hs : sdE q r.1 r.2.1 1 = 0) : sdE q (laF q r).1 (laF q r).2.1 (laF q r).2.2 = 0 ∧ (laF q r).2.2 = 1 ∧ ple (q.1, q.2.1, 1) (laF q r) ∧ ple (r.1, r.2.1, 1) (laF q r) := by
  unfold laF
  split
  · rename_i h
    exact ⟨hs, rfl, plt_ple (p := (q.1, q.2.1, 1)) (q := (r.1, r.2.1, 1)) h, peq_ple ⟨rfl, rfl⟩⟩
  · rename_i h
    exact ⟨sd_f q, rfl, peq_ple ⟨rfl, rfl⟩, nplt (p := (q.1, q.2.1, 1)) (q := (r.1, r.2.1, 1)) |>.mp h⟩
theorem soL_s {q r : Ed} (hs : sdE q r.2.2.1 r.2.2.2.1 1 = 0) : sdE q (soL q r).1 (soL q r).2.1 (soL q r).2.2 = 0 ∧ (soL q r).2.2 = 1 ∧ ple (soL q r) (q.2.2.1, q.2.2.2.1, 1) ∧ ple (soL q r) (r.2.2.1, r.2.2.2.1, 1) := by
  unfold soL
  split
  · rename_i h
    exact ⟨sd_l q, rfl, peq_ple ⟨rfl, rfl⟩, h⟩
  · rename_i h
    exact ⟨hs, rfl, plt_ple ((nple (p := (q.2.2.1, q.2.2.2.1, 1)) (q := (r.2.2.1, r.2.2.2.1, 1))).mp h), peq_ple ⟨rfl, rfl⟩⟩
theorem laF_le {q r : Ed} {p : Pt} (h1 : ple (q.1, q.2.1, 1) p) (h2 : ple (r.1, r.2.1, 1) p) : ple (laF q r) p := by
  unfold laF; split
  · exact h2
  · exact h1
theorem soL_ge {q r : Ed} {p : Pt} (h1 : ple p (q.2.2.1, q.2.2.2.1, 1)) (h2 : ple p (r.2.2.1, r.2.2.2.1, 1)) : ple p (soL q r) := by
  unfold soL; split
  · exact h1
  · exact h2
theorem com_L {q r : Ed} (hq : EdOK q) (hr : EdOK r) (hd : dtE q r = 0) (hs : sdE q r.1 r.2.1 1 = 0) (h : ple (laF q r) (soL q r)) : Com q r (laF q r) (soL q r) := by
  have sl := same_line hq hr hd hs
  have hs2 : sdE q r.2.2.1 r.2.2.2.1 1 = 0 := (sl _ _ _).mpr (sd_l r)
  obtain ⟨a1, a2, a3, a4⟩ := laF_s hs
  obtain ⟨b1, b2, b3, b4⟩ := soL_s hs2
  have c1 := fun p => laF_le (q := q) (r := r) (p := p)
  have c2 := fun p => soL_ge (q := q) (r := r) (p := p)
  generalize laF q r = H at *
  generalize soL q r = K at *
  have hH : 0 < H.2.2 := by omega
  have hK : 0 < K.2.2 := by omega
  refine ⟨hH, hK, ⟨a1, a3, ple_tr (r := (q.2.2.1, q.2.2.2.1, 1)) hH hK Int.one_pos h b3⟩, ⟨(sl _ _ _).mp a1, a4, ple_tr (r := (r.2.2.1, r.2.2.2.1, 1)) hH hK Int.one_pos h b4⟩, ⟨b1, ple_tr (p := (q.1, q.2.1, 1)) Int.one_pos hH hK a3 h, b3⟩, ⟨(sl _ _ _).mp b1, ple_tr (p := (r.1, r.2.1, 1)) Int.one_pos hH hK a4 h, b4⟩, fun p hp h1 h2 => ⟨c1 p h1.2.1 h2.2.1, c2 p h1.2.2 h2.2.2⟩⟩
theorem noc_L {q r : Ed} (hq : EdOK q) (hr : EdOK r) (hd : dtE q r = 0) (hs : sdE q r.1 r.2.1 1 = 0) (h : ¬ ple (laF q r) (soL q r)) : NoC q r := by
  have hs2 : sdE q r.2.2.1 r.2.2.2.1 1 = 0 := (same_line hq hr hd hs _ _ _).mpr (sd_l r)
  have a2 := (laF_s hs).2.1
  have b2 := (soL_s hs2).2.1
  rintro p hp ⟨h1, h2⟩
  exact h (ple_tr (by omega) hp (by omega) (laF_le h1.2.1 h2.2.1) (soL_ge h1.2.2 h2.2.2))
def src (q r : Ed) (H : Pt) : Prop := mO q r ∧ H = mP q r ∨ dtE q r = 0 ∧ (H = (q.1, q.2.1, 1) ∨ H = (r.1, r.2.1, 1))
theorem laF_src {q r : Ed} (hd : dtE q r = 0) : src q r (laF q r) := by
  refine Or.inr ⟨hd, ?_⟩
  unfold laF; split
  · exact Or.inr rfl
  · exact Or.inl rfl
theorem s_along {fX fY lX lY : Nat → Int32} {es : List Ed} (hE : RE fX fY lX lY es) {a b : Nat} {q r : Ed} (ha : es[a]? = some q) (hb : es[b]? = some r) (hd : dtE q r = 0) {o1 o2 o3 o4 o5 o6 : Int64} (Q : Int32 → Int64 → Int64 → Int64 → Int64 → Int64 → Int64 → Prop)
    (h0 : NoC q r → ∀ o1 o2 o3 o4 o5 o6, Q 0 o1 o2 o3 o4 o5 o6)
    (h1 : ∀ (c : Nat) H K o1 o2 o3 o4 o5 o6, (c = 1 ∧ peq H K ∨ c = 2 ∧ plt H K) → Com q r H K → src q r H → RLg o1 o2 o3 H → RLg o4 o5 o6 K → Q (nI c) o1 o2 o3 o4 o5 o6) : wp_X5_along (nI a) (nI b) fX fY lX lY o1 o2 o3 o4 o5 o6 Q := by
  have hla := hE.lt ha
  have hlb := hE.lt hb
  have ea := cl_nI (show a < 2 ^ 31 by omega)
  have eb := cl_nI (show b < 2 ^ 31 by omega)
  obtain ⟨a1, a2, a3, a4⟩ := hE.r ha
  obtain ⟨b1, b2, b3, b4⟩ := hE.r hb
  have hva := vin hla (show 12 < 2 ^ 31 by decide)
  have hvb := vin hlb (show 12 < 2 ^ 31 by decide)
  unfold wp_X5_along
  rw [ea, eb]
  refine ⟨hvb, hvb, s_side hE ha (b1.i2l.weak (by decide)) (b2.i2l.weak (by decide)) (R6_1.weak (by decide)) _ (fun v hv => ⟨fun c => ?_, fun c => h0 ?_ _ _ _ _ _ _⟩)⟩
  · have hs := (hv.eq R6_0).mp c
    have t216 : ∀ hx hy kx ky u1 u2, RLg hx hy 1 (laF q r) → RLg kx ky 1 (soL q r) → wp_X5_along_L216 (nI a) (nI b) fX fY lX lY Q ky hx hy 1 kx u1 u2 := by
      intro hx hy kx ky u1 u2 hH hK
      refine s_order (hH.1.weak (by decide)) (hH.2.1.weak (by decide)) (hH.2.2.1.weak (by decide)) hK.1 hK.2.1 (hK.2.2.1.weak (by decide)) _ ⟨fun c1 => ?_, fun c1 => ?_⟩
      · rw [ord_le] at c1
        have hc := com_L (hE.ok ha) (hE.ok hb) hd hs c1
        refine ⟨fun c2 => h1 2 _ _ _ _ _ _ _ _ (Or.inr ⟨rfl, ?_⟩) hc (laF_src hd) hH hK, fun c2 => h1 1 _ _ _ _ _ _ _ _ (Or.inl ⟨rfl, ?_⟩) hc (laF_src hd) hH hK⟩
        · rw [ord_eq] at c2
          unfold lxle at c1; unfold eqv at c2; unfold plt lxlt; omega
        · rw [ord_eq] at c2; exact c2
      · rw [ord_le] at c1
        exact h0 (noc_L (hE.ok ha) (hE.ok hb) hd hs c1) _ _ _ _ _ _
    have t165 : ∀ hx hy u1 u2 u3, RLg hx hy 1 (laF q r) → (lxle q.2.2.1 q.2.2.2.1 1 r.2.2.1 r.2.2.2.1 1 → wp_X5_along_L165 (nI a) (nI b) fX fY lX lY Q 0 hx hy 1 u1 u2 u3) ∧ (¬ lxle q.2.2.1 q.2.2.2.1 1 r.2.2.1 r.2.2.2.1 1 → wp_X5_along_L165 (nI a) (nI b) fX fY lX lY Q 1 hx hy 1 u1 u2 u3) := by
      intro hx hy u1 u2 u3 hH
      refine ⟨fun c1 => ⟨fun _ => ⟨hva, fun _ => ⟨hva, ?_⟩, fun z => absurd rfl z⟩, fun z => absurd rfl z⟩, fun c1 => ⟨fun z => absurd z (by decide), fun _ => ⟨hvb, fun z => absurd z (by decide), fun _ => ⟨hvb, ?_⟩⟩⟩⟩
      · rw [ea]
        refine t216 _ _ _ _ _ _ hH ?_
        unfold soL; rw [if_pos c1]
        exact ⟨a3.i2l.weak (by decide), a4.i2l.weak (by decide), R6_1.weak (by decide), Int.one_pos⟩
      · rw [eb]
        refine t216 _ _ _ _ _ _ hH ?_
        unfold soL; rw [if_neg c1]
        exact ⟨b3.i2l.weak (by decide), b4.i2l.weak (by decide), R6_1.weak (by decide), Int.one_pos⟩
    have t116 : ∀ hx hy u1 u2 u3 u4 u5, RLg hx hy 1 (laF q r) → wp_X5_along_L116 (nI a) (nI b) fX fY lX lY Q hy hx u1 u2 u3 u4 u5 := by
      intro hx hy u1 u2 u3 u4 u5 hH
      unfold wp_X5_along_L116
      rw [ea, eb]
      refine ⟨hva, hva, hvb, hvb, s_order (a3.i2l.weak (by decide)) (a4.i2l.weak (by decide)) (R6_1.weak (by decide)) (b3.i2l.weak (by decide)) (b4.i2l.weak (by decide)) (R6_1.weak (by decide)) _ ⟨fun c1 => (t165 _ _ _ _ _ hH).1 ?_, fun c1 => (t165 _ _ _ _ _ hH).2 ?_⟩⟩
      · exact ord_le.mp c1
      · exact fun z => c1 (ord_le.mpr z)
    refine ⟨hva, hva, hvb, hvb, s_order (a1.i2l.weak (by decide)) (a2.i2l.weak (by decide)) (R6_1.weak (by decide)) (b1.i2l.weak (by decide)) (b2.i2l.weak (by decide)) (R6_1.weak (by decide)) _ ⟨fun c1 => ?_, fun c1 => ?_⟩⟩
    · rw [ord_ge] at c1
      refine ⟨fun _ => ⟨hva, fun _ => ⟨hva, ?_⟩, fun z => absurd rfl z⟩, fun z => absurd rfl z⟩
      rw [ea]
      refine t116 _ _ _ _ _ _ _ ?_
      unfold laF; rw [if_neg c1]
      exact ⟨a1.i2l.weak (by decide), a2.i2l.weak (by decide), R6_1.weak (by decide), Int.one_pos⟩
    · rw [ord_ge] at c1
      refine ⟨fun z => absurd z (by decide), fun _ => ⟨hvb, fun z => absurd z (by decide), fun _ => ⟨hvb, ?_⟩⟩⟩
      rw [eb]
      refine t116 _ _ _ _ _ _ _ ?_
      unfold laF; rw [if_pos (Decidable.not_not.mp c1)]
      exact ⟨b1.i2l.weak (by decide), b2.i2l.weak (by decide), R6_1.weak (by decide), Int.one_pos⟩
  · rintro p hp ⟨k1, k2⟩
    exact c ((hv.eq R6_0).mpr (apart (hE.ok hb) hd hp k1.1 k2.1))
set_option maxRecDepth 10000 in
theorem s_meet {fX fY lX lY : Nat → Int32} {es : List Ed} (hE : RE fX fY lX lY es) {a b : Nat} {q r : Ed} (ha : es[a]? = some q) (hb : es[b]? = some r) {o1 o2 o3 o4 o5 o6 : Int64} (Q : Int32 → Int64 → Int64 → Int64 → Int64 → Int64 → Int64 → Prop)
    (h0 : NoC q r → ∀ o1 o2 o3 o4 o5 o6, Q 0 o1 o2 o3 o4 o5 o6)
    (h1 : ∀ (c : Nat) H K o1 o2 o3 o4 o5 o6, (c = 1 ∧ peq H K ∨ c = 2 ∧ plt H K) → Com q r H K → src q r H → RLg o1 o2 o3 H → RLg o4 o5 o6 K → Q (nI c) o1 o2 o3 o4 o5 o6) : wp_X5_meet (nI a) (nI b) fX fY lX lY o1 o2 o3 o4 o5 o6 Q := by
  have hla := hE.lt ha
  have hlb := hE.lt hb
  have ea := cl_nI (show a < 2 ^ 31 by omega)
  have eb := cl_nI (show b < 2 ^ 31 by omega)
  obtain ⟨a1, a2, a3, a4⟩ := hE.r ha
  obtain ⟨b1, b2, b3, b4⟩ := hE.r hb
  have hva := vin hla (show 12 < 2 ^ 31 by decide)
  have hvb := vin hlb (show 12 < 2 ^ 31 by decide)
  unfold wp_X5_meet
  rw [ea, eb]
  refine ⟨hva, hva, fun x14 e14 => ⟨hva, hva, fun x29 e29 => ⟨hvb, hvb, fun x45 e45 => ⟨hvb, hvb, fun x61 e61 => fun x73 e73 => ?_⟩⟩⟩⟩
  have r14 : R6 x14 (q.2.2.1 - q.1) 60 := by rw [e14]; exact (a3.sub a1 (by decide)).i2l
  have r29 : R6 x29 (q.2.2.2.1 - q.2.1) 60 := by rw [e29]; exact (a4.sub a2 (by decide)).i2l
  have r45 : R6 x45 (r.2.2.1 - r.1) 60 := by rw [e45]; exact (b3.sub b1 (by decide)).i2l
  have r61 : R6 x61 (r.2.2.2.1 - r.2.1) 60 := by rw [e61]; exact (b4.sub b2 (by decide)).i2l
  have r73 : R6 x73 (dtE q r) 7200 := by rw [e73]; exact ((r14.mul r61 (by decide)).sub (r29.mul r45 (by decide)) (by decide)).weak (by decide)
  have t158 : dtE q r ≠ 0 → ∀ v13 z0 : Int64, R6 v13 (mD q r) 7200 → R6 z0 (mT q r) 7200 → ∀ o1 o2 o3 o4 o5 o6, wp_X5_meet_L158 (nI a) (nI b) fX fY lX lY Q x14 x29 v13 z0 o1 o2 o3 o4 o5 o6 := by
    intro hne v13 z0 rv rz o1 o2 o3 o4 o5 o6
    unfold wp_X5_meet_L158
    rw [ea]
    refine ⟨hva, fun x176 e176 => ⟨hva, fun x196 e196 => ?_⟩⟩
    have rX : R6 x176 (mX q r) (2 ^ 20) := by rw [e176]; exact ((a1.i2l.mul rv (by decide)).add (rz.mul r14 (by decide)) (by decide)).weak (by decide)
    have rY : R6 x196 (mY q r) (2 ^ 20) := by rw [e196]; exact ((a2.i2l.mul rv (by decide)).add (rz.mul r29 (by decide)) (by decide)).weak (by decide)
    have hL : RLg x176 x196 v13 (mP q r) := ⟨rX, rY, rv.weak (by decide), mD_pos hne⟩
    refine s_onEdge hE ha (rX.weak (by decide)) (rY.weak (by decide)) (rv.weak (by decide)) _ ?_
    by_cases c1 : onE q (mX q r) (mY q r) (mD q r)
    · rw [if_pos c1]
      refine ⟨fun z => absurd z (by decide), fun _ => ?_⟩
      refine s_onEdge hE hb (rX.weak (by decide)) (rY.weak (by decide)) (rv.weak (by decide)) _ ?_
      by_cases c2 : onE r (mX q r) (mY q r) (mD q r)
      · rw [if_pos c2]
        exact ⟨fun z => absurd z (by decide), fun _ => h1 1 _ _ _ _ _ _ _ _ (Or.inl ⟨rfl, rfl, rfl⟩) (com_X ⟨hne, c1, c2⟩) (Or.inl ⟨⟨hne, c1, c2⟩, rfl⟩) hL hL⟩
      · rw [if_neg c2]
        exact ⟨fun _ => h0 (noc_X hne (fun z => c2 z.2.2)) _ _ _ _ _ _, fun z => absurd rfl z⟩
    · rw [if_neg c1]
      exact ⟨fun _ => h0 (noc_X hne (fun z => c1 z.2.1)) _ _ _ _ _ _, fun z => absurd rfl z⟩
  have t104 : dtE q r ≠ 0 → ∀ z0 : Int64, R6 z0 (mD q r) 7200 → ∀ o1 o2 o3 o4 o5 o6, wp_X5_meet_L104 (nI a) (nI b) fX fY lX lY Q x14 x29 x45 x61 x73 z0 o1 o2 o3 o4 o5 o6 := by
    intro hne z0 rz o1 o2 o3 o4 o5 o6
    unfold wp_X5_meet_L104
    rw [ea, eb]
    refine ⟨hvb, hva, hvb, hva, fun x141 e141 => ?_⟩
    have r141 : R6 x141 ((r.1 - q.1) * (r.2.2.2.1 - r.2.1) - (r.2.1 - q.2.1) * (r.2.2.1 - r.1)) 7200 := by rw [e141]; exact (((b1.sub a1 (by decide)).i2l.mul r61 (by decide)).sub ((b2.sub a2 (by decide)).i2l.mul r45 (by decide)) (by decide)).weak (by decide)
    rw [R6_0.le r73]
    refine ⟨fun c => t158 hne _ _ rz (r141.to ?_) _ _ _ _ _ _, fun c => t158 hne _ _ rz ((r141.neg (by decide)).to ?_) _ _ _ _ _ _⟩
    · unfold mT sg; rw [if_pos (by omega), Int.one_mul]
    · unfold mT sg; rw [if_neg (by omega), Int.neg_one_mul]
  rw [r73.eq R6_0, R6_0.le r73]
  refine ⟨fun hne => ⟨fun c => t104 hne _ (r73.to ?_) _ _ _ _ _ _, fun c => t104 hne _ ((r73.neg (by decide)).to ?_) _ _ _ _ _ _⟩, fun hz => s_along hE ha hb hz Q h0 h1⟩
  · unfold mD sg; rw [if_pos (by omega), Int.one_mul]
  · unfold mD sg; rw [if_neg (by omega), Int.neg_one_mul]
