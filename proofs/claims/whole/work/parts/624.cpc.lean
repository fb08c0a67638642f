/-! pieces: what they are, and the class's rows of them -/
def onK (es : List Ed) (P : List Pt) (e k : Nat) : Bool := (P[k]?).any (fun p => onB es p.1 p.2.1 p.2.2 e)
def nx (es : List Ed) (P : List Pt) (i j e : Nat) : Bool := decide (i < j) && onK es P e i && onK es P e j && decide (∀ k, k < j → i < k → onK es P e k = false)
def opn (es : List Ed) (P : List Pt) (i j e : Nat) : Bool := onK es P e i && decide (∀ k, k < j → i < k → onK es P e k = false)
def mdP (p q : Pt) : Pt := (p.1 * q.2.2 + q.1 * p.2.2, p.2.1 * q.2.2 + q.2.1 * p.2.2, 2 * p.2.2 * q.2.2)
def lay (es : List Ed) (P : List Pt) (p i j : Nat) : Nat := ct (fun e => nx es P i j e && ownB es p e) es.length
def neaM (es : List Ed) (p : Nat) (M : Pt) : Nat := ct (fun e => abB es M.1 M.2.1 M.2.2 e && ownB es p e) es.length % 2
def nea (es : List Ed) (P : List Pt) (p i j : Nat) : Nat := match P[i]?, P[j]? with
  | some a, some b => neaM es p (mdP a b)
  | _, _ => 0
def upr (P : List Pt) (i j : Nat) : Bool := match P[i]?, P[j]? with
  | some a, some b => decide (a.1 * b.2.2 = b.1 * a.2.2)
  | _, _ => false
def lef (es : List Ed) (P : List Pt) (p i j : Nat) : Nat := if upr P i j then (nea es P p i j + lay es P p i j) % 2 else nea es P p i j
def rig (es : List Ed) (P : List Pt) (p i j : Nat) : Nat := if upr P i j then nea es P p i j else (nea es P p i j + lay es P p i j) % 2
theorem nea_at {es : List Ed} {P : List Pt} {p i j : Nat} {a b : Pt} (hi : P[i]? = some a) (hj : P[j]? = some b) : nea es P p i j = neaM es p (mdP a b) := by unfold nea; rw [hi, hj]
theorem upr_at {P : List Pt} {i j : Nat} {a b : Pt} (hi : P[i]? = some a) (hj : P[j]? = some b) : upr P i j = decide (a.1 * b.2.2 = b.1 * a.2.2) := by unfold upr; rw [hi, hj]
theorem nea_lt {es : List Ed} {P : List Pt} {p i j : Nat} : nea es P p i j < 2 := by
  unfold nea
  split
  · exact Nat.mod_lt _ (by decide)
  · decide
theorem lay_le {es : List Ed} {P : List Pt} {p i j : Nat} : lay es P p i j ≤ es.length := ct_le _ _
theorem mdP_R {a b : Pt} {x1 y1 d1 x2 y2 d2 : Int32} (h1 : RN x1 y1 d1 a) (h2 : RN x2 y2 d2 b) : R6 (x1.toInt64 * d2.toInt64 + x2.toInt64 * d1.toInt64) (mdP a b).1 (2 ^ 40) ∧ R6 (y1.toInt64 * d2.toInt64 + y2.toInt64 * d1.toInt64) (mdP a b).2.1 (2 ^ 40) ∧ R6 (2 * d1.toInt64 * d2.toInt64) (mdP a b).2.2 (2 ^ 34) :=
  ⟨((h1.1.i2l.mul h2.2.2.i2l (by decide)).add (h2.1.i2l.mul h1.2.2.i2l (by decide)) (by decide)).weak (by decide), ((h1.2.1.i2l.mul h2.2.2.i2l (by decide)).add (h2.2.1.i2l.mul h1.2.2.i2l (by decide)) (by decide)).weak (by decide), ((R6_2.mul h1.2.2.i2l (by decide)).mul h2.2.2.i2l (by decide)).weak (by decide)⟩
def RQ (qF : Nat → Nat → Int32) (es : List Ed) (P : List Pt) (pcs : List (Nat × Nat)) : Prop := ∀ k ij, pcs[k]? = some ij → qF 0 k = nI ij.1 ∧ qF 1 k = nI ij.2 ∧ ∀ p, p < 2 → qF (2 + p) k = nI (lay es P p ij.1 ij.2) ∧ qF (4 + p) k = nI (lef es P p ij.1 ij.2) ∧ qF (6 + p) k = nI (rig es P p ij.1 ij.2)
theorem a2 (p : Nat) : (2 : Int32) + nI p = nI (2 + p) := by rw [show (2 : Int32) = nI 2 by decide, nI_add]
theorem a4 (p : Nat) : (4 : Int32) + nI p = nI (4 + p) := by rw [show (4 : Int32) = nI 4 by decide, nI_add]
theorem a6 (p : Nat) : (6 : Int32) + nI p = nI (6 + p) := by rw [show (6 : Int32) = nI 6 by decide, nI_add]
theorem s_qadd {fX fY lX lY oP : Nat → Int32} {es : List Ed} (hE : RE fX fY lX lY es) (hO : RO oP es) {pX pY pD : Nat → Int32} {P : List Pt} (hP : RP pX pY pD P) {qF : Nat → Nat → Int32} {pcs : List (Nat × Nat)} (hQ : RQ qF es P pcs) (hl : pcs.length < 276) {i j : Nat} {a b : Pt} (hi : P[i]? = some a) (hj : P[j]? = some b) (Q : (Nat → Nat → Int32) → Int32 → Prop)
    (h : ∀ qF', RQ qF' es P (pcs ++ [(i, j)]) → Q qF' (nI (pcs.length + 1))) : wp_X2_add (nI i) (nI j) (nI (mk (nx es P i j) es.length)) qF (nI pcs.length) fX fY lX lY oP (nI es.length) pX pY pD Q := by
  have hn := hE.1
  have ra := hP.r hi
  have rb := hP.r hj
  have li := hP.lt hi
  have lj := hP.lt hj
  have vi := vin li (show 78 < 2 ^ 31 by decide)
  have vj := vin lj (show 78 < 2 ^ 31 by decide)
  have vq := vin hl (show 276 < 2 ^ 31 by decide)
  have ei := cl_nI (show i < 2 ^ 31 by omega)
  have ej := cl_nI (show j < 2 ^ 31 by omega)
  have eq := cl_nI (show pcs.length < 2 ^ 31 by omega)
  obtain ⟨m1, m2, m3⟩ := mdP_R ra rb
  have u1 := ra.1.i2l.mul rb.2.2.i2l (by decide)
  have u2 := rb.1.i2l.mul ra.2.2.i2l (by decide)
  have lb (p : Nat) : lay es P p i j ≤ es.length := lay_le
  have it : ∀ n p f, p < 2 → (∀ f', (∀ r k, k ≠ pcs.length → f' r k = f r k) → (∀ r, r ≠ 2 + p → r ≠ 4 + p → r ≠ 6 + p → f' r pcs.length = f r pcs.length) → f' (2 + p) pcs.length = nI (lay es P p i j) → f' (4 + p) pcs.length = nI (lef es P p i j) → f' (6 + p) pcs.length = nI (rig es P p i j) →
        wp_X2_add_L122 (nI i) (nI j) (nI (mk (nx es P i j) es.length)) fX fY lX lY oP (nI es.length) pX pY pD Q n ((pX i).toInt64 * (pD j).toInt64) ((pX j).toInt64 * (pD i).toInt64) (nI (mk (abB es (mdP a b).1 (mdP a b).2.1 (mdP a b).2.2) es.length)) (nI (p + 1)) f' (nI pcs.length)) →
      wp_X2_add_L122 (nI i) (nI j) (nI (mk (nx es P i j) es.length)) fX fY lX lY oP (nI es.length) pX pY pD Q (n + 1) ((pX i).toInt64 * (pD j).toInt64) ((pX j).toInt64 * (pD i).toInt64) (nI (mk (abB es (mdP a b).1 (mdP a b).2.1 (mdP a b).2.2) es.length)) (nI p) f (nI pcs.length) := by
    intro n p f hp hk
    rw [wp_X2_add_L122]
    refine ⟨fun z => absurd z (by rw [show (2 : Int32) = nI 2 by decide]; exact nI_ge hp (by decide)), fun _ => ⟨vin hp (by decide), fun x135 e135 => ?_⟩⟩
    rw [cl_nI (show p < 2 ^ 31 by omega), hO p hp] at e135
    subst e135
    rw [nI_mand, nI_mand]
    refine s_bcm hn _ (s_bcm hn _ (fun x157 e157 => fun x166 e166 => ?_))
    have c1 := ct_le (fun e => abB es (mdP a b).1 (mdP a b).2.1 (mdP a b).2.2 e && ownB es p e) es.length
    have c2 := lb p
    have hlay : ct (fun e => nx es P i j e && ownB es p e) es.length = lay es P p i j := rfl
    have hnea : ct (fun e => abB es (mdP a b).1 (mdP a b).2.1 (mdP a b).2.2 e && ownB es p e) es.length % 2 = nea es P p i j := by rw [nea_at hi hj]; rfl
    have hne := nea_lt (es := es) (P := P) (p := p) (i := i) (j := j)
    rw [par_nI _ (by omega), hnea] at e157
    rw [hlay, par_nI _ (by omega), e157, xor_nI _ hne _ (Nat.mod_lt _ (by decide))] at e166
    rw [show (nea es P p i j + lay es P p i j % 2) % 2 = (nea es P p i j + lay es P p i j) % 2 by omega] at e166
    rw [hlay, a2, a4, cl_nI (show 2 + p < 2 ^ 31 by omega), eq]
    refine ⟨vin (by omega) (by decide), vq, fun y183 e183 => ⟨vin (by omega) (by decide), ?_⟩⟩
    have fin : ∀ z1 z2 : Int32, z1 = nI (lef es P p i j) → z2 = nI (rig es P p i j) → wp_X2_add_L122 (nI i) (nI j) (nI (mk (nx es P i j) es.length)) fX fY lX lY oP (nI es.length) pX pY pD Q n ((pX i).toInt64 * (pD j).toInt64) ((pX j).toInt64 * (pD i).toInt64) (nI (mk (abB es (mdP a b).1 (mdP a b).2.1 (mdP a b).2.2) es.length)) (nI (p + 1)) (va_up (va_up y183 (4 + p) (upd (y183 (4 + p)) pcs.length z1)) (6 + p) (upd ((va_up y183 (4 + p) (upd (y183 (4 + p)) pcs.length z1)) (6 + p)) pcs.length z2)) (nI pcs.length) := by
      intro z1 z2 h1 h2
      refine hk _ (fun r k hk2 => ?_) (fun r k2 k4 k6 => ?_) ?_ ?_ ?_
      · rw [up2_j hk2, up2_j hk2, e183, up2_j hk2]
      · rw [up2_o k6, up2_o k4, e183, up2_o k2]
      · rw [up2_o (by omega), up2_o (by omega), e183, up2_k]
      · rw [up2_o (by omega), up2_k, h1]
      · rw [up2_k, h2]
    rw [u1.eq u2]
    have hu := upr_at hi hj
    refine ⟨fun z => ?_, fun z => ?_⟩
    · unfold wp_X2_add_L212
      rw [a4, a6, cl_nI (show 4 + p < 2 ^ 31 by omega), eq, u1.eq u2]
      refine ⟨vin (by omega) (by decide), vq, fun y212 e212 => ⟨vin (by omega) (by decide), fun _ => ?_, fun z2 => absurd z2 z⟩⟩
      unfold wp_X2_add_L242
      rw [a6, cl_nI (show 6 + p < 2 ^ 31 by omega), eq, nI_1]
      refine ⟨vin (by omega) (by decide), vq, fun y242 e242 => ?_⟩
      subst e242 e212
      refine fin _ _ ?_ ?_
      · rw [e157]; unfold lef; rw [hu, if_neg (by simpa using z)]
      · rw [e166]; unfold rig; rw [hu, if_neg (by simpa using z)]
    · unfold wp_X2_add_L212
      rw [a4, a6, cl_nI (show 4 + p < 2 ^ 31 by omega), eq, u1.eq u2]
      refine ⟨vin (by omega) (by decide), vq, fun y212 e212 => ⟨vin (by omega) (by decide), fun z2 => absurd z z2, fun _ => ?_⟩⟩
      unfold wp_X2_add_L242
      rw [a6, cl_nI (show 6 + p < 2 ^ 31 by omega), eq, nI_1]
      refine ⟨vin (by omega) (by decide), vq, fun y242 e242 => ?_⟩
      subst e242 e212
      refine fin _ _ ?_ ?_
      · rw [e166]; unfold lef; rw [hu, if_pos (by simpa using z)]
      · rw [e157]; unfold rig; rw [hu, if_pos (by simpa using z)]
  unfold wp_X2_add
  rw [ei, ej, eq]
  refine ⟨vi, fun x7 e7 => ⟨vj, fun x17 e17 => ⟨vi, fun x29 e29 => ⟨vj, fun x42 e42 => ⟨vi, fun x54 e54 => ⟨vj, fun x67 e67 => ?_⟩⟩⟩⟩⟩⟩
  subst e7 e17 e29 e42 e54 e67
  refine s_above hE m1 m2 m3 _ ⟨vin (e := 0) (by decide) (by decide), vq, fun y105 e105 => ⟨vin (e := 1) (by decide) (by decide), vq, fun y118 e118 => ⟨3, ?_⟩⟩⟩
  have c0 : (0 : Int32).toNatClampNeg = 0 := by decide
  have c1 : (1 : Int32).toNatClampNeg = 1 := by decide
  rw [c0] at e105
  rw [c1] at e118
  refine it 2 0 y118 (by decide) (fun f1 k1 k2 k3 k4 k5 => it 1 1 f1 (by decide) (fun f2 l1 l2 l3 l4 l5 => ?_))
  rw [wp_X2_add_L122]
  refine ⟨fun _ => fun x256 e256 => ?_, fun z => absurd (by decide) z⟩
  rw [e256, nI_1]
  refine h f2 (fun k ij hk => ?_)
  rw [push_get] at hk
  by_cases d1 : k < pcs.length
  · rw [if_pos d1] at hk
    have hne : k ≠ pcs.length := by omega
    have hall : ∀ r, f2 r k = qF r k := fun r => by rw [l1 r k hne, k1 r k hne, e118, up2_j hne, e105, up2_j hne]
    have := hQ k ij hk
    simp only [hall]
    exact this
  · rw [if_neg d1] at hk
    by_cases d2 : k = pcs.length
    · rw [if_pos d2] at hk
      injection hk with hk
      subst d2; subst hk
      refine ⟨?_, ?_, fun p hp => ?_⟩
      · rw [l2 0 (by omega) (by omega) (by omega), k2 0 (by omega) (by omega) (by omega), e118, up2_o (by omega), e105, up2_k]
      · rw [l2 1 (by omega) (by omega) (by omega), k2 1 (by omega) (by omega) (by omega), e118, up2_k]
      · rcases (show p = 0 ∨ p = 1 by omega) with rfl | rfl
        · rw [l2 (2 + 0) (by omega) (by omega) (by omega), l2 (4 + 0) (by omega) (by omega) (by omega), l2 (6 + 0) (by omega) (by omega) (by omega)]
          exact ⟨k3, k4, k5⟩
        · exact ⟨l3, l4, l5⟩
    · rw [if_neg d2] at hk; cases hk
