/-! area -/
theorem nn_iff (r : UInt64) : vf_n64 r ↔ FP.Core.dIsNaN r = false := by
  have e1 := FP.Core.isNaN_bits r
  unfold vf_n64
  rw [UInt64.le_iff_toNat_le, FP.Core.mask_toNat]
  show r.toNat % 2 ^ 63 ≤ 9218868437227405312 ↔ _
  constructor
  · intro h
    apply Bool.eq_false_iff.mpr
    intro z
    have := e1.mp z
    omega
  · intro h
    apply Nat.le_of_not_lt
    intro z
    have := e1.mpr z
    rw [h] at this; cases this
abbrev dM1 : UInt64 := 13830554455654793216
/-- twice the signed area of origin and two points -/
def trm (x y d : Nat → Int32) (i j : Nat) : UInt64 := FP.ddiv (FP.l2d (((x i).toInt64 * (y j).toInt64) - ((x j).toInt64 * (y i).toInt64))) (FP.l2d ((d i).toInt64 * (d j).toInt64))
theorem trm_mag {x y d : Nat → Int32} {l : List Pt} (hP : RP x y d l) {i j : Nat} (hi : i < l.length) (hj : j < l.length) : (trm x y d i j).toNat % 2 ^ 63 < 1089 * 2 ^ 52 ∧ 0 < ((d i).toInt64 * (d j).toInt64).toInt := by
  obtain ⟨p, hp⟩ := lg hi
  obtain ⟨q, hq⟩ := lg hj
  have rp := hP.r hp
  have rq := hP.r hq
  have m := rp.2.2.i2l.mul rq.2.2.i2l (by decide)
  have hpos : 0 < p.2.2 * q.2.2 := Int.mul_pos (hP.red hp).1 (hP.red hq).1
  have hv : 0 < ((d i).toInt64 * (d j).toInt64).toInt := by rw [m.1]; exact hpos
  have b := FP.Core.l2d_big (v := (d i).toInt64 * (d j).toInt64) (by omega)
  have a := FP.Core.l2d_mag (((x i).toInt64 * (y j).toInt64) - ((x j).toInt64 * (y i).toInt64))
  have := FP.Core.ddiv_mag (K := 1088) (L := 1023) a b.1 b.2 (by decide) (by decide)
  exact ⟨this, hv⟩
theorem one_mag (b : Bool) : (if b then FP.dconst1 else dM1).toNat % 2 ^ 63 < 1024 * 2 ^ 52 := by cases b <;> decide
theorem mag_nn {a : UInt64} {K : Nat} (h : a.toNat % 2 ^ 63 < K * 2 ^ 52) (hK : K ≤ 2047) : vf_n64 a := by
  rw [nn_iff]
  exact (FP.Core.fin_of_lt h hK).notNaN
theorem mul_mag1 {s a : UInt64} (hs : s.toNat % 2 ^ 63 < 1024 * 2 ^ 52) (ha : a.toNat % 2 ^ 63 < 1089 * 2 ^ 52) : (FP.dmul s a).toNat % 2 ^ 63 < 1091 * 2 ^ 52 := FP.Core.dmul_mag (Ka := 1024) (Kb := 1089) hs ha (by decide) (by decide)
theorem add_nn {a b : UInt64} (ha : vf_n64 a) (hb : b.toNat % 2 ^ 63 < 1091 * 2 ^ 52) : vf_n64 (FP.dadd a b) := by
  rw [nn_iff] at ha ⊢
  exact FP.Core.dadd_out ha (FP.Core.fin_of_lt hb (by decide))
/-- the sum so far -/
def arS (es : List Ed) (P : List Pt) (pcs : List (Nat × Nat)) (x y d : Nat → Int32) (r : Nat) : Nat → UInt64
  | 0 => FP.dconst0
  | k + 1 => match pcs[k]? with
    | some ij => if dvB es P pcs r k then FP.dadd (arS es P pcs x y d r k) (FP.dmul (if lB es P pcs r k then FP.dconst1 else dM1) (trm x y d ij.1 ij.2)) else arS es P pcs x y d r k
    | none => arS es P pcs x y d r k
theorem arS_at {es : List Ed} {P : List Pt} {pcs : List (Nat × Nat)} {x y d : Nat → Int32} {r k : Nat} {ij : Nat × Nat} (h : pcs[k]? = some ij) : arS es P pcs x y d r (k + 1) = if dvB es P pcs r k then FP.dadd (arS es P pcs x y d r k) (FP.dmul (if lB es P pcs r k then FP.dconst1 else dM1) (trm x y d ij.1 ij.2)) else arS es P pcs x y d r k := by rw [arS, h]
def ansD (k : Nat) (v : UInt64) (Q : Int32 → (Nat → UInt64) → Prop) : Prop := ∀ oD : Nat → UInt64, (k = 0 → oD 0 = v) → Q (nI k) oD
theorem i2d_1 : FP.i2d 1 = FP.dconst1 := by decide +kernel
theorem i2d_m1 : FP.i2d (-1) = dM1 := by decide +kernel
theorem d0_nn : vf_n64 FP.dconst0 := by unfold vf_n64; decide
theorem bd_n {l r : Bool} (h : (l != r) = true) : bdV l r = if l then 1 else -1 := by cases l <;> cases r <;> first | rfl | cases h
theorem j_area {es : List Ed} {P : List Pt} {pcs : List (Nat × Nat)} {cM nQ rMd rQ : Int32} {qF : Nat → Nat → Int32} {rLe rRi pX pY pD rPx rPy rPd rFi rLa rOn : Nat → Int32} (hst : (cM = 0 ∧ rMd = 0) ∨ (mdQ es P pcs cM nQ rMd rQ qF rLe rRi ∧ RP pX pY pD P ∧ RP rPx rPy rPd P ∧ RR rFi rLa rOn pcs (lay es P) ∧ ∀ ij ∈ pcs, ij.1 < P.length ∧ ij.2 < P.length)) (p0 : Int32) : ∃ k v, k < 4 ∧ (∀ oD Q, ansD k v Q → wp_L_area p0 cM pX pY pD qF nQ oD Q) ∧ ∀ rF Q, Q v (nI k) → wp_X5_area p0 rF rMd rPx rPy rPd rQ rFi rLa rLe rRi Q := by
  have z1 : ¬ ((1 : Int32) = 0) := by decide
  rcases hst with ⟨rfl, rfl⟩ | ⟨⟨rfl, rfl, rfl, rfl, hl, hQ, hT⟩, hP, hR, hRR, hin⟩
  · exact ⟨1, FP.dconst0, by decide, fun oL Q h => ⟨fun z => absurd rfl z, fun _ => Or.inl ⟨rfl, h oL (fun z => absurd z (by decide))⟩⟩, fun rF Q h => s_lacks (fun _ => ⟨fun z => absurd z z1, fun _ => h⟩) (fun z => absurd rfl z) (fun z => absurd rfl z)⟩
  · have h78 := hP.1
    by_cases hv : ∃ r, r < 4 ∧ p0 = nI r
    · obtain ⟨r, hr, rfl⟩ := hv
      refine ⟨0, arS es P pcs pX pY pD r pcs.length, by decide, fun oL Q h => ⟨fun _ => s_needR (fun r' hr' e => ?_) (fun z => absurd ⟨r, hr, rfl⟩ z), fun z => absurd z z1⟩, fun rF Q h => s_lacks (fun z => absurd z z1) (fun _ r' hr' e => ⟨fun _ => ?_, fun z => absurd rfl z⟩) (fun _ z => absurd ⟨r, hr, rfl⟩ z)⟩
      · intro x9 e9
        subst e9
        have key : ∀ m k, k + m = pcs.length → vf_n64 (arS es P pcs pX pY pD r k) → wp_X4_area_L13 (nI r) 1 pX pY pD qF (nI pcs.length) (fun r4 => (vp_in (0 : Int32) 1 ∧ (∀ y7 : Nat → UInt64, y7 = vf_upd oL (0 : Int32).toNatClampNeg r4 → (Q 0 y7)))) (fun E9 => (E9 = xIS ∧ (Q 1 oL)) ∨ (E9 = xIA ∧ (Q 2 oL))) (m + 1) (arS es P pcs pX pY pD r k) (nI k) := by
          intro m
          induction m with
          | zero =>
            intro k hk hnn
            rw [wp_X4_area_L13]
            have e' : k = pcs.length := by omega
            subst e'
            refine ⟨fun _ => ⟨vin (e := 0) (by decide) (by decide), fun y ey => h y (fun _ => ?_)⟩, fun z => absurd (nI_le (Nat.le_refl _) (by omega)) z⟩
            rw [ey]; rfl
          | succ m ih =>
            intro k hk hnn
            obtain ⟨⟨i, j⟩, hij⟩ := lg (show k < pcs.length by omega)
            obtain ⟨li, lj⟩ := hin (i, j) (List.mem_of_getElem? hij)
            dsimp only at li lj
            obtain ⟨q1, q2, -⟩ := hQ k (i, j) hij
            dsimp only at q1 q2
            have hat := arS_at (es := es) (P := P) (x := pX) (y := pY) (d := pD) (r := r) hij
            obtain ⟨tm, tp⟩ := trm_mag hP li lj
            have vk := vin (show k < 276 by omega) (show 276 < 2 ^ 31 by decide)
            have ek := cl_nI (show k < 2 ^ 31 by omega)
            have vi := vin (show i < 78 by omega) (show 78 < 2 ^ 31 by decide)
            have vj := vin (show j < 78 by omega) (show 78 < 2 ^ 31 by decide)
            rw [wp_X4_area_L13]
            refine ⟨fun z => absurd z (nI_ge (by omega) (by omega)), fun _ => s_divs hQ hl (by omega) hr _ ?_⟩
            rw [b2i_0]
            refine ⟨fun z => ?_, fun z => s_left hQ hl (by omega) hr _ ?_⟩
            · show wp_X4_area_L13 _ _ _ _ _ _ _ _ _ _ _ (nI k + 1)
              rw [nI_1]
              have e2 : arS es P pcs pX pY pD r (k + 1) = arS es P pcs pX pY pD r k := by rw [hat, if_neg (by rw [z]; decide)]
              have := ih (k + 1) (by omega) (by rw [e2]; exact hnn)
              rw [e2] at this
              exact this
            · have hd : dvB es P pcs r k = true := btr z
              rw [if_pos hd] at hat
              have t58 : ∀ s : UInt64, s = (if lB es P pcs r k then FP.dconst1 else dM1) → wp_X4_area_L58 (nI r) 1 pX pY pD qF (nI pcs.length) (fun r4 => (vp_in (0 : Int32) 1 ∧ (∀ y7 : Nat → UInt64, y7 = vf_upd oL (0 : Int32).toNatClampNeg r4 → (Q 0 y7)))) (fun E9 => (E9 = xIS ∧ (Q 1 oL)) ∨ (E9 = xIA ∧ (Q 2 oL))) (wp_X4_area_L13 (nI r) 1 pX pY pD qF (nI pcs.length) (fun r4 => (vp_in (0 : Int32) 1 ∧ (∀ y7 : Nat → UInt64, y7 = vf_upd oL (0 : Int32).toNatClampNeg r4 → (Q 0 y7)))) (fun E9 => (E9 = xIS ∧ (Q 1 oL)) ∨ (E9 = xIA ∧ (Q 2 oL))) (m + 1)) (arS es P pcs pX pY pD r k) (nI k) s := by
                intro s es1
                have smag : s.toNat % 2 ^ 63 < 1024 * 2 ^ 52 := by rw [es1]; exact one_mag _
                have mm := mul_mag1 smag tm
                have c0 : (0 : Int32).toNatClampNeg = 0 := by decide
                have c1 : (1 : Int32).toNatClampNeg = 1 := by decide
                unfold wp_X4_area_L58
                rw [ek, c0, c1, q1, q2]
                refine ⟨vin (e := 0) (by decide) (by decide), vk, vin (e := 1) (by decide) (by decide), vk, ?_⟩
                unfold wp_X3_doubleArea
                rw [cl_nI (show i < 2 ^ 31 by omega), cl_nI (show j < 2 ^ 31 by omega)]
                refine ⟨vi, vj, vj, vi, fun x31 e31 => ⟨vi, vj, fun x47 e47 => ⟨fun z => ?_, fun _ => ?_⟩⟩⟩
                · rw [e47, Int64.le_iff_toInt_le] at z
                  have : (0 : Int64).toInt = 0 := by decide
                  omega
                · subst e31 e47
                  refine ⟨mag_nn tm (by decide), mag_nn mm (by decide), add_nn hnn mm, fun x96 e96 => ?_⟩
                  show wp_X4_area_L13 _ _ _ _ _ _ _ _ _ _ _ (nI k + 1)
                  rw [nI_1]
                  have e3 : x96 = arS es P pcs pX pY pD r (k + 1) := by rw [e96, hat, es1]; rfl
                  rw [e3]
                  refine ih (k + 1) (by omega) ?_
                  rw [← e3, e96]
                  exact add_nn hnn mm
              rw [b2i_0]
              refine ⟨fun y => t58 _ ?_, fun y => t58 _ ?_⟩
              · rw [y]; rfl
              · rw [btr y]; rfl
        exact ⟨pcs.length + 1, key pcs.length 0 (by omega) d0_nn⟩
      · intro x11 e11
        subst e11
        have key : ∀ m k, k + m = pcs.length → vf_n64 (arS es P pcs pX pY pD r k) → wp_X5_area_L15 (nI r) 1 rPx rPy rPd (nI pcs.length) rFi rLa rLe rRi Q (m + 1) (arS es P pcs pX pY pD r k) (nI k) 0 := by
          intro m
          induction m with
          | zero =>
            intro k hk hnn
            rw [wp_X5_area_L15]
            have e' : k = pcs.length := by omega
            subst e'
            exact ⟨fun _ => h, fun z => absurd (nI_le (Nat.le_refl _) (by omega)) z⟩
          | succ m ih =>
            intro k hk hnn
            obtain ⟨⟨i, j⟩, hij⟩ := lg (show k < pcs.length by omega)
            obtain ⟨li, lj⟩ := hin (i, j) (List.mem_of_getElem? hij)
            dsimp only at li lj
            obtain ⟨-, -, g3, g4, -⟩ := hRR k (i, j) hij
            dsimp only at g3 g4
            have hat := arS_at (es := es) (P := P) (x := pX) (y := pY) (d := pD) (r := r) hij
            obtain ⟨tm, -⟩ := trm_mag hP li lj
            obtain ⟨si1, si2, si3⟩ := RP_same hP hR li
            obtain ⟨sj1, sj2, sj3⟩ := RP_same hP hR lj
            have vk := vin (show k < 300 by omega) (show 300 < 2 ^ 31 by decide)
            have ek := cl_nI (show k < 2 ^ 31 by omega)
            have vi := vin (show i < 80 by omega) (show 80 < 2 ^ 31 by decide)
            have vj := vin (show j < 80 by omega) (show 80 < 2 ^ 31 by decide)
            rw [wp_X5_area_L15]
            refine ⟨fun z => absurd z (nI_ge (by omega) (by omega)), fun _ => s_bding hT hl (by omega) hr _ ?_⟩
            rw [bd_0]
            refine ⟨fun z => ?_, fun z => ?_⟩
            · show wp_X5_area_L15 _ _ _ _ _ _ _ _ _ _ _ _ _ (nI k + 1) _
              rw [nI_1]
              have e2 : arS es P pcs pX pY pD r (k + 1) = arS es P pcs pX pY pD r k := by rw [hat, if_neg (by unfold dvB; rw [z]; decide)]
              have := ih (k + 1) (by omega) (by rw [e2]; exact hnn)
              rw [e2] at this
              exact this
            · have hd : dvB es P pcs r k = true := btr z
              rw [if_pos hd] at hat
              rw [bd_n (btr z)]
              have hs : FP.i2d (if lB es P pcs r k = true then 1 else -1) = (if lB es P pcs r k = true then FP.dconst1 else dM1) := by
                cases lB es P pcs r k
                · exact i2d_m1
                · exact i2d_1
              rw [hs, ek, g3, g4]
              refine ⟨vk, fun x45 e45 => ⟨vk, fun x54 e54 => ?_⟩⟩
              subst e45 e54
              rw [cl_nI (show i < 2 ^ 31 by omega), cl_nI (show j < 2 ^ 31 by omega), si1, si2, si3, sj1, sj2, sj3]
              have mm := mul_mag1 (one_mag (lB es P pcs r k)) tm
              refine ⟨vi, vj, vj, vi, fun x92 e92 => ⟨vi, vj, fun x112 e112 => ?_⟩⟩
              subst e92 e112
              refine ⟨mag_nn tm (by decide), fun x119 e119 => ?_⟩
              subst e119
              refine ⟨mag_nn mm (by decide), add_nn hnn mm, fun x129 e129 => ?_⟩
              show wp_X5_area_L15 _ _ _ _ _ _ _ _ _ _ _ _ _ (nI k + 1) _
              rw [nI_1]
              have e3 : x129 = arS es P pcs pX pY pD r (k + 1) := by rw [e129, hat]; rfl
              rw [e3]
              refine ih (k + 1) (by omega) ?_
              rw [← e3, e129]
              exact add_nn hnn mm
        exact ⟨pcs.length + 1, key pcs.length 0 (by omega) d0_nn⟩
    · exact ⟨2, FP.dconst0, by decide, fun oL Q h => ⟨fun _ => s_needR (fun r hr e => absurd ⟨r, hr, e⟩ hv) (fun _ => Or.inr ⟨rfl, h oL (fun z => absurd z (by decide))⟩), fun z => absurd z z1⟩, fun rF Q h => s_lacks (fun z => absurd z z1) (fun _ r hr e => absurd ⟨r, hr, e⟩ hv) (fun _ _ => ⟨fun z => absurd z z1, fun _ => h⟩)⟩
