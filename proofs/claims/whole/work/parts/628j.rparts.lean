/-! the reference counts parts and pairs -/
theorem lb_sm : ∀ j, j < 64 → (((nI j).toInt64 &&& 63).toBitVec.smod 64).toNat = j := by decide
theorem lb_1 : ∀ j, j < 64 → ((1 : Int64) <<< ((nI j).toInt64 &&& 63)).toBitVec = BitVec.twoPow 64 j := by decide
theorem bv_and1 (z : BitVec 64) : z &&& 1#64 = 1#64 ↔ z.getLsbD 0 = true := by
  constructor
  · intro h
    have := congrArg (fun w => w.getLsbD 0) h
    simpa [BitVec.getLsbD_and] using this
  · intro h
    apply BitVec.eq_of_getLsbD_eq
    intro i hi
    rw [BitVec.getLsbD_and]
    by_cases c : i = 0
    · subst c; simp [h]
    · have : (1#64).getLsbD i = false := by
        rw [BitVec.getLsbD_one]; simp [c]
      rw [this]; simp
theorem l_bit {x : Int64} {j : Nat} (hj : j < 64) : ((x >>> ((nI j).toInt64 &&& 63)) &&& 1) = 1 ↔ x.toBitVec.getLsbD j = true := by
  rw [← Int64.toBitVec_inj, Int64.toBitVec_and, Int64.toBitVec_shiftRight]
  show (x.toBitVec.sshiftRight' (((nI j).toInt64 &&& 63).toBitVec.smod 64)) &&& 1#64 = 1#64 ↔ _
  rw [bv_and1, BitVec.sshiftRight', lb_sm j hj, BitVec.getLsbD_sshiftRight]
  simp [hj]
theorem l_set {x : Int64} {i j : Nat} (hi : i < 64) (hj : j < 64) : (x ||| ((1 : Int64) <<< ((nI j).toInt64 &&& 63))).toBitVec.getLsbD i = (x.toBitVec.getLsbD i || decide (i = j)) := by
  rw [Int64.toBitVec_or, BitVec.getLsbD_or, lb_1 j hj, BitVec.getLsbD_twoPow]
  congr 1
  by_cases c : i = j
  · subst c; simp [hi]
  · have : ¬ j = i := fun z => c z.symm
    simp [c, this]
def BR (lo hi : Int64) (A : Nat → Bool) : Prop := (∀ k, k < 64 → lo.toBitVec.getLsbD k = A k) ∧ ∀ k, 64 ≤ k → k < 128 → hi.toBitVec.getLsbD (k - 64) = A k
theorem i64 : (64 : Int32) = nI 64 := by decide
theorem s_in {lo hi : Int64} {A : Nat → Bool} (h : BR lo hi A) {k : Nat} (hk : k < 128) (Q : Int32 → Prop) (hQ : Q (if A k then 1 else 0)) : wp_X5_in lo hi (nI k) Q := by
  unfold wp_X5_in
  rw [i64]
  refine ⟨fun z => ?_, fun z => ?_⟩
  · rw [ble_nI (by decide) (by omega)] at z
    rw [pk_sub z, l_bit (by omega), h.2 k z hk]
    refine ⟨fun c => ⟨nb0, ?_⟩, fun c => ⟨nb1, ?_⟩⟩
    · rw [if_neg c] at hQ; exact hQ
    · rw [if_pos c] at hQ; exact hQ
  · rw [ble_nI (by decide) (by omega)] at z
    rw [l_bit (by omega), h.1 k (by omega)]
    refine ⟨fun c => ⟨nb0, ?_⟩, fun c => ⟨nb1, ?_⟩⟩
    · rw [if_neg c] at hQ; exact hQ
    · rw [if_pos c] at hQ; exact hQ
def addA (A : Nat → Bool) (t : Nat) : Nat → Bool := fun k => A k || decide (k = t)
theorem BR_lo {lo hi : Int64} {A : Nat → Bool} (h : BR lo hi A) {t : Nat} (ht : t < 64) : BR (lo ||| ((1 : Int64) <<< ((nI t).toInt64 &&& 63))) hi (addA A t) := by
  refine ⟨fun k hk => ?_, fun k h1 h2 => ?_⟩
  · rw [l_set hk ht, h.1 k hk]; rfl
  · rw [h.2 k h1 h2]; unfold addA; simp [show ¬ k = t by omega]
theorem BR_hi {lo hi : Int64} {A : Nat → Bool} (h : BR lo hi A) {t : Nat} (ht : 64 ≤ t) (ht2 : t < 128) : BR lo (hi ||| ((1 : Int64) <<< ((nI (t - 64)).toInt64 &&& 63))) (addA A t) := by
  refine ⟨fun k hk => ?_, fun k h1 h2 => ?_⟩
  · rw [h.1 k hk]; unfold addA; simp [show ¬ k = t by omega]
  · rw [l_set (by omega) (by omega), h.2 k h1 h2]
    unfold addA
    congr 1
    exact decide_eq_decide.mpr (by omega)
theorem ct_lt {A B : Nat → Bool} (hs : ∀ x, A x = true → B x = true) {t : Nat} (h1 : A t = false) (h2 : B t = true) : ∀ {n : Nat}, t < n → ct A n < ct B n := by
  have hle : ∀ n, ct A n ≤ ct B n := by
    intro n
    induction n with
    | zero => exact Nat.le_refl _
    | succ n ih =>
      rw [ct, ct]
      by_cases c : A n = true
      · rw [if_pos c, if_pos (hs n c)]; omega
      · rw [if_neg c]; omega
  intro n
  induction n with
  | zero => intro h; omega
  | succ n ih =>
    intro h
    rw [ct, ct]
    by_cases c : t = n
    · subst c
      have := hle t
      rw [h1, h2]; simp; omega
    · have := ih (by omega)
      by_cases d : A n = true
      · rw [if_pos d, if_pos (hs n d)]; omega
      · rw [if_neg d]; omega
/-- the set that the reference grows -/
def GA (C : Nat → Nat → Prop) (m s : Nat) (A : Nat → Bool) (l : Nat) : Prop := (∀ x, A x = true → x < m ∧ con C s x) ∧ A s = true ∧ A l = true ∧ ∀ x, A x = true → l ≤ x
theorem s_grow {m : Nat} (hm : m ≤ 78) {pcs : List (Nat × Nat)} (hq : pcs.length ≤ 276) {rFi rLa : Nat → Int32} (hF : ∀ k ij, pcs[k]? = some ij → rFi k = nI ij.1 ∧ rLa k = nI ij.2 ∧ ij.1 < m ∧ ij.2 < m) {C : Nat → Nat → Prop} (hC : ∀ i j, (i, j) ∈ pcs → C i j) (hCs : ∀ i j, C i j → C j i) (hC2 : ∀ i j, C i j → (i, j) ∈ pcs ∨ (j, i) ∈ pcs) {s : Nat} {rP Q K v1}
    (h : ∀ l : Nat, l < 78 → (l = s ↔ lowC C s = true) → K v1 (nI s) (nI l)) :
    ∀ t A lo hi l, GA C m s A l → BR lo hi A → m ≤ ct A m + t → wp_X5_parts_L78 rP (nI pcs.length) rFi rLa Q K (t + 2) v1 (nI s) (nI l) 1 lo hi := by
  intro t
  induction t using Nat.strongRecOn with
  | ind t iht =>
    intro A lo hi l hG hB hct
    have pass : ∀ r k A' lo hi l mo, k + r = pcs.length → GA C m s A' l → BR lo hi A' → (∀ x, A x = true → A' x = true) → ((mo = 0 ∧ (∀ x, A' x = A x) ∧ ∀ (j : Nat) (ij : Nat × Nat), j < k → pcs[j]? = some ij → A ij.1 = A ij.2) ∨ (mo = 1 ∧ ct A m < ct A' m)) →
        wp_X5_parts_L89 rP (nI pcs.length) rFi rLa Q (fun v1 v2 v3 v4 v5 v7 => (wp_X5_parts_L228 rP (nI pcs.length) rFi rLa Q (wp_X5_parts_L78 rP (nI pcs.length) rFi rLa Q K (t + 1)) v1 v2 v3 v4 v5 v7)) (r + 1) v1 (nI s) (nI l) mo lo hi (nI k) := by
      intro r
      induction r with
      | zero =>
        intro k A' lo hi l mo hk hG' hB' hs hmo
        rw [wp_X5_parts_L89]
        refine ⟨fun _ => ?_, fun z => absurd (nI_le (by omega) (by omega)) z⟩
        show wp_X5_parts_L78 rP (nI pcs.length) rFi rLa Q K (t + 1) v1 (nI s) (nI l) mo lo hi
        rcases hmo with ⟨rfl, hA, hcl⟩ | ⟨rfl, hlt⟩
        · rw [wp_X5_parts_L78]
          refine ⟨fun _ => ?_, fun z => absurd rfl z⟩
          have hl := hG'.1 l hG'.2.2.1
          refine h l (by omega) ?_
          have hcls : ∀ x, con C s x → A' x = true := by
            intro x hx
            refine hx (fun y => A' y = true) hG'.2.1 (fun a b ha hab => ?_)
            rcases hC2 a b hab with hmem | hmem
            · obtain ⟨j, hj⟩ := List.mem_iff_getElem?.mp hmem
              have := hcl j (a, b) (by have := lgl hj; omega) hj
              rw [hA] at ha ⊢
              rw [← this]; exact ha
            · obtain ⟨j, hj⟩ := List.mem_iff_getElem?.mp hmem
              have := hcl j (b, a) (by have := lgl hj; omega) hj
              rw [hA] at ha ⊢
              rw [this]; exact ha
          rw [lowC_iff]
          constructor
          · intro e j hj hc
            have := hG'.2.2.2 j (hcls j hc)
            omega
          · intro hlow
            have h1 := hG'.2.2.2 s hG'.2.1
            rcases (show l = s ∨ l < s by omega) with e | e
            · exact e
            · exact absurd hl.2 (hlow l e)
        · have hle := ct_le A' m
          have := iht (t - 1) (by omega) A' lo hi l hG' hB' (by omega)
          rw [show t - 1 + 2 = t + 1 by omega] at this
          exact this
      | succ r ihr =>
        intro k A' lo hi l mo hk hG' hB' hs hmo
        obtain ⟨⟨i, j⟩, hij⟩ := lg (show k < pcs.length by omega)
        obtain ⟨f1, f2, f3, f4⟩ := hF k (i, j) hij
        dsimp only at f1 f2 f3 f4
        have hv := vin (show k < 300 by omega) (show 300 < 2 ^ 31 by decide)
        have hCij := hC i j (List.mem_of_getElem? hij)
        rw [wp_X5_parts_L89, cl_nI (show k < 2 ^ 31 by omega), f1, f2]
        refine ⟨fun z => absurd z (nI_ge (by omega) (by omega)), fun _ => ⟨hv, s_in hB' (by omega) _ ⟨hv, s_in hB' (by omega) _ ?_⟩⟩⟩
        have grow : ∀ to fr, to < m → A' to = false → A' fr = true → C fr to → wp_X5_parts_L159 rP (nI pcs.length) rFi rLa Q (wp_X5_parts_L89 rP (nI pcs.length) rFi rLa Q (fun v1 v2 v3 v4 v5 v7 => (wp_X5_parts_L228 rP (nI pcs.length) rFi rLa Q (wp_X5_parts_L78 rP (nI pcs.length) rFi rLa Q K (t + 1)) v1 v2 v3 v4 v5 v7)) (r + 1)) v1 (nI s) (nI l) lo hi (nI k) (nI to) := by
          intro to fr hto hto0 hfr hcc
          have hl := hG'.1 l hG'.2.2.1
          have hsA : ∀ x, A' x = true → addA A' to x = true := fun x hx => by unfold addA; rw [hx]; rfl
          have hto1 : addA A' to to = true := by unfold addA; simp
          have hin : ∀ x, addA A' to x = true → A' x = true ∨ x = to := fun x hx => by
            unfold addA at hx
            rw [Bool.or_eq_true, decide_eq_true_eq] at hx
            exact hx
          have hctl : ct A m < ct (addA A' to) m := by
            have h1 := ct_lt hsA hto0 hto1 hto
            rcases hmo with ⟨-, hA, -⟩ | ⟨-, hlt⟩
            · rw [← ct_congr (P := A') (Q := A) (fun x _ => hA x)]; exact h1
            · omega
          have hcon : con C s to := con_tr (hG'.1 fr hfr).2 (con_step hcc)
          have t204 : ∀ lo2 hi2, BR lo2 hi2 (addA A' to) → wp_X5_parts_L204 rP (nI pcs.length) rFi rLa Q (wp_X5_parts_L89 rP (nI pcs.length) rFi rLa Q (fun v1 v2 v3 v4 v5 v7 => (wp_X5_parts_L228 rP (nI pcs.length) rFi rLa Q (wp_X5_parts_L78 rP (nI pcs.length) rFi rLa Q K (t + 1)) v1 v2 v3 v4 v5 v7)) (r + 1)) v1 (nI s) (nI l) lo2 (nI k) (nI to) hi2 := by
            intro lo2 hi2 hB2
            unfold wp_X5_parts_L204
            rw [ble_nI (by omega) (by omega)]
            refine ⟨fun z => ?_, fun z => ?_⟩
            · show wp_X5_parts_L89 _ _ _ _ _ _ _ _ _ _ _ _ _ (nI k + 1)
              rw [nI_1]
              refine ihr (k + 1) (addA A' to) lo2 hi2 l 1 (by omega) ⟨fun x hx => ?_, hsA s hG'.2.1, hsA l hG'.2.2.1, fun x hx => ?_⟩ hB2 (fun x hx => hsA x (hs x hx)) (Or.inr ⟨rfl, hctl⟩)
              · rcases hin x hx with e | e
                · exact hG'.1 x e
                · subst e; exact ⟨hto, hcon⟩
              · rcases hin x hx with e | e
                · exact hG'.2.2.2 x e
                · omega
            · show wp_X5_parts_L89 _ _ _ _ _ _ _ _ _ _ _ _ _ (nI k + 1)
              rw [nI_1]
              refine ihr (k + 1) (addA A' to) lo2 hi2 to 1 (by omega) ⟨fun x hx => ?_, hsA s hG'.2.1, hto1, fun x hx => ?_⟩ hB2 (fun x hx => hsA x (hs x hx)) (Or.inr ⟨rfl, hctl⟩)
              · rcases hin x hx with e | e
                · exact hG'.1 x e
                · subst e; exact ⟨hto, hcon⟩
              · rcases hin x hx with e | e
                · have := hG'.2.2.2 x e; omega
                · omega
          unfold wp_X5_parts_L159 wp_X5_parts_L180
          rw [i64, ble_nI (by decide) (by omega)]
          refine ⟨fun z => ⟨fun _ => ?_, fun z2 => absurd z z2⟩, fun z => ⟨fun z2 => absurd z2 z, fun _ => ?_⟩⟩
          · rw [pk_sub z]
            exact t204 _ _ (BR_hi hB' z (by omega))
          · exact t204 _ _ (BR_lo hB' (by omega))
        by_cases ca : A' i = true <;> by_cases cb : A' j = true
        · rw [if_pos ca, if_pos cb]
          refine ⟨fun _ => ?_, fun z => absurd rfl z⟩
          show wp_X5_parts_L89 _ _ _ _ _ _ _ _ _ _ _ _ _ (nI k + 1)
          rw [nI_1]
          refine ihr (k + 1) A' lo hi l mo (by omega) hG' hB' hs ?_
          rcases hmo with ⟨e, hA, hcl⟩ | hlt
          · refine Or.inl ⟨e, hA, fun j' ij' hj' hg => ?_⟩
            by_cases d : j' = k
            · subst d; rw [hij] at hg; injection hg with hg; subst hg
              show A i = A j
              rw [← hA, ← hA, ca, cb]
            · exact hcl j' ij' (by omega) hg
          · exact Or.inr hlt
        · rw [if_pos ca, if_neg cb]
          refine ⟨fun z => absurd z (by decide), fun _ => ⟨fun z => absurd z (by decide), fun _ => ⟨hv, grow j i f4 (Bool.eq_false_iff.mpr cb) ca hCij⟩⟩⟩
        · rw [if_neg ca, if_pos cb]
          refine ⟨fun z => absurd z (by decide), fun _ => ⟨fun _ => ⟨hv, grow i j f3 (Bool.eq_false_iff.mpr ca) cb (hCs _ _ hCij)⟩, fun z => absurd rfl z⟩⟩
        · rw [if_neg ca, if_neg cb]
          refine ⟨fun _ => ?_, fun z => absurd rfl z⟩
          show wp_X5_parts_L89 _ _ _ _ _ _ _ _ _ _ _ _ _ (nI k + 1)
          rw [nI_1]
          refine ihr (k + 1) A' lo hi l mo (by omega) hG' hB' hs ?_
          rcases hmo with ⟨e, hA, hcl⟩ | hlt
          · refine Or.inl ⟨e, hA, fun j' ij' hj' hg => ?_⟩
            by_cases d : j' = k
            · subst d; rw [hij] at hg; injection hg with hg; subst hg
              show A i = A j
              rw [← hA, ← hA, Bool.eq_false_iff.mpr ca, Bool.eq_false_iff.mpr cb]
            · exact hcl j' ij' (by omega) hg
          · exact Or.inr hlt
    rw [wp_X5_parts_L78]
    exact ⟨fun z => absurd z (by decide), fun _ => ⟨pcs.length + 1, pass pcs.length 0 A lo hi l 0 (by omega) hG hB (fun x hx => hx) (Or.inl ⟨rfl, fun x => rfl, fun j ij hj => absurd hj (by omega)⟩)⟩⟩
theorem BR_one {s : Nat} (hs : s < 64) : BR ((1 : Int64) <<< ((nI s).toInt64 &&& 63)) 0 (fun k => decide (k = s)) := by
  refine ⟨fun k hk => ?_, fun k h1 h2 => ?_⟩
  · rw [lb_1 s hs, BitVec.getLsbD_twoPow]
    by_cases c : k = s
    · subst c; simp [hk]
    · have : ¬ s = k := fun z => c z.symm
      simp [c, this]
  · rw [show (0 : Int64).toBitVec = 0#64 from rfl, BitVec.getLsbD_zero]
    simp [show ¬ k = s by omega]
theorem BR_two {s : Nat} (hs : 64 ≤ s) (hs2 : s < 128) : BR 0 ((1 : Int64) <<< ((nI (s - 64)).toInt64 &&& 63)) (fun k => decide (k = s)) := by
  refine ⟨fun k hk => ?_, fun k h1 h2 => ?_⟩
  · rw [show (0 : Int64).toBitVec = 0#64 from rfl, BitVec.getLsbD_zero]
    simp [show ¬ k = s by omega]
  · rw [lb_1 (s - 64) (by omega), BitVec.getLsbD_twoPow]
    by_cases c : k = s
    · subst c; simp; omega
    · have : ¬ s - 64 = k - 64 := by omega
      simp [c, this]
theorem s_rparts {m : Nat} (hm : m ≤ 78) {pcs : List (Nat × Nat)} (hq : pcs.length ≤ 276) {rFi rLa : Nat → Int32} (hF : ∀ k ij, pcs[k]? = some ij → rFi k = nI ij.1 ∧ rLa k = nI ij.2 ∧ ij.1 < m ∧ ij.2 < m) {C : Nat → Nat → Prop} (hC : ∀ i j, (i, j) ∈ pcs → C i j) (hCs : ∀ i j, C i j → C j i) (hC2 : ∀ i j, C i j → (i, j) ∈ pcs ∨ (j, i) ∈ pcs) (Q : Int32 → Prop) (h : Q (nI (ct (lowC C) m))) : wp_X5_parts (nI m) (nI pcs.length) rFi rLa Q := by
  have key : ∀ r s, s + r = m → wp_X5_parts_L4 (nI m) (nI pcs.length) rFi rLa Q (r + 1) (nI (ct (lowC C) s)) (nI s) := by
    intro r
    induction r with
    | zero =>
      intro s hs
      rw [wp_X5_parts_L4]
      refine ⟨fun _ => ?_, fun z => absurd (nI_le (by omega) (by omega)) z⟩
      have e : s = m := by omega
      subst e
      exact h
    | succ r ih =>
      intro s hs
      have ih2 := ih (s + 1) (by omega)
      have t76 : ∀ lo hi, BR lo hi (fun k => decide (k = s)) → wp_X5_parts_L76 (nI m) (nI pcs.length) rFi rLa Q (wp_X5_parts_L4 (nI m) (nI pcs.length) rFi rLa Q (r + 1)) (nI (ct (lowC C) s)) (nI s) (nI s) 1 lo hi := by
        intro lo hi hB
        refine ⟨m + 2, s_grow hm hq hF hC hCs hC2 (fun l hl78 hl => ?_) m (fun k => decide (k = s)) lo hi s ⟨fun x hx => ?_, by simp, by simp, fun x hx => ?_⟩ hB (by omega)⟩
        · unfold wp_X5_parts_L231
          rw [nI_eq (by omega) (by omega)]
          refine ⟨fun z => fun x e => ?_, fun z => fun x e => ?_⟩
          · rw [show (0 : Int32) = nI 0 from nI_0.symm, nI_add, Nat.add_zero] at e
            rw [e, nI_1]
            rw [ct, if_neg (fun y => z (hl.mpr y)), Nat.add_zero] at ih2
            exact ih2
          · rw [nI_1] at e
            rw [e, nI_1]
            rw [ct, if_pos (hl.mp z)] at ih2
            exact ih2
        · have e := of_decide_eq_true hx
          subst e
          exact ⟨by omega, con_refl x⟩
        · have e := of_decide_eq_true hx
          omega
      rw [wp_X5_parts_L4, i64, ble_nI (a := 64) (b := s) (by decide) (by omega)]
      refine ⟨fun z => absurd z (nI_ge (by omega) (by omega)), fun _ => ⟨fun z => ?_, fun z => ?_⟩⟩
      · intro x30 e30
        rw [i64, ble_nI (by decide) (by omega)]
        refine ⟨fun _ => ?_, fun z2 => absurd z z2⟩
        intro x48 e48
        rw [pk_sub z] at e48
        subst e48
        rw [i64, ble_nI (by decide) (by omega)]
        refine ⟨fun _ => ?_, fun z2 => absurd z z2⟩
        unfold wp_X5_parts_L62
        rw [i64, ble_nI (by decide) (by omega)]
        exact ⟨fun _ => t76 _ _ (BR_two z (by omega)), fun z2 => absurd z z2⟩
      · intro x30 e30
        subst e30
        rw [i64, ble_nI (by decide) (by omega)]
        refine ⟨fun z2 => absurd z2 z, fun _ => ?_⟩
        intro x48 e48
        rw [i64, ble_nI (by decide) (by omega)]
        refine ⟨fun z2 => absurd z2 z, fun _ => ?_⟩
        unfold wp_X5_parts_L62
        rw [i64, ble_nI (by decide) (by omega)]
        exact ⟨fun z2 => absurd z2 z, fun _ => t76 _ _ (BR_one (by omega))⟩
  exact ⟨m + 1, key m 0 (by omega)⟩
theorem s_rpairs {es : List Ed} {rAx rAy rBx rBy : Nat → Int32} (hE : RE rAx rAy rBx rBy es) (hP : (gaL es).length ≤ 78) {o1 o2 o3 o4 o5 o6 : Int64} (Q : Int32 → Int64 → Int64 → Int64 → Int64 → Int64 → Int64 → Prop) (h : ∀ o1 o2 o3 o4 o5 o6, Q (nI (pairsN es (gaL es))) o1 o2 o3 o4 o5 o6) : wp_X5_pairs (nI es.length) rAx rAy rBx rBy o1 o2 o3 o4 o5 o6 Q := by
  have hn := hE.1
  have key : ∀ m a o1 o2 o3 o4 o5 o6, a + m = es.length → wp_X5_pairs_L4 (nI es.length) rAx rAy rBx rBy Q (m + 1) (nI (prs (shB es (gaL es)) a)) (nI a) o1 o2 o3 o4 o5 o6 := by
    intro m
    induction m with
    | zero =>
      intro a o1 o2 o3 o4 o5 o6 ha
      rw [wp_X5_pairs_L4]
      refine ⟨fun _ => ?_, fun z => absurd (nI_le (by omega) (by omega)) z⟩
      have e : a = es.length := by omega
      subst e
      exact h _ _ _ _ _ _
    | succ m ih =>
      intro a o1 o2 o3 o4 o5 o6 ha
      have inner : ∀ m2 b o1 o2 o3 o4 o5 o6, b + m2 = a → wp_X5_pairs_L14 (nI es.length) rAx rAy rBx rBy Q (fun v1 v2 rHx rHy rHd rKx rKy rKd => (wp_X5_pairs_L42 (nI es.length) rAx rAy rBx rBy Q (wp_X5_pairs_L4 (nI es.length) rAx rAy rBx rBy Q (m + 1)) v1 v2 rHx rHy rHd rKx rKy rKd)) (m2 + 1) (nI (prs (shB es (gaL es)) a + ct (shB es (gaL es) a) b)) (nI a) (nI b) o1 o2 o3 o4 o5 o6 := by
        intro m2
        induction m2 with
        | zero =>
          intro b o1 o2 o3 o4 o5 o6 hb
          rw [wp_X5_pairs_L14]
          refine ⟨fun _ => ?_, fun z => absurd (nI_le (by omega) (by omega)) z⟩
          show wp_X5_pairs_L4 _ _ _ _ _ _ _ _ (nI a + 1) _ _ _ _ _ _
          rw [nI_1]
          have e : b = a := by omega
          subst e
          exact ih (b + 1) _ _ _ _ _ _ (by omega)
        | succ m2 ih2 =>
          intro b o1 o2 o3 o4 o5 o6 hb
          rw [wp_X5_pairs_L14]
          refine ⟨fun z => absurd z (nI_ge (by omega) (by omega)), fun _ => s_rmeet hE hP (by omega) (by omega) (by omega) _ (fun hc o1 o2 o3 o4 o5 o6 => ?_) (fun c H K i j mm nn o1 o2 o3 o4 o5 o6 hc0 hc hcm _ _ _ _ _ _ i1 i2 _ _ _ => ?_)⟩
          · have hno : shB es (gaL es) a b = false := by
              apply Bool.eq_false_iff.mpr
              intro z
              obtain ⟨k, k1, k2⟩ := shR_iff.mp z
              rcases hc with ⟨-, e | e⟩ | ⟨-, i, j, -, -, -, -, -, -, -, e⟩
              · omega
              · exact e k ⟨k1, k2⟩
              · omega
            refine ⟨fun _ => fun x e => ?_, fun z => absurd (by decide) z⟩
            rw [show (0 : Int32) = nI 0 from nI_0.symm, nI_add, Nat.add_zero] at e
            rw [e, nI_1]
            have := ih2 (b + 1) o1 o2 o3 o4 o5 o6 (by omega)
            rw [ct, hno] at this
            exact this
          · have hyes : shB es (gaL es) a b = true := shR_iff.mpr ⟨i, i1, i2⟩
            refine ⟨fun z => absurd z (nI_nle hc0 (by omega)), fun _ => fun x e => ?_⟩
            rw [nI_1] at e
            rw [e, nI_1]
            have := ih2 (b + 1) o1 o2 o3 o4 o5 o6 (by omega)
            rw [ct, hyes] at this
            exact this
      rw [wp_X5_pairs_L4]
      exact ⟨fun z => absurd z (nI_ge (by omega) (by omega)), fun _ => ⟨a + 1, inner a 0 _ _ _ _ _ _ (by omega)⟩⟩
  exact ⟨es.length + 1, key es.length 0 _ _ _ _ _ _ (by omega)⟩
