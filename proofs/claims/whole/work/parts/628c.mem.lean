/-! which points there are, and how many -/
abbrev fi (q : Ed) : Pt := (q.1, q.2.1, 1)
abbrev la (q : Ed) : Pt := (q.2.2.1, q.2.2.2.1, 1)
def mR (q r : Ed) : Pt := rdc (mX q r) (mY q r) (mD q r)
theorem mR_red {q r : Ed} (h : dtE q r ≠ 0) : red (mR q r) := rdc_red (mD_pos h)
theorem mR_peq {q r : Ed} : peq (mR q r) (mP q r) := rdc_peq
theorem mtF_mem {es : List Ed} {q : Ed} {l : List Pt} {p : Pt} : ∀ {n : Nat}, p ∈ mtF es q l n ↔ p ∈ l ∨ ∃ b r, b < n ∧ es[b]? = some r ∧ mO q r ∧ p = mR q r
  | 0 => by
    rw [mtF]
    constructor
    · exact Or.inl
    · rintro (h | ⟨b, r, h, -⟩)
      · exact h
      · omega
  | n + 1 => by
    have ih := mtF_mem (es := es) (q := q) (l := l) (p := p) (n := n)
    cases hr : es[n]? with
    | none =>
      rw [mtF, hr]
      show p ∈ mtF es q l n ↔ _
      rw [ih]
      constructor
      · rintro (h | ⟨b, r, h1, h2⟩)
        · exact Or.inl h
        · exact Or.inr ⟨b, r, by omega, h2⟩
      · rintro (h | ⟨b, r, h1, h2, h3⟩)
        · exact Or.inl h
        · refine Or.inr ⟨b, r, ?_, h2, h3⟩
          by_cases c : b = n
          · subst c; rw [hr] at h2; cases h2
          · omega
    | some r0 =>
      rw [mtF_at hr]
      unfold mtL
      by_cases c : mO q r0
      · rw [if_pos c, insL_mem, ih]
        constructor
        · rintro (h | h | ⟨b, r, h1, h2⟩)
          · exact Or.inr ⟨n, r0, by omega, hr, c, h⟩
          · exact Or.inl h
          · exact Or.inr ⟨b, r, by omega, h2⟩
        · rintro (h | ⟨b, r, h1, h2, h3, h4⟩)
          · exact Or.inr (Or.inl h)
          · by_cases cb : b = n
            · subst cb; rw [hr] at h2; injection h2 with h2; subst h2; exact Or.inl h4
            · exact Or.inr (Or.inr ⟨b, r, by omega, h2, h3, h4⟩)
      · rw [if_neg c, ih]
        constructor
        · rintro (h | ⟨b, r, h1, h2⟩)
          · exact Or.inl h
          · exact Or.inr ⟨b, r, by omega, h2⟩
        · rintro (h | ⟨b, r, h1, h2, h3, h4⟩)
          · exact Or.inl h
          · by_cases cb : b = n
            · subst cb; rw [hr] at h2; injection h2 with h2; subst h2; exact absurd h3 c
            · exact Or.inr ⟨b, r, by omega, h2, h3, h4⟩
theorem gaF_mem {es : List Ed} {p : Pt} : ∀ {n : Nat}, p ∈ gaF es n ↔ ∃ a q, a < n ∧ es[a]? = some q ∧ (p = fi q ∨ p = la q ∨ ∃ b r, b < a ∧ es[b]? = some r ∧ mO q r ∧ p = mR q r)
  | 0 => by
    rw [gaF]
    constructor
    · intro h; exact absurd h List.not_mem_nil
    · rintro ⟨a, q, h, -⟩; omega
  | n + 1 => by
    have ih := gaF_mem (es := es) (p := p) (n := n)
    cases hq : es[n]? with
    | none =>
      rw [gaF, hq]
      show p ∈ gaF es n ↔ _
      rw [ih]
      constructor
      · rintro ⟨a, q, h1, h2⟩; exact ⟨a, q, by omega, h2⟩
      · rintro ⟨a, q, h1, h2, h3⟩
        refine ⟨a, q, ?_, h2, h3⟩
        by_cases c : a = n
        · subst c; rw [hq] at h2; cases h2
        · omega
    | some q0 =>
      rw [gaF_at hq, mtF_mem, insL_mem, insL_mem, ih]
      constructor
      · rintro ((h | h | ⟨a, q, h1, h2⟩) | h)
        · exact ⟨n, q0, by omega, hq, Or.inr (Or.inl h)⟩
        · exact ⟨n, q0, by omega, hq, Or.inl h⟩
        · exact ⟨a, q, by omega, h2⟩
        · exact ⟨n, q0, by omega, hq, Or.inr (Or.inr h)⟩
      · rintro ⟨a, q, h1, h2, h3⟩
        by_cases c : a = n
        · subst c
          rw [hq] at h2; injection h2 with h2; subst h2
          rcases h3 with h3 | h3 | h3
          · exact Or.inl (Or.inr (Or.inl h3))
          · exact Or.inl (Or.inl h3)
          · exact Or.inr h3
        · exact Or.inl (Or.inr (Or.inr ⟨a, q, by omega, h2, h3⟩))
theorem gaL_mem {es : List Ed} {p : Pt} : p ∈ gaL es ↔ ∃ (a : Nat) (q : Ed), es[a]? = some q ∧ (p = fi q ∨ p = la q ∨ ∃ b r, b < a ∧ es[b]? = some r ∧ mO q r ∧ p = mR q r) := by
  unfold gaL
  rw [gaF_mem]
  constructor
  · rintro ⟨a, q, -, h⟩; exact ⟨a, q, h⟩
  · rintro ⟨a, q, h1, h2⟩; exact ⟨a, q, lgl h1, h1, h2⟩
theorem mtL_srt {q r : Ed} {l : List Pt} (h : srt l) : srt (mtL q r l) := by
  unfold mtL; split
  · rename_i c; exact insL_srt (mR_red c.1) h
  · exact h
theorem mtF_srt {es : List Ed} {q : Ed} {l : List Pt} (h : srt l) : ∀ {n : Nat}, srt (mtF es q l n)
  | 0 => h
  | n + 1 => by
    rw [mtF]
    cases es[n]? with
    | none => exact mtF_srt h
    | some r => exact mtL_srt (mtF_srt h)
theorem gaF_srt {es : List Ed} : ∀ {n : Nat}, srt (gaF es n)
  | 0 => ⟨List.Pairwise.nil, fun p hp => absurd hp List.not_mem_nil⟩
  | n + 1 => by
    rw [gaF]
    cases es[n]? with
    | none => exact gaF_srt
    | some q => exact mtF_srt (insL_srt (red_one _ _) (insL_srt (red_one _ _) gaF_srt))
theorem srt_nd {l : List Pt} (h : srt l) : l.Nodup := h.1.imp (fun {a b} h e => by subst e; exact plt_irr h)
/-! at most 78 -/
def vsP (V : Nat → List Vt) : List Vt := V 0 ++ V 1
theorem addE_ends {p : Nat} {u v : Vt} {es : List Ed} {vs : List Vt} (hu : u ∈ vs) (hv : v ∈ vs) (h : ∀ q ∈ es, (q.1, q.2.1) ∈ vs ∧ (q.2.2.1, q.2.2.2.1) ∈ vs) : ∀ q ∈ addE p u v es, (q.1, q.2.1) ∈ vs ∧ (q.2.2.1, q.2.2.2.1) ∈ vs := by
  unfold addE; split
  · exact h
  · intro q hq
    rcases List.mem_append.mp hq with hq | hq
    · exact h q hq
    · rw [List.mem_singleton.mp hq]
      unfold mkE; split
      · exact ⟨hu, hv⟩
      · exact ⟨hv, hu⟩
theorem tkF_ends {ws vs : List Vt} {p : Nat} {es : List Ed} (hs : ∀ v ∈ ws, v ∈ vs) (h : ∀ q ∈ es, (q.1, q.2.1) ∈ vs ∧ (q.2.2.1, q.2.2.2.1) ∈ vs) : ∀ {n : Nat}, ∀ q ∈ tkF ws p es n, (q.1, q.2.1) ∈ vs ∧ (q.2.2.1, q.2.2.2.1) ∈ vs
  | 0 => h
  | n + 1 => by
    rw [tkF]
    split
    · rename_i h1 h2
      exact addE_ends (hs _ (List.mem_of_getElem? h1)) (hs _ (List.mem_of_getElem? h2)) (tkF_ends hs h)
    · exact tkF_ends hs h
theorem es_ends {V : Nat → List Vt} : ∀ q ∈ esOf V, (q.1, q.2.1) ∈ vsP V ∧ (q.2.2.1, q.2.2.2.1) ∈ vsP V :=
  tkF_ends (fun v hv => List.mem_append.mpr (Or.inr hv)) (tkF_ends (fun v hv => List.mem_append.mpr (Or.inl hv)) (fun q hq => absurd hq List.not_mem_nil))
def mE (es : List Ed) (a b : Nat) : Pt := match es[a]?, es[b]? with
  | some q, some r => mR q r
  | _, _ => (0, 0, 1)
theorem mE_at {es : List Ed} {a b : Nat} {q r : Ed} (ha : es[a]? = some q) (hb : es[b]? = some r) : mE es a b = mR q r := by unfold mE; rw [ha, hb]
def cand (V : Nat → List Vt) (es : List Ed) : List Pt := (vsP V).map (fun v => (v.1, v.2, 1)) ++ (List.range 12).flatMap (fun a => (List.range a).map (fun b => mE es a b))
theorem cand_len {V : Nat → List Vt} {es : List Ed} (hV : VOK V) : (cand V es).length ≤ 78 := by
  have h0 := (hV 0 (by decide)).1
  have h1 := (hV 1 (by decide)).1
  unfold cand vsP
  rw [List.length_append, List.length_map, List.length_append, List.length_flatMap]
  have : (List.map (fun a => (List.map (fun b => mE es a b) (List.range a)).length) (List.range 12)).sum = 66 := by
    simp only [List.length_map, List.length_range]
    decide
  rw [this]
  omega
theorem ga_78 {V : Nat → List Vt} (hV : VOK V) (h12 : (esOf V).length ≤ 12) : (gaL (esOf V)).length ≤ 78 := by
  refine Nat.le_trans (sub_len (srt_nd gaF_srt) (fun p hp => ?_)) (cand_len (V := V) (es := esOf V) hV)
  unfold cand
  rw [List.mem_append]
  obtain ⟨a, q, ha, h⟩ := gaL_mem.mp hp
  have he := es_ends q (List.mem_of_getElem? ha)
  rcases h with h | h | ⟨b, r, hb, hr, hO, h⟩
  · left; rw [h]; exact List.mem_map.mpr ⟨_, he.1, rfl⟩
  · left; rw [h]; exact List.mem_map.mpr ⟨_, he.2, rfl⟩
  · right
    rw [h, ← mE_at ha hr]
    have := lgl ha
    exact List.mem_flatMap.mpr ⟨a, List.mem_range.mpr (by omega), List.mem_map.mpr ⟨b, List.mem_range.mpr hb, rfl⟩⟩
/-! at most 24 on an edge -/
theorem ct_fil {α : Type} {l : List α} {f : α → Bool} : ∀ {n : Nat}, ct (fun k => (l[k]?).any f) n = ((l.take n).filter f).length
  | 0 => by simp [ct]
  | n + 1 => by
    rw [ct, ct_fil, List.take_add_one, List.filter_append, List.length_append]
    congr 1
    cases l[n]? with
    | none => rfl
    | some x =>
      simp only [Option.any_some, Option.toList_some]
      by_cases h : f x = true
      · simp [h]
      · simp [h]
theorem onP_fi {q : Ed} (h : EdOK q) : onP q (fi q) := ⟨sd_f q, peq_ple (p := fi q) (q := fi q) ⟨rfl, rfl⟩, by have := h.2.2.2.2.1; unfold lxe at this; show q.1 * 1 < q.2.2.1 * 1 ∨ (q.1 * 1 = q.2.2.1 * 1 ∧ q.2.1 * 1 ≤ q.2.2.2.1 * 1); omega⟩
theorem onP_la {q : Ed} (h : EdOK q) : onP q (la q) := ⟨sd_l q, by have := h.2.2.2.2.1; unfold lxe at this; show q.1 * 1 < q.2.2.1 * 1 ∨ (q.1 * 1 = q.2.2.1 * 1 ∧ q.2.1 * 1 ≤ q.2.2.2.1 * 1); omega, peq_ple (p := la q) (q := la q) ⟨rfl, rfl⟩⟩
theorem onP_mR {q r : Ed} (h : mO q r) : onP q (mR q r) ∧ onP r (mR q r) := by
  have hp := mD_pos h.1
  have hr := (mR_red h.1).1
  have he := peq_sym (mR_peq (q := q) (r := r))
  exact ⟨onP_peq (p := mP q r) hp hr he h.2.1, onP_peq (p := mP q r) hp hr he h.2.2⟩
/-- a point in lowest terms on two edges that are not parallel is their meeting point -/
theorem mR_uni {q r : Ed} (hd : dtE q r ≠ 0) {p : Pt} (hp : red p) (h1 : onP q p) (h2 : onP r p) : p = mR q r ∧ mO q r := by
  have hm := mP_uni hd h1.1 h2.1
  have hpos := mD_pos hd
  refine ⟨red_eq hp (mR_red hd) (peq_tr hp.1 (q := mP q r) hpos (mR_red hd).1 hm (peq_sym mR_peq)), hd, onP_peq (p' := mP q r) hp.1 hpos hm h1, onP_peq (p' := mP q r) hp.1 hpos hm h2⟩
theorem dt_par {q r1 r2 : Ed} (hq : EdOK q) (h1 : dtE q r1 = 0) (h2 : dtE q r2 = 0) : dtE r1 r2 = 0 := by
  have k1 : (q.2.2.1 - q.1) * (r1.2.2.2.1 - r1.2.1) = (q.2.2.2.1 - q.2.1) * (r1.2.2.1 - r1.1) := by unfold dtE dt at h1; omega
  have k2 : (q.2.2.1 - q.1) * (r2.2.2.2.1 - r2.2.1) = (q.2.2.2.1 - q.2.1) * (r2.2.2.1 - r2.1) := by unfold dtE dt at h2; omega
  have := par_tr (ux := r1.2.2.1 - r1.1) (uy := r1.2.2.2.1 - r1.2.1) (vx := q.2.2.1 - q.1) (vy := q.2.2.2.1 - q.2.1) (wx := r2.2.2.1 - r2.1) (wy := r2.2.2.2.1 - r2.2.1) (by grind) k2 (lxe_ne hq)
  unfold dtE dt; omega
def c24 (es : List Ed) (q : Ed) (f : Nat) : List Pt := match es[f]? with
  | some r => if dtE q r = 0 then [fi r, la r] else [mR q r, mR q r]
  | none => [(0, 0, 1), (0, 0, 1)]
theorem c24_len {es : List Ed} {q : Ed} {f : Nat} : (c24 es q f).length = 2 := by
  unfold c24
  split
  · split <;> rfl
  · rfl
theorem on_24 {es : List Ed} (hok : ∀ q ∈ es, EdOK q) (h12 : es.length ≤ 12) (e : Nat) : ct (fun k => onK es (gaL es) e k) (gaL es).length ≤ 24 := by
  have h1 := ct_fil (l := gaL es) (f := fun p => onB es p.1 p.2.1 p.2.2 e) (n := (gaL es).length)
  rw [List.take_length] at h1
  show ct (fun k => ((gaL es)[k]?).any (fun p => onB es p.1 p.2.1 p.2.2 e)) (gaL es).length ≤ 24
  rw [h1]
  cases hq : es[e]? with
  | none =>
    rw [show (gaL es).filter (fun p => onB es p.1 p.2.1 p.2.2 e) = [] from List.filter_eq_nil_iff.mpr (fun p _ => by unfold onB; rw [hq]; simp)]
    exact Nat.zero_le _
  | some q =>
    have hqok := hok q (List.mem_of_getElem? hq)
    have hlen : ((List.range 12).flatMap (c24 es q)).length = 24 := by
      rw [List.length_flatMap]
      simp only [c24_len]
      decide
    rw [← hlen]
    refine sub_len ((srt_nd gaF_srt).sublist List.filter_sublist) (fun p hp => ?_)
    obtain ⟨hp1, hp2⟩ := List.mem_filter.mp hp
    have hon : onP q p := by
      unfold onB at hp2; rw [hq] at hp2
      exact of_decide_eq_true hp2
    have hred : red p := gaF_srt.2 p hp1
    have hit : ∀ (f : Nat) (r : Ed), es[f]? = some r → onP r p → dtE q r ≠ 0 → p ∈ (List.range 12).flatMap (c24 es q) := by
      intro f r hf hr hd
      have := lgl hf
      refine List.mem_flatMap.mpr ⟨f, List.mem_range.mpr (by omega), ?_⟩
      unfold c24; rw [hf]
      show p ∈ (if dtE q r = 0 then [fi r, la r] else [mR q r, mR q r])
      rw [if_neg hd, (mR_uni hd hred hon hr).1]
      exact List.mem_cons_self
    have hpar : ∀ (f : Nat) (r : Ed), es[f]? = some r → dtE q r = 0 → (p = fi r ∨ p = la r) → p ∈ (List.range 12).flatMap (c24 es q) := by
      intro f r hf hd hr
      have := lgl hf
      refine List.mem_flatMap.mpr ⟨f, List.mem_range.mpr (by omega), ?_⟩
      unfold c24; rw [hf]
      show p ∈ (if dtE q r = 0 then [fi r, la r] else [mR q r, mR q r])
      rw [if_pos hd]
      rcases hr with hr | hr
      · rw [hr]; exact List.mem_cons_self
      · rw [hr]; exact List.mem_cons_of_mem _ List.mem_cons_self
    obtain ⟨a, r, ha, h⟩ := gaL_mem.mp hp1
    have hrok := hok r (List.mem_of_getElem? ha)
    rcases h with h | h | ⟨b, r2, hb, hr2, hO, h⟩
    · by_cases c : dtE q r = 0
      · exact hpar a r ha c (Or.inl h)
      · exact hit a r ha (by rw [h]; exact onP_fi hrok) c
    · by_cases c : dtE q r = 0
      · exact hpar a r ha c (Or.inr h)
      · exact hit a r ha (by rw [h]; exact onP_la hrok) c
    · by_cases c : dtE q r = 0
      · by_cases c2 : dtE q r2 = 0
        · exact absurd (dt_par hqok c c2) hO.1
        · exact hit b r2 hr2 (by rw [h]; exact (onP_mR hO).2) c2
      · exact hit a r ha (by rw [h]; exact (onP_mR hO).1) c
