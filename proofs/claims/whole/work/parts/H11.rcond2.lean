/-! ===== the reference: are two terms of a rule alike, their variables bound ===== -/
/-- a node whose term, and whose parts' terms, are made -/
def GdO (β : Nat → List Cd) (m : PM) (T : Nat) (x : Int) (q : List Cd) : Prop := TmR 11 m x q ∧ (0 ≤ x ∧ x + (q.length : Int) ≤ 1100) ∧ ∀ i : Nat, i < q.length → ∀ q', TmR 11 m (x + i) q' → OkM β 0 m T (x + i) q'
def PlK (β : Nat → List Cd) (m : PM) (T : Nat) (L : List (List Cd × List Cd)) : Prop := ∀ i : Nat, i < L.length → GdO β m T (m 166 i) (L.getD i ([], [])).1 ∧ GdO β m T (m 167 i) (L.getD i ([], [])).2
/-- what comparing writes -/
abbrev WLk (c : Nat) (j : Int) : Prop := c = 166 ∨ c = 167
section RC2
variable {d : Nat} {μ : am_Mem} {l : PM} {T : Nat} {β : Nat → List Cd} {V : Nat → Prop} {x1 x2 : Int}
theorem GdO_cg {m m' : PM} {x : Int} {q : List Cd} (fr : ∀ c j, ¬ WLk c j → m' c j = m c j) (h : GdO β m T x q) : GdO β m' T x q := by
  have fr' : ∀ c j, ¬ WFt c j → m' c j = m c j := fun c j z => fr c j (by omega)
  have fb : ∀ c j, ¬ WFt c j → m c j = m' c j := fun c j z => (fr c j (by omega)).symm
  refine ⟨TmR_ft fr' h.1, h.2.1, fun i hi q' hq' => ?_⟩
  rcases h.2.2 i hi q' (TmR_ft fb hq') with ⟨u, a1, a2, a3⟩ | ⟨a1, a2, a3⟩
  · exact Or.inl ⟨u, by rw [fr _ _ (by omega)]; exact a1, a2, Tg_ft fr' a3⟩
  · exact Or.inr ⟨a1, by rw [fr _ _ (by omega)]; exact a2, fun t ht z => a3 t ht (Tg_ft fb z)⟩
theorem GdO_kid {m : PM} {x : Int} {q : List Cd} {w : List Int} {ps : List (List Cd)} (h : GdO β m T x q) (e : q = (ps.length, w) :: ps.flatten) (hk : ∀ i : Nat, i < ps.length → x < m 141 (4 * x + i) ∧ m 141 (4 * x + i) + ((ps.getD i []).length : Int) ≤ x + (q.length : Int) ∧ TmR 10 m (m 141 (4 * x + i)) (ps.getD i [])) {j : Nat} (hj : j < ps.length) : GdO β m T (m 141 (4 * x + j)) (ps.getD j []) := by
  obtain ⟨a1, a2, a3⟩ := hk j hj
  refine ⟨TmR_mono 10 11 _ _ (by omega) a3, ⟨by have := h.2.1.1; omega, by have := h.2.1.2; omega⟩, fun i hi q' hq' => ?_⟩
  have z := h.2.2 (m 141 (4 * x + j) - x + (i : Int)).toNat (by omega) q'
  rw [show x + (((m 141 (4 * x + j) - x + (i : Int)).toNat : Nat) : Int) = m 141 (4 * x + j) + (i : Int) by omega] at z
  exact z hq'
theorem PlK_cg {m m' : PM} {L : List (List Cd × List Cd)} (fr : ∀ c j, ¬ WLk c j → m' c j = m c j) (h6 : ∀ i : Nat, i < L.length → m' 166 i = m 166 i) (h7 : ∀ i : Nat, i < L.length → m' 167 i = m 167 i) (h : PlK β m T L) : PlK β m' T L := by
  intro i hi
  obtain ⟨a1, a2⟩ := h i hi
  rw [h6 i hi, h7 i hi]
  exact ⟨GdO_cg fr a1, GdO_cg fr a2⟩
theorem PlK_snoc {m : PM} {L : List (List Cd × List Cd)} {p : List Cd × List Cd} (h : PlK β m T L) (h1 : GdO β m T (m 166 (L.length : Int)) p.1) (h2 : GdO β m T (m 167 (L.length : Int)) p.2) : PlK β m T (L ++ [p]) := by
  intro i hi
  rw [List.length_append, List.length_singleton] at hi
  by_cases e : i = L.length
  · rw [e, gDp_r]
    exact ⟨h1, h2⟩
  · rw [gDp_l (by omega)]
    exact h i (by omega)
theorem mt_both (hβ : Gb β) {f g : Nat} {ps qs : List (List Cd)} {w w' : List Int} (hp : ∀ p, p ∈ ps → wfS f p) (hq : ∀ q, q ∈ qs → wfS g q) (hl : ps.length ≤ 4) (hl' : qs.length ≤ 4) : sbC β ((ps.length, w) :: ps.flatten) = sbC β ((qs.length, w') :: qs.flatten) ↔ (w = w' ∧ ps.length = qs.length ∧ ∀ k, k < ps.length → sbC β (ps.getD k []) = sbC β (qs.getD k [])) := by
  obtain ⟨h, hw⟩ := id hβ.1
  rw [sbC_name β hl', mt_name hβ hp (g := g + h) (qs := qs.map (sbC β)) (fun p hp' => by
    obtain ⟨r, r1, r2⟩ := List.mem_map.mp hp'
    rw [← r2]
    exact sbC_wf g r (fun c _ _ => hw _) (hq r r1)) hl, List.length_map]
  constructor
  · rintro ⟨a1, a2, a3⟩
    exact ⟨a1, a2, fun k hk => by rw [a3 k hk, map_gD (by omega)]⟩
  · rintro ⟨a1, a2, a3⟩
    exact ⟨a1, a2, fun k hk => by rw [map_gD (by omega)]; exact a3 k hk⟩
theorem il_30 {m0 : PM} (H : RS μ) (hβ : Gb β) (hU : TtU m0 T) (hI : TtI m0 T) (hD : NmD m0) (h9 : m0 125 9 ≤ 1010) (r5 : ∀ i, iR (m0 165 i)) (hv : ∀ v : Nat, v < 8 → V v → ∃ u : Nat, u < T ∧ Tg m0 u (β v)) : ∀ (n : Nat) (m : PM) (L : List (List Cd × List Cd)) (Q : Option Value ⊕ Nat → am_Mem → Prop) (o4 o5 o6 : Option Value), plz L ≤ n → n ≤ 1000 → (∀ c j, ¬ WLk c j → m c j = m0 c j) → PlK β m T L → (∀ p, p ∈ L → VrI V p.1 ∧ VrI V p.2) → (∀ (m' : PM) (v : Int), v = bP (∀ p, p ∈ L → sbC β p.1 = sbC β p.2) → (∀ c j, ¬ WLk c j → m' c j = m0 c j) → Q (.inl (some (.int (zI v)))) (sA μ m' l)) → Wp (d + 3) 230 (30, [some (.ref 125), some (.int (zI x1)), some (.int (zI x2)), some (.int (zI (L.length : Int))), o4, o5, o6], [], sA μ m l) Q := by
  have nil : ∀ (m : PM) (Q : Option Value ⊕ Nat → am_Mem → Prop) (o4 o5 o6 : Option Value), (∀ c j, ¬ WLk c j → m c j = m0 c j) → (∀ (m' : PM) (v : Int), v = bP (∀ p, p ∈ ([] : List (List Cd × List Cd)) → sbC β p.1 = sbC β p.2) → (∀ c j, ¬ WLk c j → m' c j = m0 c j) → Q (.inl (some (.int (zI v)))) (sA μ m' l)) → Wp (d + 3) 230 (30, [some (.ref 125), some (.int (zI x1)), some (.int (zI x2)), some (.int (zI ((([] : List (List Cd × List Cd)).length : Nat) : Int))), o4, o5, o6], [], sA μ m l) Q := fun m Q o4 o5 o6 fr hk => R230_30 H ⟨⟨by decide, by decide⟩, fun _ => hk m 1 (bP_1 (fun p hp => absurd hp List.not_mem_nil)).symm fr, fun z => absurd (by decide) z⟩
  have one : ∀ {m : PM} {L : List (List Cd × List Cd)}, PlK β m T L → ∀ p, p ∈ L → 1 ≤ p.1.length := by
    intro m L h p hp
    obtain ⟨i, hi, e⟩ := List.getElem_of_mem hp
    have eg : L.getD i ([], []) = p := by rw [List.getD_eq_getElem?_getD, List.getElem?_eq_getElem hi]; exact e
    have z := (h i hi).1.1
    rw [eg] at z
    exact (TmR_top z).1
  intro n
  induction n with
  | zero =>
    intro m L Q o4 o5 o6 hn _ fr hP _ hk
    have hl := plz_ge L (one hP)
    have e : L = [] := List.eq_nil_of_length_eq_zero (by omega)
    rw [e] at hk ⊢
    exact nil m Q o4 o5 o6 fr hk
  | succ n ih =>
    intro m L Q o4 o5 o6 hn hn2 fr hP hV hk
    have hl := plz_ge L (one hP)
    rcases List.eq_nil_or_concat L with e | ⟨L', p, e⟩
    · rw [e] at hk ⊢
      exact nil m Q o4 o5 o6 fr hk
    · rw [List.concat_eq_append] at e
      obtain ⟨q1, q2⟩ := p
      rw [e] at hP hk hn hl hV ⊢
      have hlen : (L' ++ [(q1, q2)]).length = L'.length + 1 := by rw [List.length_append, List.length_singleton]
      rw [plz_app] at hn hl
      have hz1 : plz [(q1, q2)] = q1.length := by show q1.length + 0 = _; omega
      rw [hz1] at hn hl
      obtain ⟨ga, gb⟩ := hP L'.length (by omega)
      rw [gDp_r] at ga gb
      have ga : GdO β m T (m 166 (L'.length : Int)) q1 := ga
      have gb : GdO β m T (m 167 (L'.length : Int)) q2 := gb
      have hP' : PlK β m T L' := fun i hi => by
        have z := hP i (by omega)
        rw [gDp_l hi] at z
        exact z
      obtain ⟨v1, v2⟩ := hV (q1, q2) (by simp)
      have v1 : VrI V q1 := v1
      have v2 : VrI V q2 := v2
      have hV' : ∀ p, p ∈ L' → VrI V p.1 ∧ VrI V p.2 := fun p hp => hV p (List.mem_append_left _ hp)
      have fr' : ∀ c j, ¬ WFt c j → m c j = m0 c j := fun c j z => fr c j (by omega)
      have hD' : NmD m := NmD_cg (fr _ _ (by omega)) (fun i => fr _ _ (by omega)) (fun i => fr _ _ (by omega)) hD
      have hU' : TtU m T := TtU_cg hI (fun t _ => fr _ _ (by omega)) (fun t _ => fr _ _ (by omega)) (fun i _ _ => fr _ _ (by omega)) hU
      have h9' : m 125 9 ≤ 1010 := by rw [fr _ _ (by omega)]; exact h9
      have mem : ∀ {P : List Cd × List Cd → Prop}, (∀ p, p ∈ L' ++ [(q1, q2)] → P p) ↔ ((∀ p, p ∈ L' → P p) ∧ P (q1, q2)) := fun {P} => ⟨fun h => ⟨fun p hp => h p (List.mem_append_left _ hp), h _ (by simp)⟩, fun h p hp => by
        rcases List.mem_append.mp hp with hp | hp
        · exact h.1 p hp
        · rw [List.mem_singleton.mp hp]; exact h.2⟩
      have hx3 : (((L' ++ [(q1, q2)]).length : Nat) : Int) - 1 = (L'.length : Int) := by omega
      have la := (TmR_top ga.1).1
      have lb := (TmR_top gb.1).1
      have oa := ga.2.2 0 (by omega) q1 (by rw [show m 166 (L'.length : Int) + ((0 : Nat) : Int) = m 166 (L'.length : Int) by omega]; exact ga.1)
      have ob := gb.2.2 0 (by omega) q2 (by rw [show m 167 (L'.length : Int) + ((0 : Nat) : Int) = m 167 (L'.length : Int) by omega]; exact gb.1)
      rw [show m 166 (L'.length : Int) + ((0 : Nat) : Int) = m 166 (L'.length : Int) by omega] at oa
      rw [show m 167 (L'.length : Int) + ((0 : Nat) : Int) = m 167 (L'.length : Int) by omega] at ob
      have ra := ga.2.1
      have rb := gb.2.1
      have r5' : ∀ i, iR (m 165 i) := fun i => by rw [fr _ _ (by omega)]; exact r5 i
      have no : sbC β q1 ≠ sbC β q2 → Q (.inl (some (.int (zI 0)))) (sA μ m l) := fun h => hk m 0 (bP_0 (fun z => h (mem.mp z).2)).symm fr
      have isn : ∀ {x : Int} {q : List Cd}, TmR 11 m x q → VrI V q → (∀ t : Nat, t < T → ¬ Tg m t (sbC β q)) → ∃ (w : List Int) (ps : List (List Cd)), q = (ps.length, w) :: ps.flatten ∧ ps.length ≤ 4 ∧ nX m (m 138 x) w ∧ m 140 x = (ps.length : Int) ∧ ∀ i : Nat, i < ps.length → x < m 141 (4 * x + i) ∧ m 141 (4 * x + i) + ((ps.getD i []).length : Int) ≤ x + (q.length : Int) ∧ TmR 10 m (m 141 (4 * x + i)) (ps.getD i []) := by
        intro x q hq hvq hno
        rcases TmR_cases hq with ⟨a, w, e, h5, _⟩ | ⟨w, ps, e, b1, b2, _, b4, b5⟩
        · rw [e] at hvq hno
          obtain ⟨c1, c2⟩ := hvq (a, w) (List.mem_singleton.mpr rfl) h5
          obtain ⟨u, u1, u2⟩ := hv (a - 5) (by omega) c2
          rw [sbC_var β h5] at hno
          exact absurd (Tg_ft fr' u2) (hno u u1)
        · exact ⟨w, ps, e, b1, b2, b4, b5⟩
      refine R230_30 H ⟨⟨by omega, by omega⟩, fun z => by omega, fun _ => ?_⟩
      rw [hx3]
      refine ⟨⟨by omega, by omega⟩, ⟨by omega, by omega⟩, ⟨by omega, by omega⟩, r5' _, r5' _, fun z => ⟨fun zn => ?_, fun zn => ?_⟩, fun z => ?_⟩
      · rcases oa with ⟨u, u1, _⟩ | ⟨_, _, na⟩
        · omega
        · rcases ob with ⟨u, u1, _⟩ | ⟨_, _, nb⟩
          · omega
          · obtain ⟨w, ps, ea, pl, nx, e140, ka⟩ := isn ga.1 v1 na
            obtain ⟨w', qs, eb, ql, nx', e140', kb⟩ := isn gb.1 v2 nb
            have hx1 := nx.1
            have hx2 := nx.2.1
            have hy1 := nx'.1
            have hy2 := nx'.2.1
            have hwp : ∀ p, p ∈ ps → wfS 10 p := fun p hp => by
              obtain ⟨i, hi, ei⟩ := mem_gD2 hp
              have z := (ka i hi).2.2
              rw [ei] at z
              exact TmR_wfS 10 _ p z
            have hwq : ∀ p, p ∈ qs → wfS 10 p := fun p hp => by
              obtain ⟨i, hi, ei⟩ := mem_gD2 hp
              have z := (kb i hi).2.2
              rw [ei] at z
              exact TmR_wfS 10 _ p z
            have hmt := mt_both (w := w) (w' := w') hβ hwp hwq pl ql
            rw [← ea, ← eb] at hmt
            refine ⟨⟨by omega, by omega⟩, ⟨by omega, by omega⟩, fun zx => no (fun y => zx ((nX_inj hD' nx nx').mpr (hmt.mp y).1)), fun zx => ⟨by rw [e140]; exact ⟨by omega, by omega⟩, by rw [e140']; exact ⟨by omega, by omega⟩, fun zc => ?_, fun zc => no (fun y => zc (by rw [e140, e140', (hmt.mp y).2.1]))⟩⟩
            have ew : w = w' := (nX_inj hD' nx nx').mp (Classical.byContradiction zx)
            have el : ps.length = qs.length := by rw [e140, e140'] at zc; omega
            have hfl : q1.length = ps.flatten.length + 1 := by rw [ea]; rfl
            have hpz : plz (kz ps qs ps.length) = ps.flatten.length := by rw [plz_kz _ (Nat.le_refl _), List.take_length]
            have hge := plz_ge (kz ps qs ps.length) (fun p hp => by
              obtain ⟨i, hi, ei⟩ := kz_m.mp hp
              rw [ei]
              exact (TmR_top (ka i hi).2.2).1)
            rw [kz_l, hpz] at hge
            have hL' := plz_ge L' (one hP')
            have loop : ∀ (f j : Nat) (m1 : PM), j + f = ps.length → (∀ c i, ¬ (WLk c i ∧ (L'.length : Int) ≤ i) → m1 c i = m c i) → PlK β m1 T (L' ++ kz ps qs j) → Wp (d + 3) 230 (124, [some (.ref 125), some (.int (zI x1)), some (.int (zI x2)), some (.int (zI ((L'.length + j : Nat) : Int))), some (.int (zI (m 166 (L'.length : Int)))), some (.int (zI (m 167 (L'.length : Int)))), some (.int (zI (j : Int)))], [], sA μ m1 l) Q := by
              intro f
              induction f with
              | zero =>
                intro j m1 hj g1 g2
                have ej : j = ps.length := by omega
                rw [ej] at g2 ⊢
                have e140m : m1 140 (m 166 (L'.length : Int)) = (ps.length : Int) := by rw [g1 _ _ (by omega)]; exact e140
                refine R230_124 H ⟨⟨by omega, by omega⟩, ⟨by omega, by omega⟩, by rw [e140m]; exact ⟨by omega, by omega⟩, fun _ => ?_, fun y => by omega⟩
                have hlen2 : (L' ++ kz ps qs ps.length).length = L'.length + ps.length := by rw [List.length_append, kz_l]
                have go := ih m1 (L' ++ kz ps qs ps.length) Q (some (.int (zI (m 166 (L'.length : Int))))) (some (.int (zI (m 167 (L'.length : Int))))) (some (.int (zI (ps.length : Int)))) (by rw [plz_app, hpz]; omega) (by omega) (fun c i y => by rw [g1 c i (by omega)]; exact fr c i y) g2 (fun p hp => ?_) (fun m' v ev fr2 => hk m' v ?_ fr2)
                · rw [hlen2] at go
                  exact go
                · rcases List.mem_append.mp hp with hp | hp
                  · exact hV' p hp
                  · obtain ⟨i, hi, ei⟩ := kz_m.mp hp
                    rw [ei]
                    refine ⟨fun c hc => v1 c ?_, fun c hc => v2 c ?_⟩
                    · rw [ea]
                      refine List.mem_cons_of_mem _ (List.mem_flatten.mpr ⟨ps.getD i [], ?_, hc⟩)
                      rw [List.getD_eq_getElem?_getD, List.getElem?_eq_getElem hi]
                      exact List.getElem_mem hi
                    · rw [eb]
                      refine List.mem_cons_of_mem _ (List.mem_flatten.mpr ⟨qs.getD i [], ?_, hc⟩)
                      rw [List.getD_eq_getElem?_getD, List.getElem?_eq_getElem (by omega)]
                      exact List.getElem_mem _
                · rw [ev]
                  refine bP_cg ?_
                  rw [mem]
                  constructor
                  · intro h
                    refine ⟨fun p hp => h p (List.mem_append_left _ hp), hmt.mpr ⟨ew, el, fun i hi => ?_⟩⟩
                    exact h (ps.getD i [], qs.getD i []) (List.mem_append_right _ (kz_m.mpr ⟨i, hi, rfl⟩))
                  · rintro ⟨h1, h2⟩ p hp
                    rcases List.mem_append.mp hp with hp | hp
                    · exact h1 p hp
                    · obtain ⟨i, hi, ei⟩ := kz_m.mp hp
                      rw [ei]
                      exact (hmt.mp h2).2.2 i hi
              | succ f ihf =>
                intro j m1 hj g1 g2
                have e140m : m1 140 (m 166 (L'.length : Int)) = (ps.length : Int) := by rw [g1 _ _ (by omega)]; exact e140
                have c1 : m1 141 (4 * m 166 (L'.length : Int) + (j : Int)) = m 141 (4 * m 166 (L'.length : Int) + (j : Int)) := g1 _ _ (by omega)
                have c2 : m1 141 (4 * m 167 (L'.length : Int) + (j : Int)) = m 141 (4 * m 167 (L'.length : Int) + (j : Int)) := g1 _ _ (by omega)
                refine R230_124 H ⟨⟨by omega, by omega⟩, ⟨by omega, by omega⟩, by rw [e140m]; exact ⟨by omega, by omega⟩, fun y => by omega, fun _ => ⟨⟨by omega, by omega⟩, ⟨by omega, by omega⟩, ⟨by omega, by omega⟩, ?_⟩⟩
                rw [c1, c2]
                rintro m2 e2
                have f2 : ∀ c i, ¬ (WLk c i ∧ i = ((L'.length + j : Nat) : Int)) → m2 c i = m1 c i := fun c i y => by rw [e2, up_o (by omega), up_o (by omega)]
                have g12 : ∀ c i, ¬ (WLk c i ∧ (L'.length : Int) ≤ i) → m2 c i = m c i := fun c i y => by rw [f2 c i (by omega)]; exact g1 c i y
                have hlen3 : (L' ++ kz ps qs j).length = L'.length + j := by rw [List.length_append, kz_l]
                have z := ihf (j + 1) m2 (by omega) g12 (by
                  rw [kz_s, ← List.append_assoc]
                  refine PlK_snoc (PlK_cg (fun c i y => f2 c i (by omega)) (fun i hi => f2 _ _ (by rw [hlen3] at hi; omega)) (fun i hi => f2 _ _ (by rw [hlen3] at hi; omega)) g2) ?_ ?_
                  · rw [hlen3, show m2 166 ((L'.length + j : Nat) : Int) = m 141 (4 * m 166 (L'.length : Int) + (j : Int)) by rw [e2, up_c (by decide), up_s]]
                    exact GdO_cg (fun c i y => g12 c i (by omega)) (GdO_kid ga ea ka (j := j) (by omega))
                  · rw [hlen3, show m2 167 ((L'.length + j : Nat) : Int) = m 141 (4 * m 167 (L'.length : Int) + (j : Int)) by rw [e2, up_s]]
                    exact GdO_cg (fun c i y => g12 c i (by omega)) (GdO_kid gb eb kb (j := j) (by omega)))
                exact z
            have z3 := loop ps.length 0 m (by omega) (fun _ _ _ => rfl) (by show PlK β m T (L' ++ []); rw [List.append_nil]; exact hP')
            rw [show (((L'.length + 0 : Nat)) : Int) = (L'.length : Int) by omega] at z3
            exact z3
      · have heq : sbC β q1 = sbC β q2 := by
          rcases oa with ⟨u, u1, u2, u3⟩ | ⟨_, na, _⟩
          · rcases ob with ⟨u', w1, w2, w3⟩ | ⟨_, nb, _⟩
            · have e : u = u' := by omega
              rw [e] at u3
              exact TgR_fun _ _ _ _ _ u3 w3
            · omega
          · omega
        refine ih m L' Q _ _ _ (by omega) (by omega) fr hP' hV' (fun m' v ev fr2 => hk m' v ?_ fr2)
        rw [ev]
        refine bP_cg ?_
        rw [mem]
        exact ⟨fun h => ⟨h, heq⟩, fun h => h.1⟩
      · refine no (fun y => z ?_)
        rcases oa with ⟨u, u1, u2, u3⟩ | ⟨_, na, na2⟩
        · rcases ob with ⟨u', w1, w2, w3⟩ | ⟨_, nb, nb2⟩
          · rw [y] at u3
            rw [u1, w1, Tg_in hU' hD' u2 w2 u3 w3]
          · rw [y] at u3
            exact absurd u3 (nb2 u u2)
        · rcases ob with ⟨u', w1, w2, w3⟩ | ⟨_, nb, nb2⟩
          · rw [← y] at w3
            exact absurd w3 (na2 u' w2)
          · rw [na, nb]
end RC2
