/-! ===== the class's views: findGoal, gatherMoves ===== -/
/-- where the moves of each role begin -/
def pfs (mv : Nat → List (List Cd)) : Nat → Nat
  | 0 => 0
  | r + 1 => pfs mv r + (mv r).length
/-- moves as atoms -/
def mvA (w : List Int) (p : List Cd) (A : List (List Cd)) : List Atm := A.map fun t => (w, [p, t])
def lgl (w : List Int) (L : List (List Cd)) (mv : Nat → List (List Cd)) : Nat → List Atm
  | 0 => []
  | r + 1 => lgl w L mv r ++ mvA w (L.getD r []) (mv r)
theorem mvA_nd {w : List Int} {p : List Cd} {A : List (List Cd)} (h : A.Nodup) : (mvA w p A).Nodup := by
  refine List.pairwise_map.mpr (List.Pairwise.imp (fun {x y} hne e => hne ?_) h)
  have e2 := congrArg Prod.snd e
  exact (List.cons.inj (List.cons.inj e2).2).1
theorem mvA_m {w : List Int} {p : List Cd} {A : List (List Cd)} {a : Atm} (h : a ∈ mvA w p A) : ∃ t, t ∈ A ∧ a = (w, [p, t]) := by
  obtain ⟨t, t1, t2⟩ := List.mem_map.mp h
  exact ⟨t, t1, t2.symm⟩
theorem lgl_all {w : List Int} {L : List (List Cd)} {mv : Nat → List (List Cd)} (hL : L.Nodup) : ∀ r, r ≤ L.length → (∀ i, i < r → (mv i).Nodup) → (lgl w L mv r).Nodup ∧ (∀ a, a ∈ lgl w L mv r → ∃ i t, i < r ∧ t ∈ mv i ∧ a = (w, [L.getD i [], t])) ∧ (lgl w L mv r).length = pfs mv r := by
  intro r
  induction r with
  | zero => intro _ _; exact ⟨List.nodup_nil, fun a ha => absurd ha List.not_mem_nil, rfl⟩
  | succ r ih =>
    intro hr hn
    obtain ⟨a1, a2, a3⟩ := ih (by omega) (fun i hi => hn i (by omega))
    refine ⟨List.nodup_append.mpr ⟨a1, mvA_nd (hn r (by omega)), fun a ha b hb e => ?_⟩, fun a ha => ?_, ?_⟩
    · obtain ⟨i, t, i1, _, i3⟩ := a2 a ha
      obtain ⟨t', _, t2⟩ := mvA_m hb
      rw [e, t2] at i3
      have := gD_inj hL (show r < L.length by omega) (by omega) (List.cons.inj (congrArg Prod.snd i3)).1
      omega
    · rcases List.mem_append.mp ha with ha | ha
      · obtain ⟨i, t, i1, i2, i3⟩ := a2 a ha
        exact ⟨i, t, by omega, i2, i3⟩
      · obtain ⟨t, t1, t2⟩ := mvA_m ha
        exact ⟨r, t, by omega, t1, t2⟩
    · show (lgl w L mv r ++ mvA w (L.getD r []) (mv r)).length = pfs mv r + (mv r).length
      rw [List.length_append, a3]
      unfold mvA
      rw [List.length_map]
/-- there is room for all moves -/
theorem mv_room {w : List Int} {L : List (List Cd)} {mv : Nat → List (List Cd)} {S : List Atm} {r : Nat} {A : List (List Cd)} (hL : L.Nodup) (hr : r < L.length) (hn : ∀ i, i < r → (mv i).Nodup ∧ ∀ t, t ∈ mv i → ((w, [L.getD i [], t]) : Atm) ∈ S) (hA : A.Nodup) (hAS : ∀ t, t ∈ A → ((w, [L.getD r [], t]) : Atm) ∈ S) : pfs mv r + A.length ≤ S.length := by
  obtain ⟨a1, a2, a3⟩ := lgl_all (w := w) (mv := mv) hL r (by omega) (fun i hi => (hn i hi).1)
  have nd : (lgl w L mv r ++ mvA w (L.getD r []) A).Nodup := List.nodup_append.mpr ⟨a1, mvA_nd hA, fun a ha b hb e => by
    obtain ⟨i, t, i1, _, i3⟩ := a2 a ha
    obtain ⟨t', _, t2⟩ := mvA_m hb
    rw [e, t2] at i3
    have := gD_inj hL hr (by omega) (List.cons.inj (congrArg Prod.snd i3)).1
    omega⟩
  have := nd_le nd (S' := S) (fun a ha => by
    rcases List.mem_append.mp ha with ha | ha
    · obtain ⟨i, t, i1, i2, i3⟩ := a2 a ha
      rw [i3]
      exact (hn i i1).2 t i2
    · obtain ⟨t, t1, t2⟩ := mvA_m ha
      rw [t2]
      exact hAS t t1)
  rw [List.length_append, a3] at this
  unfold mvA at this
  rw [List.length_map] at this
  exact this
section CVW
variable {d : Nat} {Q : Option Value ⊕ Nat → am_Mem → Prop} {X : Int → List Int → Prop} {W : Int → Nat} {s : Nat} {rs : List Rul} {S : List Atm} {μ : am_Mem} {m l : PM} {q T v r : Nat} {L : List (List Cd)} {w : List Int} {x : Int}
theorem Cg_gd {u : Nat} {p : List Cd} (h : Cg X q m u p) (hn : NeC p) : GdC p := ⟨⟨_, CgR_wf _ _ _ h⟩, CgR_gnd _ _ _ h, hn⟩
theorem GdC_48 {p : List Cd} (h : GdC p) (h48 : tlC p ≤ 48) : (tx p).length ≤ 48 ∧ p.length ≤ 19 := by
  obtain ⟨⟨f, hf⟩, hg, hn⟩ := h
  have := tl_tx f p hf hg
  exact ⟨by omega, cd_19 hf hg hn h48⟩
theorem two_l {ps : List (List Cd)} (h : ps.length = 2) : ps = [ps.getD 0 [], ps.getD 1 []] := by
  match ps, h with
  | [p, p'], _ => rfl
/-- a fact of a relation with two terms -/
theorem fact2 (hW : CwW X W s rs m q T S) (hx : X x w) (hWx : W x = 2) {c : Nat} (hc : c < S.length) (ec : m 72 (c : Int) = x) : ∃ p t u u', S.getD c ([], []) = ((w, [p, t]) : Atm) ∧ m 73 (4 * (c : Int)) = ((u : Nat) : Int) ∧ m 73 (4 * (c : Int) + 1) = ((u' : Nat) : Int) ∧ u < T ∧ u' < T ∧ Cg X q m u p ∧ Cg X q m u' t := by
  obtain ⟨b1, b2, b3, b4⟩ := hW.2.2.2.2.2.2 c hc
  rw [ec] at b1 b2
  have e1 : (S.getD c ([], [])).1 = w := hW.1.2.1.2.1 _ _ _ b1 hx
  rw [hWx] at b2
  obtain ⟨u, u1, u2, u3⟩ := b4 0 (by omega)
  obtain ⟨u', v1, v2, v3⟩ := b4 1 (by omega)
  refine ⟨_, _, u, u', Prod.ext e1 (two_l b2), ?_, ?_, u2, v2, u3, v3⟩
  · rw [← u1]
    congr 1
  · rw [← v1]
    rfl
/-- the latest fact of a relation below one -/
theorem fact_l {g : Nat} (h : 0 < cnF (m 72) x g) : ∃ c : Nat, lsF (m 72) x g = (c : Int) ∧ c < g ∧ m 72 c = x ∧ (∀ g' : Nat, c < g' → g' < g → ¬ m 72 g' = x) ∧ cnF (m 72) x g = cnF (m 72) x c + 1 := by
  rcases lsF_sp (m 72) x g with z | ⟨c, c1, c2, c3, c4⟩
  · exact absurd ((cnF_sp (m 72) x g).mpr z.2) (by omega)
  · exact ⟨c, c1, c2, c3, c4, cnF_last c3 g c2 c4⟩
theorem fact_n (hW : CwW X W s rs m q T S) (hx : X x w) {c : Nat} (hc : c < S.length) {qs : List (List Cd)} (e : S.getD c ([], []) = ((w, qs) : Atm)) : m 72 (c : Int) = x := by
  have b1 := (hW.2.2.2.2.2.2 c hc).1
  rw [e] at b1
  exact hW.1.2.1.2.2.1 _ _ _ b1 hx
theorem k_findGoal (hS : ShW s μ q) (hs : s = 22 ∨ s = 42) (hv : v = 96 ∨ v = 101) (hW : CwW X W s rs m q T S) (hN : NmS X (s + 1) m) (hLr : RwC X q m T 80 0 L) (hr : r < L.length) (hL4 : L.length ≤ 4) (hx : X 6 w) (hW6 : W 6 = 2) (h48 : ∀ a, a ∈ S → ∀ p, p ∈ a.2 → tlC p ≤ 48 ∧ NeC p)
    (hk : ∀ y : Int, GlI (fun t => ((w, [L.getD r [], t]) : Atm) ∈ S) y → Q (.inl (some (.int (zI y)))) (sA μ m l)) :
    Wp (d + 2) 112 (0, [some (.ref v), some (.ref 70), some (.int (zI (r : Int))), none, none, none, none, none], [], sA μ m l) Q := by
  obtain ⟨s1, s2, s3, s4, s5, s6⟩ := id hS
  have hq := TQ_q s3
  have hXP := hW.1.2.1
  have hFI := hW.2.2.2.2.2.1
  have hS1000 := hFI.2.1
  have hTN := hW.2.2.2.1.1.2.1
  have h58 := tN_le q
  obtain ⟨a78, a77⟩ := hFI.2.2.2.1 6 (by decide) (by decide)
  obtain ⟨ur, r1, r2, r3⟩ := hLr r hr
  rw [show (0 : Int) + (r : Int) = (r : Int) by omega] at r1
  have loop : ∀ (g : Nat) (x4 x5 : Int) (o7 : Option Value), g ≤ S.length → GlI (fun t => ∃ c : Nat, g ≤ c ∧ c < S.length ∧ S.getD c ([], []) = ((w, [L.getD r [], t]) : Atm)) x4 → (0 < cnF (m 72) 6 g → x5 = lsF (m 72) 6 g) → Wp (d + 2) 112 (26, [some (.ref v), some (.ref 70), some (.int (zI (r : Int))), some (.ref 71), some (.int (zI x4)), some (.int (zI x5)), some (.int (zI (cnF (m 72) 6 g))), o7], [], sA μ m l) Q := by
    intro g
    induction g using Nat.strongRecOn with
    | _ g ih =>
    intro x4 x5 o7 hg hG h5
    have hcn := cnF_r (m 72) 6 g
    refine K112_26 s1 s2 hq hs s5 hv ⟨⟨by omega, by omega⟩, fun z => hk x4 (GlI_cg (fun t => ?_) hG), fun z => ?_⟩
    · constructor
      · rintro ⟨c, c1, c2, c3⟩
        rw [← c3]
        exact gD_in c2
      · intro h
        obtain ⟨c, c1, c2⟩ := (mem_gD S ([], []) _).mp h
        refine ⟨c, Classical.byContradiction fun y => ?_, c1, c2⟩
        exact (cnF_sp (m 72) 6 g).mp (by omega) c (by omega) (fact_n hW hx c1 c2)
    · obtain ⟨c, c1, c2, c3, c4, c5⟩ := fact_l (show 0 < cnF (m 72) 6 g by omega)
      have e5 : x5 = (c : Int) := (h5 (by omega)).trans c1
      rw [e5]
      have hcS : c < S.length := by omega
      obtain ⟨p, t, u, u', t1, t2, t3, t4, t5, t6, t7⟩ := fact2 hW hx hW6 hcS c3
      have hmem := gD_in (e := (([], []) : Atm)) hcS
      rw [t1] at hmem
      have hne := (h48 _ hmem t (by simp)).2
      have h48t := (h48 _ hmem t (by simp)).1
      have e74 : m 74 (c : Int) = lsF (m 72) 6 c := by
        have z := (hFI.2.2.1 c hcS).2.2.2
        rw [c3] at z
        exact z
      have ecn : cnF (m 72) 6 g - 1 = cnF (m 72) 6 c := by omega
      have step : ∀ (x4' : Int) (o7 : Option Value), GlI (fun t' => (∃ c' : Nat, g ≤ c' ∧ c' < S.length ∧ S.getD c' ([], []) = ((w, [L.getD r [], t']) : Atm)) ∨ (p = L.getD r [] ∧ t' = t)) x4' → Wp (d + 2) 112 (26, [some (.ref v), some (.ref 70), some (.int (zI (r : Int))), some (.ref 71), some (.int (zI x4')), some (.int (zI (m 74 (c : Int)))), some (.int (zI (cnF (m 72) 6 g - 1))), o7], [], sA μ m l) Q := fun x4' o7 hG' => by
        rw [e74, ecn]
        refine ih c c2 x4' _ o7 (by omega) (GlI_cg (fun t' => ?_) hG') (fun _ => rfl)
        constructor
        · rintro (⟨c', d1, d2, d3⟩ | ⟨e1, e2⟩)
          · exact ⟨c', by omega, d2, d3⟩
          · exact ⟨c, Nat.le_refl _, hcS, by rw [t1, e1, e2]⟩
        · rintro ⟨c', d1, d2, d3⟩
          by_cases y : g ≤ c'
          · exact Or.inl ⟨c', y, d2, d3⟩
          · by_cases y2 : c' = c
            · rw [y2, t1] at d3
              have e := List.cons.inj (congrArg Prod.snd d3)
              exact Or.inr ⟨e.1, (List.cons.inj e.2).1.symm⟩
            · exact absurd (fact_n hW hx d2 d3) (c4 c' (by omega) (by omega))
      rw [t2, r1]
      refine ⟨⟨by omega, by omega⟩, ⟨by omega, by omega⟩, ⟨by omega, by omega⟩, ⟨by omega, by omega⟩, fun y => ⟨⟨by omega, by omega⟩, step x4 o7 (GlI_cg (fun t' => ?_) hG)⟩, fun y => ⟨⟨by omega, by omega⟩, ?_⟩⟩
      · constructor
        · exact fun h => Or.inl h
        · rintro (h | ⟨e1, _⟩)
          · exact h
          · refine absurd ?_ y
            rw [e1] at t6
            rw [Cg_in hXP hW.2.2.2.1.2.1 t4 r2 t6 r3]
      · have eu : u = ur := by
          have : (u : Int) = (ur : Int) := Classical.byContradiction y
          omega
        have ep : p = L.getD r [] := by
          rw [eu] at t6
          exact CgR_fun hXP _ _ _ _ _ t6 r3
        rw [t3]
        have hgd := Cg_gd t7 hne
        refine ⟨fun y μ' => Wp (d + 2) 112 (67, [some (.ref v), some (.ref 70), some (.int (zI (r : Int))), some (.ref 71), some (.int (zI x4)), some (.int (zI (c : Int))), some (.int (zI (cnF (m 72) 6 g))), o7], [.int y], μ') Q, noX, ?_, fun _ _ z => z, fun _ _ z => z.elim⟩
        refine k_numberOf (d := d) (Q := pI _ noX) (a := s + 1) s1 s2 hq (by omega) s6 hXP hN hW.2.2.2.1 t5 t7 hgd (by have := (GdC_48 hgd h48t).1; omega) ?_
        show Wp (d + 2) 112 (67, _, [.int (zI (glT t))], _) Q
        have hgR := glT_R t
        have hgV := GlI_R hG
        refine K112_67 s1 s2 hq hs s5 hv ⟨⟨by omega, by omega⟩, ⟨fun _ => trivial, fun _ => ⟨⟨by omega, by omega⟩, trivial⟩⟩, fun v1 ev1 => ⟨⟨by omega, by omega⟩, step v1 _ ?_⟩⟩
        refine GlI_cg (fun t' => ?_) (GlI_step (t := t) hG (v' := v1) ?_)
        · constructor
          · rintro (h | h)
            · exact Or.inl h
            · exact Or.inr ⟨ep, h⟩
          · rintro (h | ⟨_, h⟩)
            · exact Or.inl h
            · exact Or.inr h
        · rw [ev1]
          by_cases y1 : glT t = -1
          · rw [if_pos y1, if_pos (show glT t < 0 by omega)]
          · rw [if_neg y1, if_neg (show ¬ glT t < 0 by omega)]
            by_cases y2 : x4 = -1
            · rw [if_pos y2, if_pos (show ¬ glT t = x4 by omega), if_neg (fun z => z y2)]
            · rw [if_neg y2]
              by_cases y3 : x4 = glT t
              · rw [if_neg (fun z => z y3), if_neg (fun z => z y3.symm)]
                exact y3.symm
              · rw [if_pos y3, if_pos (fun z => y3 z.symm), if_pos y2]
  refine K112_0 s1 s2 hq hs s5 hv ?_
  rw [a78]
  exact loop S.length (-1) _ none (Nat.le_refl _) (Or.inl ⟨rfl, fun t ⟨c, c1, c2, _⟩ => absurd c1 (by omega)⟩) a77
/-- a role's moves, by the order of their texts -/
theorem k_gatherMoves {b : Nat} (hS : ShW s μ q) (hs : s = 22 ∨ s = 42) (hv : v = 96 ∨ v = 101) (hW : CwW X W s rs m q T S) (hnd : S.Nodup) (hN : NmS X (s + 1) m) (hLr : RwC X q m T 80 0 L) (hr : r < L.length) (hL4 : L.length ≤ 4) (hx : X 5 w) (hW5 : W 5 = 2) (h48 : ∀ a, a ∈ S → ∀ p, p ∈ a.2 → tlC p ≤ 48 ∧ NeC p) (hb : m (v + 2) (r : Int) = (b : Int)) (hroom : ∀ A : List (List Cd), A.Nodup → (∀ t, t ∈ A → ((w, [L.getD r [], t]) : Atm) ∈ S) → b + A.length ≤ 1000)
    (hk : ∀ (m' : PM) (A : List (List Cd)), SrT A → (∀ t, t ∈ A ↔ ((w, [L.getD r [], t]) : Atm) ∈ S) → RwC X q m' T (v + 1) (b : Int) A → (∀ c j, ¬ (c = v + 1 ∧ (b : Int) ≤ j) → m' c j = m c j) → Q (.inl (some (.int (zI ((b : Int) + (A.length : Int)))))) (sA μ m' l)) :
    Wp (d + 4) 111 (0, [some (.ref v), some (.ref 70), some (.int (zI (r : Int))), none, none, none, none], [], sA μ m l) Q := by
  obtain ⟨s1, s2, s3, s4, s5, s6⟩ := id hS
  have hq := TQ_q s3
  have hXP := hW.1.2.1
  have hFI := hW.2.2.2.2.2.1
  have hS1000 := hFI.2.1
  have hTN := hW.2.2.2.1.1.2.1
  have h58 := tN_le q
  have hqn := q_n hS
  obtain ⟨a78, a77⟩ := hFI.2.2.2.1 5 (by decide) (by decide)
  obtain ⟨ur, r1, r2, r3⟩ := hLr r hr
  rw [show (0 : Int) + (r : Int) = (r : Int) by omega] at r1
  have kv1 : am_kd μ (v + 1) = (2, 1000) := cKv1 s1 hv
  have loop : ∀ (g : Nat) (m1 : PM) (A : List (List Cd)) (x5 : Int), g ≤ S.length → SrT A → (∀ t, t ∈ A ↔ ∃ c : Nat, g ≤ c ∧ c < S.length ∧ S.getD c ([], []) = ((w, [L.getD r [], t]) : Atm)) → RwC X q m1 T (v + 1) (b : Int) A → (∀ c j, ¬ (c = v + 1 ∧ (b : Int) ≤ j) → m1 c j = m c j) → (0 < cnF (m 72) 5 g → x5 = lsF (m 72) 5 g) → Wp (d + 4) 111 (29, [some (.ref v), some (.ref 70), some (.int (zI (r : Int))), some (.ref 71), some (.int (zI ((b : Int) + (A.length : Int)))), some (.int (zI x5)), some (.int (zI (cnF (m 72) 5 g)))], [], sA μ m1 l) Q := by
    intro g
    induction g using Nat.strongRecOn with
    | _ g ih =>
    intro m1 A x5 hg hA hm hR f1 h5
    have hcn := cnF_r (m 72) 5 g
    have hAS : ∀ t, t ∈ A → ((w, [L.getD r [], t]) : Atm) ∈ S := fun t ht => by
      obtain ⟨c, _, c2, c3⟩ := (hm t).mp ht
      rw [← c3]
      exact gD_in c2
    have hAr := hroom A (SrT_nd hA) hAS
    refine K111_29 s1 s2 hq hs s5 hv ⟨⟨by omega, by omega⟩, fun z => hk m1 A hA (fun t => ?_) hR f1, fun z => ?_⟩
    · rw [hm t]
      constructor
      · rintro ⟨c, c1, c2, c3⟩
        rw [← c3]
        exact gD_in c2
      · intro h
        obtain ⟨c, c1, c2⟩ := (mem_gD S ([], []) _).mp h
        refine ⟨c, Classical.byContradiction fun y => ?_, c1, c2⟩
        exact (cnF_sp (m 72) 5 g).mp (by omega) c (by omega) (fact_n hW hx c1 c2)
    · obtain ⟨c, c1, c2, c3, c4, c5⟩ := fact_l (show 0 < cnF (m 72) 5 g by omega)
      have e5 : x5 = (c : Int) := (h5 (by omega)).trans c1
      rw [e5]
      have hcS : c < S.length := by omega
      obtain ⟨p, t, u, u', t1, t2, t3, t4, t5, t6, t7⟩ := fact2 hW hx hW5 hcS c3
      have hmem := gD_in (e := (([], []) : Atm)) hcS
      rw [t1] at hmem
      have hne := (h48 _ hmem t (by simp)).2
      have h48t := (h48 _ hmem t (by simp)).1
      have e74 : m 74 (c : Int) = lsF (m 72) 5 c := by
        have z := (hFI.2.2.1 c hcS).2.2.2
        rw [c3] at z
        exact z
      have ecn : cnF (m 72) 5 g - 1 = cnF (m 72) 5 c := by omega
      have e73 : m1 73 (4 * (c : Int)) = (u : Int) := (f1 _ _ (by omega)).trans t2
      have e73' : m1 73 (4 * (c : Int) + 1) = (u' : Int) := (f1 _ _ (by omega)).trans t3
      have e80 : m1 80 (r : Int) = (ur : Int) := (f1 _ _ (by omega)).trans r1
      have eb : m1 (v + 2) (r : Int) = (b : Int) := (f1 _ _ (by omega)).trans hb
      rw [e73, e80, e73', eb]
      refine ⟨⟨by omega, by omega⟩, ⟨by omega, by omega⟩, ⟨by omega, by omega⟩, ⟨by omega, by omega⟩, fun y => ⟨⟨by omega, by omega⟩, ?_⟩, fun y => ⟨⟨by omega, by omega⟩, ⟨by omega, by omega⟩, ?_⟩⟩
      · rw [f1 74 _ (by omega), e74, ecn]
        refine ih c c2 m1 A _ (by omega) hA (fun t' => ?_) hR f1 (fun _ => rfl)
        rw [hm t']
        constructor
        · rintro ⟨c', d1, d2, d3⟩
          exact ⟨c', by omega, d2, d3⟩
        · rintro ⟨c', d1, d2, d3⟩
          by_cases y1 : g ≤ c'
          · exact ⟨c', y1, d2, d3⟩
          · by_cases y2 : c' = c
            · rw [y2, t1] at d3
              refine absurd ?_ y
              rw [(List.cons.inj (congrArg Prod.snd d3)).1] at t6
              rw [Cg_in hXP hW.2.2.2.1.2.1 t4 r2 t6 r3]
            · exact absurd (fact_n hW hx d2 d3) (c4 c' (by omega) (by omega))
      · have eu : u = ur := by
          have : (u : Int) = (ur : Int) := Classical.byContradiction y
          omega
        have ep : p = L.getD r [] := by
          rw [eu] at t6
          exact CgR_fun hXP _ _ _ _ _ t6 r3
        rw [ep] at t1
        have hno : ¬ t ∈ A := fun z => by
          obtain ⟨c', d1, d2, d3⟩ := (hm t).mp z
          have := nodup_at hnd hcS d2 (t1.trans d3.symm)
          omega
        have hroom2 := hroom (A ++ [t]) (List.nodup_append.mpr ⟨SrT_nd hA, by simp, fun a ha b hb e => by
          rw [List.mem_singleton.mp hb] at e
          exact hno (e ▸ ha)⟩) (fun t' ht' => by
          rcases List.mem_append.mp ht' with h | h
          · exact hAS t' h
          · rw [List.mem_singleton.mp h, ← t1]
            exact gD_in hcS)
        rw [List.length_append, List.length_singleton] at hroom2
        have cg1 : ∀ t cs, t < T → Cg X q m t cs → Cg X q m1 t cs := fun t cs ht h => CgR_cg (T := T) (fun t _ => ⟨f1 _ _ (by omega), f1 _ _ (by omega), fun i _ => f1 _ _ (by omega)⟩) _ t cs ht h
        refine ⟨fun μ' => Wp (d + 4) 111 (82, [some (.ref v), some (.ref 70), some (.int (zI (r : Int))), some (.ref 71), some (.int (zI ((b : Int) + (A.length : Int)))), some (.int (zI (c : Int))), some (.int (zI (cnF (m 72) 5 g)))], [], μ') Q, noX, ?_, fun _ z => z, fun _ _ z => z.elim⟩
        refine k_insert (d := d) (Q := pV _ noX) (a := s + 1) (L := A) s1 s2 hq (by omega) s6 hXP (NmS_cg (fun c j z => f1 c j (by omega)) hN) (CtT_fr (fun c j z => f1 c j (by omega)) hW.2.2.2.1) kv1 (by decide) (by omega) ⟨by omega, by omega⟩ hR hA (fun p' hp' => ?_) t5 (cg1 _ _ t5 t7) (Cg_gd t7 hne) hno (fun m2 k hk1 hk2 hk3 f2 => ?_)
        · obtain ⟨j, hj, ej⟩ := mem_gD2 hp'
          obtain ⟨u2, w1, w2, w3⟩ := hR j hj
          rw [ej] at w3
          have z := h48 _ (hAS p' hp') p' (by simp)
          have hgd := Cg_gd w3 z.2
          exact ⟨hgd, by have := (GdC_48 hgd z.1).2; omega⟩
        · show Wp (d + 4) 111 (82, _, [], _) Q
          have f2' : ∀ c j, ¬ (c = v + 1 ∧ (b : Int) ≤ j) → m2 c j = m c j := fun c j z => (f2 c j (by omega)).trans (f1 c j z)
          refine K111_82 s1 s2 hq hs s5 hv ⟨⟨by omega, by omega⟩, ?_⟩
          rw [f2' 74 _ (by omega), e74, ecn, show (b : Int) + (A.length : Int) + 1 = (b : Int) + ((insL k t A).length : Int) by rw [insL_len hk1]; omega]
          refine ih c c2 m2 (insL k t A) _ (by omega) hk2 (fun t' => ?_) hk3 f2' (fun _ => rfl)
          rw [insL_mem, hm t']
          constructor
          · rintro (e | ⟨c', d1, d2, d3⟩)
            · exact ⟨c, Nat.le_refl _, hcS, by rw [e]; exact t1⟩
            · exact ⟨c', by omega, d2, d3⟩
          · rintro ⟨c', d1, d2, d3⟩
            by_cases y1 : g ≤ c'
            · exact Or.inr ⟨c', y1, d2, d3⟩
            · by_cases y2 : c' = c
              · rw [y2, t1] at d3
                have e := List.cons.inj (congrArg Prod.snd d3)
                exact Or.inl (List.cons.inj e.2).1.symm
              · exact absurd (fact_n hW hx d2 d3) (c4 c' (by omega) (by omega))
  refine K111_0 s1 s2 hq hs s5 hv ⟨⟨by omega, by omega⟩, ?_⟩
  rw [a78, hb]
  have z := loop S.length m [] _ (Nat.le_refl _) List.Pairwise.nil (fun t => ⟨fun h => absurd h List.not_mem_nil, fun ⟨c, c1, c2, _⟩ => absurd c1 (by omega)⟩) (fun i hi => absurd hi (Nat.not_lt_zero i)) (fun _ _ _ => rfl) a77
  rw [show (b : Int) + (([] : List (List Cd)).length : Int) = (b : Int) by show (b : Int) + ((0 : Nat) : Int) = _; omega] at z
  exact z
end CVW
