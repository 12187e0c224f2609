/-! ===== the class at work: collect ===== -/
section CCL
variable {d : Nat} {Q : Option Value ⊕ Nat → am_Mem → Prop} {X : Int → List Int → Prop} {W : Int → Nat} {s : Nat} {rs : List Rul} {S : List Atm} {μ : am_Mem} {m l : PM} {q T : Nat} {r2 L2 : Nat} {x : Int} {w : List Int}
theorem one_l {ps : List (List Cd)} (h : ps.length = 1) : ps = [ps.getD 0 []] := by
  match ps, h with
  | [p], _ => rfl
theorem k_collect (hS : ShW s μ q) (hs : s = 22 ∨ s = 42) (hW : CwW X W s rs m q T S) (hnd : S.Nodup) (hx : X x w) (hWx : W x = 1) (k2 : am_kd μ r2 = (2, L2)) (b2 : L2 ≤ 1000) (b60 : 60 ≤ L2) (hr2 : 94 ≤ r2 ∧ r2 < 185)
    (hok : ∀ (m' : PM) (M : List (List Cd)), M.Nodup → M.length = cntA S w → M.length ≤ 60 → (∀ t, t ∈ M ↔ ((w, [t]) : Atm) ∈ S) → RwC X q m' T r2 0 M → (∀ c j, ¬ c = r2 → m' c j = m c j) → Q (.inl (some (.int (zI (M.length : Int))))) (sA μ m' l))
    (hX : 60 < cntA S w → Q (.inr 3) (sA (am_nX μ) m l)) :
    Wp d 46 (0, [some (.ref 70), some (.int (zI x)), some (.ref r2), none, none, none], [], sA μ m l) Q := by
  obtain ⟨s1, s2, s3, s4, s5, s6⟩ := id hS
  obtain ⟨w1, w2, w3, w4, w5, w6, w7⟩ := id hW
  have hXP := w1.2.1
  have hx0 := (hXP.1 _ _ hx).1
  have hx1 := w1.2.2.1.1 _ _ hx
  have hS1000 := w6.2.1
  have hcn := cnt_C hXP w7 hx
  obtain ⟨a78, a77⟩ := w6.2.2.2.1 x hx0 hx1
  have hle : cntA S w ≤ S.length := List.length_filter_le _ _
  refine K46_0 s1 s2 (TQ_q s3) hs s5 k2 b2 ⟨⟨by omega, by omega⟩, by rw [a78, hcn]; exact ⟨by omega, by omega⟩, fun hlt => ?_, fun hgt => hX (by rw [a78, hcn] at hgt; omega)⟩
  rw [a78, hcn] at hlt ⊢
  have rel : ∀ c : Nat, c < S.length → m 72 (c : Int) = x → ∃ t u : _, S.getD c ([], []) = ((w, [t]) : Atm) ∧ m 73 (4 * (c : Int)) = ((u : Nat) : Int) ∧ u < T ∧ Cg X q m u t := fun c hc ec => by
    obtain ⟨b1, b2, b3, b4⟩ := w7 c hc
    rw [ec] at b1 b2
    have e1 : (S.getD c ([], [])).1 = w := hXP.2.1 _ _ _ b1 hx
    rw [hWx] at b2
    obtain ⟨u, u1, u2, u3⟩ := b4 0 (by omega)
    refine ⟨(S.getD c ([], [])).2.getD 0 [], u, Prod.ext e1 (one_l b2), ?_, u2, u3⟩
    rw [← u1]
    congr 1
  have loop : ∀ (f i : Nat) (g : Nat) (m1 : PM) (M : List (List Cd)) (x4 : Int), i + f = cntA S w → g ≤ S.length → cnF (m 72) x g = (f : Int) → (0 < cnF (m 72) x g → x4 = lsF (m 72) x g) → M.length = i → M.Nodup → (∀ t, t ∈ M ↔ ∃ c, g ≤ c ∧ c < S.length ∧ S.getD c ([], []) = ((w, [t]) : Atm)) → RwC X q m1 T r2 0 M → (∀ c j, ¬ c = r2 → m1 c j = m c j) → Wp d 46 (40, [some (.ref 70), some (.int (zI x)), some (.ref r2), some (.int (zI (cntA S w : Int))), some (.int (zI x4)), some (.int (zI (i : Int)))], [], sA μ m1 l) Q := by
    intro f
    induction f with
    | zero =>
      intro i g m1 M x4 hi hg hc h4 hM hMn hMm hR hf
      have ei : i = cntA S w := by omega
      refine K46_40 s1 s2 (TQ_q s3) hs s5 k2 b2 ⟨⟨by omega, by omega⟩, ⟨by omega, by omega⟩, fun _ => ?_, fun z => absurd (by omega) z⟩
      rw [← ei, ← hM]
      refine hok m1 M hMn (by omega) (by omega) (fun t => ?_) hR hf
      rw [hMm t]
      constructor
      · rintro ⟨c, c1, c2, c3⟩
        rw [← c3]
        exact gD_in c2
      · intro h
        obtain ⟨c, c1, c2⟩ := (mem_gD S ([], []) _).mp h
        refine ⟨c, Classical.byContradiction fun z => ?_, c1, c2⟩
        refine (cnF_sp (m 72) x g).mp (by omega) c (by omega) ?_
        have b1 := (w7 c c1).1
        rw [c2] at b1
        exact hXP.2.2.1 _ _ _ b1 hx
    | succ f ih =>
      intro i g m1 M x4 hi hg hc h4 hM hMn hMm hR hf
      obtain ⟨c, c1, c2, c3, c4⟩ : ∃ c : Nat, lsF (m 72) x g = (c : Int) ∧ c < g ∧ m 72 c = x ∧ ∀ g' : Nat, c < g' → g' < g → ¬ m 72 g' = x := by
        rcases lsF_sp (m 72) x g with h | h
        · exact absurd ((cnF_sp (m 72) x g).mpr h.2) (by omega)
        · exact h
      have e4 : x4 = (c : Int) := (h4 (by omega)).trans c1
      rw [e4]
      have hcS : c < S.length := by omega
      obtain ⟨t, u, t1, t2, t3, t4⟩ := rel c hcS c3
      have e73 : m1 73 (4 * (c : Int)) = (u : Int) := (hf 73 _ (by omega)).trans t2
      have e74 : m1 74 (c : Int) = lsF (m 72) x c := by
        rw [hf 74 _ (by omega)]
        have z := (w6.2.2.1 c hcS).2.2.2
        rw [c3] at z
        exact z
      refine K46_40 s1 s2 (TQ_q s3) hs s5 k2 b2 ⟨⟨by omega, by omega⟩, ⟨by omega, by omega⟩, fun z => absurd z (by omega), fun _ => ⟨⟨by omega, by omega⟩, ⟨by omega, by omega⟩, ⟨by omega, by omega⟩, fun m2 e2 v2 ev2 => ?_⟩⟩
      rw [up_c (show ¬ 74 = r2 by omega), e74] at ev2
      rw [e73] at e2
      have f2 : ∀ c j, ¬ c = r2 → m2 c j = m1 c j := fun c j z => by rw [e2, up_c z]
      have hq := hS.2.2.1
      have hqn := q_n hS
      have cg2 : ∀ t cs, t < T → Cg X q m t cs → Cg X q m2 t cs := fun t cs ht h => CgR_cg (T := T) (fun t _ => ⟨(f2 _ _ (by omega)).trans (hf _ _ (by omega)), (f2 _ _ (by omega)).trans (hf _ _ (by omega)), fun i _ => (f2 _ _ (by omega)).trans (hf _ _ (by omega))⟩) _ t cs ht h
      have cg12 : ∀ t cs, t < T → Cg X q m1 t cs → Cg X q m2 t cs := fun t cs ht h => CgR_cg (T := T) (fun t _ => ⟨f2 _ _ (by omega), f2 _ _ (by omega), fun i _ => f2 _ _ (by omega)⟩) _ t cs ht h
      have hno : ¬ t ∈ M := fun z => by
        obtain ⟨c', d1, d2, d3⟩ := (hMm t).mp z
        have := nodup_at hnd hcS d2 (t1.trans d3.symm)
        omega
      have z := ih (i + 1) c m2 (M ++ [t]) v2 (by omega) (by omega) (by have := cnF_last c3 g c2 c4; omega) (fun _ => ev2) (by rw [List.length_append, List.length_singleton]; omega) (List.nodup_append.mpr ⟨hMn, by simp, fun a ha b hb e => by
        rw [List.mem_singleton.mp hb] at e
        exact hno (e ▸ ha)⟩) (fun t' => ?_) (fun i' hi' => ?_) (fun c j z => (f2 c j z).trans (hf c j z))
      · rw [show ((i + 1 : Nat) : Int) = (i : Int) + 1 by omega] at z
        exact z
      · rw [List.mem_append, List.mem_singleton, hMm t']
        constructor
        · rintro (⟨c', d1, d2, d3⟩ | e)
          · exact ⟨c', by omega, d2, d3⟩
          · exact ⟨c, Nat.le_refl _, hcS, by rw [e]; exact t1⟩
        · rintro ⟨c', d1, d2, d3⟩
          by_cases y : g ≤ c'
          · exact Or.inl ⟨c', y, d2, d3⟩
          · by_cases y2 : c' = c
            · rw [y2, t1] at d3
              exact Or.inr (List.cons.inj (congrArg Prod.snd d3)).1.symm
            · have b1 := (w7 c' d2).1
              rw [d3] at b1
              exact absurd (hXP.2.2.1 _ _ _ b1 hx) (c4 c' (by omega) (by omega))
      · rw [List.length_append, List.length_singleton] at hi'
        by_cases y : i' = M.length
        · refine ⟨u, ?_, t3, ?_⟩
          · rw [e2, show (0 : Int) + (i' : Int) = (i : Int) by omega, up_s]
          · rw [y, gD_snX]
            exact cg2 u _ t3 t4
        · obtain ⟨u', d1, d2, d3⟩ := hR i' (by omega)
          refine ⟨u', ?_, d2, ?_⟩
          · rw [e2, up_i (by omega)]
            exact d1
          · rw [gD_app (by omega)]
            exact cg12 u' _ d2 d3
  have e0 : (0 : Int) = ((0 : Nat) : Int) := rfl
  rw [e0]
  exact loop (cntA S w) 0 S.length m [] _ (by omega) (Nat.le_refl _) (by rw [hcn]) (fun h => a77 h) rfl List.nodup_nil (fun t => ⟨fun h => absurd h List.not_mem_nil, fun ⟨c, c1, c2, _⟩ => absurd c1 (by omega)⟩) (fun i hi => absurd hi (Nat.not_lt_zero i)) (fun _ _ _ => rfl)
end CCL
