/-! ===== the reference: weigh, findValues ===== -/
section RVA
variable {d : Nat} {μ : am_Mem} {l : PM} {Q : Option Value ⊕ Nat → am_Mem → Prop} {N : Nat} {ov : Nat → Prop} {g : Nat → Nat → Int} {mn : Nat → Nat → Nat} {nx : List (List Nat)}
theorem c_weigh {m : PM} {n : Nat} (H : RS μ) (hT : TbX m N ov g mn nx) (hn : n < N) (hne : ¬ ov n → ¬ nx.getD n [] = []) (hv : ∀ b, b ∈ nx.getD n [] → -2 ≤ m 182 (b : Int) ∧ m 182 (b : Int) ≤ 100) : Wp d 262 (0, [some (.ref 125), some (.int (zI (n : Int))), none, none, none, none], [], sA μ m l) (pI (fun y μ' => (∃ v : Int, y = zI v ∧ v = wgh ov g mn nx (fun b : Nat => m 182 (b : Int)) n ∧ -2 ≤ v ∧ v ≤ 100) ∧ μ' = sA μ m l) noX) := by
  have hN := hT.1
  obtain ⟨a1, a2, a3, a4, a5⟩ := hT.2 n hn
  obtain ⟨g1, g2, g3, g4⟩ := a2 0 (by decide)
  rw [show 2 * (n : Int) + ((0 : Nat) : Int) = 2 * (n : Int) by omega] at g1 g3
  have h177 : iR (m 177 (n : Int)) := by
    by_cases q : ov n
    · rw [a1, bP_1 q]; exact ⟨by decide, by decide⟩
    · rw [a1, bP_0 q]; exact ⟨by decide, by decide⟩
  refine R262_0 H ⟨⟨by omega, by omega⟩, h177, fun y => ⟨⟨by omega, by omega⟩, by rw [g3]; exact ⟨by omega, by omega⟩, ?_⟩, fun y => ⟨⟨by omega, by omega⟩, ?_⟩⟩
  · have hov : ¬ ov n := fun q => by rw [a1, bP_1 q] at y; exact absurd y (by decide)
    rintro v1 ev1
    rw [g3] at ev1
    cases hx : nx.getD n [] with
    | nil => exact absurd hx (hne hov)
    | cons a t =>
      rw [hx] at a3 a4 a5 hv
      have hw : wgh ov g mn nx (fun b : Nat => m 182 (b : Int)) n = wgF (mn n 0 = 1) (m 182 (a : Int)) (t.map (fun b : Nat => m 182 (b : Int))) := by
        unfold wgh
        rw [cif_n hov, hx]
      have e0 : m 179 (40 * (n : Int)) = (a : Int) := by
        have := a4 0 (Nat.succ_pos _)
        rw [show 40 * (n : Int) + ((0 : Nat) : Int) = 40 * (n : Int) by omega] at this
        exact this
      have ha := a5 a List.mem_cons_self
      have va := hv a List.mem_cons_self
      refine ⟨⟨by omega, by omega⟩, by rw [e0]; exact ⟨by omega, by omega⟩, ?_⟩
      rw [e0]
      rintro v2 ev2
      have hv1 : v1 = 0 ∧ ¬ mn n 0 = 1 ∨ v1 = 1 ∧ mn n 0 = 1 := by
        by_cases q : mn n 0 = 1
        · rw [if_neg (fun z => z (by omega))] at ev1
          exact Or.inr ⟨ev1, q⟩
        · rw [if_pos (by omega)] at ev1
          exact Or.inl ⟨ev1, q⟩
      have loop : ∀ (t' : List Nat) (j : Nat) (x3 : Int) (o5 : Option Value), j ≤ (a :: t).length → (a :: t).drop j = t' → (-2 ≤ x3 ∧ x3 ≤ 100) → wgF (mn n 0 = 1) x3 (t'.map (fun b : Nat => m 182 (b : Int))) = wgF (mn n 0 = 1) (m 182 (a : Int)) (t.map (fun b : Nat => m 182 (b : Int))) → Wp d 262 (54, [some (.ref 125), some (.int (zI (n : Int))), some (.int (zI v1)), some (.int (zI x3)), some (.int (zI (j : Int))), o5], [], sA μ m l) (pI (fun y μ' => (∃ v : Int, y = zI v ∧ v = wgh ov g mn nx (fun b : Nat => m 182 (b : Int)) n ∧ -2 ≤ v ∧ v ≤ 100) ∧ μ' = sA μ m l) noX) := by
        intro t'
        induction t' with
        | nil =>
          intro j x3 o5 hj0 hd hr he
          have hl : (a :: t).length ≤ j := by
            have := congrArg List.length hd
            rw [List.length_drop] at this
            have : (a :: t).length - j = 0 := this
            omega
          refine R262_54 H ⟨⟨by omega, by omega⟩, ⟨by omega, by omega⟩, by rw [a3.1]; exact ⟨by omega, by omega⟩, fun _ => ⟨⟨x3, rfl, by rw [hw]; exact he, hr⟩, rfl⟩, fun z => by rw [a3.1] at z; omega⟩
        | cons b t' ih =>
          intro j x3 o5 hj0 hd hr he
          have hl : j < (a :: t).length := by
            have := congrArg List.length hd
            rw [List.length_drop] at this
            have : (a :: t).length - j = t'.length + 1 := this
            omega
          have eb : (a :: t).getD j 0 = b := by
            rw [List.drop_eq_getElem_cons hl] at hd
            rw [List.getD_eq_getElem?_getD, List.getElem?_eq_getElem hl]
            exact (List.cons.inj hd).1
          have et : (a :: t).drop (j + 1) = t' := by
            rw [List.drop_eq_getElem_cons hl] at hd
            exact (List.cons.inj hd).2
          have hb : b ∈ a :: t := by rw [← eb]; exact nx_mem hl
          have hbN := a5 b hb
          have hbv := hv b hb
          have e9 : m 179 (40 * (n : Int) + (j : Int)) = (b : Int) := by rw [a4 j hl, eb]
          refine R262_54 H ⟨⟨by omega, by omega⟩, ⟨by omega, by omega⟩, by rw [a3.1]; exact ⟨by omega, by omega⟩, fun z => by rw [a3.1] at z; omega, fun _ => ⟨⟨by omega, by omega⟩, by rw [e9]; exact ⟨by omega, by omega⟩, by rcases hv1 with q | q <;> rw [q.1] <;> exact ⟨by decide, by decide⟩, ⟨fun _ => ⟨by rw [e9]; exact ⟨by omega, by omega⟩, ⟨by omega, by omega⟩, trivial⟩, fun _ => ⟨by rw [e9]; exact ⟨by omega, by omega⟩, ⟨by omega, by omega⟩, trivial⟩⟩, ?_⟩⟩
          rw [e9]
          rintro w1 ew1 w2 ew2
          have e2 : w2 = (if mn n 0 = 1 then (if x3 ≤ m 182 (b : Int) then x3 else m 182 (b : Int)) else (if m 182 (b : Int) ≤ x3 then x3 else m 182 (b : Int))) := by
            rcases hv1 with ⟨q1, q2⟩ | ⟨q1, q2⟩
            · rw [ew2, if_pos q1, if_neg q2]
            · rw [ew2, if_neg (by omega), if_pos q2]
          have hr2 : -2 ≤ w2 ∧ w2 ≤ 100 := by
            rw [e2]
            split
            · split <;> omega
            · split <;> omega
          have go := ih (j + 1) w2 (some (.int (zI w1))) hl et hr2 (by rw [← he, e2]; rfl)
          rw [show ((j + 1 : Nat) : Int) = (j : Int) + 1 by omega] at go
          exact go
      rw [ev2]
      exact loop t 1 _ none (Nat.succ_le_succ (Nat.zero_le _)) rfl va rfl
  · have hov : ov n := Classical.byContradiction fun q => y (by rw [a1, bP_0 q])
    refine ⟨⟨g n 0, by rw [g1], ?_, g2⟩, rfl⟩
    unfold wgh
    rw [cif_p hov]
/-- what is known of the values -/
def VaI (m0 : PM) (N : Nat) (ov : Nat → Prop) (g : Nat → Nat → Int) (mn : Nat → Nat → Nat) (nx : List (List Nat)) (m : PM) : Prop := (∀ c j, ¬ (c = 182 ∨ c = 183) → m c j = m0 c j) ∧ ∀ i : Nat, i < N → (m 183 (i : Int) = 0 ∨ m 183 (i : Int) = 1) ∧ (m 183 (i : Int) = 1 → (∀ b, b ∈ nx.getD i [] → m 183 (b : Int) = 1) ∧ m 182 (i : Int) = wgh ov g mn nx (fun b : Nat => m 182 (b : Int)) i ∧ -2 ≤ m 182 (i : Int) ∧ m 182 (i : Int) ≤ 100)
theorem c_findValues {m0 : PM} (H : RS μ) (h82 : m0 125 82 = (N : Int)) (hT : TbX m0 N ov g mn nx) (hA : ∀ i, i < N → ¬ Rea nx i i) (hne : ∀ i, i < N → ¬ ov i → ¬ nx.getD i [] = [])
    (hok : ∀ (m' : PM), VaP N ov g mn nx (fun b => m' 182 (b : Int)) → (∀ i : Nat, i < N → -2 ≤ m' 182 (i : Int) ∧ m' 182 (i : Int) ≤ 100) → (∀ c j, ¬ (c = 182 ∨ c = 183) → m' c j = m0 c j) → Q (.inl none) (sA μ m' l)) :
    Wp (d + 1) 261 (0, [some (.ref 125), none, none, none, none], [], sA μ m0 l) Q := by
  have hN := hT.1
  have e82 : ∀ {m : PM}, (∀ c j, ¬ (c = 182 ∨ c = 183) → m c j = m0 c j) → m 125 82 = (N : Int) := fun {m} fr => by rw [fr _ _ (by decide)]; exact h82
  have fin : ∀ (m : PM) (o2 o3 o4 : Option Value), VaI m0 N ov g mn nx m → (∀ i : Nat, i < N → m 183 (i : Int) = 1 ∨ ∃ b, b ∈ nx.getD i [] ∧ m 183 (b : Int) = 0) → Wp (d + 1) 261 (25, [some (.ref 125), some (.int (zI 0)), o2, o3, o4], [], sA μ m l) Q := by
    intro m o2 o3 o4 hV hb
    have hall : ∀ i, i < N → m 183 (i : Int) = 1 := acy_ind (fun a ha b hb => (hT.2 a ha).2.2.2.2 b hb) hA (P := fun i => m 183 (i : Int) = 1) (fun i hi hk => by
      rcases hb i hi with y | ⟨b, b1, b2⟩
      · exact y
      · have := hk b b1
        rw [b2] at this
        exact absurd this (by decide))
    refine R261_25 H ⟨⟨by decide, by decide⟩, fun _ => ?_, fun z => absurd rfl z⟩
    exact hok m (fun i hi => ((hV.2 i hi).2 (hall i hi)).2.1) (fun i hi => ((hV.2 i hi).2 (hall i hi)).2.2) hV.1
  have outer : ∀ (U : Nat) (m : PM) (o2 o3 o4 : Option Value), cP (fun i => m 183 (i : Int) = 0) N = U → VaI m0 N ov g mn nx m → Wp (d + 1) 261 (25, [some (.ref 125), some (.int (zI 1)), o2, o3, o4], [], sA μ m l) Q := by
    intro U
    induction U using Nat.strongRecOn with
    | _ U ih =>
      intro m o2 o3 o4 hU hV
      refine R261_25 H ⟨⟨by decide, by decide⟩, fun z => absurd z (by decide), fun _ => ?_⟩
      rw [e82 hV.1]
      have pass : ∀ (k : Nat) (m1 : PM) (x1 : Int) (o3 o4 : Option Value), k ≤ N → VaI m0 N ov g mn nx m1 → ((x1 = 0 ∧ (∀ i : Nat, i < N → m1 183 (i : Int) = m 183 (i : Int)) ∧ ∀ i : Nat, k ≤ i → i < N → m1 183 (i : Int) = 1 ∨ ∃ b, b ∈ nx.getD i [] ∧ m1 183 (b : Int) = 0) ∨ (x1 = 1 ∧ cP (fun i => m1 183 (i : Int) = 0) N < U)) → Wp (d + 1) 261 (38, [some (.ref 125), some (.int (zI x1)), some (.int (zI ((k : Int) - 1))), o3, o4], [], sA μ m1 l) Q := by
        intro k
        induction k with
        | zero =>
          intro m1 x1 o3 o4 hk hV1 hc1
          refine R261_38 H ⟨⟨by omega, by omega⟩, fun _ => ?_, fun z => absurd (by omega) z⟩
          rcases hc1 with ⟨e1, e2, e3⟩ | ⟨e1, e2⟩
          · rw [e1]
            exact fin m1 _ _ _ hV1 (fun i hi => e3 i (Nat.zero_le _) hi)
          · rw [e1]
            exact ih _ e2 m1 _ _ _ rfl hV1
        | succ k ihk =>
          intro m1 x1 o3 o4 hk hV1 hc1
          rw [show ((k + 1 : Nat) : Int) - 1 = (k : Int) by omega]
          have hkN : k < N := by omega
          obtain ⟨a1, a2, a3, a4, a5⟩ := (TbX_cg (fun c j z => hV1.1 c j (by omega)) hT).2 k hkN
          have h01 := hV1.2 k hkN
          have hx1 : x1 = 0 ∨ x1 = 1 := by
            rcases hc1 with e | e
            · exact Or.inl e.1
            · exact Or.inr e.1
          refine R261_38 H ⟨⟨by omega, by omega⟩, fun z => by omega, fun _ => ⟨⟨by omega, by omega⟩, by rcases h01.1 with e | e <;> rw [e] <;> exact ⟨by decide, by decide⟩, ?_⟩⟩
          rintro v1 ev1
          /- is all behind it known -/
          have at99 : ∀ (x3 : Int) (x4 : Nat), ((x3 = 1 ∧ m1 183 (k : Int) = 0 ∧ ∀ b, b ∈ nx.getD k [] → m1 183 (b : Int) = 1) ∨ (x3 = 0 ∧ (m1 183 (k : Int) = 1 ∨ ∃ b, b ∈ nx.getD k [] ∧ m1 183 (b : Int) = 0))) → Wp (d + 1) 261 (99, [some (.ref 125), some (.int (zI x1)), some (.int (zI (k : Int))), some (.int (zI x3)), some (.int (zI (x4 : Int)))], [], sA μ m1 l) Q := by
            intro x3 x4 h3
            rcases h3 with ⟨e3, q1, q2⟩ | ⟨e3, q⟩
            · rw [e3]
              refine R261_99 H ⟨⟨by decide, by decide⟩, fun z => absurd z (by decide), fun _ => ?_⟩
              refine ⟨_, _, c_weigh (d := d) (l := l) (n := k) H (TbX_cg (fun c j z => hV1.1 c j (by omega)) hT) hkN (hne k hkN) (fun b hb => ((hV1.2 b (a5 b hb)).2 (q2 b hb)).2.2), fun y μ' hp => ?_, fun _ _ z => z.elim⟩
              obtain ⟨⟨v, rfl, hv, hr⟩, rfl⟩ := hp
              refine R261_113 H ⟨⟨by omega, by omega⟩, ⟨by omega, by omega⟩, ?_⟩
              rintro m2 e2
              have o182 : ∀ i : Nat, ¬ i = k → m2 182 (i : Int) = m1 182 (i : Int) := fun i hi => by rw [e2, up_c (by decide), up_i (by omega)]
              have o183 : ∀ i : Nat, ¬ i = k → m2 183 (i : Int) = m1 183 (i : Int) := fun i hi => by rw [e2, up_i (by omega), up_c (by decide)]
              have k182 : m2 182 (k : Int) = v := by rw [e2, up_c (by decide), up_s]
              have k183 : m2 183 (k : Int) = 1 := by rw [e2, up_s]
              have up1 : ∀ i : Nat, m1 183 (i : Int) = 1 → m2 183 (i : Int) = 1 := fun i hi => by
                by_cases q : i = k
                · rw [q]; exact k183
                · rw [o183 i q]; exact hi
              have hsame : ∀ i : Nat, (∀ b, b ∈ nx.getD i [] → m1 183 (b : Int) = 1) → wgh ov g mn nx (fun b : Nat => m2 182 (b : Int)) i = wgh ov g mn nx (fun b : Nat => m1 182 (b : Int)) i := fun i hi => wgh_cg (fun b hb => o182 b (fun e => by
                have := hi b hb
                rw [e, q1] at this
                exact absurd this (by decide)))
              refine ihk m2 1 _ _ (by omega) ⟨fun c j z => by rw [e2, up_o (by omega), up_o (by omega)]; exact hV1.1 c j z, fun i hi => ?_⟩ (Or.inr ⟨rfl, ?_⟩)
              · by_cases q : i = k
                · rw [q]
                  refine ⟨Or.inr k183, fun _ => ⟨fun b hb => up1 b (q2 b hb), ?_, by rw [k182]; exact hr⟩⟩
                  rw [k182, hsame k q2]
                  exact hv
                · rw [o183 i q, o182 i q]
                  obtain ⟨w1, w2⟩ := hV1.2 i hi
                  refine ⟨w1, fun h1 => ?_⟩
                  obtain ⟨w3, w4, w5⟩ := w2 h1
                  exact ⟨fun b hb => up1 b (w3 b hb), by rw [hsame i w3]; exact w4, w5⟩
              · have hlt : cP (fun i => m2 183 (i : Int) = 0) N < cP (fun i => m1 183 (i : Int) = 0) N := by
                  refine cP_lt (x := k) (fun i hi y => ?_) hkN q1 (fun y => ?_)
                  · have y' : m2 183 (i : Int) = 0 := y
                    have hik : ¬ i = k := fun e => by
                      rw [e, k183] at y'
                      exact absurd y' (by decide)
                    show m1 183 (i : Int) = 0
                    rw [← o183 i hik]
                    exact y'
                  · have y' : m2 183 (k : Int) = 0 := y
                    rw [k183] at y'
                    exact absurd y' (by decide)
                rcases hc1 with ⟨e1, e2', e3'⟩ | ⟨e1, e2'⟩
                · have : cP (fun i => m1 183 (i : Int) = 0) N ≤ cP (fun i => m 183 (i : Int) = 0) N := cP_le (fun i hi y => by
                    have y' : m1 183 (i : Int) = 0 := y
                    show m 183 (i : Int) = 0
                    rw [← e2' i hi]
                    exact y')
                  omega
                · omega
            · rw [e3]
              refine R261_99 H ⟨⟨by decide, by decide⟩, fun _ => ?_, fun z => absurd rfl z⟩
              refine ihk m1 x1 _ _ (by omega) hV1 ?_
              rcases hc1 with ⟨e1, e2, e3'⟩ | e
              · refine Or.inl ⟨e1, e2, fun i hi1 hi2 => ?_⟩
                by_cases e : i = k
                · rw [e]; exact q
                · exact e3' i (by omega) hi2
              · exact Or.inr e
          have inner : ∀ (f x4 : Nat) (x3 : Int), x4 + f = (nx.getD k []).length → ((x3 = 1 ∧ m1 183 (k : Int) = 0 ∧ ∀ j : Nat, j < x4 → m1 183 (((nx.getD k []).getD j 0 : Nat) : Int) = 1) ∨ (x3 = 0 ∧ (m1 183 (k : Int) = 1 ∨ ∃ b, b ∈ nx.getD k [] ∧ m1 183 (b : Int) = 0))) → Wp (d + 1) 261 (60, [some (.ref 125), some (.int (zI x1)), some (.int (zI (k : Int))), some (.int (zI x3)), some (.int (zI (x4 : Int)))], [], sA μ m1 l) Q := by
            intro f
            induction f with
            | zero =>
              intro x4 x3 hf h3
              refine R261_60 H ⟨⟨by omega, by omega⟩, ⟨by omega, by omega⟩, by rw [a3.1]; exact ⟨by omega, by omega⟩, fun _ => at99 x3 x4 ?_, fun z => by rw [a3.1] at z; omega⟩
              rcases h3 with ⟨e3, q1, q2⟩ | e
              · refine Or.inl ⟨e3, q1, fun b hb => ?_⟩
                obtain ⟨j, hj, e⟩ := (mem_gD _ 0 _).mp hb
                rw [← e]
                exact q2 j (by omega)
              · exact Or.inr e
            | succ f ihf =>
              intro x4 x3 hf h3
              have hj : x4 < (nx.getD k []).length := by omega
              have e9 : m1 179 (40 * (k : Int) + (x4 : Int)) = (((nx.getD k []).getD x4 0 : Nat) : Int) := a4 x4 hj
              have hbm := nx_mem hj
              have hbN := a5 _ hbm
              refine R261_60 H ⟨⟨by omega, by omega⟩, ⟨by omega, by omega⟩, by rw [a3.1]; exact ⟨by omega, by omega⟩, fun z => by rw [a3.1] at z; omega, fun _ => ?_⟩
              rcases h3 with ⟨e3, q1, q2⟩ | ⟨e3, q⟩
              · refine ⟨by rw [e3]; exact ⟨by decide, by decide⟩, fun z => by omega, fun _ => ⟨⟨by omega, by omega⟩, by rw [e9]; exact ⟨by omega, by omega⟩, ?_⟩⟩
                rw [e9]
                rintro w1 ew1
                have go := ihf (x4 + 1) w1 (by omega) ?_
                · rw [show ((x4 + 1 : Nat) : Int) = (x4 : Int) + 1 by omega] at go
                  exact go
                · rcases (hV1.2 _ hbN).1 with y | y
                  · exact Or.inr ⟨ew1.trans y, Or.inr ⟨_, hbm, y⟩⟩
                  · refine Or.inl ⟨ew1.trans y, q1, fun j hj' => ?_⟩
                    by_cases e : j = x4
                    · rw [e]; exact y
                    · exact q2 j (by omega)
              · exact ⟨by rw [e3]; exact ⟨by decide, by decide⟩, fun _ => at99 x3 x4 (Or.inr ⟨e3, q⟩), fun z => absurd e3 z⟩
          refine inner (nx.getD k []).length 0 v1 (by omega) ?_
          rcases h01.1 with e | e
          · rw [if_neg (fun z => z e)] at ev1
            exact Or.inl ⟨ev1, e, fun j hj => absurd hj (Nat.not_lt_zero j)⟩
          · rw [if_pos (by rw [e]; decide)] at ev1
            exact Or.inr ⟨ev1, Or.inl e⟩
      exact pass N m 0 _ _ (Nat.le_refl _) hV (Or.inl ⟨rfl, fun _ _ => rfl, fun i h1 h2 => absurd h2 (by omega)⟩)
  have clear : ∀ (f n : Nat) (m : PM), n + f = N → (∀ c j, ¬ (c = 182 ∨ c = 183) → m c j = m0 c j) → (∀ i : Nat, i < n → m 183 (i : Int) = 0) → Wp (d + 1) 261 (2, [some (.ref 125), some (.int (zI (n : Int))), none, none, none], [], sA μ m l) Q := by
    intro f
    induction f with
    | zero =>
      intro n m hf fr h0
      refine R261_2 H ⟨⟨by omega, by omega⟩, by rw [e82 fr]; exact ⟨by omega, by omega⟩, fun _ => ?_, fun z => by rw [e82 fr] at z; omega⟩
      refine outer _ m _ _ _ rfl ⟨fr, fun i hi => ⟨Or.inl (h0 i (by omega)), fun z => ?_⟩⟩
      rw [h0 i (by omega)] at z
      exact absurd z (by decide)
    | succ f ih =>
      intro n m hf fr h0
      refine R261_2 H ⟨⟨by omega, by omega⟩, by rw [e82 fr]; exact ⟨by omega, by omega⟩, fun z => by rw [e82 fr] at z; omega, fun _ => ⟨⟨by omega, by omega⟩, ?_⟩⟩
      rintro m1 e1
      have go := ih (n + 1) m1 (by omega) (fun c j z => by rw [e1, up_o (by omega)]; exact fr c j z) (fun i hi => by
        by_cases q : i = n
        · rw [q, e1, up_s]
        · rw [e1, up_i (by omega)]
          exact h0 i (by omega))
      rw [show ((n + 1 : Nat) : Int) = (n : Int) + 1 by omega] at go
      exact go
  exact R261_0 H (clear N 0 m0 (by omega) (fun _ _ _ => rfl) (fun i hi => absurd hi (Nat.not_lt_zero i)))
end RVA
