/-! ===== the reference: comesAgain, findDefect ===== -/
section RDF
variable {d : Nat} {μ : am_Mem} {l : PM} {Q : Option Value ⊕ Nat → am_Mem → Prop} {N : Nat} {ov : Nat → Prop} {g : Nat → Nat → Int} {mn : Nat → Nat → Nat} {nx : List (List Nat)}
/-- marked is what comes behind x -/
def MkR (m0 : PM) (N : Nat) (nx : List (List Nat)) (x : Nat) (m : PM) : Prop := (∀ c j, ¬ c = 184 → m c j = m0 c j) ∧ ∀ i : Nat, i < N → (m 184 (i : Int) = 0 ∨ m 184 (i : Int) = 1) ∧ (m 184 (i : Int) = 1 → Rea nx x i)
theorem MkR_up {m0 m : PM} {x b : Nat} (h : MkR m0 N nx x m) (hb : Rea nx x b) : MkR m0 N nx x (up m 184 (b : Int) 1) := by
  refine ⟨fun c j z => by rw [up_c z]; exact h.1 c j z, fun i hi => ?_⟩
  by_cases q : i = b
  · rw [q, up_s]
    exact ⟨Or.inr rfl, fun _ => hb⟩
  · rw [up_i (by omega)]
    exact h.2 i hi
theorem MkR_1 {m : PM} {b i : Nat} (h : m 184 (i : Int) = 1) : up m 184 (b : Int) 1 184 (i : Int) = 1 := by
  by_cases q : i = b
  · rw [q, up_s]
  · rw [up_i (by omega)]
    exact h
theorem c_comesAgain {m0 : PM} {x : Nat} (H : RS μ) (h82 : m0 125 82 = (N : Int)) (hT : TbX m0 N ov g mn nx) (hx : x < N) : Wp d 260 (0, [some (.ref 125), some (.int (zI (x : Int))), none, none, none], [], sA μ m0 l) (pI (fun y μ' => y = zI (bP (Rea nx x x)) ∧ ∃ m', μ' = sA μ m' l ∧ ∀ c j, ¬ c = 184 → m' c j = m0 c j) noX) := by
  have hN := hT.1
  have hnx : ∀ {m : PM}, (∀ c j, ¬ c = 184 → m c j = m0 c j) → ∀ i : Nat, i < N → m 178 (i : Int) = ((nx.getD i []).length : Int) ∧ (nx.getD i []).length ≤ 40 ∧ ∀ j : Nat, j < (nx.getD i []).length → m 179 (40 * (i : Int) + (j : Int)) = ((nx.getD i []).getD j 0 : Int) ∧ (nx.getD i []).getD j 0 < N := fun {m} fr i hi => by
    obtain ⟨_, _, a3, a4, a5⟩ := hT.2 i hi
    exact ⟨by rw [fr _ _ (by decide)]; exact a3.1, a3.2, fun j hj => ⟨by rw [fr _ _ (by decide)]; exact a4 j hj, a5 _ (nx_mem hj)⟩⟩
  have e82 : ∀ {m : PM}, (∀ c j, ¬ c = 184 → m c j = m0 c j) → m 125 82 = (N : Int) := fun {m} fr => by rw [fr _ _ (by decide)]; exact h82
  /- nothing more to mark -/
  have fin : ∀ (m : PM) (o3 o4 : Option Value), MkR m0 N nx x m → (∀ j : Nat, j < (nx.getD x []).length → m 184 (((nx.getD x []).getD j 0 : Nat) : Int) = 1) → (∀ i : Nat, i < N → m 184 (i : Int) = 1 → ∀ j : Nat, j < (nx.getD i []).length → m 184 (((nx.getD i []).getD j 0 : Nat) : Int) = 1) → Wp d 260 (60, [some (.ref 125), some (.int (zI (x : Int))), some (.int (zI 0)), o3, o4], [], sA μ m l) (pI (fun y μ' => y = zI (bP (Rea nx x x)) ∧ ∃ m', μ' = sA μ m' l ∧ ∀ c j, ¬ c = 184 → m' c j = m0 c j) noX) := by
    intro m o3 o4 hM hb hc
    have hall : ∀ y, Rea nx x y → y < N ∧ m 184 (y : Int) = 1 := by
      intro y hy
      induction hy with
      | single h =>
        obtain ⟨j, hj, e⟩ := (mem_gD _ 0 _).mp h
        rw [← e]
        exact ⟨((hnx hM.1 x hx).2.2 j hj).2, hb j hj⟩
      | tail _ h ih =>
        obtain ⟨j, hj, e⟩ := (mem_gD _ 0 _).mp h
        rw [← e]
        exact ⟨((hnx hM.1 _ ih.1).2.2 j hj).2, hc _ ih.1 ih.2 j hj⟩
    have h01 := hM.2 x hx
    refine R260_60 H ⟨⟨by decide, by decide⟩, fun _ => ⟨⟨by omega, by omega⟩, h01.1, ?_, m, rfl, hM.1⟩, fun z => absurd rfl z⟩
    by_cases q : Rea nx x x
    · rw [bP_1 q, (hall x q).2]
    · rw [bP_0 q]
      rcases h01.1 with e | e
      · rw [e]
      · exact absurd (h01.2 e) q
  /- the passes -/
  have outer : ∀ (U : Nat) (m : PM) (o3 o4 : Option Value), cP (fun i => m 184 (i : Int) = 0) N = U → MkR m0 N nx x m → (∀ j : Nat, j < (nx.getD x []).length → m 184 (((nx.getD x []).getD j 0 : Nat) : Int) = 1) → Wp d 260 (60, [some (.ref 125), some (.int (zI (x : Int))), some (.int (zI 1)), o3, o4], [], sA μ m l) (pI (fun y μ' => y = zI (bP (Rea nx x x)) ∧ ∃ m', μ' = sA μ m' l ∧ ∀ c j, ¬ c = 184 → m' c j = m0 c j) noX) := by
    intro U
    induction U using Nat.strongRecOn with
    | _ U ih =>
      intro m o3 o4 hU hM hb
      refine R260_60 H ⟨⟨by decide, by decide⟩, fun z => absurd z (by decide), fun _ => ?_⟩
      have pass : ∀ (f x3 : Nat) (m1 : PM) (x2 : Int) (o4 : Option Value), x3 + f = N → MkR m0 N nx x m1 → (∀ j : Nat, j < (nx.getD x []).length → m1 184 (((nx.getD x []).getD j 0 : Nat) : Int) = 1) → ((x2 = 0 ∧ (∀ i : Nat, i < N → m1 184 (i : Int) = m 184 (i : Int)) ∧ ∀ i : Nat, i < x3 → m1 184 (i : Int) = 1 → ∀ j : Nat, j < (nx.getD i []).length → m1 184 (((nx.getD i []).getD j 0 : Nat) : Int) = 1) ∨ (x2 = 1 ∧ cP (fun i => m1 184 (i : Int) = 0) N < U)) → Wp d 260 (68, [some (.ref 125), some (.int (zI (x : Int))), some (.int (zI x2)), some (.int (zI (x3 : Int))), o4], [], sA μ m1 l) (pI (fun y μ' => y = zI (bP (Rea nx x x)) ∧ ∃ m', μ' = sA μ m' l ∧ ∀ c j, ¬ c = 184 → m' c j = m0 c j) noX) := by
        intro f
        induction f with
        | zero =>
          intro x3 m1 x2 o4 hf hM1 hb1 hc1
          refine R260_68 H ⟨⟨by omega, by omega⟩, by rw [e82 hM1.1]; exact ⟨by omega, by omega⟩, fun _ => ?_, fun z => by rw [e82 hM1.1] at z; omega⟩
          rcases hc1 with ⟨e1, e2, e3⟩ | ⟨e1, e2⟩
          · rw [e1]
            exact fin m1 _ _ hM1 hb1 (fun i hi => e3 i (by omega))
          · rw [e1]
            exact ih _ e2 m1 _ _ rfl hM1 hb1
        | succ f ihf =>
          intro x3 m1 x2 o4 hf hM1 hb1 hc1
          refine R260_68 H ⟨⟨by omega, by omega⟩, by rw [e82 hM1.1]; exact ⟨by omega, by omega⟩, fun z => by rw [e82 hM1.1] at z; omega, fun _ => ?_⟩
          have hx3 : x3 < N := by omega
          have inner : ∀ (f4 x4 : Nat) (m2 : PM) (x2 : Int), x4 + f4 = (nx.getD x3 []).length → MkR m0 N nx x m2 → (∀ j : Nat, j < (nx.getD x []).length → m2 184 (((nx.getD x []).getD j 0 : Nat) : Int) = 1) → ((x2 = 0 ∧ (∀ i : Nat, i < N → m2 184 (i : Int) = m 184 (i : Int)) ∧ (∀ i : Nat, i < x3 → m2 184 (i : Int) = 1 → ∀ j : Nat, j < (nx.getD i []).length → m2 184 (((nx.getD i []).getD j 0 : Nat) : Int) = 1) ∧ (m2 184 (x3 : Int) = 1 → ∀ j : Nat, j < x4 → m2 184 (((nx.getD x3 []).getD j 0 : Nat) : Int) = 1)) ∨ (x2 = 1 ∧ cP (fun i => m2 184 (i : Int) = 0) N < U)) → Wp d 260 (79, [some (.ref 125), some (.int (zI (x : Int))), some (.int (zI x2)), some (.int (zI (x3 : Int))), some (.int (zI (x4 : Int)))], [], sA μ m2 l) (pI (fun y μ' => y = zI (bP (Rea nx x x)) ∧ ∃ m', μ' = sA μ m' l ∧ ∀ c j, ¬ c = 184 → m' c j = m0 c j) noX) := by
            intro f4
            induction f4 with
            | zero =>
              intro x4 m2 x2 hf4 hM2 hb2 hc2
              obtain ⟨n1, n2, n3⟩ := hnx hM2.1 x3 hx3
              refine R260_79 H ⟨⟨by omega, by omega⟩, ⟨by omega, by omega⟩, by rw [n1]; exact ⟨by omega, by omega⟩, fun _ => ?_, fun z => by rw [n1] at z; omega⟩
              have go := ihf (x3 + 1) m2 x2 (some (.int (zI (x4 : Int)))) (by omega) hM2 hb2 ?_
              · rw [show ((x3 + 1 : Nat) : Int) = (x3 : Int) + 1 by omega] at go
                exact go
              · rcases hc2 with ⟨e1, e2, e3, e4⟩ | e
                · refine Or.inl ⟨e1, e2, fun i hi h1 j hj => ?_⟩
                  by_cases q : i = x3
                  · rw [q] at h1 hj ⊢
                    exact e4 h1 j (by omega)
                  · exact e3 i (by omega) h1 j hj
                · exact Or.inr e
            | succ f4 ih4 =>
              intro x4 m2 x2 hf4 hM2 hb2 hc2
              obtain ⟨n1, n2, n3⟩ := hnx hM2.1 x3 hx3
              obtain ⟨n4, n5⟩ := n3 x4 (by omega)
              have h01 := hM2.2 x3 hx3
              have h01b := hM2.2 _ n5
              have hx2 : x2 = 0 ∨ x2 = 1 := by
                rcases hc2 with e | e
                · exact Or.inl e.1
                · exact Or.inr e.1
              refine R260_79 H ⟨⟨by omega, by omega⟩, ⟨by omega, by omega⟩, by rw [n1]; exact ⟨by omega, by omega⟩, fun z => by rw [n1] at z; omega, fun _ => ⟨by rcases h01.1 with e | e <;> rw [e] <;> exact ⟨by decide, by decide⟩, fun z => ?_, fun z => ?_⟩⟩
              · /- x3 is not marked -/
                have go := ihf (x3 + 1) m2 x2 (some (.int (zI (x4 : Int)))) (by omega) hM2 hb2 ?_
                · rw [show ((x3 + 1 : Nat) : Int) = (x3 : Int) + 1 by omega] at go
                  exact go
                · rcases hc2 with ⟨e1, e2, e3, e4⟩ | e
                  · refine Or.inl ⟨e1, e2, fun i hi h1 j hj => ?_⟩
                    by_cases q : i = x3
                    · rw [q, z] at h1
                      exact absurd h1 (by decide)
                    · exact e3 i (by omega) h1 j hj
                  · exact Or.inr e
              · have hm1 : m2 184 (x3 : Int) = 1 := h01.1.elim (fun e => absurd e z) id
                have hrb : Rea nx x ((nx.getD x3 []).getD x4 0) := Relation.TransGen.tail (h01.2 hm1) (nx_mem (by omega))
                generalize hbb : (nx.getD x3 []).getD x4 0 = b at n4 n5 h01b hrb
                rw [n4]
                refine ⟨⟨by omega, by omega⟩, ⟨fun _ => trivial, fun _ => ⟨⟨by omega, by omega⟩, ⟨by omega, by omega⟩, by rcases h01b.1 with e | e <;> rw [e] <;> exact ⟨by decide, by decide⟩, trivial⟩⟩, ?_⟩
                rintro v1 ev
                refine ⟨⟨by omega, by omega⟩, ⟨by omega, by omega⟩, ?_⟩
                rintro m3 e3
                have hM3 : MkR m0 N nx x m3 := by rw [e3]; exact MkR_up hM2 hrb
                have k3 : ∀ i : Nat, m2 184 (i : Int) = 1 → m3 184 (i : Int) = 1 := fun i hi => by rw [e3]; exact MkR_1 hi
                have o3 : ∀ i : Nat, ¬ i = b → m3 184 (i : Int) = m2 184 (i : Int) := fun i hi => by rw [e3, up_i (by omega)]
                have b3 : m3 184 (b : Int) = 1 := by rw [e3, up_s]
                have go := ih4 (x4 + 1) m3 v1 (by omega) hM3 (fun j hj => k3 _ (hb2 j hj)) ?_
                · rw [show ((x4 + 1 : Nat) : Int) = (x4 : Int) + 1 by omega] at go
                  exact go
                · rcases hc2 with ⟨e1, e2, e3', e4⟩ | ⟨e1, e2⟩
                  · rw [if_neg (fun y => y e1)] at ev
                    rcases h01b.1 with q | q
                    · rw [if_neg (fun y => y q)] at ev
                      refine Or.inr ⟨ev, ?_⟩
                      rw [← hU]
                      refine cP_lt (x := b) (fun i hi y => ?_) n5 ?_ ?_
                      · have hib : ¬ i = b := fun e => by
                          have y' : m3 184 (i : Int) = 0 := y
                          rw [e, b3] at y'
                          exact absurd y' (by decide)
                        show m 184 (i : Int) = 0
                        rw [← e2 i hi, ← o3 i hib]
                        exact y
                      · show m 184 (b : Int) = 0
                        rw [← e2 b n5]
                        exact q
                      · show ¬ m3 184 (b : Int) = 0
                        rw [b3]
                        decide
                    · rw [if_pos (by rw [q]; decide)] at ev
                      have same : ∀ i : Nat, m3 184 (i : Int) = m2 184 (i : Int) := fun i => by
                        by_cases y : i = b
                        · rw [y, b3, q]
                        · exact o3 i y
                      refine Or.inl ⟨ev, fun i hi => by rw [same]; exact e2 i hi, fun i hi h1 j hj => ?_, fun h1 j hj => ?_⟩
                      · rw [same] at h1 ⊢
                        exact e3' i hi h1 j hj
                      · rw [same] at h1 ⊢
                        by_cases y : j = x4
                        · rw [y, hbb]
                          exact q
                        · exact e4 h1 j (by omega)
                  · rw [if_pos (by rw [e1]; decide)] at ev
                    refine Or.inr ⟨ev, Nat.lt_of_le_of_lt (cP_le (fun i hi y => ?_)) e2⟩
                    have y' : m3 184 (i : Int) = 0 := y
                    have hib : ¬ i = b := fun e => by
                      rw [e, b3] at y'
                      exact absurd y' (by decide)
                    show m2 184 (i : Int) = 0
                    rw [← o3 i hib]
                    exact y'
          refine inner (nx.getD x3 []).length 0 m1 x2 (by omega) hM1 hb1 ?_
          rcases hc1 with ⟨e1, e2, e3⟩ | e
          · exact Or.inl ⟨e1, e2, e3, fun _ j hj => absurd hj (Nat.not_lt_zero j)⟩
          · exact Or.inr e
      exact pass N 0 m 0 _ (by omega) hM hb (Or.inl ⟨rfl, fun _ _ => rfl, fun i hi => absurd hi (Nat.not_lt_zero i)⟩)
  /- what comes at once -/
  have first : ∀ (f x2 : Nat) (m : PM), x2 + f = (nx.getD x []).length → MkR m0 N nx x m → (∀ j : Nat, j < x2 → m 184 (((nx.getD x []).getD j 0 : Nat) : Int) = 1) → Wp d 260 (25, [some (.ref 125), some (.int (zI (x : Int))), some (.int (zI (x2 : Int))), none, none], [], sA μ m l) (pI (fun y μ' => y = zI (bP (Rea nx x x)) ∧ ∃ m', μ' = sA μ m' l ∧ ∀ c j, ¬ c = 184 → m' c j = m0 c j) noX) := by
    intro f
    induction f with
    | zero =>
      intro x2 m hf hM hb
      obtain ⟨n1, n2, n3⟩ := hnx hM.1 x hx
      refine R260_25 H ⟨⟨by omega, by omega⟩, ⟨by omega, by omega⟩, by rw [n1]; exact ⟨by omega, by omega⟩, fun _ => ?_, fun z => by rw [n1] at z; omega⟩
      exact outer _ m _ _ rfl hM (fun j hj => hb j (by omega))
    | succ f ih =>
      intro x2 m hf hM hb
      obtain ⟨n1, n2, n3⟩ := hnx hM.1 x hx
      obtain ⟨n4, n5⟩ := n3 x2 (by omega)
      refine R260_25 H ⟨⟨by omega, by omega⟩, ⟨by omega, by omega⟩, by rw [n1]; exact ⟨by omega, by omega⟩, fun z => by rw [n1] at z; omega, fun _ => ⟨⟨by omega, by omega⟩, by rw [n4]; exact ⟨by omega, by omega⟩, ?_⟩⟩
      rw [n4]
      rintro m1 e1
      have go := ih (x2 + 1) m1 (by omega) (by rw [e1]; exact MkR_up hM (Relation.TransGen.single (nx_mem (by omega)))) (fun j hj => by
        rw [e1]
        by_cases q : j = x2
        · rw [q, up_s]
        · exact MkR_1 (hb j (by omega)))
      rw [show ((x2 + 1 : Nat) : Int) = (x2 : Int) + 1 by omega] at go
      exact go
  /- nothing is marked -/
  have clear : ∀ (f x2 : Nat) (m : PM), x2 + f = N → (∀ c j, ¬ c = 184 → m c j = m0 c j) → (∀ i : Nat, i < x2 → m 184 (i : Int) = 0) → Wp d 260 (2, [some (.ref 125), some (.int (zI (x : Int))), some (.int (zI (x2 : Int))), none, none], [], sA μ m l) (pI (fun y μ' => y = zI (bP (Rea nx x x)) ∧ ∃ m', μ' = sA μ m' l ∧ ∀ c j, ¬ c = 184 → m' c j = m0 c j) noX) := by
    intro f
    induction f with
    | zero =>
      intro x2 m hf fr h0
      refine R260_2 H ⟨⟨by omega, by omega⟩, by rw [e82 fr]; exact ⟨by omega, by omega⟩, fun _ => ?_, fun z => by rw [e82 fr] at z; omega⟩
      refine first (nx.getD x []).length 0 m (by omega) ⟨fr, fun i hi => ⟨Or.inl (h0 i (by omega)), fun z => ?_⟩⟩ (fun j hj => absurd hj (Nat.not_lt_zero j))
      rw [h0 i (by omega)] at z
      exact absurd z (by decide)
    | succ f ih =>
      intro x2 m hf fr h0
      refine R260_2 H ⟨⟨by omega, by omega⟩, by rw [e82 fr]; exact ⟨by omega, by omega⟩, fun z => by rw [e82 fr] at z; omega, fun _ => ⟨⟨by omega, by omega⟩, ?_⟩⟩
      rintro m1 e1
      have go := ih (x2 + 1) m1 (by omega) (fun c j z => by rw [e1, up_c z]; exact fr c j z) (fun i hi => by
        by_cases q : i = x2
        · rw [q, e1, up_s]
        · rw [e1, up_i (by omega)]
          exact h0 i (by omega))
      rw [show ((x2 + 1 : Nat) : Int) = (x2 : Int) + 1 by omega] at go
      exact go
  exact R260_0 H (clear N 0 m0 (by omega) (fun _ _ _ => rfl) (fun i hi => absurd hi (Nat.not_lt_zero i)))
/-- the first defect of the states before n -/
def DfI (ov : Nat → Prop) (g : Nat → Nat → Int) (mn : Nat → Nat → Nat) (n : Nat) (m : PM) : Prop := (m 125 89 = 0 ∧ m 125 90 = -1 ∧ ∀ i, i < n → dfS ov g mn i = 0) ∨ (∃ q : Nat, q < n ∧ ¬ dfS ov g mn q = 0 ∧ m 125 89 = dfS ov g mn q ∧ m 125 90 = (q : Int) ∧ ∀ i, i < q → dfS ov g mn i = 0)
theorem dfS_R (n : Nat) : 0 ≤ dfS ov g mn n ∧ dfS ov g mn n ≤ 5 := by
  unfold dfS
  by_cases q : ov n
  · rw [cif_p q]
    repeat' split
    all_goals omega
  · rw [cif_n q]
    repeat' split
    all_goals omega
theorem c_found {m : PM} {n : Nat} {k : Int} (H : RS μ) (h : DfI ov g mn n m) (hk : dfS ov g mn n = k) (hk0 : ¬ k = 0) : Wp d 259 (0, [some (.ref 125), some (.int (zI k)), some (.int (zI (n : Int)))], [], sA μ m l) (pV (fun μ' => ∃ m', μ' = sA μ m' l ∧ DfI ov g mn (n + 1) m' ∧ ∀ c j, ¬ (c = 125 ∧ (j = 89 ∨ j = 90)) → m' c j = m c j) noX) := by
  rcases h with ⟨a1, a2, a3⟩ | ⟨q, q1, q2, q3, q4, q5⟩
  · refine R259_0 H ⟨by rw [a1]; exact ⟨by decide, by decide⟩, fun z => absurd a1 z, fun _ => ?_⟩
    rintro m1 e1
    refine ⟨m1, rfl, Or.inr ⟨n, by omega, by rw [hk]; exact hk0, by rw [e1, up_i (by decide), up_s, hk], by rw [e1, up_s], a3⟩, fun c j z => by rw [e1, up_o (by omega), up_o (by omega)]⟩
  · have hR := dfS_R (ov := ov) (g := g) (mn := mn) q
    refine R259_0 H ⟨by rw [q3]; exact ⟨by omega, by omega⟩, fun _ => ⟨m, rfl, Or.inr ⟨q, by omega, q2, q3, q4, q5⟩, fun _ _ _ => rfl⟩, fun z => absurd (by rw [q3]; exact q2) z⟩
theorem DfI_ok {m : PM} {n : Nat} (h : DfI ov g mn n m) (h0 : dfS ov g mn n = 0) : DfI ov g mn (n + 1) m := by
  rcases h with ⟨a1, a2, a3⟩ | ⟨q, q1, q2, q3, q4, q5⟩
  · refine Or.inl ⟨a1, a2, fun i hi => ?_⟩
    by_cases e : i = n
    · rw [e]; exact h0
    · exact a3 i (by omega)
  · exact Or.inr ⟨q, by omega, q2, q3, q4, q5⟩
theorem c_findDefect {m0 : PM} {k : Nat} (H : RS μ) (h70 : m0 125 70 = (k : Int)) (hk : k ≤ 4) (h82 : m0 125 82 = (N : Int)) (hT : TbX m0 N ov g mn nx)
    (hok : ∀ (m' : PM) (kind st : Int), DfP k N ov g mn nx kind st → m' 125 89 = kind → m' 125 90 = st → (∀ c j, ¬ (c = 184 ∨ (c = 125 ∧ (j = 89 ∨ j = 90))) → m' c j = m0 c j) → Q (.inl none) (sA μ m' l)) :
    Wp (d + 1) 258 (0, [some (.ref 125), none, none, none], [], sA μ m0 l) Q := by
  have hN := hT.1
  refine R258_0 H ⟨by rw [h70]; exact ⟨by omega, by omega⟩, fun z => ?_, fun z => ?_⟩
  · have k2 : k = 2 := by omega
    /- states that come again -/
    have again : ∀ (f n : Nat) (m : PM) (o2 o3 : Option Value), n + f = N → (∀ c j, ¬ (c = 184 ∨ (c = 125 ∧ (j = 89 ∨ j = 90))) → m c j = m0 c j) → m 125 89 = 0 → m 125 90 = -1 → (∀ i, i < N → dfS ov g mn i = 0) → (∀ i, i < n → ¬ Rea nx i i) → Wp (d + 1) 258 (180, [some (.ref 125), some (.int (zI (n : Int))), o2, o3], [], sA μ m l) Q := by
      intro f
      induction f with
      | zero =>
        intro n m o2 o3 hf fr e89 e90 h0 hn
        have e82 : m 125 82 = (N : Int) := by rw [fr _ _ (by omega)]; exact h82
        exact R258_180 H ⟨⟨by omega, by omega⟩, by rw [e82]; exact ⟨by omega, by omega⟩, fun _ => hok m 0 (-1) (Or.inr (Or.inr (Or.inr ⟨k2, h0, fun i hi => hn i (by omega), rfl, rfl⟩))) e89 e90 fr, fun z => by rw [e82] at z; omega⟩
      | succ f ih =>
        intro n m o2 o3 hf fr e89 e90 h0 hn
        have e82 : m 125 82 = (N : Int) := by rw [fr _ _ (by omega)]; exact h82
        refine R258_180 H ⟨⟨by omega, by omega⟩, by rw [e82]; exact ⟨by omega, by omega⟩, fun z => by rw [e82] at z; omega, fun _ => ⟨by rw [e89]; exact ⟨by decide, by decide⟩, fun z => absurd e89 z, fun _ => ?_⟩⟩
        refine ⟨_, _, c_comesAgain (d := d) (l := l) (x := n) H e82 (TbX_cg (fun c j z => fr c j (by omega)) hT) (by omega), fun y μ' hp => ?_, fun _ _ z => z.elim⟩
        obtain ⟨rfl, m1, rfl, f1⟩ := hp
        have fr1 : ∀ c j, ¬ (c = 184 ∨ (c = 125 ∧ (j = 89 ∨ j = 90))) → m1 c j = m0 c j := fun c j z => by rw [f1 c j (by omega)]; exact fr c j z
        have e891 : m1 125 89 = 0 := by rw [f1 _ _ (by decide)]; exact e89
        have e901 : m1 125 90 = -1 := by rw [f1 _ _ (by decide)]; exact e90
        by_cases q : Rea nx n n
        · rw [bP_1 q]
          refine R258_200 H ⟨⟨by decide, by decide⟩, fun z => absurd z (by decide), fun _ => ?_⟩
          refine ⟨fun μ' => ∃ m', μ' = sA μ m' l ∧ m' 125 89 = 6 ∧ m' 125 90 = (n : Int) ∧ ∀ c j, ¬ (c = 125 ∧ (j = 89 ∨ j = 90)) → m' c j = m1 c j, noX, ?_, fun μ' hp => ?_, fun _ _ z => z.elim⟩
          · refine R259_0 H ⟨by rw [e891]; exact ⟨by decide, by decide⟩, fun z => absurd e891 z, fun _ => ?_⟩
            rintro m2 e2
            exact ⟨m2, rfl, by rw [e2, up_i (by decide), up_s], by rw [e2, up_s], fun c j z => by rw [e2, up_o (by omega), up_o (by omega)]⟩
          · obtain ⟨m2, rfl, g1, g2, f2⟩ := hp
            have fr2 : ∀ c j, ¬ (c = 184 ∨ (c = 125 ∧ (j = 89 ∨ j = 90))) → m2 c j = m0 c j := fun c j z => by rw [f2 c j (by omega)]; exact fr1 c j z
            have e822 : m2 125 82 = (N : Int) := by rw [fr2 _ _ (by omega)]; exact h82
            have fin := hok m2 6 (n : Int) (Or.inr (Or.inr (Or.inl ⟨k2, h0, n, by omega, q, rfl, rfl, hn⟩))) g1 g2 fr2
            refine R258_210 H ?_
            exact R258_180 H ⟨⟨by omega, by omega⟩, by rw [e822]; exact ⟨by omega, by omega⟩, fun _ => fin, fun _ => ⟨by rw [g1]; exact ⟨by decide, by decide⟩, fun _ => fin, fun z => absurd (by rw [g1]; decide) z⟩⟩
        · rw [bP_0 q]
          refine R258_200 H ⟨⟨by decide, by decide⟩, fun _ => ?_, fun z => absurd rfl z⟩
          have go := ih (n + 1) m1 o2 o3 (by omega) fr1 e891 e901 h0 (fun i hi => by
            by_cases e : i = n
            · rw [e]; exact q
            · exact hn i (by omega))
          rw [show ((n + 1 : Nat) : Int) = (n : Int) + 1 by omega] at go
          exact go
    have loop : ∀ (f n : Nat) (m : PM) (o2 o3 : Option Value), n + f = N → (∀ c j, ¬ (c = 184 ∨ (c = 125 ∧ (j = 89 ∨ j = 90))) → m c j = m0 c j) → DfI ov g mn n m → Wp (d + 1) 258 (26, [some (.ref 125), some (.int (zI (n : Int))), o2, o3], [], sA μ m l) Q := by
      intro f
      induction f with
      | zero =>
        intro n m o2 o3 hf fr hD
        have e82 : m 125 82 = (N : Int) := by rw [fr _ _ (by omega)]; exact h82
        refine R258_26 H ⟨⟨by omega, by omega⟩, by rw [e82]; exact ⟨by omega, by omega⟩, fun _ => ?_, fun z => by rw [e82] at z; omega⟩
        have en : n = N := by omega
        rw [en] at hD
        rcases hD with ⟨a1, a2, a3⟩ | ⟨q, q1, q2, q3, q4, q5⟩
        · exact again N 0 m o2 o3 (by omega) fr a1 a2 a3 (fun i hi => absurd hi (Nat.not_lt_zero i))
        · have hR := dfS_R (ov := ov) (g := g) (mn := mn) q
          have fin := hok m _ _ (Or.inr (Or.inl ⟨k2, q, q1, q2, rfl, rfl, q5⟩)) q3 q4 fr
          exact R258_180 H ⟨⟨by decide, by decide⟩, by rw [e82]; exact ⟨by omega, by omega⟩, fun _ => fin, fun _ => ⟨by rw [q3]; exact ⟨by omega, by omega⟩, fun _ => fin, fun z => absurd (by rw [q3]; exact q2) z⟩⟩
      | succ f ih =>
        intro n m o2 o3 hf fr hD
        have e82 : m 125 82 = (N : Int) := by rw [fr _ _ (by omega)]; exact h82
        obtain ⟨a1, a2, -⟩ := (TbX_cg (fun c j z => fr c j (by omega)) hT).2 n (by omega)
        obtain ⟨g1, g2, g3, g4⟩ := a2 0 (by decide)
        obtain ⟨g5, g6, g7, g8⟩ := a2 1 (by decide)
        rw [show 2 * (n : Int) + ((0 : Nat) : Int) = 2 * (n : Int) by omega] at g1 g3
        rw [show 2 * (n : Int) + ((1 : Nat) : Int) = 2 * (n : Int) + 1 by omega] at g5 g7
        have next : ∀ (m1 : PM) (v1 v2 : Int), DfI ov g mn (n + 1) m1 → (∀ c j, ¬ (c = 125 ∧ (j = 89 ∨ j = 90)) → m1 c j = m c j) → Wp (d + 1) 258 (26, [some (.ref 125), some (.int (zI ((n : Int) + 1))), some (.int (zI v1)), some (.int (zI v2))], [], sA μ m1 l) Q := by
          intro m1 v1 v2 hD1 f1
          have go := ih (n + 1) m1 (some (.int (zI v1))) (some (.int (zI v2))) (by omega) (fun c j z => by rw [f1 c j (by omega)]; exact fr c j z) hD1
          rw [show ((n + 1 : Nat) : Int) = (n : Int) + 1 by omega] at go
          exact go
        have h177 : iR (m 177 (n : Int)) := by
          by_cases q : ov n
          · rw [a1, bP_1 q]; exact ⟨by decide, by decide⟩
          · rw [a1, bP_0 q]; exact ⟨by decide, by decide⟩
        refine R258_26 H ⟨⟨by omega, by omega⟩, by rw [e82]; exact ⟨by omega, by omega⟩, fun z => by rw [e82] at z; omega, fun _ => ⟨⟨by omega, by omega⟩, h177, ⟨fun _ => ⟨⟨by omega, by omega⟩, trivial⟩, fun _ => ⟨⟨by omega, by omega⟩, trivial⟩⟩, ?_⟩⟩
        rintro v1 ev1
        refine ⟨⟨fun _ => ⟨⟨by omega, by omega⟩, trivial⟩, fun _ => ⟨⟨by omega, by omega⟩, trivial⟩⟩, ?_⟩
        rintro v2 ev2
        refine ⟨fun y => ?_, fun y => ?_⟩
        · /- an end -/
          have hov : ov n := Classical.byContradiction fun q => y (by rw [a1, bP_0 q])
          rw [if_neg y, g1] at ev1
          rw [if_neg y, g5] at ev2
          have h4 : ∀ {p : Prop}, p → (v1 < 0 ∨ v2 < 0) → dfS ov g mn n = 4 := fun _ q => by
            unfold dfS
            rw [cif_p hov, if_pos (by omega)]
          have k4 : (v1 < 0 ∨ v2 < 0) → Wp (d + 1) 258 (149, [some (.ref 125), some (.int (zI (n : Int))), some (.int (zI v1)), some (.int (zI v2))], [], sA μ m l) Q := fun q => by
            refine R258_149 H ⟨_, _, c_found (d := d) (l := l) H hD (h4 trivial q) (by decide), fun μ' hp => ?_, fun _ _ z => z.elim⟩
            obtain ⟨m1, rfl, d1, f1⟩ := hp
            exact R258_155 H (next m1 v1 v2 d1 f1)
          refine ⟨⟨by omega, by omega⟩, fun q => k4 (Or.inl q), fun q => ⟨⟨by omega, by omega⟩, fun q2 => ⟨⟨by omega, by omega⟩, fun q3 => ?_, fun q3 => ?_⟩, fun q2 => k4 (Or.inr (by omega))⟩⟩
          · refine next m v1 v2 (DfI_ok hD ?_) (fun _ _ _ => rfl)
            unfold dfS
            rw [cif_p hov, if_neg (by omega), if_pos (by omega)]
          · have h5 : dfS ov g mn n = 5 := by
              unfold dfS
              rw [cif_p hov, if_neg (by omega), if_neg (by omega)]
            refine ⟨_, _, c_found (d := d) (l := l) H hD h5 (by decide), fun μ' hp => ?_, fun _ _ z => z.elim⟩
            obtain ⟨m1, rfl, d1, f1⟩ := hp
            exact R258_172 H (next m1 v1 v2 d1 f1)
        · have y' : m 177 (n : Int) = 0 := Classical.byContradiction y
          have hov : ¬ ov n := fun q => by rw [a1, bP_1 q] at y'; exact absurd y' (by decide)
          rw [if_pos y', g3] at ev1
          rw [if_pos y', g7] at ev2
          have k2' : (v1 = 0 ∨ v2 = 0) → Wp (d + 1) 258 (113, [some (.ref 125), some (.int (zI (n : Int))), some (.int (zI v1)), some (.int (zI v2))], [], sA μ m l) Q := fun q => by
            have h2 : dfS ov g mn n = 2 := by
              unfold dfS
              rw [cif_n hov, if_pos (by omega)]
            refine R258_113 H ⟨_, _, c_found (d := d) (l := l) H hD h2 (by decide), fun μ' hp => ?_, fun _ _ z => z.elim⟩
            obtain ⟨m1, rfl, d1, f1⟩ := hp
            exact R258_119 H (next m1 v1 v2 d1 f1)
          have ok0' : ¬ v1 = 0 → ¬ v2 = 0 → (v1 ≤ 1 ∨ v2 ≤ 1) → dfS ov g mn n = 0 := fun q1 q2 q3 => by
            unfold dfS
            rw [cif_n hov, if_neg (by omega), if_neg (by omega)]
          refine ⟨⟨by omega, by omega⟩, fun q => k2' (Or.inl q), fun q => ⟨⟨by omega, by omega⟩, fun q2 => ⟨fun q3 => next m v1 v2 (DfI_ok hD (ok0' q q2 (Or.inl q3))) (fun _ _ _ => rfl), fun q3 => ⟨fun q4 => next m v1 v2 (DfI_ok hD (ok0' q q2 (Or.inr q4))) (fun _ _ _ => rfl), fun q4 => ?_⟩⟩, fun q2 => k2' (Or.inr (Classical.byContradiction q2))⟩⟩
          have h3 : dfS ov g mn n = 3 := by
            unfold dfS
            rw [cif_n hov, if_neg (by omega), if_pos (by omega)]
          refine ⟨_, _, c_found (d := d) (l := l) H hD h3 (by decide), fun μ' hp => ?_, fun _ _ z => z.elim⟩
          obtain ⟨m1, rfl, d1, f1⟩ := hp
          exact R258_138 H (next m1 v1 v2 d1 f1)
    rintro m1 e1
    exact loop N 0 m1 none none (by omega) (fun c j z => by rw [e1, up_o (by omega), up_o (by omega)]) (Or.inl ⟨by rw [e1, up_i (by decide), up_s], by rw [e1, up_s], fun i hi => absurd hi (Nat.not_lt_zero i)⟩)
  · rintro m1 e1
    exact hok _ 1 (-1) (Or.inl ⟨by omega, rfl, rfl⟩) (up_s _ _ _ _) (by rw [up_i (by decide), e1, up_s]) (fun c j z => by rw [up_o (by omega), e1, up_o (by omega), up_o (by omega)])
end RDF
