/-! ===== the class's states: settling all, judging ===== -/
theorem BsI_cg {v v' : Nat → Int} {x y : Int} {ns : List Nat} (h : ∀ b, b ∈ ns → v' b = v b) (hB : BsI v x ns y) : BsI v' x ns y := by
  rcases hB with ⟨e, h1⟩ | ⟨j, j1, e, j2, j3⟩
  · exact Or.inl ⟨e, fun j hj => by rw [h _ (gD_nl hj)]; exact h1 j hj⟩
  · exact Or.inr ⟨j, j1, e, by rw [h _ (gD_nl j1)]; exact j2, fun i hi => by rw [h _ (gD_nl (by omega))]; exact j3 i hi⟩
section CJA
variable {d : Nat} {Q : Option Value ⊕ Nat → am_Mem → Prop} {μ : am_Mem} {m0 l : PM} {k N : Nat} {ov : Nat → Prop} {g : Nat → Nat → Int} {mn : Nat → Nat → Nat} {nx : List (List Nat)}
/-- these states are settled -/
def SeI (m0 : PM) (N : Nat) (ov : Nat → Prop) (g : Nat → Nat → Int) (mn : Nat → Nat → Nat) (nx : List (List Nat)) (O : List Nat) (m : PM) : Prop := (∀ c j, ¬ (c = 121 ∨ c = 122) → m c j = m0 c j) ∧ O.Nodup ∧ (∀ i, i ∈ O → i < N) ∧ (∀ i : Nat, i < N → ¬ i ∈ O → m 121 (i : Int) = -1) ∧ ∀ i : Nat, i ∈ O → (0 ≤ m 121 (i : Int) ∧ m 121 (i : Int) ≤ 100) ∧ m 121 (i : Int) = wgh ov g mn nx (fun b => m 121 (b : Int)) i ∧ BsI (fun b => m 121 (b : Int)) (m 121 (i : Int)) (nx.getD i []) (m 122 (i : Int)) ∧ (∀ b, b ∈ nx.getD i [] → b ∈ O) ∧ ¬ Rea nx i i
theorem SeI_add {O : List Nat} {m m' : PM} {n : Nat} (h : SeI m0 N ov g mn nx O m) (hN : ∀ b, b ∈ nx.getD n [] → b < N) (hn : n < N) (hO : ¬ n ∈ O) (hf : ∀ c j, ¬ ((c = 121 ∨ c = 122) ∧ j = (n : Int)) → m' c j = m c j) (hb : ∀ b, b ∈ nx.getD n [] → ¬ m 121 (b : Int) = -1) (hr : 0 ≤ m' 121 (n : Int) ∧ m' 121 (n : Int) ≤ 100) (hw : m' 121 (n : Int) = wgh ov g mn nx (fun b => m 121 (b : Int)) n) (hB : BsI (fun b => m 121 (b : Int)) (m' 121 (n : Int)) (nx.getD n []) (m' 122 (n : Int))) : SeI m0 N ov g mn nx (n :: O) m' := by
  obtain ⟨h1, h2, h3, h4, h5⟩ := h
  have nO : ∀ b, b ∈ nx.getD n [] → b ∈ O := fun b h => Classical.byContradiction fun z => hb b h (h4 b (hN b h) z)
  have keep : ∀ b : Nat, b ∈ O → m' 121 (b : Int) = m 121 (b : Int) ∧ m' 122 (b : Int) = m 122 (b : Int) := fun b hb => by
    have : ¬ b = n := fun e => hO (e ▸ hb)
    exact ⟨hf _ _ (by omega), hf _ _ (by omega)⟩
  refine ⟨fun c j hc => (hf c j (fun z => hc z.1)).trans (h1 c j hc), List.nodup_cons.mpr ⟨hO, h2⟩, fun i hi => ?_, fun i hi hni => ?_, fun i hi => ?_⟩
  · rcases List.mem_cons.mp hi with e | e
    · rw [e]; exact hn
    · exact h3 i e
  · have e1 : ¬ i = n := fun e => hni (e ▸ List.mem_cons_self)
    rw [hf _ _ (by omega)]
    exact h4 i hi (fun z => hni (List.mem_cons_of_mem _ z))
  · rcases List.mem_cons.mp hi with e | e
    · rw [e]
      refine ⟨hr, hw.trans (wgh_cg (fun b hb => (keep b (nO b hb)).1.symm)), BsI_cg (fun b hb => (keep b (nO b hb)).1) hB, fun b hb => List.mem_cons_of_mem _ (nO b hb), fun hR => ?_⟩
      have all : ∀ b, Rea nx n b → b ∈ O := fun b hb => by
        have hb : Relation.TransGen (StX nx) n b := hb
        induction hb with
        | single h => exact nO _ h
        | tail h1 h ih => exact (h5 _ (ih h1)).2.2.2.1 _ h
      exact hO (all n hR)
    · obtain ⟨g1, g2, g3, g4, g5⟩ := h5 i e
      rw [(keep i e).1, (keep i e).2]
      exact ⟨g1, g2.trans (wgh_cg (fun b hb => (keep b (g4 b hb)).1.symm)), BsI_cg (fun b hb => (keep b (g4 b hb)).1) g3, fun b hb => List.mem_cons_of_mem _ (g4 b hb), g5⟩
theorem k_settleAll (H : CS μ) (hT : TbC m0 2 N ov g mn nx) (hd : ∀ n, n < N → dfS ov g mn n = 0) (hov : ∀ n, n < N → ov n → nx.getD n [] = []) (hne : ∀ n, n < N → ¬ ov n → ¬ mn n 0 = 0 → ¬ mn n 1 = 0 → ¬ nx.getD n [] = [])
    (hy : ∀ m' : PM, (∀ c j, ¬ (c = 121 ∨ c = 122) → m' c j = m0 c j) → (∀ i, i < N → ¬ Rea nx i i) → VaP N ov g mn nx (fun b => m' 121 (b : Int)) → (∀ i : Nat, i < N → (0 ≤ m' 121 (i : Int) ∧ m' 121 (i : Int) ≤ 100) ∧ BsI (fun b => m' 121 (b : Int)) (m' 121 (i : Int)) (nx.getD i []) (m' 122 (i : Int))) → Q (.inl (some (.int (zI 1)))) (sA μ m' l))
    (hno : ∀ m' : PM, (∀ c j, ¬ (c = 121 ∨ c = 122) → m' c j = m0 c j) → ¬ (∀ i, i < N → ¬ Rea nx i i) → Q (.inl (some (.int (zI 0)))) (sA μ m' l)) :
    Wp (d + 1) 78 (0, [some (.ref 106), none, none, none, none], [], sA μ m0 l) Q := by
  obtain ⟨⟨a1, a2, a3⟩, a4⟩ := id hT
  have hN : ∀ a, a < N → ∀ b, b ∈ nx.getD a [] → b < N := fun a ha => (a4 a ha).2.2.2.1
  -- all settled
  have done : ∀ (O : List Nat) (m : PM), SeI m0 N ov g mn nx O m → O.length = N → Q (.inl (some (.int (zI 1)))) (sA μ m l) := by
    intro O m hS hO
    obtain ⟨h1, h2, h3, h4, h5⟩ := hS
    have all : ∀ i, i < N → i ∈ O := fun i hi => Classical.byContradiction fun z => by
      have := nd_bd (List.nodup_cons.mpr ⟨z, h2⟩) (N := N) (fun x hx => by
        rcases List.mem_cons.mp hx with e | e
        · rw [e]; exact hi
        · exact h3 x e)
      rw [List.length_cons] at this
      omega
    exact hy m h1 (fun i hi => (h5 i (all i hi)).2.2.2.2) (fun i hi => (h5 i (all i hi)).2.1) (fun i hi => ⟨(h5 i (all i hi)).1, (h5 i (all i hi)).2.2.1⟩)
  have bound : ∀ (O : List Nat) (m : PM), SeI m0 N ov g mn nx O m → O.length ≤ N := fun O m hS => nd_bd hS.2.1 hS.2.2.1
  have pass : ∀ (r p : Nat) (O : List Nat) (m : PM) (o3 o4 : Option Value), p + r = N → p ≤ O.length → SeI m0 N ov g mn nx O m → Wp (d + 1) 78 (12, [some (.ref 106), some (.int (zI (O.length : Int))), some (.int (zI (p : Int))), o3, o4], [], sA μ m l) Q := by
    intro r
    induction r with
    | zero =>
      intro p O m o3 o4 hp hO hS
      have e1 : m 106 1 = (N : Int) := (hS.1 _ _ (by decide)).trans a2
      have hb := bound O m hS
      refine K78_12 H ⟨⟨by omega, by omega⟩, by rw [e1]; exact ⟨by omega, by omega⟩, fun _ => ⟨⟨by omega, by omega⟩, fun v1 ev => ?_⟩, fun z => absurd (by rw [e1]; omega) z⟩
      rw [e1, if_neg (show ¬ ¬ ((O.length : Nat) : Int) = (N : Int) from fun h => h (by omega))] at ev
      rw [ev]
      exact done O m hS (by omega)
    | succ r ih =>
      intro p O m o3 o4 hp hO hS
      have e1 : m 106 1 = (N : Int) := (hS.1 _ _ (by decide)).trans a2
      have hb := bound O m hS
      refine K78_12 H ⟨⟨by omega, by omega⟩, by rw [e1]; exact ⟨by omega, by omega⟩, fun z => absurd z (by rw [e1]; omega), fun _ => ⟨⟨by omega, by omega⟩, fun z => fun v2 ev => ?_, fun z => ?_⟩⟩
      · rw [e1] at z ev
        rw [if_neg (show ¬ ¬ ((O.length : Nat) : Int) = (N : Int) from fun h => h (by omega))] at ev
        rw [ev]
        exact done O m hS (by omega)
      · rw [e1] at z ⊢
        have inner : ∀ (h : Nat) (O1 : List Nat) (m1 : PM), h ≤ N → O.length ≤ O1.length → SeI m0 N ov g mn nx O1 m1 → (O1.length = O.length → ∀ i, h ≤ i → i < N → i ∈ O1 ∨ ∃ b, b ∈ nx.getD i [] ∧ ¬ b ∈ O1) → Wp (d + 1) 78 (38, [some (.ref 106), some (.int (zI (O1.length : Int))), some (.int (zI (p : Int))), some (.int (zI (O.length : Int))), some (.int (zI ((h : Int) - 1)))], [], sA μ m1 l) Q := by
          intro h
          induction h with
          | zero =>
            intro O1 m1 hh hl hS1 hc
            have hb1 := bound O1 m1 hS1
            refine K78_38 H ⟨⟨by omega, by omega⟩, fun _ => ⟨⟨by omega, by omega⟩, ⟨by omega, by omega⟩, fun z1 => ?_, fun z1 => ?_⟩, fun z1 => absurd (by omega) z1⟩
            · have w := ih (p + 1) O1 m1 (some (.int (zI (O.length : Int)))) (some (.int (zI (((0 : Nat) : Int) - 1)))) (by omega) (by omega) hS1
              rw [show ((p + 1 : Nat) : Int) = (p : Int) + 1 by omega] at w
              exact w
            · have hl1 : O1.length = O.length := by
                have := Classical.byContradiction z1
                omega
              refine hno m1 hS1.1 (fun hA => ?_)
              have all := acy_ind (P := fun i => i ∈ O1) hN hA (fun n hn hb2 => by
                rcases hc hl1 n (Nat.zero_le _) hn with q | ⟨b, q1, q2⟩
                · exact q
                · exact absurd (hb2 b q1) q2)
              have : N ≤ O1.length := by
                have w := List.Nodup.length_le_of_subset (List.nodup_range (n := N)) (l₂ := O1) (fun x hx => all x (List.mem_range.mp hx))
                rwa [List.length_range] at w
              omega
          | succ h ihh =>
            intro O1 m1 hh hl hS1 hc
            have hb1 := bound O1 m1 hS1
            rw [show ((h + 1 : Nat) : Int) - 1 = (h : Int) by omega]
            have hf1 := hS1.1
            have hT1 : TbC m1 2 N ov g mn nx := TbC_cg (fun c j hc => hf1 c j (by omega)) hT
            have h4 := hS1.2.2.2.1
            have h5 := hS1.2.2.2.2
            by_cases y : h ∈ O1
            · have nz : ¬ m1 121 (h : Int) = -1 := by
                have := (h5 h y).1
                omega
              refine K78_38 H ⟨⟨by omega, by omega⟩, fun z1 => absurd z1 (by omega), fun _ => ⟨⟨by omega, by omega⟩, ?_, fun _ => ?_, fun z1 => absurd nz z1⟩⟩
              · have := (h5 h y).1
                exact ⟨by omega, by omega⟩
              · refine ihh O1 m1 (by omega) hl hS1 (fun e i hi hi2 => ?_)
                by_cases y2 : i = h
                · rw [y2]; exact Or.inl y
                · exact hc e i (by omega) hi2
            · have z0 := h4 h (by omega) y
              refine K78_38 H ⟨⟨by omega, by omega⟩, fun z1 => absurd z1 (by omega), fun _ => ⟨⟨by omega, by omega⟩, by rw [z0]; exact ⟨by decide, by decide⟩, fun z1 => absurd z0 z1, fun _ => ?_⟩⟩
              refine ⟨fun x μ' => Wp (d + 1) 78 (60, [some (.ref 106), some (.int (zI (O1.length : Int))), some (.int (zI (p : Int))), some (.int (zI (O.length : Int))), some (.int (zI (h : Int)))], [.int x], μ') Q, fun x μ' => Q (.inr x) μ', k_settle H hT1 (by omega) (hd h (by omega)) (hov h (by omega)) (hne h (by omega)) (fun b hb => ?_) (fun m2 hf hb hr hw hB => ?_) (fun hb => ?_), fun _ _ h => h, fun _ _ h => h⟩
              · by_cases y2 : b ∈ O1
                · exact Or.inr (h5 b y2).1
                · exact Or.inl (h4 b (hN h (by omega) b hb) y2)
              · have hS2 := SeI_add hS1 (hN h (by omega)) (by omega) y hf hb hr hw hB
                have w := ihh (h :: O1) m2 (by omega) (by rw [List.length_cons]; omega) hS2 (fun e => by rw [List.length_cons] at e; omega)
                refine K78_60 H ⟨iR_1, fun v1 ev => ?_⟩
                rw [if_neg (by decide)] at ev
                rw [ev]
                rw [show (((h :: O1).length : Nat) : Int) = (O1.length : Int) + 1 by rw [List.length_cons]; omega] at w
                exact w
              · obtain ⟨b, hb1, hb2⟩ := hb
                refine K78_60 H ⟨iR_0, fun v1 ev => ?_⟩
                rw [if_pos rfl] at ev
                rw [ev]
                refine ihh O1 m1 (by omega) hl hS1 (fun e i hi hi2 => ?_)
                by_cases y2 : i = h
                · rw [y2]
                  refine Or.inr ⟨b, hb1, fun z1 => ?_⟩
                  have := (h5 b z1).1
                  omega
                · exact hc e i (by omega) hi2
        exact inner N O m (Nat.le_refl _) (Nat.le_refl _) hS (fun _ i hi hi2 => by omega)
  refine K78_0 H ⟨_, noX, k_fill (cK_121 H) (by decide), fun μ' e => ?_, fun _ _ z => z.elim⟩
  rw [e]
  have w := pass N 0 [] (flM m0 121 300 (-1)) none none (by omega) (Nat.zero_le _) ⟨fun c j hc => flM_o (fun z => hc (Or.inl z.1)), List.nodup_nil, fun i hi => absurd hi List.not_mem_nil, fun i hi _ => flM_i (by omega), fun i hi => absurd hi List.not_mem_nil⟩
  exact K78_8 H w
theorem k_judge {k N : Nat} (H : CS μ) (hT : TbC m0 k N ov g mn nx) (hov : ∀ n, n < N → ov n → nx.getD n [] = []) (hne : ∀ n, n < N → ¬ ov n → ¬ mn n 0 = 0 → ¬ mn n 1 = 0 → ¬ nx.getD n [] = []) (hk : k ≤ 1000)
    (hq : ∀ m' : PM, (∀ c j, ¬ ((121 ≤ c ∧ c ≤ 124) ∨ (c = 106 ∧ (j = 13 ∨ j = 14))) → m' c j = m0 c j) → DfP k N ov g mn nx (m' 106 13) (m' 106 14) → (m' 106 13 = 0 → VaP N ov g mn nx (fun b => m' 121 (b : Int)) ∧ ∀ i : Nat, i < N → (0 ≤ m' 121 (i : Int) ∧ m' 121 (i : Int) ≤ 100) ∧ BsI (fun b => m' 121 (b : Int)) (m' 121 (i : Int)) (nx.getD i []) (m' 122 (i : Int))) → Q (.inl none) (sA μ m' l)) :
    Wp (d + 2) 76 (0, [some (.ref 106), none], [], sA μ m0 l) Q := by
  obtain ⟨⟨a1, a2, a3⟩, a4⟩ := id hT
  refine K76_0 H ⟨by rw [a1]; exact ⟨by omega, by omega⟩, fun z m1 e => ?_, fun z m2 e => ?_⟩
  · have hk2 : k = 2 := by
      rw [a1] at z
      omega
    subst hk2
    -- the states one by one
    have fin : ∀ (m : PM) (i : Nat), (∀ c j, ¬ (c = 106 ∧ (j = 13 ∨ j = 14)) → m c j = m0 c j) → (m 106 13 = 0 ∧ m 106 14 = -1 ∧ i = N ∧ (∀ j, j < N → dfS ov g mn j = 0) ∨ ∃ n, n < N ∧ ¬ dfS ov g mn n = 0 ∧ m 106 13 = dfS ov g mn n ∧ m 106 14 = (n : Int) ∧ ∀ j, j < n → dfS ov g mn j = 0) → Wp (d + 2) 76 (72, [some (.ref 106), some (.int (zI (i : Int)))], [], sA μ m l) Q := by
      intro m i hf hc
      rcases hc with ⟨h1, h2, _, h3⟩ | ⟨n, n1, n2, n3, n4, n5⟩
      · have hT1 : TbC m 2 N ov g mn nx := TbC_cg (fun c j hc => hf c j (by omega)) hT
        refine K76_72 H ⟨by rw [h1]; exact iR_0, fun z => absurd h1 z, fun _ => ?_⟩
        refine ⟨fun x μ' => Wp (d + 2) 76 (83, [some (.ref 106), some (.int (zI (i : Int)))], [.int x], μ') Q, fun x μ' => Q (.inr x) μ', k_settleAll H hT1 h3 hov hne (fun m2 f2 hA hV hB => ?_) (fun m2 f2 hA => ?_), fun _ _ h => h, fun _ _ h => h⟩
        · refine K76_83 H ⟨iR_1, fun _ => ?_, fun z => absurd (by decide) z⟩
          refine hq m2 (fun c j hc => (f2 c j (by omega)).trans (hf c j (by omega))) ?_ (fun _ => ⟨hV, hB⟩)
          rw [f2 106 13 (by decide), f2 106 14 (by decide), h1, h2]
          exact Or.inr (Or.inr (Or.inr ⟨rfl, h3, hA, rfl, rfl⟩))
        · refine K76_83 H ⟨iR_0, fun z => absurd rfl z, fun _ m3 e3 => ?_⟩
          have hT3 : TbC m3 2 N ov g mn nx := TbC_cg (fun c j hc => by rw [e3, up_o (by omega)]; exact f2 c j (by omega)) hT1
          refine ⟨fun x μ' => Wp (d + 2) 76 (97, [some (.ref 106), some (.int (zI (i : Int)))], [.int x, .ref 106], μ') Q, fun x μ' => Q (.inr x) μ', k_findReturn H hT3 (fun m4 n hn hR hl f4 => ?_) (fun m4 hl f4 => absurd hl hA), fun _ _ h => h, fun _ _ h => h⟩
          refine K76_97 H (fun m5 e5 => ?_)
          have v13 : m5 106 13 = 6 := by rw [e5, up_i (by decide), f4 _ _ (by decide), e3, up_s]
          have v14 : m5 106 14 = (n : Int) := by rw [e5, up_s]
          refine hq m5 (fun c j hc => ?_) ?_ (fun z => absurd (v13.symm.trans z) (by decide))
          · rw [e5, up_o (by omega), f4 _ _ (by omega), e3, up_o (by omega), f2 _ _ (by omega)]
            exact hf c j (by omega)
          · rw [v13, v14]
            exact Or.inr (Or.inr (Or.inl ⟨rfl, h3, n, hn, hR, rfl, rfl, hl⟩))
      · have nz : ¬ m 106 13 = 0 := fun h => n2 (n3.symm.trans h)
        have hr := dfS_R (ov := ov) (g := g) (mn := mn) n
        refine K76_72 H ⟨by rw [n3]; exact ⟨by omega, by omega⟩, fun _ => ?_, fun z => absurd nz z⟩
        refine hq m (fun c j hc => hf c j (by omega)) ?_ (fun z => absurd z nz)
        exact Or.inr (Or.inl ⟨rfl, n, n1, n2, n3, n4, n5⟩)
    have go : ∀ (r i : Nat) (m : PM), i + r = N → (∀ c j, ¬ (c = 106 ∧ (j = 13 ∨ j = 14)) → m c j = m0 c j) → m 106 13 = 0 → m 106 14 = -1 → (∀ j, j < i → dfS ov g mn j = 0) → Wp (d + 2) 76 (26, [some (.ref 106), some (.int (zI (i : Int)))], [], sA μ m l) Q := by
      intro r
      induction r with
      | zero =>
        intro i m hi hf h13 h14 hz
        have e1 : m 106 1 = (N : Int) := (hf _ _ (by decide)).trans a2
        exact K76_26 H ⟨⟨by omega, by omega⟩, by rw [e1]; exact ⟨by omega, by omega⟩, fun _ => fin m i hf (Or.inl ⟨h13, h14, by omega, fun j hj => hz j (by omega)⟩), fun z => absurd (by rw [e1]; omega) z⟩
      | succ r ih =>
        intro i m hi hf h13 h14 hz
        have e1 : m 106 1 = (N : Int) := (hf _ _ (by decide)).trans a2
        have hT1 : TbC m 2 N ov g mn nx := TbC_cg (fun c j hc => hf c j (by omega)) hT
        refine K76_26 H ⟨⟨by omega, by omega⟩, by rw [e1]; exact ⟨by omega, by omega⟩, fun z => absurd z (by rw [e1]; omega), fun _ => ⟨by rw [h13]; exact iR_0, fun z => absurd h13 z, fun _ => ?_⟩⟩
        refine ⟨fun x μ' => Wp (d + 2) 76 (47, [some (.ref 106), some (.int (zI (i : Int)))], [.int x, .ref 106], μ') Q, fun x μ' => Q (.inr x) μ', k_flawOf H hT1 (by omega) ?_, fun _ _ h => h, fun _ _ h => h⟩
        have hr := dfS_R (ov := ov) (g := g) (mn := mn) i
        refine K76_47 H ⟨⟨by omega, by omega⟩, fun m2 e2 v2 ev2 m3 e3 => ?_⟩
        have f3 : ∀ c j, ¬ (c = 106 ∧ (j = 13 ∨ j = 14)) → m3 c j = m0 c j := fun c j hc => by
          rw [e3, up_o (by omega), e2, up_o (by omega)]
          exact hf c j hc
        have v13 : m3 106 13 = dfS ov g mn i := by rw [e3, up_i (by decide), e2, up_s]
        by_cases y : dfS ov g mn i = 0
        · rw [if_neg (fun h => h y)] at ev2
          have w := ih (i + 1) m3 (by omega) f3 (v13.trans y) (by rw [e3, up_s]; exact ev2) (fun j hj => by
            by_cases y2 : j = i
            · rw [y2]; exact y
            · exact hz j (by omega))
          rw [show ((i + 1 : Nat) : Int) = (i : Int) + 1 by omega] at w
          exact w
        · rw [if_pos y] at ev2
          have v14 : m3 106 14 = (i : Int) := by rw [e3, up_s]; exact ev2
          have w := fin m3 (i + 1) f3 (Or.inr ⟨i, by omega, y, v13, v14, hz⟩)
          rw [show ((i + 1 : Nat) : Int) = (i : Int) + 1 by omega] at w
          have e13 : m3 106 1 = (N : Int) := (f3 _ _ (by decide)).trans a2
          exact K76_26 H ⟨⟨by omega, by omega⟩, by rw [e13]; exact ⟨by omega, by omega⟩, fun _ => w, fun _ => ⟨by rw [v13]; exact ⟨by omega, by omega⟩, fun _ => w, fun z => absurd (fun h => y (v13.symm.trans h)) z⟩⟩
    have w := go N 0 m1 (by omega) (fun c j hc => by rw [e, up_o (by omega), up_o (by omega)]) (by rw [e, up_i (by decide), up_s]) (by rw [e, up_s]) (fun j hj => absurd hj (Nat.not_lt_zero _))
    exact w
  · have hk2 : ¬ k = 2 := fun h => z (by rw [a1, h]; rfl)
    have v13 : up m2 106 13 1 106 13 = 1 := up_s _ _ _ _
    refine hq _ (fun c j hc => by rw [up_o (by omega), e, up_o (by omega), up_o (by omega)]) ?_ (fun h => absurd (v13.symm.trans h) (by decide))
    rw [v13, up_i (by decide), e, up_s]
    exact Or.inl ⟨hk2, rfl, rfl⟩
end CJA
