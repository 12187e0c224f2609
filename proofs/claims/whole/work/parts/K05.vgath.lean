/-! ===== the class's views: gather, joint, choose ===== -/
/-- a role's moves, its goal, by the atoms -/
noncomputable def mvS (S : List Atm) (L : List (List Cd)) (r : Nat) : List (List Cd) := lsO (fun t => ((wdC.getD 5 [], [L.getD r [], t]) : Atm) ∈ S)
noncomputable def glS (S : List Atm) (L : List (List Cd)) (r : Nat) : Int := Classical.epsilon (GlI (fun t => ((wdC.getD 6 [], [L.getD r [], t]) : Atm) ∈ S))
/-- what a view holds: n roles, their moves and goals -/
def VwI (X : Int → List Int → Prop) (q : Nat) (m : PM) (T v n : Nat) (mv : Nat → List (List Cd)) (gl : Nat → Int) : Prop := (∀ r : Nat, r ≤ n → m (v + 2) (r : Int) = (pfs mv r : Int)) ∧ pfs mv n ≤ 1000 ∧ (∀ r : Nat, r < n → RwC X q m T (v + 1) (pfs mv r : Int) (mv r)) ∧ ∀ r : Nat, r < n → m (v + 3) (r : Int) = gl r
theorem pfs_le {mv : Nat → List (List Cd)} {r n : Nat} (h : r ≤ n) : pfs mv r ≤ pfs mv n := by
  induction n with
  | zero => rw [Nat.le_zero.mp h]; exact Nat.le_refl _
  | succ n ih =>
    by_cases y : r = n + 1
    · rw [y]; exact Nat.le_refl _
    · have := ih (by omega)
      show pfs mv r ≤ pfs mv n + (mv n).length
      omega
theorem pfs_s {mv : Nat → List (List Cd)} {r n : Nat} (h : r < n) : pfs mv r + (mv r).length ≤ pfs mv n := pfs_le (mv := mv) (r := r + 1) (n := n) h
section CVG
variable {d : Nat} {Q : Option Value ⊕ Nat → am_Mem → Prop} {X : Int → List Int → Prop} {W : Int → Nat} {s : Nat} {rs : List Rul} {S : List Atm} {μ : am_Mem} {m l : PM} {q T v n : Nat} {L : List (List Cd)}
theorem VwI_st {m' : PM} {q' T' : Nat} {mv : Nat → List (List Cd)} {gl : Nat → Int} (hT : T ≤ T') (e : ∀ c j, v + 1 ≤ c → c ≤ v + 3 → m' c j = m c j) (cg : ∀ t cs, t < T → Cg X q m t cs → Cg X q' m' t cs) (h : VwI X q m T v n mv gl) : VwI X q' m' T' v n mv gl := ⟨fun r hr => by rw [e _ _ (by omega) (by omega)]; exact h.1 r hr, h.2.1, fun r hr => RwC_st hT (fun j _ _ => e _ _ (by omega) (by omega)) cg (h.2.2.1 r hr), fun r hr => by rw [e _ _ (by omega) (by omega)]; exact h.2.2.2 r hr⟩
/-- what gathering writes -/
abbrev WGt (v c : Nat) (j : Int) : Prop := (v + 1 ≤ c ∧ c ≤ v + 3) ∨ (c = v ∧ (j = 3 ∨ j = 4))
theorem k_gather (hS : ShW s μ q) (hs : s = 22 ∨ s = 42) (hv : v = 96 ∨ v = 101) (hgo : GoS rs) (hWw : ∀ x w, X x w → W x = wdt rs w) (hW : CwW X W s rs m q T S) (hnd : S.Nodup) (hN : NmS X (s + 1) m) (e4 : m 70 4 = (L.length : Int)) (hLn : L.Nodup) (hLr : RwC X q m T 80 0 L) (hL4 : L.length ≤ 4) (h48 : ∀ a, a ∈ S → ∀ p, p ∈ a.2 → tlC p ≤ 48 ∧ NeC p) (hz : m (v + 2) 0 = 0)
    (hk : ∀ m' : PM, m' v 4 = (L.length : Int) → m' v 3 = bP (0 < cntA S (wdC.getD 7 [])) → VwI X q m' T v L.length (mvS S L) (glS S L) → (∀ r, r < L.length → SrT (mvS S L r) ∧ (∀ t, t ∈ mvS S L r ↔ ((wdC.getD 5 [], [L.getD r [], t]) : Atm) ∈ S) ∧ GlI (fun t => ((wdC.getD 6 [], [L.getD r [], t]) : Atm) ∈ S) (glS S L r)) → (∀ c j, ¬ WGt v c j → m' c j = m c j) → Q (.inl none) (sA μ m' l)) :
    Wp (d + 5) 110 (0, [some (.ref v), some (.ref 70), none], [], sA μ m l) Q := by
  obtain ⟨s1, s2, s3, s4, s5, s6⟩ := id hS
  have hq := TQ_q s3
  have hXP := hW.1.2.1
  have hFI := hW.2.2.2.2.2.1
  have hS1000 := hFI.2.1
  have hqn := q_n hS
  have hx5 : X 5 (wdC.getD 5 []) := hW.1.2.2.1.2 5 (by decide)
  have hx6 : X 6 (wdC.getD 6 []) := hW.1.2.2.1.2 6 (by decide)
  have hx7 : X 7 (wdC.getD 7 []) := hW.1.2.2.1.2 7 (by decide)
  have hW5 : W 5 = 2 := by
    rw [hWw _ _ hx5, wdt_own hgo (by decide)]
    decide
  have hW6 : W 6 = 2 := by
    rw [hWw _ _ hx6, wdt_own hgo (by decide)]
    decide
  have hcn := cnt_C hXP hW.2.2.2.2.2.2 hx7
  obtain ⟨a78, _⟩ := hFI.2.2.2.1 7 (by decide) (by decide)
  have hle : cntA S (wdC.getD 7 []) ≤ S.length := List.length_filter_le _ _
  have fr : ∀ {m1 : PM}, (∀ c j, ¬ WGt v c j → m1 c j = m c j) → CwW X W s rs m1 q T S ∧ NmS X (s + 1) m1 ∧ RwC X q m1 T 80 0 L ∧ ∀ t cs, t < T → Cg X q m t cs → Cg X q m1 t cs := fun {m1} f => by
    have cg : ∀ t cs, t < T → Cg X q m t cs → Cg X q m1 t cs := fun t cs ht h => CgR_cg (T := T) (fun t _ => ⟨f _ _ (by omega), f _ _ (by omega), fun i _ => f _ _ (by omega)⟩) _ t cs ht h
    exact ⟨CwW_st hs hW (CtT_fr (fun c j z => f c j (by omega)) hW.2.2.2.1) (Nat.le_refl _) (fun c j z1 z2 => f c j (by omega)) (fun j => f _ j (by omega)) (fun c j z => f c j (by omega)) cg, NmS_cg (fun c j z => f c j (by omega)) hN, RwC_st (Nat.le_refl _) (fun j _ _ => f _ _ (by omega)) cg hLr, cg⟩
  have loop : ∀ (g r : Nat) (m1 : PM), r + g = L.length → m1 v 4 = (L.length : Int) → m1 v 3 = bP (0 < cntA S (wdC.getD 7 [])) → (∀ i : Nat, i ≤ r → m1 (v + 2) (i : Int) = (pfs (mvS S L) i : Int)) → pfs (mvS S L) r ≤ 1000 → (∀ i : Nat, i < r → RwC X q m1 T (v + 1) (pfs (mvS S L) i : Int) (mvS S L i)) → (∀ i : Nat, i < r → m1 (v + 3) (i : Int) = glS S L i) → (∀ i, i < r → SrT (mvS S L i) ∧ (∀ t, t ∈ mvS S L i ↔ ((wdC.getD 5 [], [L.getD i [], t]) : Atm) ∈ S) ∧ GlI (fun t => ((wdC.getD 6 [], [L.getD i [], t]) : Atm) ∈ S) (glS S L i)) → (∀ c j, ¬ WGt v c j → m1 c j = m c j) → Wp (d + 5) 110 (32, [some (.ref v), some (.ref 70), some (.int (zI (r : Int)))], [], sA μ m1 l) Q := by
    intro g
    induction g with
    | zero =>
      intro r m1 hr g4 g3 h1 h2 h3 h4 h5 f1
      have er : r = L.length := by omega
      rw [er] at h1 h2 h3 h4 h5 ⊢
      exact K110_32 s1 s2 hq hs s5 hv ⟨⟨by omega, by omega⟩, by rw [g4]; exact ⟨by omega, by omega⟩, fun _ => hk m1 g4 g3 ⟨h1, h2, h3, h4⟩ h5 f1, fun z => absurd (by rw [g4]; omega) z⟩
    | succ g ih =>
      intro r m1 hr g4 g3 h1 h2 h3 h4 h5 f1
      have hrl : r < L.length := by omega
      obtain ⟨hW1, hN1, hL1, cg1⟩ := fr f1
      refine K110_32 s1 s2 hq hs s5 hv ⟨⟨by omega, by omega⟩, by rw [g4]; exact ⟨by omega, by omega⟩, fun z => absurd z (by rw [g4]; omega), fun _ => ⟨fun y μ' => Wp (d + 5) 110 (53, [some (.ref v), some (.ref 70), some (.int (zI (r : Int)))], [.int y, .int (zI ((r : Int) + 1)), .ref (v + 2)], μ') Q, noX, ?_, fun _ _ z => z, fun _ _ z => z.elim⟩⟩
      refine k_gatherMoves (d := d) (Q := pI _ noX) hS hs hv hW1 hnd hN1 hL1 hrl hL4 hx5 hW5 h48 (h1 r (Nat.le_refl _)) (fun A hA hAS => ?_) (fun m2 A hA hAm hAr f2 => ?_)
      · have := mv_room (w := wdC.getD 5 []) (mv := mvS S L) hLn hrl (fun i hi => ⟨SrT_nd (h5 i hi).1, fun t ht => ((h5 i hi).2.1 t).mp ht⟩) hA hAS
        omega
      · show Wp (d + 5) 110 (53, _, [.int (zI _), .int (zI ((r : Int) + 1)), .ref (v + 2)], _) Q
        have eA : A = mvS S L r := lsO_eq hA hAm
        have hroom := mv_room (w := wdC.getD 5 []) (mv := mvS S L) hLn hrl (fun i hi => ⟨SrT_nd (h5 i hi).1, fun t ht => ((h5 i hi).2.1 t).mp ht⟩) (SrT_nd hA) (fun t ht => (hAm t).mp ht)
        refine K110_53 s1 s2 hq hs s5 hv ⟨⟨by omega, by omega⟩, fun m3 e3 => ⟨fun y μ' => Wp (d + 5) 110 (65, [some (.ref v), some (.ref 70), some (.int (zI (r : Int)))], [.int y, .int (zI (r : Int)), .ref (v + 3)], μ') Q, noX, ?_, fun _ _ z => z, fun _ _ z => z.elim⟩⟩
        have f3 : ∀ c j, ¬ WGt v c j → m3 c j = m c j := fun c j z => by
          rw [e3, up_o (by omega), f2 c j (by omega)]
          exact f1 c j z
        obtain ⟨hW3, hN3, hL3, cg3⟩ := fr f3
        have cg23 : ∀ t cs, t < T → Cg X q m2 t cs → Cg X q m3 t cs := fun t cs ht h => CgR_cg (T := T) (fun t _ => ⟨by rw [e3, up_o (by omega)], by rw [e3, up_o (by omega)], fun i _ => by rw [e3, up_o (by omega)]⟩) _ t cs ht h
        have cg12 : ∀ t cs, t < T → Cg X q m1 t cs → Cg X q m2 t cs := fun t cs ht h => CgR_cg (T := T) (fun t _ => ⟨f2 _ _ (by omega), f2 _ _ (by omega), fun i _ => f2 _ _ (by omega)⟩) _ t cs ht h
        refine k_findGoal (d := d + 2) (Q := pI _ noX) hS hs hv hW3 hN3 hL3 hrl hL4 hx6 hW6 h48 (fun y hy => ?_)
        show Wp (d + 5) 110 (65, _, [.int (zI y), .int (zI (r : Int)), .ref (v + 3)], _) Q
        have ey : y = glS S L r := GlI_uni hy (Classical.epsilon_spec (p := GlI (fun t => ((wdC.getD 6 [], [L.getD r [], t]) : Atm) ∈ S)) ⟨y, hy⟩)
        refine K110_65 s1 s2 hq hs s5 hv ⟨⟨by omega, by omega⟩, fun m4 e4' => ?_⟩
        have o4 : ∀ c j, ¬ (c = v + 3 ∧ j = (r : Int)) → m4 c j = m3 c j := fun c j z => by rw [e4', up_o z]
        have cg34 : ∀ t cs, t < T → Cg X q m3 t cs → Cg X q m4 t cs := fun t cs ht h => CgR_cg (T := T) (fun t _ => ⟨o4 _ _ (by omega), o4 _ _ (by omega), fun i _ => o4 _ _ (by omega)⟩) _ t cs ht h
        have go := ih (r + 1) m4 (by omega) ?_ ?_ (fun i hi => ?_) ?_ (fun i hi => ?_) (fun i hi => ?_) (fun i hi => ?_) (fun c j z => ?_)
        · rw [show ((r + 1 : Nat) : Int) = (r : Int) + 1 by omega] at go
          exact go
        · rw [o4 _ _ (by omega), e3, up_o (by omega), f2 _ _ (by omega)]
          exact g4
        · rw [o4 _ _ (by omega), e3, up_o (by omega), f2 _ _ (by omega)]
          exact g3
        · rw [o4 _ _ (by omega), e3]
          by_cases y2 : i = r + 1
          · rw [y2, show ((r + 1 : Nat) : Int) = (r : Int) + 1 by omega, up_s]
            show (pfs (mvS S L) r : Int) + (A.length : Int) = ((pfs (mvS S L) r + (mvS S L r).length : Nat) : Int)
            rw [← eA]
            omega
          · rw [up_i (by omega), f2 _ _ (by omega)]
            exact h1 i (by omega)
        · show pfs (mvS S L) r + (mvS S L r).length ≤ 1000
          rw [← eA]
          omega
        · by_cases y2 : i = r
          · rw [y2, ← eA]
            exact RwC_st (Nat.le_refl _) (fun j _ _ => by rw [o4 _ _ (by omega), e3, up_o (by omega)]) (fun t cs ht h => cg34 t cs ht (cg23 t cs ht h)) hAr
          · have hp := pfs_s (mv := mvS S L) (show i < r by omega)
            exact RwC_st (Nat.le_refl _) (fun j _ j2 => by rw [o4 _ _ (by omega), e3, up_o (by omega), f2 _ _ (by omega)]) (fun t cs ht h => cg34 t cs ht (cg23 t cs ht (cg12 t cs ht h))) (h3 i (by omega))
        · by_cases y2 : i = r
          · rw [y2, e4', up_s]
            exact ey
          · rw [o4 _ _ (by omega), e3, up_o (by omega), f2 _ _ (by omega)]
            exact h4 i (by omega)
        · by_cases y2 : i = r
          · rw [y2]
            refine ⟨by rw [← eA]; exact hA, fun t => by rw [← eA]; exact hAm t, by rw [← ey]; exact hy⟩
          · exact h5 i (by omega)
        · rw [o4 c j (by omega)]
          exact f3 c j z
  refine K110_0 s1 s2 hq hs s5 hv ⟨by rw [a78, hcn]; exact ⟨by omega, by omega⟩, fun m1 e1 v2 ev2 m3 e3 => ?_⟩
  rw [e4] at e1
  have f3 : ∀ c j, ¬ WGt v c j → m3 c j = m c j := fun c j z => by rw [e3, up_o (by omega), e1, up_o (by omega)]
  refine loop L.length 0 m3 (by omega) ?_ ?_ (fun i hi => ?_) (Nat.zero_le _) (fun i hi => absurd hi (Nat.not_lt_zero i)) (fun i hi => absurd hi (Nat.not_lt_zero i)) (fun i hi => absurd hi (Nat.not_lt_zero i)) f3
  · rw [e3, up_i (by decide), e1, up_s]
  · rw [e3, up_s, ev2, a78, hcn]
    by_cases y : 0 < cntA S (wdC.getD 7 [])
    · rw [if_neg (by omega), bP_1 y]
    · rw [if_pos (by omega), bP_0 y]
  · rw [show i = 0 by omega, e3, up_c (by omega), e1, up_c (by omega)]
    exact hz
/-- how many joint moves there are -/
theorem k_joint {mv : Nat → List (List Cd)} {gl : Nat → Int} (H : CS μ) (hv : v = 96 ∨ v = 101) (e4 : m v 4 = (n : Int)) (hn : n ≤ 4) (h : VwI X q m T v n mv gl) (hQ : Q (.inl (some (.long (zL (jmN n mv : Int))))) (sA μ m l)) : Wp (d + 1) 115 (0, [some (.ref v), none, none, none], [], sA μ m l) Q := by
  have loop : ∀ (g r : Nat) (y : Int), r + g = n → y = (if n = 0 then 0 else (jmP mv r : Int)) → Wp (d + 1) 115 (15, [some (.ref v), some (.long (zL y)), none, some (.int (zI (r : Int)))], [], sA μ m l) Q := by
    intro g
    induction g with
    | zero =>
      intro r y hr ey
      refine K115_15 H hv ⟨⟨by omega, by omega⟩, by rw [e4]; exact ⟨by omega, by omega⟩, fun _ => ?_, fun z => absurd (by rw [e4]; omega) z⟩
      have er : r = n := by omega
      have e : y = (jmN n mv : Int) := by
        rw [ey, er]
        unfold jmN
        by_cases z : n = 0
        · rw [if_pos z, if_pos z]; rfl
        · rw [if_neg z, if_neg z]
      rw [e]
      exact hQ
    | succ g ih =>
      intro r y hr ey
      have p1 := h.1 r (by omega)
      have p2 := h.1 (r + 1) (by omega)
      rw [show ((r + 1 : Nat) : Int) = (r : Int) + 1 by omega] at p2
      have hp := pfs_s (mv := mv) (show r < n by omega)
      have h1000 := h.2.1
      refine K115_15 H hv ⟨⟨by omega, by omega⟩, by rw [e4]; exact ⟨by omega, by omega⟩, fun z => absurd z (by rw [e4]; omega), fun _ => ⟨⟨by omega, by omega⟩, ⟨by omega, by omega⟩, fun v1 ev1 => ?_⟩⟩
      have e1 : v1 = ((mv r).length : Int) := by
        rw [ev1, p1, p2]
        show ((pfs mv r + (mv r).length : Nat) : Int) - (pfs mv r : Int) = _
        omega
      rw [e1]
      refine ⟨⟨by omega, by omega⟩, ?_⟩
      have go := ih (r + 1) (y * ((mv r).length : Int)) (by omega) (by
        rw [ey, if_neg (by omega), if_neg (by omega)]
        show _ = ((jmP mv r * (mv r).length : Nat) : Int)
        rw [Int.natCast_mul])
      rw [show ((r + 1 : Nat) : Int) = (r : Int) + 1 by omega] at go
      exact go
  refine K115_0 H hv ⟨by rw [e4]; exact ⟨by omega, by omega⟩, fun z => ?_, fun z => ?_⟩
  · exact loop n 0 1 (by omega) (by rw [if_neg (by rw [e4] at z; omega)]; rfl)
  · have hn0 : n = 0 := by
      rw [e4] at z
      omega
    exact loop n 0 0 (by omega) (by rw [if_pos hn0])
/-- the moves of a joint move -/
theorem k_choose {mv : Nat → List (List Cd)} {gl : Nat → Int} {j : Nat} (H : CS μ) (hv : v = 96 ∨ v = 101) (hq85 : q = 85 ∨ 185 ≤ q) (e4 : m v 4 = (n : Int)) (hn : n ≤ 4) (h : VwI X q m T v n mv gl) (hpos : ∀ r, r < n → 0 < (mv r).length) (hj : j ≤ 2147483647)
    (hk : ∀ m' : PM, (∀ r : Nat, r < n → ∃ u : Nat, m' (v + 4) (r : Int) = (u : Int) ∧ u < T ∧ Cg X q m u ((mv r).getD (chI mv n j r) [])) → (∀ c i, ¬ c = v + 4 → m' c i = m c i) → Q (.inl none) (sA μ m' l)) : Wp (d + 1) 116 (0, [some (.ref v), some (.int (zI (j : Int))), none, none, none], [], sA μ m l) Q := by
  have loop : ∀ (r : Nat) (rest : Nat) (m1 : PM) (o4 : Option Value), r ≤ n → rest ≤ 2147483647 → (∀ i, i < r → chI mv n j i = chI mv r rest i) → (∀ c i, ¬ c = v + 4 → m1 c i = m c i) → (∀ i : Nat, r ≤ i → i < n → ∃ u : Nat, m1 (v + 4) (i : Int) = (u : Int) ∧ u < T ∧ Cg X q m u ((mv i).getD (chI mv n j i) [])) → Wp (d + 1) 116 (9, [some (.ref v), some (.int (zI (j : Int))), some (.int (zI (rest : Int))), some (.int (zI ((r : Int) - 1))), o4], [], sA μ m1 l) Q := by
    intro r
    induction r with
    | zero =>
      intro rest m1 o4 hr hrest hch f1 hd
      exact K116_9 H hv ⟨⟨by omega, by omega⟩, fun _ => hk m1 (fun i hi => hd i (Nat.zero_le _) hi) f1, fun z => absurd (by omega) z⟩
    | succ r ih =>
      intro rest m1 o4 hr hrest hch f1 hd
      have p1 := h.1 r (by omega)
      have p2 := h.1 (r + 1) (by omega)
      rw [show ((r + 1 : Nat) : Int) = (r : Int) + 1 by omega] at p2
      have hp := pfs_s (mv := mv) (show r < n by omega)
      have h1000 := h.2.1
      have hl := hpos r (by omega)
      have q1 : m1 (v + 2) (r : Int) = (pfs mv r : Int) := (f1 _ _ (by omega)).trans p1
      have q2 : m1 (v + 2) ((r : Int) + 1) = ((pfs mv r + (mv r).length : Nat) : Int) := (f1 _ _ (by omega)).trans p2
      refine K116_9 H hv ⟨⟨by omega, by omega⟩, fun z => absurd z (by omega), fun _ => ?_⟩
      rw [show ((r + 1 : Nat) : Int) - 1 = (r : Int) by omega]
      refine ⟨⟨by omega, by omega⟩, ⟨by omega, by omega⟩, fun v1 ev1 => ?_⟩
      have e1 : v1 = ((mv r).length : Int) := by
        rw [ev1, q1, q2]
        omega
      rw [e1]
      have ez : zDiv (rest : Int) ((mv r).length : Int) = ((rest / (mv r).length : Nat) : Int) := by
        rw [zDiv_n ⟨by omega, by omega⟩ ⟨by omega, by omega⟩]
        exact (Int.natCast_ediv _ _).symm
      have em : (rest : Int) - zDiv (rest : Int) ((mv r).length : Int) * ((mv r).length : Int) = ((rest % (mv r).length : Nat) : Int) := by
        rw [ez]
        have := Nat.div_add_mod rest (mv r).length
        have h2 : (((mv r).length * (rest / (mv r).length) : Nat) : Int) = ((rest / (mv r).length : Nat) : Int) * ((mv r).length : Int) := by
          rw [Int.natCast_mul, Int.mul_comm]
        omega
      have hlt := Nat.mod_lt rest hl
      rw [em, ez, q1]
      refine ⟨⟨by omega, by omega⟩, fun z => absurd z (by omega), fun _ => ⟨by omega, ⟨by omega, by omega⟩, fun v2 ev2 => ⟨⟨by omega, by omega⟩, by omega, fun m3 e3 => ?_⟩⟩⟩
      obtain ⟨u, u1, u2, u3⟩ := h.2.2.1 r (by omega) (rest % (mv r).length) hlt
      have e2 : v2 = (u : Int) := by rw [ev2, f1 _ _ (by omega)]; exact u1
      have hcr : chI mv n j r = rest % (mv r).length := by
        rw [hch r (Nat.lt_succ_self r)]
        show (if r = r then _ else _) = _
        rw [if_pos rfl]
      refine ih (rest / (mv r).length) m3 _ (by omega) (by have := Nat.div_le_self rest (mv r).length; omega) (fun i hi => ?_) (fun c i z => by rw [e3, up_c z]; exact f1 c i z) (fun i i1 i2 => ?_)
      · rw [hch i (by omega)]
        show (if i = r then _ else _) = _
        rw [if_neg (by omega)]
      · by_cases y : i = r
        · refine ⟨u, by rw [y, e3, up_s]; exact e2, u2, ?_⟩
          rw [y, hcr]
          exact u3
        · obtain ⟨u', w1, w2, w3⟩ := hd i (by omega) i2
          exact ⟨u', by rw [e3, up_i (by omega)]; exact w1, w2, w3⟩
  refine K116_0 H hv ?_
  rw [e4]
  exact loop n j m none (Nat.le_refl _) hj (fun _ _ => rfl) (fun _ _ _ => rfl) (fun i i1 i2 => absurd i2 (by omega))
end CVG
