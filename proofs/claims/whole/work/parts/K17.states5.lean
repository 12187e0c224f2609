/-! ===== the class's states: clear, enter, look ===== -/
theorem StI_o {X : Int → List Int → Prop} {m m' : PM} {e : Nat} {As : List (List (List Cd))} (o : ∀ c j, (c = 107 ∧ j = 3 ∨ c = 109 ∨ c = 110 ∨ c = e) → m' c j = m c j) (h : StI X m e As) : StI X m' e As := by
  obtain ⟨h1, h2, h3, h4, h5, f, h6, h7⟩ := h
  refine ⟨by rw [o _ _ (by omega)]; exact h1, h2, by rw [o _ _ (by omega)]; exact h3, fun j => by rw [o _ _ (by omega)]; exact h4 j, fun i hi => ?_, f, by rw [o _ _ (by omega)]; exact h6, h7⟩
  obtain ⟨⟨g, g1, g2, g3, g4, g5, g6⟩, g7⟩ := h5 i hi
  exact ⟨⟨g, by rw [o _ _ (by omega)]; exact g1, by rw [o _ _ (by omega)]; exact g2, g3, g4, CdR_cg (fun j _ _ => o _ _ (by omega)) g5, by rw [o _ _ (by omega)]; exact g6⟩, g7⟩
theorem Cg_q {X : Int → List Int → Prop} {q : Nat} {m m' : PM} (k : ∀ c j, q ≤ c ∧ c ≤ q + 2 → m' c j = m c j) {u : Nat} {cs : List Cd} (h : Cg X q m u cs) : Cg X q m' u cs := CgR_cg (T := u + 1) (fun t _ => ⟨k _ _ (by omega), k _ _ (by omega), fun i _ => k _ _ (by omega)⟩) _ u _ (by omega) h
theorem ixS_lt {s : List (List Cd)} : ∀ {sts : List (List (List Cd))}, s ∈ sts → ixS s sts < sts.length := by
  intro sts
  induction sts with
  | nil => intro h; exact absurd h List.not_mem_nil
  | cons a t ih =>
    intro h
    unfold ixS
    rw [List.length_cons]
    by_cases y : a = s
    · rw [if_pos y]
      exact Nat.succ_pos _
    · rw [if_neg y]
      rcases List.mem_cons.mp h with e | e
      · exact absurd e.symm y
      · have := ih e
        omega
section CEL
variable {d : Nat} {Q : Option Value ⊕ Nat → am_Mem → Prop} {μ : am_Mem} {m l : PM} {k N n s v q e r1 L1 T : Nat} {X : Int → List Int → Prop} {As : List (List (List Cd))} {A : List (List Cd)}
theorem k_clearSt (H : CS μ) (hz : m 109 0 = 0) (hsh : ∀ j, 0 ≤ m e j ∧ m e j ≤ 32767) (he : e = 108 ∨ 185 < e)
    (hq : ∀ m' : PM, m' 106 0 = (k : Int) → m' 106 1 = 0 → StI X m' e [] → (∀ c j, ¬ (c = 106 ∧ (j = 0 ∨ j = 1) ∨ c = 107 ∧ j = 3) → m' c j = m c j) → Q (.inl none) (sA μ m' l)) :
    Wp d 73 (0, [some (.ref 106), some (.int (zI (k : Int)))], [], sA μ m l) Q := by
  refine K73_0 H (fun m1 e1 => ?_)
  have o : ∀ c j, ¬ (c = 106 ∧ (j = 0 ∨ j = 1) ∨ c = 107 ∧ j = 3) → m1 c j = m c j := fun c j h => by rw [e1, up_o (by omega), up_o (by omega), up_o (by omega)]
  refine hq m1 (by rw [e1, up_c (by decide), up_i (by decide), up_s]) (by rw [e1, up_c (by decide), up_s]) ?_ o
  exact ⟨by rw [e1, up_s]; rfl, by decide, by rw [o _ _ (by omega)]; exact hz, fun j => by rw [o _ _ (by omega)]; exact hsh j, fun i hi => absurd hi (Nat.not_lt_zero _), 0, by rw [o _ _ (by omega)]; exact hz, Nat.zero_le _, Nat.zero_le _⟩
theorem k_enter (hS : ShX s μ q e) (hX : XP X) (hX2 : ∀ x w, X x w → x < 1024) (hI : CtT X q (tN q) (tS q) m T) (hSt : StI X m e As) (hA : GdL A) (k1 : am_kd μ r1 = (2, L1)) (b1 : L1 ≤ 2000) (hr1 : 94 ≤ r1 ∧ r1 < 107) (hL1 : A.length ≤ L1) (hrow : RwC X q m T r1 0 A)
    (hin : ∀ (μ' : am_Mem) (m' l' : PM) (e' : Nat), A ∈ As → Gx μ q e μ' q e' → ShX s μ' q e' → StI X m' e' As → m' 106 1 = (As.length : Int) → m' 113 ((ixS A As : Nat) : Int) = (A.length : Int) → (∀ j, ¬ j = ((ixS A As : Nat) : Int) → m' 113 j = m 113 j) → (∀ c j, c < am_n μ → ¬ (WTl e c ∨ (c = 107 ∧ j = 3) ∨ c = 113 ∨ (c = 106 ∧ j = 1)) → m' c j = m c j) → (∀ c j, c < am_n μ → l' c j = l c j) → Q (.inl (some (.int (zI (ixS A As : Int))))) (sA μ' m' l'))
    (hnew : ∀ (μ' : am_Mem) (m' l' : PM) (e' : Nat), ¬ A ∈ As → As.length < 300 → Gx μ q e μ' q e' → ShX s μ' q e' → StI X m' e' (As ++ [A]) → m' 106 1 = (As.length : Int) + 1 → m' 113 (As.length : Int) = (A.length : Int) → (∀ j, ¬ j = (As.length : Int) → m' 113 j = m 113 j) → (∀ c j, c < am_n μ → ¬ (WTl e c ∨ (c = 107 ∧ j = 3) ∨ c = 113 ∨ (c = 106 ∧ j = 1)) → m' c j = m c j) → (∀ c j, c < am_n μ → l' c j = l c j) → Q (.inl (some (.int (zI (As.length : Int))))) (sA μ' m' l'))
    (hfull : ∀ (μ' : am_Mem) (m' l' : PM) (e' : Nat), ¬ A ∈ As → As.length = 300 → Gx μ q e μ' q e' → ShX s μ' q e' → StI X m' e' As → (∀ c j, c < am_n μ → ¬ (WTl e c ∨ (c = 107 ∧ j = 3)) → m' c j = m c j) → (∀ c j, c < am_n μ → l' c j = l c j) → Q (.inr 3) (sA (am_nX μ') m' l')) :
    Wp (d + 4) 74 (0, [some (.ref 106), some (.ref r1), some (.int (zI (A.length : Int))), some (.ref 84), none], [], sA μ m l) Q := by
  obtain ⟨⟨s1, s2, s3, s4, s5, s6⟩, ⟨x1', x2'⟩, ⟨x3, x4, x5⟩, x6, x7⟩ := id hS
  refine K74_0 s1 s2 (TQ_q s3) x1' x2' (hE_of hS) k1 b1 ⟨fun x μ' => Wp (d + 4) 74 (10, [some (.ref 106), some (.ref r1), some (.int (zI (A.length : Int))), some (.ref 84), none], [.int x], μ') Q, fun x μ' => Q (.inr x) μ', ?_, fun _ _ h => h, fun _ _ h => h⟩
  refine k_sintern (d := d) hS hX hX2 hI hSt hA k1 b1 hr1 hL1 hrow (fun μ1 m1 l1 e1 hm G1 S1 t1 fr fl => ?_) (fun μ1 m1 l1 e1 hm hl G1 S1 t1 fr fl => ?_) (fun μ1 m1 l1 e1 hm hl G1 S1 t1 fr fl => hfull μ1 m1 l1 e1 hm hl G1 S1 t1 fr fl)
  · obtain ⟨⟨r1', r2', r3', r4', r5', r6'⟩, ⟨y1, y2⟩, ⟨y3, y4, y5⟩, y6, y7⟩ := id S1
    have k1' : am_kd μ1 r1 = (2, L1) := (G1.2.1 r1 (by omega)).trans k1
    have hix := ixS_lt hm
    have hl2 := t1.2.1
    refine K74_10 r1' r2' (TQ_q r3') y1 y2 (hE_of S1) k1' b1 ⟨⟨by omega, by omega⟩, fun m2 e2 => ?_⟩
    have o : ∀ c j, ¬ (c = 113 ∨ c = 106 ∧ j = 1) → m2 c j = m1 c j := fun c j h => by rw [e2, up_o (by omega), up_o (by omega)]
    refine hin μ1 m2 l1 e1 hm G1 S1 (StI_o (fun c j h => o c j (by omega)) t1) (by rw [e2, up_s]; exact t1.1) (by rw [e2, up_c (by decide), up_s]) (fun j hj => by rw [e2, up_c (by decide), up_i hj]; exact fr 113 j (by omega) (by omega)) (fun c j hc h => ?_) fl
    rw [o c j (by omega)]
    exact fr c j hc (fun z => h (by
      rcases z with z | z
      · exact Or.inl z
      · exact Or.inr (Or.inl z)))
  · obtain ⟨⟨r1', r2', r3', r4', r5', r6'⟩, ⟨y1, y2⟩, ⟨y3, y4, y5⟩, y6, y7⟩ := id S1
    have k1' : am_kd μ1 r1 = (2, L1) := (G1.2.1 r1 (by omega)).trans k1
    refine K74_10 r1' r2' (TQ_q r3') y1 y2 (hE_of S1) k1' b1 ⟨⟨by omega, by omega⟩, fun m2 e2 => ?_⟩
    have o : ∀ c j, ¬ (c = 113 ∨ c = 106 ∧ j = 1) → m2 c j = m1 c j := fun c j h => by rw [e2, up_o (by omega), up_o (by omega)]
    refine hnew μ1 m2 l1 e1 hm hl G1 S1 (StI_o (fun c j h => o c j (by omega)) t1) (by rw [e2, up_s, t1.1, List.length_append, List.length_singleton]; omega) (by rw [e2, up_c (by decide), up_s]) (fun j hj => by rw [e2, up_c (by decide), up_i hj]; exact fr 113 j (by omega) (by omega)) (fun c j hc h => ?_) fl
    rw [o c j (by omega)]
    exact fr c j hc (fun z => h (by
      rcases z with z | z
      · exact Or.inl z
      · exact Or.inr (Or.inl z)))
/-- a state's row of the table, its next states aside -/
def LkC (m : PM) (k i : Nat) (ov : Prop) (mv : Nat → List (List Cd)) (gl : Nat → Int) : Prop := m 114 (i : Int) = bP ov ∧ (ov → m 115 (i : Int) = 0) ∧ (¬ ov → m 115 (i : Int) = (jmN k mv : Int) ∧ jmN k mv ≤ 40) ∧ (k = 2 → m 117 (i : Int) = ((mv 0).length : Int) ∧ m 118 (i : Int) = ((mv 1).length : Int) ∧ m 119 (i : Int) = gl 0 ∧ m 120 (i : Int) = gl 1)
def WLok (i : Nat) (c : Nat) (j : Int) : Prop := (114 ≤ c ∧ c ≤ 120 ∧ ¬ c = 116) ∧ j = (i : Int)
theorem k_look {ov : Prop} {i : Nat} {mv : Nat → List (List Cd)} {gl : Nat → Int} (H : CS μ) (hv : v = 96 ∨ v = 101) (hq85 : q = 85 ∨ 185 < q) (hi : i < 300) (e4 : m v 4 = (n : Int)) (hn : n ≤ 4) (h : VwI X q m T v n mv gl) (e3 : m v 3 = bP ov) (ek : m 106 0 = (n : Int))
    (hq : ∀ m' : PM, LkC m' n i ov mv gl → (∀ c j, ¬ WLok i c j → m' c j = m c j) → Q (.inl none) (sA μ m' l))
    (hx : ∀ m' : PM, ¬ ov → 40 < jmN n mv → (∀ c j, ¬ WLok i c j → m' c j = m c j) → Q (.inr 3) (sA (am_nX μ) m' l)) :
    Wp (d + 2) 75 (0, [some (.ref 106), some (.int (zI (i : Int))), some (.ref v), none, none], [], sA μ m l) Q := by
  have hvn : v + 2 < 106 ∧ v + 3 < 106 := by omega
  have two : n = 2 → m (v + 2) (0 + 1) - m (v + 2) 0 = ((mv 0).length : Int) ∧ m (v + 2) (1 + 1) - m (v + 2) 1 = ((mv 1).length : Int) ∧ m (v + 3) 0 = gl 0 ∧ m (v + 3) 1 = gl 1 := fun z => by
    obtain ⟨h1, h2, h3, h4⟩ := id h
    have p0 := h1 0 (by omega)
    have p1 := h1 1 (by omega)
    have p2 := h1 2 (by omega)
    have q0 : pfs mv 1 = pfs mv 0 + (mv 0).length := rfl
    have q1 : pfs mv 2 = pfs mv 1 + (mv 1).length := rfl
    have p0' : m (v + 2) 0 = (pfs mv 0 : Int) := p0
    have p1' : m (v + 2) 1 = (pfs mv 1 : Int) := p1
    have p2' : m (v + 2) 2 = (pfs mv 2 : Int) := p2
    refine ⟨?_, ?_, h4 0 (by omega), h4 1 (by omega)⟩
    · show m (v + 2) 1 - m (v + 2) 0 = _
      omega
    · show m (v + 2) 2 - m (v + 2) 1 = _
      omega
  refine K75_0 H hv ⟨⟨by omega, by omega⟩, by rw [e3]; exact bP_b _, by rw [e3]; exact bP_R _, fun z m1 e1 => ?_, fun z m2 e2 => ⟨fun _ => ⟨by rw [ek]; exact ⟨by omega, by omega⟩, fun zk m3 ev3 => ?_, fun zk m4 ev4 => ⟨⟨by decide, by decide⟩, ⟨by decide, by decide⟩, fun v5 ev5 m6 e6 => ⟨⟨by decide, by decide⟩, ⟨by decide, by decide⟩, fun v7 ev7 m8 e8 m9 e9 => ?_⟩⟩⟩, fun z => absurd (by decide) z⟩⟩
  · rw [e3] at z e1
    have nov : ¬ ov := bP_z.mp z
    have o1 : ∀ c j, ¬ WLok i c j → m1 c j = m c j := fun c j h => by rw [e1, up_o (fun y => h (by unfold WLok; omega))]
    have c1 : ∀ c j, ¬ (114 ≤ c ∧ c ≤ 120) → m1 c j = m c j := fun c j h => by rw [e1, up_c (by omega)]
    have V1 : VwI X q m1 T v n mv gl := VwI_st (Nat.le_refl _) (fun c j _ _ => c1 c j (by omega)) (fun t cs _ h => Cg_q (fun c j hc => c1 c j (by omega)) h) h
    refine ⟨fun x μ' => Wp (d + 2) 75 (25, [some (.ref 106), some (.int (zI (i : Int))), some (.ref v), none, none], [.long x], μ') Q, fun x μ' => Q (.inr x) μ', k_joint (d := d) H hv (by rw [c1 _ _ (by omega)]; exact e4) hn V1 ?_, fun _ _ h => h, fun _ _ h => h⟩
    have hj := jmN_le (mv := mv) hn (fun r hr => by
      have := pfs_s (mv := mv) hr
      have := h.2.1
      omega)
    show Wp (d + 2) 75 (25, _, [.long (zL (jmN n mv : Int))], _) Q
    refine K75_25 H hv ⟨⟨by omega, by omega⟩, fun zj => ⟨⟨by omega, by omega⟩, by rw [c1 _ _ (by omega), ek]; exact ⟨by omega, by omega⟩, fun zk m2 e2 => ?_, fun zk m2 e2 => ⟨⟨by decide, by decide⟩, ⟨by decide, by decide⟩, fun v3 ev3 m4 e4' => ⟨⟨by decide, by decide⟩, ⟨by decide, by decide⟩, fun v5 ev5 m6 e6 m7 e7 => ?_⟩⟩⟩, fun zj => hx m1 nov (by omega) o1⟩
    · rw [c1 _ _ (by omega), ek] at zk
      refine hq m2 ⟨by rw [e2, up_c (by decide), e1, up_s], fun y => absurd y nov, fun _ => ⟨by rw [e2, up_s], by omega⟩, fun y => absurd (by rw [y]; rfl) zk⟩ (fun c j y => ?_)
      rw [e2, up_o (fun w => y (by unfold WLok; omega))]
      exact o1 c j y
    · rw [c1 _ _ (by omega), ek] at zk
      have hn2 : n = 2 := by
        have := Classical.byContradiction zk
        omega
      obtain ⟨t1, t2, t3, t4⟩ := two hn2
      have w3 : v3 = ((mv 0).length : Int) := by
        rw [ev3, e2, up_c (by omega), up_c (by omega), c1 _ _ (by omega), c1 _ _ (by omega)]
        exact t1
      have w5 : v5 = ((mv 1).length : Int) := by
        rw [ev5, e4', up_c (by omega), up_c (by omega), e2, up_c (by omega), up_c (by omega), c1 _ _ (by omega), c1 _ _ (by omega)]
        exact t2
      rw [c1 _ _ (by omega), t3] at e6
      rw [c1 _ _ (by omega), t4] at e7
      refine hq m7 ⟨by rw [e7, up_c (by decide), e6, up_c (by decide), up_c (by decide), e4', up_c (by decide), e2, up_c (by decide), e1, up_s], fun y => absurd y nov, fun _ => ⟨by rw [e7, up_c (by decide), e6, up_c (by decide), up_c (by decide), e4', up_c (by decide), e2, up_s], by omega⟩, fun _ => ⟨?_, ?_, ?_, ?_⟩⟩ (fun c j y => ?_)
      · rw [e7, up_c (by decide), e6, up_c (by decide), up_c (by decide), e4', up_s, w3]
      · rw [e7, up_c (by decide), e6, up_c (by decide), up_s, w5]
      · rw [e7, up_c (by decide), e6, up_s]
      · rw [e7, up_s]
      · have y' : ¬ ((114 ≤ c ∧ c ≤ 120 ∧ ¬ c = 116) ∧ j = (i : Int)) := y
        rw [e7, up_o (by omega), e6, up_o (by omega), up_o (by omega), e4', up_o (by omega), e2, up_o (by omega)]
        exact o1 c j y
  · rw [e3] at z e2
    have hov : ov := Classical.byContradiction fun h => z (bP_0 h)
    rw [ek] at zk
    refine hq m3 ⟨by rw [ev3, up_c (by decide), e2, up_s], fun _ => by rw [ev3, up_s], fun y => absurd hov y, fun y => absurd (by rw [y]; rfl) zk⟩ (fun c j y => ?_)
    have y' : ¬ ((114 ≤ c ∧ c ≤ 120 ∧ ¬ c = 116) ∧ j = (i : Int)) := y
    rw [ev3, up_o (by omega), e2, up_o (by omega)]
  · rw [e3] at z e2
    have hov : ov := Classical.byContradiction fun h => z (bP_0 h)
    rw [ek] at zk
    have hn2 : n = 2 := by
      have := Classical.byContradiction zk
      omega
    obtain ⟨t1, t2, t3, t4⟩ := two hn2
    have w5 : v5 = ((mv 0).length : Int) := by
      rw [ev5, ev4, up_c (by omega), up_c (by omega), e2, up_c (by omega), up_c (by omega)]
      exact t1
    have w7 : v7 = ((mv 1).length : Int) := by
      rw [ev7, e6, up_c (by omega), up_c (by omega), ev4, up_c (by omega), up_c (by omega), e2, up_c (by omega), up_c (by omega)]
      exact t2
    rw [t3] at e8
    rw [t4] at e9
    refine hq m9 ⟨by rw [e9, up_c (by decide), e8, up_c (by decide), up_c (by decide), e6, up_c (by decide), ev4, up_c (by decide), e2, up_s], fun _ => by rw [e9, up_c (by decide), e8, up_c (by decide), up_c (by decide), e6, up_c (by decide), ev4, up_s], fun y => absurd hov y, fun _ => ⟨?_, ?_, ?_, ?_⟩⟩ (fun c j y => ?_)
    · rw [e9, up_c (by decide), e8, up_c (by decide), up_c (by decide), e6, up_s, w5]
    · rw [e9, up_c (by decide), e8, up_c (by decide), up_s, w7]
    · rw [e9, up_c (by decide), e8, up_s]
    · rw [e9, up_s]
    · have y' : ¬ ((114 ≤ c ∧ c ≤ 120 ∧ ¬ c = 116) ∧ j = (i : Int)) := y
      rw [e9, up_o (by omega), e8, up_o (by omega), up_o (by omega), e6, up_o (by omega), ev4, up_o (by omega), e2, up_o (by omega)]
end CEL
