/-! ===== the reference's calls: explore, defect, state, next, value, best ===== -/
abbrev F4 (c : Nat) (j : Int) : Prop := c = 125 ∧ (j = 0 ∨ j = 75 ∨ j = 81 ∨ j = 82)
abbrev V4 (c : Nat) (j : Int) : Prop := c = 184 ∨ (c = 125 ∧ (j = 89 ∨ j = 90))
abbrev V5 (c : Nat) : Prop := c = 182 ∨ c = 183
theorem p1_x {c : Nat} {j : Int} (z : P1 c j) : ¬ WXp c j := by omega
theorem p1_4 {c : Nat} {j : Int} (z : P1 c j) : ¬ F4 c j := by omega
theorem p1_v {c : Nat} {j : Int} (z : P1 c j) : ¬ V4 c j := by omega
theorem p1_5v {c : Nat} {j : Int} (z : P1 c j) : ¬ V5 c := by omega
theorem b2_4 {c : Nat} {j : Int} (z : B2 c j) : ¬ F4 c j := by omega
theorem b2_v {c : Nat} {j : Int} (z : B2 c j) : ¬ V4 c j := by omega
theorem b2_5v {c : Nat} {j : Int} (z : B2 c j) : ¬ V5 c := by omega
theorem wp_4 {c : Nat} {j : Int} (z : ¬ WPb c j) : ¬ F4 c j := by omega
theorem wp_v {c : Nat} {j : Int} (z : ¬ WPb c j) : ¬ V4 c j := by omega
theorem wp_5v {c : Nat} {j : Int} (z : ¬ WPb c j) : ¬ V5 c := by omega
theorem t7_4 {c : Nat} {j : Int} (z : 177 ≤ c ∧ c ≤ 181) : ¬ F4 c j ∧ ¬ V4 c j ∧ ¬ V5 c := by omega
theorem st_4 {n : Int} {c : Nat} {j : Int} (z : (c = 172 ∧ j = n) ∨ (c = 171 ∧ 2940 * n ≤ j ∧ j < 2940 * n + 2940) ∨ c = 129 ∨ c = 130 ∨ (c = 125 ∧ j = 9)) : ¬ F4 c j ∧ ¬ V4 c j ∧ ¬ V5 c := by omega
theorem glX_R {rs : List Rul} {L st : List (List Cd)} {r : Nat} : -2 ≤ glX rs L st r ∧ glX rs L st r ≤ 100 := by
  unfold glX
  split
  · exact GlI_R (Classical.epsilon_spec (GlI_ex _))
  · exact ⟨by decide, by decide⟩
theorem TbX_of {rs : List Rul} {L : List (List Cd)} {m : PM} {sts : List (List (List Cd))} {nx : List (List Nat)} (h : XpR rs L m sts nx) (hn : nx.length = sts.length) : TbX m sts.length (fun i => ovO rs L (sts.getD i [])) (fun i => glX rs L (sts.getD i [])) (fun i => mnX rs L (sts.getD i [])) nx := by
  refine ⟨h.1.2.1, fun i hi => ?_⟩
  obtain ⟨⟨a1, a2⟩, a3, a4, a5⟩ := h.2.2 i (by omega)
  refine ⟨a1, fun r hr => ?_, ⟨a3.1, a3.2.1⟩, a4, a5⟩
  obtain ⟨b1, b2, b3⟩ := a2 r hr
  exact ⟨b1, glX_R, b2, b3⟩
/-- where there is no defect there are moves -/
theorem nx_ne {rs : List Rul} {L : List (List Cd)} {m : PM} {sts : List (List (List Cd))} {nx : List (List Nat)} (h : XpR rs L m sts nx) (hn : nx.length = sts.length) (hL : L.length = 2) {i : Nat} (hi : i < sts.length) (hd : dfS (fun i => ovO rs L (sts.getD i [])) (fun i => glX rs L (sts.getD i [])) (fun i => mnX rs L (sts.getD i [])) i = 0) (hov : ¬ ovO rs L (sts.getD i [])) : ¬ nx.getD i [] = [] := by
  intro e
  have a := (h.2.2 i (by omega)).2.1.2.2
  rw [e] at a
  have a : 0 = jmO rs L (sts.getD i []) := a
  have ej : jmO rs L (sts.getD i []) = jmN L.length (mvO rs L (sts.getD i [])) := if_neg hov
  rw [ej, hL] at a
  have e0 : mnX rs L (sts.getD i []) 0 = (mvO rs L (sts.getD i []) 0).length := if_pos (by omega)
  have e1 : mnX rs L (sts.getD i []) 1 = (mvO rs L (sts.getD i []) 1).length := if_pos (by omega)
  unfold dfS at hd
  rw [cif_n hov] at hd
  have hd : (if mnX rs L (sts.getD i []) 0 = 0 ∨ mnX rs L (sts.getD i []) 1 = 0 then (2 : Int) else if 1 < mnX rs L (sts.getD i []) 0 ∧ 1 < mnX rs L (sts.getD i []) 1 then 3 else 0) = 0 := hd
  rw [e0, e1] at hd
  have hz : (mvO rs L (sts.getD i []) 0).length = 0 ∨ (mvO rs L (sts.getD i []) 1).length = 0 := by
    have a : 0 = 1 * (mvO rs L (sts.getD i []) 0).length * (mvO rs L (sts.getD i []) 1).length := a
    rw [Nat.one_mul] at a
    exact Nat.mul_eq_zero.mp a.symm
  rw [if_pos hz] at hd
  exact absurd hd (by decide)
section RC4
variable {d : Nat} {μ : am_Mem} {Q : Option Value ⊕ Nat → am_Mem → Prop} {W : Int → Nat} {rs : List Rul} {L : List (List Cd)} {B : Nat} {m0 l0 : PM} {st : Option (List (List Cd))} {xp : Option (List (List (List Cd)) × List (List Nat))}
theorem RfP_F {m m' : PM} (k : ∀ c j, ¬ F1 c j → m' c j = m c j) (e : m' 125 75 = 0) (h : RfP W rs L B m st xp) : RfP W rs L B m' st xp := by
  obtain ⟨h1, h2, h3, h4, h5⟩ := h
  exact ⟨BsR_cg h1 (fun c j z => k c j (b2_f z)), by rw [k _ _ (by omega)]; exact h2, StP_cg (fun c j z => k c j (p1_f z)) h3, Or.inl e, XpP_cg (fun c j z => k c j (p2_f z)) h5⟩
theorem r_explore (H : RS μ) (hg : GoS rs) (hR : ∀ B, Evb rs B → ∀ r, r < L.length → tlC (L.getD r []) ≤ 48) (hI : RfP W rs L B m0 st xp)
    (hX : ∀ m' l' : PM, xp = none → xO rs L = none → RfP W rs L B m' st none → m' 125 0 = 2 → (∀ c j, ¬ WPb c j → m' c j = m0 c j) → (∀ c j, ¬ (c = 125 ∧ j = 57) → l' c j = l0 c j) → Q (.inl (some (.int (zI 0)))) (sA μ m' l'))
    (hok : ∀ (m' l' : PM) (sts : List (List (List Cd))) (nx : List (List Nat)), xO rs L = some (sts, nx) → RfP W rs L B m' st (some (sts, nx)) → m' 125 0 = 0 → (∀ c j, ¬ WPb c j → m' c j = m0 c j) → (∀ c j, ¬ (c = 125 ∧ j = 57) → l' c j = l0 c j) → Q (.inl (some (.int (zI (sts.length : Int))))) (sA μ m' l')) :
    Wp (d + 12) 253 (0, [some (.ref 125), none, none, none], [], sA μ m0 l0) Q := by
  obtain ⟨h1, h2, h3, h4, h5⟩ := id hI
  have h41 : ¬ m0 125 4 = 0 := by rw [h2]; decide
  cases xp with
  | some p =>
    obtain ⟨sts, nx⟩ := p
    have e81 : m0 125 81 = 1 := h5.1
    have e82 := h5.2.2.1
    refine R253_0 H ⟨by rw [h2]; exact iR_1, fun z => absurd z h41, fun _ => ⟨by rw [e81]; exact iR_1, fun _ => ?_, fun z => absurd (by rw [e81]; decide) z⟩⟩
    rw [e81, e82]
    refine R253_33 H ⟨by rw [h2]; exact iR_1, fun m1 e1 v2 ev2 => ⟨iR_1, fun v3 ev3 => ?_⟩⟩
    rw [if_pos h41] at ev2
    rw [if_pos (by decide)] at ev3
    rw [ev2, ev3]
    refine ⟨iR_0, rg_0 iR_0 iR_0, fun m4 e4 => ⟨by rw [rf_0]; exact iR_0, fun _ => ⟨iR_1, fun z => absurd z (by decide), fun _ => ?_⟩, fun z => absurd rf_0 z⟩⟩
    rw [rm_0] at e4
    have f4 : ∀ c j, ¬ F1 c j → m4 c j = m0 c j := fun c j z => by rw [e4, up_o (f1_0 z), e1, up_o (f1_5 z)]
    exact hok m4 l0 sts nx h5.2.1 (RfP_F f4 (by rw [e4, up_i (by decide), e1, up_s]) hI) (by rw [e4, up_s]) (fun c j z => f4 c j (wp_f z)) (fun _ _ _ => rfl)
  | none =>
    have e81 : m0 125 81 = 0 := h5
    refine R253_0 H ⟨by rw [h2]; exact iR_1, fun z => absurd z h41, fun _ => ⟨by rw [e81]; exact iR_0, fun z => absurd e81 z, fun _ => ⟨fun y μ' => Wp (d + 12) 253 (25, [some (.ref 125), some (.int (zI (m0 125 81))), some (.int (zI (m0 125 82))), none], [.int y], μ') Q, noX, ?_, fun _ _ z => z, fun _ _ z => z.elim⟩⟩⟩
    rw [e81]
    refine c_exploreAll (d := d) (Q := pI _ noX) (W := W) (rs := rs) (L := L) H hg hR h1 (fun m1 l1 sts nx hx hB1 hXp hnx f1 fl1 => ?_) (fun m1 l1 hx hB1 f1 fl1 => ?_)
    · refine R253_25 H ⟨iR_1, fun v1 ev1 => ?_⟩
      rw [if_neg (by decide)] at ev1
      rw [ev1]
      have e4 : m1 125 4 = 1 := by rw [f1 _ _ (by omega)]; exact h2
      have e41 : ¬ m1 125 4 = 0 := by rw [e4]; decide
      refine R253_33 H ⟨by rw [e4]; exact iR_1, fun m2 e2 v2 ev2 => ⟨iR_1, fun v3 ev3 => ?_⟩⟩
      rw [if_pos e41] at ev2
      rw [if_pos (by decide)] at ev3
      rw [ev2, ev3]
      refine ⟨iR_0, rg_0 iR_0 iR_0, fun m4 e4' => ⟨by rw [rf_0]; exact iR_0, fun _ => ⟨iR_0, fun _ m5 e5 => ?_, fun z => absurd rfl z⟩, fun z => absurd rf_0 z⟩⟩
      rw [rm_0] at e4'
      have f5 : ∀ c j, ¬ F4 c j → m5 c j = m1 c j := fun c j z => by
        rw [e5, up_o (fun y => z ⟨y.1, Or.inr (Or.inr (Or.inl y.2))⟩), up_o (fun y => z ⟨y.1, Or.inr (Or.inr (Or.inr y.2))⟩), e4', up_o (fun y => z ⟨y.1, Or.inl y.2⟩), e2, up_o (fun y => z ⟨y.1, Or.inr (Or.inl y.2)⟩)]
      have e50 : m5 125 0 = 0 := by rw [e5, up_i (by decide), up_i (by decide), e4', up_s]
      have e575 : m5 125 75 = 0 := by rw [e5, up_i (by decide), up_i (by decide), e4', up_i (by decide), e2, up_s]
      have e581 : m5 125 81 = 1 := by rw [e5, up_s]
      have e582 : m5 125 82 = (sts.length : Int) := by rw [e5, up_i (by decide), up_s]; exact hXp.1.1
      have hB5 : BsR W rs L m5 := BsR_cg hB1 (fun c j z => f5 c j (b2_4 z))
      have hT5 := TbX_cg (m' := m5) (fun c j z => f5 c j (t7_4 z).1) (TbX_of hXp hnx)
      have hL5 := hB5.2.2.2.2
      refine ⟨fun μ' => Wp (d + 12) 253 (93, [some (.ref 125), some (.int (zI 0)), some (.int (zI (m0 125 82))), some (.int (zI 1))], [], μ') Q, noX, ?_, fun _ z => z, fun _ _ z => z.elim⟩
      refine c_findDefect (d := d + 10) (Q := pV _ noX) H hL5.1 hL5.2.1 e582 hT5 (fun m6 kind stt hD k6 s6 f6 => ?_)
      have fin : ∀ m7 : PM, (∀ c j, ¬ V5 c → m7 c j = m6 c j) → (kind = 0 → VaP sts.length (fun i => ovO rs L (sts.getD i [])) (fun i => glX rs L (sts.getD i [])) (fun i => mnX rs L (sts.getD i [])) nx (fun b => m7 182 (b : Int)) ∧ ∀ i : Nat, i < sts.length → -2 ≤ m7 182 (i : Int) ∧ m7 182 (i : Int) ≤ 100) → Q (.inl (some (.int (zI (m7 125 82))))) (sA μ m7 l1) := by
        intro m7 f7 hv
        have f75 : ∀ c j, ¬ V4 c j → ¬ V5 c → m7 c j = m5 c j := fun c j z1 z2 => (f7 c j z2).trans (f6 c j z1)
        have e782 : m7 125 82 = (sts.length : Int) := by rw [f75 _ _ (by omega) (by decide)]; exact e582
        rw [e782]
        refine hok m7 l1 sts nx hx ⟨BsR_cg hB5 (fun c j z => f75 c j (b2_v z) (b2_5v z)), ?_, StP_cg (fun c j z => (f75 c j (p1_v z) (p1_5v z)).trans ((f5 c j (p1_4 z)).trans (f1 c j (p1_x z)))) h3, Or.inl ?_, ?_, hx, e782, fun i hi => ?_, TbX_cg (fun c j z => f75 c j (t7_4 z).2.1 (t7_4 (j := j) z).2.2) hT5, ?_, fun z => hv ?_⟩ ?_ (fun c j z => (f75 c j (wp_v z) (wp_5v z)).trans ((f5 c j (wp_4 z)).trans (f1 c j (wp_x z)))) fl1
        · rw [f75 _ _ (by omega) (by decide), f5 _ _ (by omega)]
          exact e4
        · rw [f75 _ _ (by omega) (by decide)]
          exact e575
        · rw [f75 _ _ (by omega) (by decide)]
          exact e581
        · exact StR_cg (fun c j z => (f75 c j (st_4 z).2.1 (st_4 z).2.2).trans (f5 c j (st_4 z).1)) (hXp.2.1 i hi)
        · rw [f7 _ _ (by decide), f7 _ _ (by decide), k6, s6]
          exact hD
        · rw [f7 _ _ (by decide), k6] at z
          exact z
        · rw [f75 _ _ (by omega) (by decide)]
          exact e50
      have e689 : iR (m6 125 89) := by
        rw [k6]
        rcases hD with ⟨_, e, _⟩ | ⟨_, n, _, _, e, _⟩ | ⟨_, _, n, _, _, e, _⟩ | ⟨_, _, _, e, _⟩
        · rw [e]; exact iR_1
        · rw [e]
          have := dfS_R (ov := fun i => ovO rs L (sts.getD i [])) (g := fun i => glX rs L (sts.getD i [])) (mn := fun i => mnX rs L (sts.getD i [])) n
          exact ⟨by omega, by omega⟩
        · rw [e]; exact ⟨by decide, by decide⟩
        · rw [e]; exact iR_0
      refine R253_93 H ⟨e689, fun z => fin m6 (fun _ _ _ => rfl) (fun y => absurd (k6.trans y) z), fun z => ?_⟩
      have k0 : kind = 0 := by rw [← k6]; exact Classical.byContradiction z
      have hD0 : L.length = 2 ∧ (∀ i, i < sts.length → dfS (fun i => ovO rs L (sts.getD i [])) (fun i => glX rs L (sts.getD i [])) (fun i => mnX rs L (sts.getD i [])) i = 0) ∧ ∀ i, i < sts.length → ¬ Rea nx i i := by
        rcases hD with ⟨_, e, _⟩ | ⟨_, n, _, h0, e, _⟩ | ⟨_, _, n, _, _, e, _⟩ | ⟨e2, z1, z2, _⟩
        · rw [k0] at e; exact absurd e (by decide)
        · rw [k0] at e; exact absurd e.symm h0
        · rw [k0] at e; exact absurd e (by decide)
        · exact ⟨e2, z1, z2⟩
      refine ⟨fun μ' => Wp (d + 12) 253 (104, [some (.ref 125), some (.int (zI 0)), some (.int (zI (m0 125 82))), some (.int (zI 1))], [], μ') Q, noX, ?_, fun _ z => z, fun _ _ z => z.elim⟩
      refine c_findValues (d := d + 10) (Q := pV _ noX) H (by rw [f6 _ _ (by omega)]; exact e582) (TbX_cg (fun c j z => f6 c j (t7_4 z).2.1) hT5) hD0.2.2 (fun i hi hov => nx_ne hXp hnx hD0.1 hi (hD0.2.1 i hi) hov) (fun m7 hV hr f7 => ?_)
      exact R253_104 H (fin m7 f7 (fun _ => ⟨hV, hr⟩))
    · refine R253_25 H ⟨iR_0, fun v1 ev1 => ?_⟩
      rw [if_pos rfl] at ev1
      rw [ev1]
      have e4 : m1 125 4 = 1 := by rw [f1 _ _ (by omega)]; exact h2
      have e41 : ¬ m1 125 4 = 0 := by rw [e4]; decide
      refine R253_33 H ⟨by rw [e4]; exact iR_1, fun m2 e2 v2 ev2 => ⟨iR_0, fun v3 ev3 => ?_⟩⟩
      rw [if_pos e41] at ev2
      rw [if_neg (fun z => z rfl)] at ev3
      rw [ev2, ev3]
      refine ⟨iR_0, rg_0 iR_1 iR_0, fun m4 e4' => ⟨by rw [rf_2]; exact iR_1, fun z => absurd (rf_2.symm.trans z) (by decide), fun _ => ?_⟩⟩
      rw [rm_2] at e4'
      have f4 : ∀ c j, ¬ F1 c j → m4 c j = m1 c j := fun c j z => by rw [e4', up_o (f1_0 z), e2, up_o (f1_5 z)]
      exact hX m4 l1 rfl hx ⟨BsR_cg hB1 (fun c j z => f4 c j (b2_f z)), by rw [f4 _ _ (by omega)]; exact e4, StP_cg (fun c j z => (f4 c j (p1_f z)).trans (f1 c j (p1_x z))) h3, Or.inl (by rw [e4', up_i (by decide), e2, up_s]), show m4 125 81 = 0 by rw [f4 _ _ (by omega), f1 _ _ (by omega)]; exact e81⟩ (by rw [e4', up_s]) (fun c j z => (f4 c j (wp_f z)).trans (f1 c j (wp_x z))) fl1
end RC4
