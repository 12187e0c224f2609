/-! ===== the reference's calls: start, moves, terminal, goal ===== -/
theorem rf_0 {m : PM} : v_refuse m 0 0 0 = 0 := by unfold v_refuse; rfl
theorem rf_1 {m : PM} {b c : Int} : v_refuse m 1 b c = 1 := by unfold v_refuse; rfl
theorem rf_2 {m : PM} {c : Int} : v_refuse m 0 1 c = 1 := by unfold v_refuse; rfl
theorem rf_3 {m : PM} : v_refuse m 0 0 1 = 1 := by unfold v_refuse; rfl
theorem rm_0 {m : PM} : m_refuse m 0 0 0 = up m 125 0 0 := rfl
theorem rm_1 {m : PM} {b c : Int} : m_refuse m 1 b c = up m 125 0 1 := rfl
theorem rm_2 {m : PM} {c : Int} : m_refuse m 0 1 c = up m 125 0 2 := rfl
theorem rm_3 {m : PM} : m_refuse m 0 0 1 = up m 125 0 3 := rfl
theorem rg_1 {b c : Int} : (((1 : Int) = 0 → ((iR b) ∧ ((b = 0 → ((iR c) ∧ True)) ∧ (¬ (b = 0) → True)))) ∧ (¬ ((1 : Int) = 0) → True)) := ⟨fun z => absurd z (by decide), fun _ => trivial⟩
theorem rg_0 {b c : Int} (hb : iR b) (hc : iR c) : (((0 : Int) = 0 → ((iR b) ∧ ((b = 0 → ((iR c) ∧ True)) ∧ (¬ (b = 0) → True)))) ∧ (¬ ((0 : Int) = 0) → True)) := ⟨fun _ => ⟨hb, fun _ => ⟨hc, trivial⟩, fun _ => trivial⟩, fun _ => trivial⟩
theorem iR_0 : iR 0 := ⟨by decide, by decide⟩
theorem iR_1 : iR 1 := ⟨by decide, by decide⟩
theorem RfP_B {W : Int → Nat} {rs : List Rul} {L : List (List Cd)} {B B' : Nat} {m : PM} {st : Option (List (List Cd))} {xp : Option (List (List (List Cd)) × List (List Nat))} (hB : B ≤ B') (h : RfP W rs L B m st xp) : RfP W rs L B' m st xp := by
  obtain ⟨h1, h2, h3, h4, h5⟩ := h
  refine ⟨h1, h2, h3, h4.imp id (fun z => ⟨z.1, ?_⟩), h5⟩
  obtain ⟨s, e, w⟩ := z.2
  exact ⟨s, e, WkP_cg h1.2.2.2.2.2.1 hB (fun _ _ _ => rfl) w⟩
theorem k1x72 : ¬ K1 125 72 := by omega
theorem k1x4 : ¬ K1 125 4 := by omega
abbrev F3 (c : Nat) (j : Int) : Prop := c = 125 ∧ (j = 0 ∨ j = 72 ∨ j = 75)
theorem p2_3 {c : Nat} {j : Int} (z : P2 c j) : ¬ F3 c j := by omega
theorem b2_3 {c : Nat} {j : Int} (z : B2 c j) : ¬ F3 c j := by omega
theorem wp_3 {c : Nat} {j : Int} (z : ¬ WPb c j) : ¬ F3 c j := by omega
theorem f3_0 {c : Nat} {j : Int} (z : ¬ F3 c j) : ¬ (c = 125 ∧ j = 0) := fun y => z ⟨y.1, Or.inl y.2⟩
theorem f3_2 {c : Nat} {j : Int} (z : ¬ F3 c j) : ¬ (c = 125 ∧ (j = 72 ∨ j = 75)) := fun y => z ⟨y.1, Or.inr y.2⟩
theorem r3_c {c : Nat} {j : Int} (z : ¬ R3 c j) : ¬ ((c = 172 ∧ j = 300) ∨ (c = 171 ∧ 2940 * 300 ≤ j ∧ j < 2940 * 300 + 2940)) := by omega
theorem g3_0 {c : Nat} {j : Int} (z : (c = 172 ∧ j = 301) ∨ (c = 171 ∧ 2940 * 301 ≤ j ∧ j < 2940 * 301 + 2940) ∨ c = 129 ∨ c = 130 ∨ (c = 125 ∧ j = 9)) : ¬ F1 c j := by omega
theorem g3_2 {c : Nat} {j : Int} (z : (c = 172 ∧ j = 300) ∨ (c = 171 ∧ 2940 * 300 ≤ j ∧ j < 2940 * 300 + 2940) ∨ c = 129 ∨ c = 130 ∨ (c = 125 ∧ j = 9)) : ¬ F3 c j := by omega
theorem b2_g {c : Nat} {j : Int} (z : B2 c j) : ¬ WGa 301 c j := jg_b z
section RC1
variable {d : Nat} {μ : am_Mem} {Q : Option Value ⊕ Nat → am_Mem → Prop} {W : Int → Nat} {rs : List Rul} {L : List (List Cd)} {B : Nat} {m0 l0 : PM} {st : Option (List (List Cd))} {xp : Option (List (List (List Cd)) × List (List Nat))}
theorem r_start (H : RS μ) (hg : GoS rs) (hI : RfP W rs L B m0 st xp)
    (hok : ∀ m' l' : PM, ok0 rs L → RfP W rs L B m' (some (s0O rs L)) xp → m' 125 0 = 0 → (∀ c j, ¬ WPb c j → m' c j = m0 c j) → (∀ c j, ¬ (c = 125 ∧ j = 57) → l' c j = l0 c j) → Q (.inl (some (.int (zI ((s0O rs L).length : Int))))) (sA μ m' l'))
    (hX : ∀ m' l' : PM, ¬ ok0 rs L → RfP W rs L B m' st xp → m' 125 0 = 2 → (∀ c j, ¬ WPb c j → m' c j = m0 c j) → (∀ c j, ¬ (c = 125 ∧ j = 57) → l' c j = l0 c j) → Q (.inl (some (.int (zI 0)))) (sA μ m' l')) :
    Wp (d + 11) 211 (0, [some (.ref 125), none], [], sA μ m0 l0) Q := by
  obtain ⟨h1, h2, h3, h4, h5⟩ := id hI
  refine R211_0 H ⟨by rw [h2]; exact iR_1, fun z => absurd (h2.symm.trans z) (by decide), fun _ => ⟨fun y μ' => Wp (d + 11) 211 (13, [some (.ref 125), none], [.int y], μ') Q, noX, ?_, fun _ _ z => z, fun _ _ z => z.elim⟩⟩
  refine c_evaluate (d := d + 1) (Q := pI _ noX) (W := W) (rs := rs) (x1 := -1) (x2 := 0) (st := []) (L := L) (ch := []) H hg h1.1 h1.2.1 h1.2.2.1 h1.2.2.2.1 (Or.inl ⟨rfl, rfl⟩) h1.2.2.2.2 (Or.inl rfl) (fun m2 l2 T S hE hw2 h48' hT e56 e75 e57 f2 fl2 => ?_) (fun m2 l2 T S hno hw2 e75 f2 fl2 => ?_)
  · have hB2 : BsR W rs L m2 := BsR_of h1 (hw2.2.1.2.2.1) hw2.2.2.2.2.2.2 (fun c i z => f2 c i (k1_e (k1_b z)))
    have hx3 : nX m2 3 (wdL.getD 3 []) := nX_wdR hw2.1 (by decide)
    have hW3 : W 3 = 1 := by
      rw [hB2.2.1 3 _ hx3, wdt_own hg (by decide)]
      decide
    have hcn : cnO rs (baA 0 [] L []) (wdL.getD 3 []) = cntA S (wdL.getD 3 []) := Ev_cn hg hE _
    refine R211_13 H ⟨iR_1, fun z => absurd z (by decide), fun _ => ⟨fun y μ' => Wp (d + 11) 211 (24, [some (.ref 125), none], [.int y], μ') Q, noX, ?_, fun _ _ z => z, fun _ _ z => z.elim⟩⟩
    refine c_gather (d := d + 8) (Q := pI _ noX) (W := W) (rs := rs) (S := S) (x := 3) (i := 301) (w := wdL.getD 3 []) H hw2 hE.2.2.2.1 h48' hx3 hW3 ⟨by decide, by decide⟩ (fun m3 s hsr hsl hs60 hsm hs3 f3 => ?_) (fun m3 hgt f3 => ?_)
    · have es : s = s0O rs L := lsO_eq hsr (fun t => (hsm t).trans (Ev_hld hg hE _).symm)
      have e4 : m3 125 4 = 1 := by rw [f3 _ _ (by omega), f2 _ _ (k1_e k1x4)]; exact h2
      refine R211_24 H ⟨iR_1, fun v1 ev1 => ⟨by rw [e4]; exact iR_1, fun v2 ev2 v3 ev3 => ?_⟩⟩
      rw [if_neg (by decide)] at ev1
      rw [e4, if_pos (by decide)] at ev2
      rw [ev1, if_pos (by decide)] at ev3
      rw [ev1, ev2, ev3]
      refine ⟨iR_0, rg_0 iR_0 iR_0, fun m4 em4 => ⟨by rw [rf_0]; exact iR_0, fun _ => ?_, fun z => absurd rf_0 z⟩⟩
      rw [rm_0] at em4
      have f4 : ∀ c j, ¬ (c = 125 ∧ j = 0) → m4 c j = m3 c j := fun c j z => by rw [em4]; exact up_o z
      refine ⟨_, _, c_copyState (d := d + 10) (l := l2) H (i := 301) (k := 300) ⟨by decide, by decide⟩ ⟨by decide, by decide⟩ (by decide) (StR_cg (fun c j z => f4 c j (f1_0 (g3_0 z))) hs3), fun μ' hp => ?_, fun _ _ z => z.elim⟩
      obtain ⟨m5, rfl, s5, f5⟩ := hp
      refine R211_74 H ?_
      have e172 : m5 172 300 = (s.length : Int) := s5.1
      rw [e172, es]
      generalize hm6 : up (up m5 125 72 1) 125 75 0 = m6
      have f6 : ∀ c j, ¬ (c = 125 ∧ (j = 72 ∨ j = 75)) → m6 c j = m5 c j := fun c j z => by rw [← hm6, up_o (fun y => z ⟨y.1, Or.inr y.2⟩), up_o (fun y => z ⟨y.1, Or.inl y.2⟩)]
      have fr3 : ∀ c j, ¬ WGa 301 c j → ¬ R3 c j → ¬ F3 c j → m6 c j = m2 c j := fun c j z2 z3 z4 => (f6 c j (f3_2 z4)).trans ((f5 c j (r3_c z3)).trans ((f4 c j (f3_0 z4)).trans (f3 c j z2)))
      have fr : ∀ c j, ¬ K1 c j → ¬ WGa 301 c j → ¬ R3 c j → ¬ F3 c j → m6 c j = m0 c j := fun c j z1 z2 z3 z4 => (fr3 c j z2 z3 z4).trans (f2 c j (k1_e z1))
      refine hok m6 l2 ⟨⟨S, hE⟩, by rw [hcn]; omega⟩ ⟨BsR_cg hB2 (fun c j z => fr3 c j (b2_g z) (b2_r z) (b2_3 z)), by rw [fr _ _ k1x4 (by omega) (by omega) (by omega)]; exact h2, ⟨by rw [← hm6, up_i (by decide), up_s], by rw [← es]; exact StR_cg (fun c j z => f6 c j (f3_2 (g3_2 z))) s5, by rw [← es]; exact hsr⟩, Or.inl (by rw [← hm6, up_s]), XpP_cg (fun c j z => fr c j (p2_k z) (p2_g z) (p2_r z) (p2_3 z)) h5⟩ ?_ (fun c j z => fr c j (wp_k z) (wp_g z) (wp_r z) (wp_3 z)) fl2
      rw [f6 _ _ (by decide), f5 _ _ (by omega), em4, up_s]
    · have e4 : m3 125 4 = 1 := by rw [f3 _ _ (by omega), f2 _ _ (k1_e k1x4)]; exact h2
      refine R211_24 H ⟨iR_0, fun v1 ev1 => ⟨by rw [e4]; exact iR_1, fun v2 ev2 v3 ev3 => ?_⟩⟩
      rw [if_pos rfl] at ev1
      rw [e4, if_pos (by decide)] at ev2
      rw [ev1, if_neg (fun z => z rfl)] at ev3
      rw [ev1, ev2, ev3]
      refine ⟨iR_0, rg_0 iR_1 iR_0, fun m4 em4 => ⟨by rw [rf_2]; exact iR_1, fun z => absurd (rf_2.symm.trans z) (by decide), fun _ => ?_⟩⟩
      rw [rm_2] at em4
      have f4 : ∀ c j, ¬ (c = 125 ∧ j = 0) → m4 c j = m3 c j := fun c j z => by rw [em4]; exact up_o z
      have fr : ∀ c j, ¬ K1 c j → ¬ WGa 301 c j → ¬ (c = 125 ∧ j = 0) → m4 c j = m0 c j := fun c j z1 z2 z3 => (f4 c j z3).trans ((f3 c j z2).trans (f2 c j (k1_e z1)))
      refine hX m4 l2 (fun z => ?_) ⟨BsR_cg hB2 (fun c j z => (f4 c j (f1_0 (b2_f z))).trans (f3 c j (b2_g z))), by rw [fr _ _ k1x4 (by omega) (by decide)]; exact h2, StP_cg (fun c j z => fr c j (p1_k z) (p1_g z) (f1_0 (p1_f z))) h3, Or.inl (by rw [f4 _ _ (by decide), f3 _ _ (by omega)]; exact e75), XpP_cg (fun c j z => fr c j (p2_k z) (p2_g z) (f1_0 (p2_f z))) h5⟩ (by rw [em4, up_s]) (fun c j z => fr c j (wp_k z) (wp_g z) (f1_0 (wp_f z))) fl2
      have := z.2
      omega
  · have e4 : m2 125 4 = 1 := by rw [f2 _ _ (k1_e k1x4)]; exact h2
    refine R211_13 H ⟨iR_0, fun _ => ⟨by rw [e4]; exact iR_1, fun v1 ev1 v2 ev2 => ?_⟩, fun z => absurd rfl z⟩
    rw [e4, if_pos (by decide)] at ev1
    rw [if_neg (fun z => z rfl)] at ev2
    rw [ev1, ev2]
    refine ⟨iR_0, rg_0 iR_1 iR_0, fun m4 em4 => ⟨by rw [rf_2]; exact iR_1, fun z => absurd (rf_2.symm.trans z) (by decide), fun _ => ?_⟩⟩
    rw [rm_2] at em4
    have f4 : ∀ c j, ¬ (c = 125 ∧ j = 0) → m4 c j = m2 c j := fun c j z => by rw [em4]; exact up_o z
    have fr : ∀ c j, ¬ K1 c j → ¬ (c = 125 ∧ j = 0) → m4 c j = m0 c j := fun c j z1 z2 => (f4 c j z2).trans (f2 c j (k1_e z1))
    exact hX m4 l2 (fun z => hno z.1) ⟨BsR_cg (BsR_of h1 (hw2.2.1.2.2.1) hw2.2.2.2.2.2.2 (fun c i z => f2 c i (k1_e (k1_b z)))) (fun c j z => f4 c j (f1_0 (b2_f z))), by rw [fr _ _ k1x4 (by decide)]; exact h2, StP_cg (fun c j z => fr c j (p1_k z) (f1_0 (p1_f z))) h3, Or.inl (by rw [f4 _ _ (by decide)]; exact e75), XpP_cg (fun c j z => fr c j (p2_k z) (f1_0 (p2_f z))) h5⟩ (by rw [em4, up_s]) (fun c j z => fr c j (wp_k z) (f1_0 (wp_f z))) fl2
/-- is it a role -/
theorem isRl {m : PM} (hL : RlR m L) (x : Int) : (v_isRole m x = 1 ∧ 0 ≤ x ∧ x < (L.length : Int)) ∨ (v_isRole m x = 0 ∧ ¬ (0 ≤ x ∧ x < (L.length : Int))) := by
  unfold v_isRole
  rw [hL.1]
  by_cases q : 0 ≤ x ∧ x ≤ (L.length : Int) - 1
  · rw [if_pos q]
    exact Or.inl ⟨rfl, by omega⟩
  · rw [if_neg q]
    exact Or.inr ⟨rfl, by omega⟩
theorem r_moves {x : Int} (H : RS μ) (hg : GoS rs) (hB80 : 80000 ≤ B) (hx : iR x) (hI : RfP W rs L B m0 st xp)
    (h1' : ∀ m' : PM, st = none → RfP W rs L B m' st xp → m' 125 0 = 1 → (∀ c j, ¬ WPb c j → m' c j = m0 c j) → Q (.inl (some (.int (zI 0)))) (sA μ m' l0))
    (h2' : ∀ (m' : PM) (s : List (List Cd)), st = some s → ¬ (0 ≤ x ∧ x < (L.length : Int)) → RfP W rs L B m' st xp → m' 125 0 = 2 → (∀ c j, ¬ WPb c j → m' c j = m0 c j) → Q (.inl (some (.int (zI 0)))) (sA μ m' l0))
    (h3' : ∀ (m' l' : PM) (s : List (List Cd)), st = some s → (0 ≤ x ∧ x < (L.length : Int)) → ¬ Evb rs (baA 0 s L []) → RfP W rs L B m' st xp → m' 125 0 = 3 → (∀ c j, ¬ WPb c j → m' c j = m0 c j) → (∀ c j, ¬ (c = 125 ∧ j = 57) → l' c j = l0 c j) → Q (.inl (some (.int (zI 0)))) (sA μ m' l'))
    (hok : ∀ (m' l' : PM) (s : List (List Cd)), st = some s → (0 ≤ x ∧ x < (L.length : Int)) → Evb rs (baA 0 s L []) → RfP W rs L B m' st xp → m' 125 0 = 0 → (∀ c j, ¬ WPb c j → m' c j = m0 c j) → (∀ c j, ¬ (c = 125 ∧ j = 57) → l' c j = l0 c j) → Q (.inl (some (.int (zI ((mvO rs L s x.toNat).length : Int))))) (sA μ m' l')) :
    Wp (d + 12) 240 (0, [some (.ref 125), some (.int (zI x)), none, none], [], sA μ m0 l0) Q := by
  obtain ⟨h1, h2, h3, h4, h5⟩ := id hI
  have hL := h1.2.2.2.2
  have hL4 := hL.2.1
  have e70 := hL.1
  cases st with
  | none =>
    have e72 : m0 125 72 = 0 := h3
    refine R240_0 H ⟨by rw [e72]; exact iR_0, ⟨fun _ => trivial, fun z => absurd e72 z⟩, fun v1 ev1 => ⟨fun _ v2 ev2 v3 ev3 v4 ev4 => ?_, fun z => absurd (by rw [ev1, if_pos e72]) z⟩⟩
    rw [e72, if_neg (fun z => z rfl)] at ev2
    rw [e72, if_pos rfl] at ev3
    rw [if_neg (fun z => z rfl)] at ev4
    rw [ev2, ev3, ev4]
    refine ⟨iR_1, rg_1, fun m5 em5 => ⟨by rw [rf_1]; exact iR_1, fun z => absurd (rf_1.symm.trans z) (by decide), fun _ => ?_⟩⟩
    rw [rm_1] at em5
    have f5 : ∀ c j, ¬ (c = 125 ∧ j = 0) → m5 c j = m0 c j := fun c j z => by rw [em5]; exact up_o z
    exact h1' m5 rfl (RfP_0 f5 hI) (by rw [em5, up_s]) (fun c j z => f5 c j (f1_0 (wp_f z)))
  | some s =>
    have e72 : m0 125 72 = 1 := h3.1
    rcases isRl hL x with ⟨ev, hr⟩ | ⟨ev, hr⟩
    · refine R240_0 H ⟨by rw [e72]; exact iR_1, ⟨fun z => absurd (e72.symm.trans z) (by decide), fun _ => ⟨hx, by rw [e70]; exact ⟨by omega, by omega⟩, by rw [ev]; exact iR_1, trivial⟩⟩, fun v1 ev1 => ?_⟩
      rw [e72, ev, if_neg (by decide), if_neg (by decide)] at ev1
      rw [ev1]
      refine ⟨fun z => absurd z (by decide), fun _ => ⟨fun y μ' => Wp (d + 12) 240 (29, [some (.ref 125), some (.int (zI x)), some (.int (zI 1)), none], [.int y], μ') Q, noX, ?_, fun _ _ z => z, fun _ _ z => z.elim⟩⟩
      refine c_works (d := d + 1) (Q := pI _ noX) H hg hB80 hI (fun m1 l1 hE hI1 e75 hw1 f1 fl1 => ?_) (fun m1 l1 hno hI1 f1 fl1 => ?_)
      · have e721 : m1 125 72 = 1 := by rw [f1 _ _ (k1x72)]; exact e72
        refine R240_29 H ⟨iR_1, fun w1 ew1 => ⟨by rw [e721]; exact iR_1, fun w2 ew2 => ⟨⟨fun _ => trivial, fun _ => ⟨iR_1, trivial⟩⟩, fun w3 ew3 w4 ew4 => ?_⟩⟩⟩
        rw [if_neg (by decide)] at ew1
        rw [e721, if_pos (by decide)] at ew2
        rw [e721, if_neg (by decide), if_pos (by decide)] at ew3
        rw [ew1, if_pos (by decide)] at ew4
        rw [ew2, ew3, ew4]
        refine ⟨iR_0, rg_0 iR_0 iR_0, fun m5 em5 => ⟨by rw [rf_0]; exact iR_0, fun _ => ⟨⟨by omega, by omega⟩, ?_⟩, fun z => absurd rf_0 z⟩⟩
        rw [rm_0] at em5
        have f5 : ∀ c j, ¬ (c = 125 ∧ j = 0) → m5 c j = m1 c j := fun c j z => by rw [em5]; exact up_o z
        obtain ⟨T, S, _, _, _, _, hmv⟩ := hw1
        have e173 := (hmv x.toNat (by omega)).1
        rw [show ((x.toNat : Nat) : Int) = x by omega] at e173
        rw [e173]
        exact hok m5 l1 s rfl hr hE (RfP_0 f5 hI1) (by rw [em5, up_s]) (fun c j z => (f5 c j (f1_0 (wp_f z))).trans (f1 c j (wp_k z))) fl1
      · have e721 : m1 125 72 = 1 := by rw [f1 _ _ (k1_e k1x72)]; exact e72
        refine R240_29 H ⟨iR_0, fun w1 ew1 => ⟨by rw [e721]; exact iR_1, fun w2 ew2 => ⟨⟨fun _ => trivial, fun _ => ⟨iR_1, trivial⟩⟩, fun w3 ew3 w4 ew4 => ?_⟩⟩⟩
        rw [if_pos rfl] at ew1
        rw [e721, if_pos (by decide)] at ew2
        rw [e721, if_neg (by decide), if_pos (by decide)] at ew3
        rw [ew1, if_neg (fun z => z rfl)] at ew4
        rw [ew2, ew3, ew4]
        refine ⟨iR_0, rg_0 iR_0 iR_1, fun m5 em5 => ⟨by rw [rf_3]; exact iR_1, fun z => absurd (rf_3.symm.trans z) (by decide), fun _ => ?_⟩⟩
        rw [rm_3] at em5
        have f5 : ∀ c j, ¬ (c = 125 ∧ j = 0) → m5 c j = m1 c j := fun c j z => by rw [em5]; exact up_o z
        exact h3' m5 l1 s rfl hr hno (RfP_0 f5 hI1) (by rw [em5, up_s]) (fun c j z => (f5 c j (f1_0 (wp_f z))).trans (f1 c j (k1_e (wp_k z)))) fl1
    · refine R240_0 H ⟨by rw [e72]; exact iR_1, ⟨fun z => absurd (e72.symm.trans z) (by decide), fun _ => ⟨hx, by rw [e70]; exact ⟨by omega, by omega⟩, by rw [ev]; exact iR_0, trivial⟩⟩, fun v1 ev1 => ?_⟩
      rw [e72, ev, if_neg (by decide), if_pos rfl] at ev1
      rw [ev1]
      refine ⟨fun _ v2 ev2 v3 ev3 v4 ev4 => ?_, fun z => absurd rfl z⟩
      rw [e72, if_pos (by decide)] at ev2
      rw [e72, if_neg (by decide), if_neg (fun z => z rfl)] at ev3
      rw [if_neg (fun z => z rfl)] at ev4
      rw [ev2, ev3, ev4]
      refine ⟨iR_0, rg_0 iR_1 iR_1, fun m5 em5 => ⟨by rw [rf_2]; exact iR_1, fun z => absurd (rf_2.symm.trans z) (by decide), fun _ => ?_⟩⟩
      rw [rm_2] at em5
      have f5 : ∀ c j, ¬ (c = 125 ∧ j = 0) → m5 c j = m0 c j := fun c j z => by rw [em5]; exact up_o z
      exact h2' m5 s rfl hr (RfP_0 f5 hI) (by rw [em5, up_s]) (fun c j z => f5 c j (f1_0 (wp_f z)))
theorem r_terminal (H : RS μ) (hg : GoS rs) (hB80 : 80000 ≤ B) (hI : RfP W rs L B m0 st xp)
    (h1' : ∀ m' : PM, st = none → RfP W rs L B m' st xp → m' 125 0 = 1 → (∀ c j, ¬ WPb c j → m' c j = m0 c j) → Q (.inl (some (.int (zI 0)))) (sA μ m' l0))
    (h2' : ∀ (m' l' : PM) (s : List (List Cd)), st = some s → ¬ Evb rs (baA 0 s L []) → RfP W rs L B m' st xp → m' 125 0 = 2 → (∀ c j, ¬ WPb c j → m' c j = m0 c j) → (∀ c j, ¬ (c = 125 ∧ j = 57) → l' c j = l0 c j) → Q (.inl (some (.int (zI 0)))) (sA μ m' l'))
    (hok : ∀ (m' l' : PM) (s : List (List Cd)), st = some s → Evb rs (baA 0 s L []) → RfP W rs L B m' st xp → m' 125 0 = 0 → (∀ c j, ¬ WPb c j → m' c j = m0 c j) → (∀ c j, ¬ (c = 125 ∧ j = 57) → l' c j = l0 c j) → Q (.inl (some (.int (zI (bP (ovO rs L s)))))) (sA μ m' l')) :
    Wp (d + 12) 244 (0, [some (.ref 125), none], [], sA μ m0 l0) Q := by
  obtain ⟨h1, h2, h3, h4, h5⟩ := id hI
  cases st with
  | none =>
    have e72 : m0 125 72 = 0 := h3
    refine R244_0 H ⟨by rw [e72]; exact iR_0, fun _ v1 ev1 v2 ev2 => ?_, fun z => absurd e72 z⟩
    rw [e72, if_neg (fun z => z rfl)] at ev1
    rw [if_neg (fun z => z rfl)] at ev2
    rw [ev1, ev2]
    refine ⟨iR_1, rg_1, fun m5 em5 => ⟨by rw [rf_1]; exact iR_1, fun z => absurd (rf_1.symm.trans z) (by decide), fun _ => ?_⟩⟩
    rw [rm_1] at em5
    have f5 : ∀ c j, ¬ (c = 125 ∧ j = 0) → m5 c j = m0 c j := fun c j z => by rw [em5]; exact up_o z
    exact h1' m5 rfl (RfP_0 f5 hI) (by rw [em5, up_s]) (fun c j z => f5 c j (f1_0 (wp_f z)))
  | some s =>
    have e72 : m0 125 72 = 1 := h3.1
    refine R244_0 H ⟨by rw [e72]; exact iR_1, fun z => absurd (e72.symm.trans z) (by decide), fun _ => ⟨fun y μ' => Wp (d + 12) 244 (11, [some (.ref 125), none], [.int y], μ') Q, noX, ?_, fun _ _ z => z, fun _ _ z => z.elim⟩⟩
    refine c_works (d := d + 1) (Q := pI _ noX) H hg hB80 hI (fun m1 l1 hE hI1 e75 hw1 f1 fl1 => ?_) (fun m1 l1 hno hI1 f1 fl1 => ?_)
    · have e721 : m1 125 72 = 1 := by rw [f1 _ _ (k1x72)]; exact e72
      refine R244_11 H ⟨iR_1, fun w1 ew1 => ⟨by rw [e721]; exact iR_1, fun w2 ew2 w3 ew3 => ?_⟩⟩
      rw [if_neg (by decide)] at ew1
      rw [e721, if_pos (by decide)] at ew2
      rw [ew1, if_pos (by decide)] at ew3
      rw [ew1, ew2, ew3]
      refine ⟨iR_0, rg_0 iR_0 iR_0, fun m5 em5 => ⟨by rw [rf_0]; exact iR_0, fun _ => ?_, fun z => absurd rf_0 z⟩⟩
      rw [rm_0] at em5
      have f5 : ∀ c j, ¬ (c = 125 ∧ j = 0) → m5 c j = m1 c j := fun c j z => by rw [em5]; exact up_o z
      have hI5 := RfP_0 f5 hI1
      obtain ⟨T, S, hE', hw5, _, _, hmv⟩ := WkP_cg h1.2.2.2.2.2.1 (Nat.le_refl _) (fun c j z => f5 c j (f1_0 (p3_f z))) hw1
      refine ⟨_, _, c_isOver (d := d + 11) (l := l1) H hw5, fun y μ' hp => ?_, fun _ _ z => z.elim⟩
      obtain ⟨rfl, rfl⟩ := hp
      have eov : bP (0 < cntA S (wdL.getD 9 [])) = bP (ovO rs L s) := by
        show bP (0 < cntA S (wdL.getD 9 [])) = bP (0 < cnO rs (baA 0 s L []) (wdL.getD 9 []))
        rw [Ev_cn hg hE' _]
      rw [eov]
      have hb01 : bP (ovO rs L s) = 0 ∨ bP (ovO rs L s) = 1 := by
        by_cases q : ovO rs L s
        · exact Or.inr (bP_1 q)
        · exact Or.inl (bP_0 q)
      exact R244_55 H ⟨hb01, hok m5 l1 s rfl hE hI5 (by rw [em5, up_s]) (fun c j z => (f5 c j (f1_0 (wp_f z))).trans (f1 c j (wp_k z))) fl1⟩
    · have e721 : m1 125 72 = 1 := by rw [f1 _ _ (k1_e k1x72)]; exact e72
      refine R244_11 H ⟨iR_0, fun w1 ew1 => ⟨by rw [e721]; exact iR_1, fun w2 ew2 w3 ew3 => ?_⟩⟩
      rw [if_pos rfl] at ew1
      rw [e721, if_pos (by decide)] at ew2
      rw [ew1, if_neg (fun z => z rfl)] at ew3
      rw [ew1, ew2, ew3]
      refine ⟨iR_0, rg_0 iR_1 iR_0, fun m5 em5 => ⟨by rw [rf_2]; exact iR_1, fun z => absurd (rf_2.symm.trans z) (by decide), fun _ => ?_⟩⟩
      rw [rm_2] at em5
      have f5 : ∀ c j, ¬ (c = 125 ∧ j = 0) → m5 c j = m1 c j := fun c j z => by rw [em5]; exact up_o z
      exact h2' m5 l1 s rfl hno (RfP_0 f5 hI1) (by rw [em5, up_s]) (fun c j z => (f5 c j (f1_0 (wp_f z))).trans (f1 c j (k1_e (wp_k z)))) fl1
theorem r_goal {x : Int} (H : RS μ) (hg : GoS rs) (hR : ∀ B, Evb rs B → ∀ r, r < L.length → tlC (L.getD r []) ≤ 48) (hB80 : 80000 ≤ B) (hB100 : B ≤ 100000) (hx : iR x) (hI : RfP W rs L B m0 st xp)
    (h1' : ∀ m' : PM, st = none → RfP W rs L (B + 20) m' st xp → m' 125 0 = 1 → (∀ c j, ¬ WPb c j → m' c j = m0 c j) → Q (.inl (some (.int (zI 0)))) (sA μ m' l0))
    (h2' : ∀ (m' : PM) (s : List (List Cd)), st = some s → ¬ (0 ≤ x ∧ x < (L.length : Int)) → RfP W rs L (B + 20) m' st xp → m' 125 0 = 2 → (∀ c j, ¬ WPb c j → m' c j = m0 c j) → Q (.inl (some (.int (zI 0)))) (sA μ m' l0))
    (h3' : ∀ (m' l' : PM) (s : List (List Cd)), st = some s → (0 ≤ x ∧ x < (L.length : Int)) → ¬ Evb rs (baA 0 s L []) → RfP W rs L (B + 20) m' st xp → m' 125 0 = 3 → (∀ c j, ¬ WPb c j → m' c j = m0 c j) → (∀ c j, ¬ (c = 125 ∧ j = 57) → l' c j = l0 c j) → Q (.inl (some (.int (zI 0)))) (sA μ m' l'))
    (hok : ∀ (m' l' : PM) (s : List (List Cd)), st = some s → (0 ≤ x ∧ x < (L.length : Int)) → Evb rs (baA 0 s L []) → RfP W rs L (B + 20) m' st xp → m' 125 0 = 0 → (∀ c j, ¬ WPb c j → m' c j = m0 c j) → (∀ c j, ¬ (c = 125 ∧ j = 57) → l' c j = l0 c j) → Q (.inl (some (.int (zI (glO rs L s x.toNat))))) (sA μ m' l')) :
    Wp (d + 12) 246 (0, [some (.ref 125), some (.int (zI x)), none, none], [], sA μ m0 l0) Q := by
  obtain ⟨h1, h2, h3, h4, h5⟩ := id hI
  have hL := h1.2.2.2.2
  have hL4 := hL.2.1
  have e70 := hL.1
  cases st with
  | none =>
    have e72 : m0 125 72 = 0 := h3
    refine R246_0 H ⟨by rw [e72]; exact iR_0, ⟨fun _ => trivial, fun z => absurd e72 z⟩, fun v1 ev1 => ⟨fun _ v2 ev2 v3 ev3 v4 ev4 => ?_, fun z => absurd (by rw [ev1, if_pos e72]) z⟩⟩
    rw [e72, if_neg (fun z => z rfl)] at ev2
    rw [e72, if_pos rfl] at ev3
    rw [if_neg (fun z => z rfl)] at ev4
    rw [ev2, ev3, ev4]
    refine ⟨iR_1, rg_1, fun m5 em5 => ⟨by rw [rf_1]; exact iR_1, fun z => absurd (rf_1.symm.trans z) (by decide), fun _ => ?_⟩⟩
    rw [rm_1] at em5
    have f5 : ∀ c j, ¬ (c = 125 ∧ j = 0) → m5 c j = m0 c j := fun c j z => by rw [em5]; exact up_o z
    exact h1' m5 rfl (RfP_B (by omega) (RfP_0 f5 hI)) (by rw [em5, up_s]) (fun c j z => f5 c j (f1_0 (wp_f z)))
  | some s =>
    have e72 : m0 125 72 = 1 := h3.1
    rcases isRl hL x with ⟨ev, hr⟩ | ⟨ev, hr⟩
    · refine R246_0 H ⟨by rw [e72]; exact iR_1, ⟨fun z => absurd (e72.symm.trans z) (by decide), fun _ => ⟨hx, by rw [e70]; exact ⟨by omega, by omega⟩, by rw [ev]; exact iR_1, trivial⟩⟩, fun v1 ev1 => ?_⟩
      rw [e72, ev, if_neg (by decide), if_neg (by decide)] at ev1
      rw [ev1]
      refine ⟨fun z => absurd z (by decide), fun _ => ⟨fun y μ' => Wp (d + 12) 246 (29, [some (.ref 125), some (.int (zI x)), some (.int (zI 1)), none], [.int y], μ') Q, noX, ?_, fun _ _ z => z, fun _ _ z => z.elim⟩⟩
      refine c_works (d := d + 1) (Q := pI _ noX) H hg hB80 hI (fun m1 l1 hE hI1 e75 hw1 f1 fl1 => ?_) (fun m1 l1 hno hI1 f1 fl1 => ?_)
      · have e721 : m1 125 72 = 1 := by rw [f1 _ _ (k1x72)]; exact e72
        refine R246_29 H ⟨iR_1, fun w1 ew1 => ⟨by rw [e721]; exact iR_1, fun w2 ew2 => ⟨⟨fun _ => trivial, fun _ => ⟨iR_1, trivial⟩⟩, fun w3 ew3 w4 ew4 => ?_⟩⟩⟩
        rw [if_neg (by decide)] at ew1
        rw [e721, if_pos (by decide)] at ew2
        rw [e721, if_neg (by decide), if_pos (by decide)] at ew3
        rw [ew1, if_pos (by decide)] at ew4
        rw [ew1, ew2, ew3, ew4]
        refine ⟨iR_0, rg_0 iR_0 iR_0, fun m5 em5 => ⟨by rw [rf_0]; exact iR_0, fun _ => ?_, fun z => absurd rf_0 z⟩⟩
        rw [rm_0] at em5
        have f5 : ∀ c j, ¬ (c = 125 ∧ j = 0) → m5 c j = m1 c j := fun c j z => by rw [em5]; exact up_o z
        obtain ⟨i1, i2, i3, i4, i5⟩ := RfP_0 f5 hI1
        obtain ⟨T, S, hE', hw5, hTB, h48', hmv⟩ := WkP_cg hL4 (Nat.le_refl _) (fun c j z => f5 c j (f1_0 (p3_f z))) hw1
        have hL5 := i1.2.2.2.2
        have hW8 : W 8 = 2 := by
          rw [i1.2.1 8 _ (nX_wdR hw5.1 (j := 8) (by decide)), wdt_own hg (by decide)]
          decide
        obtain ⟨r, rfl⟩ : ∃ r : Nat, x = (r : Int) := ⟨x.toNat, by omega⟩
        have hrl : r < L.length := by omega
        have h19 := (GdT_48 (hL5.2.2.2 r hrl).2.1 (hR _ hE r hrl)).2
        refine ⟨fun y μ' => Wp (d + 12) 246 (89, [some (.ref 125), some (.int (zI (r : Int))), some (.int (zI 1)), some (.int (zI 1))], [.int y], μ') Q, noX, ?_, fun _ _ z => z, fun _ _ z => z.elim⟩
        refine c_goalNow (d := d + 7) (Q := pI _ noX) (W := W) (rs := rs) (S := S) (L := L) (r := r) H hw5 hW8 hL5 hrl (by omega) (fun m6 T6 v t3 t4 hw6 hv f6 => ?_)
        have ev : v = glO rs L s r := glO_eq (GlI_cg (fun t => (Ev_hld hg hE' _).symm) hv)
        refine R246_89 H ?_
        rw [ev]
        have e675 : m6 125 75 = 1 := by rw [f6 _ _ (by omega), f5 _ _ (by decide)]; exact e75
        refine hok m6 l1 s rfl hr hE ⟨BsR_of i1 hw6.2.1.2.2.1 hw6.2.2.2.2.2.2 (fun c j z => f6 c j (kn_b z)), by rw [f6 _ _ (by omega)]; exact i2, StP_cg (fun c j z => f6 c j (p1_n z)) i3, Or.inr ⟨e675, s, rfl, T6, S, hE', hw6, by omega, h48', fun q hq => MvR_cg (by omega) (fun c j z => f6 c j (kn_m z)) (hmv q hq)⟩, XpP_cg (fun c j z => f6 c j (p2_n z)) i5⟩ (by rw [f6 _ _ (by omega), em5, up_s]) (fun c j z => (f6 c j (wp_n z)).trans ((f5 c j (f1_0 (wp_f z))).trans (f1 c j (wp_k z)))) fl1
      · have e721 : m1 125 72 = 1 := by rw [f1 _ _ (k1_e k1x72)]; exact e72
        refine R246_29 H ⟨iR_0, fun w1 ew1 => ⟨by rw [e721]; exact iR_1, fun w2 ew2 => ⟨⟨fun _ => trivial, fun _ => ⟨iR_1, trivial⟩⟩, fun w3 ew3 w4 ew4 => ?_⟩⟩⟩
        rw [if_pos rfl] at ew1
        rw [e721, if_pos (by decide)] at ew2
        rw [e721, if_neg (by decide), if_pos (by decide)] at ew3
        rw [ew1, if_neg (fun z => z rfl)] at ew4
        rw [ew1, ew2, ew3, ew4]
        refine ⟨iR_0, rg_0 iR_0 iR_1, fun m5 em5 => ⟨by rw [rf_3]; exact iR_1, fun z => absurd (rf_3.symm.trans z) (by decide), fun _ => ?_⟩⟩
        rw [rm_3] at em5
        have f5 : ∀ c j, ¬ (c = 125 ∧ j = 0) → m5 c j = m1 c j := fun c j z => by rw [em5]; exact up_o z
        exact h3' m5 l1 s rfl hr hno (RfP_B (by omega) (RfP_0 f5 hI1)) (by rw [em5, up_s]) (fun c j z => (f5 c j (f1_0 (wp_f z))).trans (f1 c j (k1_e (wp_k z)))) fl1
    · refine R246_0 H ⟨by rw [e72]; exact iR_1, ⟨fun z => absurd (e72.symm.trans z) (by decide), fun _ => ⟨hx, by rw [e70]; exact ⟨by omega, by omega⟩, by rw [ev]; exact iR_0, trivial⟩⟩, fun v1 ev1 => ?_⟩
      rw [e72, ev, if_neg (by decide), if_pos rfl] at ev1
      rw [ev1]
      refine ⟨fun _ v2 ev2 v3 ev3 v4 ev4 => ?_, fun z => absurd rfl z⟩
      rw [e72, if_pos (by decide)] at ev2
      rw [e72, if_neg (by decide), if_neg (fun z => z rfl)] at ev3
      rw [if_neg (fun z => z rfl)] at ev4
      rw [ev2, ev3, ev4]
      refine ⟨iR_0, rg_0 iR_1 iR_1, fun m5 em5 => ⟨by rw [rf_2]; exact iR_1, fun z => absurd (rf_2.symm.trans z) (by decide), fun _ => ?_⟩⟩
      rw [rm_2] at em5
      have f5 : ∀ c j, ¬ (c = 125 ∧ j = 0) → m5 c j = m0 c j := fun c j z => by rw [em5]; exact up_o z
      exact h2' m5 s rfl hr (RfP_B (by omega) (RfP_0 f5 hI)) (by rw [em5, up_s]) (fun c j z => f5 c j (f1_0 (wp_f z)))
end RC1
