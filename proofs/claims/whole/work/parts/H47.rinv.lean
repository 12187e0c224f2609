/-! ===== the reference between calls: its sheet, its state, what it found ===== -/
/-- the state at hand -/
def StP (m : PM) (st : Option (List (List Cd))) : Prop := match st with
  | none => m 125 72 = 0
  | some s => m 125 72 = 1 ∧ StR m 300 s ∧ SrT s
/-- what is worked out of it -/
def WkP (W : Int → Nat) (rs : List Rul) (L : List (List Cd)) (B : Nat) (m : PM) (s : List (List Cd)) : Prop := ∃ (T : Nat) (S : List Atm), EvG rs (baA 0 s L []) S ∧ WkR W rs m T S ∧ T ≤ B ∧ (∀ a, a ∈ S → ∀ p, p ∈ a.2 → tlC p ≤ 48 ∧ NeC p) ∧ ∀ r, r < L.length → MvR m r (mvO rs L s r)
/-- what exploring found -/
def XpP (rs : List Rul) (L : List (List Cd)) (m : PM) (xp : Option (List (List (List Cd)) × List (List Nat))) : Prop := match xp with
  | none => m 125 81 = 0
  | some (sts, nx) => m 125 81 = 1 ∧ xO rs L = some (sts, nx) ∧ m 125 82 = (sts.length : Int) ∧ (∀ i : Nat, i < sts.length → StR m (i : Int) (sts.getD i [])) ∧ TbX m sts.length (fun i => ovO rs L (sts.getD i [])) (fun i => glX rs L (sts.getD i [])) (fun i => mnX rs L (sts.getD i [])) nx ∧ DfP L.length sts.length (fun i => ovO rs L (sts.getD i [])) (fun i => glX rs L (sts.getD i [])) (fun i => mnX rs L (sts.getD i [])) nx (m 125 89) (m 125 90) ∧ (m 125 89 = 0 → VaP sts.length (fun i => ovO rs L (sts.getD i [])) (fun i => glX rs L (sts.getD i [])) (fun i => mnX rs L (sts.getD i [])) nx (fun b => m 182 (b : Int)) ∧ ∀ i : Nat, i < sts.length → -2 ≤ m 182 (i : Int) ∧ m 182 (i : Int) ≤ 100)
def RfP (W : Int → Nat) (rs : List Rul) (L : List (List Cd)) (B : Nat) (m : PM) (st : Option (List (List Cd))) (xp : Option (List (List (List Cd)) × List (List Nat))) : Prop := BsR W rs L m ∧ m 125 4 = 1 ∧ StP m st ∧ (m 125 75 = 0 ∨ (m 125 75 = 1 ∧ ∃ s, st = some s ∧ WkP W rs L B m s)) ∧ XpP rs L m xp
theorem StP_cg {m m' : PM} {st : Option (List (List Cd))} (k : ∀ c j, ((c = 125 ∧ (j = 72 ∨ j = 9)) ∨ (c = 171 ∧ 882000 ≤ j ∧ j < 884940) ∨ (c = 172 ∧ j = 300) ∨ c = 129 ∨ c = 130) → m' c j = m c j) (h : StP m st) : StP m' st := by
  cases st with
  | none => exact (k _ _ (by omega)).trans h
  | some s => exact ⟨(k _ _ (by omega)).trans h.1, StR_cg (fun c j z => k c j (by omega)) h.2.1, h.2.2⟩
theorem XpP_cg {rs : List Rul} {L : List (List Cd)} {m m' : PM} {xp : Option (List (List (List Cd)) × List (List Nat))} (k : ∀ c j, ((c = 125 ∧ (j = 81 ∨ j = 82 ∨ j = 89 ∨ j = 90 ∨ j = 9)) ∨ (c = 171 ∧ j < 882000) ∨ (c = 172 ∧ j < 300) ∨ (177 ≤ c ∧ c ≤ 182) ∨ c = 129 ∨ c = 130) → m' c j = m c j) (h : XpP rs L m xp) : XpP rs L m' xp := by
  cases xp with
  | none => exact (k _ _ (by omega)).trans h
  | some p =>
    obtain ⟨sts, nx⟩ := p
    obtain ⟨h1, h2, h3, h4, h5, h6, h7⟩ := h
    have h300 := h5.1
    have e182 : ∀ i : Int, m' 182 i = m 182 i := fun i => k _ _ (by omega)
    refine ⟨(k _ _ (by omega)).trans h1, h2, (k _ _ (by omega)).trans h3, fun i hi => StR_cg (fun c j z => k c j (by omega)) (h4 i hi), TbX_cg (fun c j z => k c j (by omega)) h5, by rw [k 125 89 (by omega), k 125 90 (by omega)]; exact h6, fun z => ?_⟩
    rw [k 125 89 (by omega)] at z
    obtain ⟨v1, v2⟩ := h7 z
    refine ⟨?_, fun i hi => by rw [e182]; exact v2 i hi⟩
    rw [show (fun b : Nat => m' 182 (b : Int)) = (fun b : Nat => m 182 (b : Int)) from funext fun b => e182 _]
    exact v1
theorem WkP_cg {W : Int → Nat} {rs : List Rul} {L : List (List Cd)} {B B' : Nat} {m m' : PM} {s : List (List Cd)} (hL : L.length ≤ 4) (hB : B ≤ B') (k : ∀ c j, ((148 ≤ c ∧ c ≤ 169) ∨ (c = 173 ∨ c = 174) ∨ SRr c j ∨ (c = 125 ∧ (j = 42 ∨ j = 48))) → m' c j = m c j) (h : WkP W rs L B m s) : WkP W rs L B' m' s := by
  obtain ⟨T, S, h1, h2, h3, h4, h5⟩ := h
  exact ⟨T, S, h1, WkR_cg (fun c j z => k c j (by omega)) (fun j => by rw [k _ _ (by omega)]; exact h2.2.1.2.2.1 j) (fun j => by rw [k _ _ (by omega)]; exact h2.2.2.2.2.2.2 j) h2, by omega, h4, fun r hr => MvR_cg (by omega) (fun c j z => k c j (by omega)) (h5 r hr)⟩
/-- the places of the state at hand, of what was found, of what is worked out -/
abbrev P1 (c : Nat) (j : Int) : Prop := (c = 125 ∧ (j = 72 ∨ j = 9)) ∨ (c = 171 ∧ 882000 ≤ j ∧ j < 884940) ∨ (c = 172 ∧ j = 300) ∨ c = 129 ∨ c = 130
abbrev P2 (c : Nat) (j : Int) : Prop := (c = 125 ∧ (j = 81 ∨ j = 82 ∨ j = 89 ∨ j = 90 ∨ j = 9)) ∨ (c = 171 ∧ j < 882000) ∨ (c = 172 ∧ j < 300) ∨ (177 ≤ c ∧ c ≤ 182) ∨ c = 129 ∨ c = 130
abbrev P3 (c : Nat) (j : Int) : Prop := (148 ≤ c ∧ c ≤ 169) ∨ (c = 173 ∨ c = 174) ∨ SRr c j ∨ (c = 125 ∧ (j = 42 ∨ j = 48))
abbrev R3 (c : Nat) (j : Int) : Prop := (c = 172 ∧ j = 300) ∨ (c = 171 ∧ 882000 ≤ j ∧ j < 884940)
/-- fields that calls write -/
abbrev F1 (c : Nat) (j : Int) : Prop := c = 125 ∧ (j = 0 ∨ j = 75)
theorem p1_f {c : Nat} {j : Int} (z : P1 c j) : ¬ F1 c j := by omega
theorem p2_f {c : Nat} {j : Int} (z : P2 c j) : ¬ F1 c j := by omega
theorem p3_f {c : Nat} {j : Int} (z : P3 c j) : ¬ F1 c j := by omega
theorem b2_f {c : Nat} {j : Int} (z : B2 c j) : ¬ F1 c j := by omega
theorem f1_0 {c : Nat} {j : Int} (z : ¬ F1 c j) : ¬ (c = 125 ∧ j = 0) := fun y => z ⟨y.1, Or.inl y.2⟩
theorem f1_5 {c : Nat} {j : Int} (z : ¬ F1 c j) : ¬ (c = 125 ∧ j = 75) := fun y => z ⟨y.1, Or.inr y.2⟩
theorem p1_k {c : Nat} {j : Int} (z : P1 c j) : ¬ K1 c j := by omega
theorem p2_k {c : Nat} {j : Int} (z : P2 c j) : ¬ K1 c j := by omega
theorem p1_g {c : Nat} {j : Int} (z : P1 c j) : ¬ WGa 301 c j := by omega
theorem p2_g {c : Nat} {j : Int} (z : P2 c j) : ¬ WGa 301 c j := by omega
theorem p1_5 {c : Nat} {j : Int} (z : P1 c j) : ¬ c = 175 := by omega
theorem p2_5 {c : Nat} {j : Int} (z : P2 c j) : ¬ c = 175 := by omega
theorem b2_5 {c : Nat} {j : Int} (z : B2 c j) : ¬ c = 175 := by omega
theorem p2_r {c : Nat} {j : Int} (z : P2 c j) : ¬ R3 c j := by omega
theorem b2_r {c : Nat} {j : Int} (z : B2 c j) : ¬ R3 c j := by omega
theorem b1_2 {c : Nat} {j : Int} (z : B1 c j) : B2 c j := by omega
theorem m1_5 {r c : Nat} {j : Int} (z : M1 r c j) : ¬ c = 175 := by omega
theorem p1_n {T c : Nat} {j : Int} (z : P1 c j) : ¬ WGn T c j := by omega
theorem p2_n {T c : Nat} {j : Int} (z : P2 c j) : ¬ WGn T c j := by omega
/-- what a call may write -/
abbrev WPb (c : Nat) (j : Int) : Prop := (148 ≤ c ∧ c ≤ 184 ∧ ¬ c = 170) ∨ (c = 125 ∧ (j = 0 ∨ j = 42 ∨ j = 48 ∨ j = 56 ∨ j = 58 ∨ j = 68 ∨ j = 69 ∨ j = 72 ∨ j = 75 ∨ j = 80 ∨ j = 81 ∨ j = 82 ∨ j = 83 ∨ j = 89 ∨ j = 90))
theorem wp_f {c : Nat} {j : Int} (z : ¬ WPb c j) : ¬ F1 c j := by omega
theorem wp_k {c : Nat} {j : Int} (z : ¬ WPb c j) : ¬ K1 c j := by omega
theorem wp_g {c : Nat} {j : Int} (z : ¬ WPb c j) : ¬ WGa 301 c j := by omega
theorem wp_5 {c : Nat} {j : Int} (z : ¬ WPb c j) : ¬ c = 175 := by omega
theorem wp_r {c : Nat} {j : Int} (z : ¬ WPb c j) : ¬ R3 c j := by omega
theorem wp_2 {c : Nat} {j : Int} (z : ¬ WPb c j) : ¬ (c = 125 ∧ (j = 72 ∨ j = 75)) := by omega
theorem wp_n {T c : Nat} {j : Int} (z : ¬ WPb c j) : ¬ WGn T c j := by omega
theorem wp_x {c : Nat} {j : Int} (z : ¬ WPb c j) : ¬ WXp c j := by omega
section RWK
variable {d : Nat} {μ : am_Mem} {Q : Option Value ⊕ Nat → am_Mem → Prop} {W : Int → Nat} {rs : List Rul} {L : List (List Cd)} {B : Nat}
/-- field 0 tells what was refused -/
theorem RfP_0 {m m' : PM} {st : Option (List (List Cd))} {xp : Option (List (List (List Cd)) × List (List Nat))} (k : ∀ c j, ¬ (c = 125 ∧ j = 0) → m' c j = m c j) (h : RfP W rs L B m st xp) : RfP W rs L B m' st xp := by
  obtain ⟨h1, h2, h3, h4, h5⟩ := h
  refine ⟨BsR_cg h1 (fun c j z => k c j (f1_0 (b2_f z))), by rw [k _ _ (by decide)]; exact h2, StP_cg (fun c j z => k c j (f1_0 (p1_f z))) h3, ?_, XpP_cg (fun c j z => k c j (f1_0 (p2_f z))) h5⟩
  rw [k 125 75 (by decide)]
  refine h4.imp id (fun z => ⟨z.1, ?_⟩)
  obtain ⟨s, e, w⟩ := z.2
  exact ⟨s, e, WkP_cg h1.2.2.2.2.2.1 (Nat.le_refl _) (fun c j z => k c j (f1_0 (p3_f z))) w⟩
theorem c_works {m0 l0 : PM} {s : List (List Cd)} {xp : Option (List (List (List Cd)) × List (List Nat))} (H : RS μ) (hg : GoS rs) (hB80 : 80000 ≤ B) (hI : RfP W rs L B m0 (some s) xp)
    (hok : ∀ m' l' : PM, Evb rs (baA 0 s L []) → RfP W rs L B m' (some s) xp → m' 125 75 = 1 → WkP W rs L B m' s → (∀ c j, ¬ K1 c j → m' c j = m0 c j) → (∀ c j, ¬ (c = 125 ∧ j = 57) → l' c j = l0 c j) → Q (.inl (some (.int (zI 1)))) (sA μ m' l'))
    (hX : ∀ m' l' : PM, ¬ Evb rs (baA 0 s L []) → RfP W rs L B m' (some s) xp → (∀ c j, ¬ WEv c j → m' c j = m0 c j) → (∀ c j, ¬ (c = 125 ∧ j = 57) → l' c j = l0 c j) → Q (.inl (some (.int (zI 0)))) (sA μ m' l')) :
    Wp (d + 10) 242 (0, [some (.ref 125)], [], sA μ m0 l0) Q := by
  obtain ⟨h1, h2, h3, h4, h5⟩ := id hI
  rcases h4 with e75 | ⟨e75, s', es, hw⟩
  · refine R242_0 H ⟨by rw [e75]; exact ⟨by decide, by decide⟩, fun z => absurd e75 z, fun _ => ⟨fun y μ' => Wp (d + 10) 242 (15, [some (.ref 125)], [.int y], μ') Q, noX, ?_, fun _ _ z => z, fun _ _ z => z.elim⟩⟩
    refine c_evaluate (d := d) (Q := pI _ noX) (W := W) (rs := rs) (x1 := 300) (x2 := 0) (st := s) (L := L) (ch := []) H hg h1.1 h1.2.1 h1.2.2.1 h1.2.2.2.1 (Or.inr ⟨by decide, by decide, h3.2.1⟩) h1.2.2.2.2 (Or.inl rfl) (fun m1 l1 T S hE hw1 h48' hT e56 e75' e57 f1 fl1 => ?_) (fun m1 l1 T S hno hw1 e75' f1 fl1 => ?_)
    · have hB1 : BsR W rs L m1 := BsR_of h1 (hw1.2.1.2.2.1) hw1.2.2.2.2.2.2 (fun c i z => f1 c i (k1_e (k1_b z)))
      have hS1000 := hw1.2.2.2.2.1.2.1
      have hL4 := h1.2.2.2.2.2.1
      have hW6 : W 6 = 2 := by
        rw [hB1.2.1 6 _ (nX_wdR hw1.1 (j := 6) (by decide)), wdt_own hg (by decide)]
        decide
      refine R242_15 H ⟨⟨by decide, by decide⟩, fun _ => ⟨fun μ' => Wp (d + 10) 242 (24, [some (.ref 125)], [], μ') Q, noX, ?_, fun _ z => z, fun _ _ z => z.elim⟩, fun z => absurd (by decide) z⟩
      refine c_gatherMoves (d := d + 5) (Q := pV _ noX) (W := W) (rs := rs) (S := S) (T := T) (L := L) H hw1 hE.2.2.2.1 h48' hW6 hB1.2.2.2.2 (by omega) (fun m2 T2 mv t1 t2 hw2 hmv f2 => ?_)
      have hmvO : ∀ r, r < L.length → MvR m2 r (mvO rs L s r) := fun r hr => by
        obtain ⟨a1, a2, a3⟩ := hmv r hr
        have e : mv r = mvO rs L s r := lsO_eq a1 (fun t => (a2 t).trans (Ev_hld hg hE _).symm)
        rw [← e]
        exact a3
      have hB2 : BsR W rs L m2 := BsR_of hB1 (hw2.2.1.2.2.1) hw2.2.2.2.2.2.2 (fun c i z => f2 c i (k1_m (k1_b z)))
      refine R242_24 H ?_
      rintro m3 e3
      have f3 : ∀ c j, ¬ (c = 125 ∧ j = 75) → m3 c j = m2 c j := fun c j z => by rw [e3]; exact up_o z
      have f30 : ∀ c j, ¬ K1 c j → m3 c j = m0 c j := fun c j z => (f3 c j (fun y => k1_e z (Or.inr (Or.inr ⟨y.1, by omega⟩)))).trans ((f2 c j (k1_m z)).trans (f1 c j (k1_e z)))
      have w2 : WkP W rs L B m2 s := ⟨T2, S, hE, hw2, by omega, h48', hmvO⟩
      have w3 : WkP W rs L B m3 s := WkP_cg hL4 (Nat.le_refl _) (fun c j z => f3 c j (f1_5 (p3_f z))) w2
      have e3' : m3 125 75 = 1 := by rw [e3, up_s]
      exact hok m3 l1 ⟨S, hE⟩ ⟨BsR_cg hB2 (fun c j z => f3 c j (f1_5 (b2_f z))), by rw [f30 _ _ (by omega)]; exact h2, StP_cg (fun c j z => f30 c j (p1_k z)) h3, Or.inr ⟨e3', s, rfl, w3⟩, XpP_cg (fun c j z => f30 c j (p2_k z)) h5⟩ e3' w3 f30 fl1
    · refine R242_15 H ⟨⟨by decide, by decide⟩, fun z => absurd rfl z, fun _ => ?_⟩
      exact hX m1 l1 hno ⟨BsR_of h1 (hw1.2.1.2.2.1) hw1.2.2.2.2.2.2 (fun c i z => f1 c i (k1_e (k1_b z))), by rw [f1 _ _ (by omega)]; exact h2, StP_cg (fun c j z => f1 c j (k1_e (p1_k z))) h3, Or.inl e75', XpP_cg (fun c j z => f1 c j (k1_e (p2_k z))) h5⟩ f1 fl1
  · have es' : s = s' := Option.some.inj es
    rw [← es'] at hw
    refine R242_0 H ⟨by rw [e75]; exact ⟨by decide, by decide⟩, fun _ => ?_, fun z => absurd (by rw [e75]; decide) z⟩
    obtain ⟨T, S, hE, _⟩ := id hw
    exact hok m0 l0 ⟨S, hE⟩ hI e75 hw (fun _ _ _ => rfl) (fun _ _ _ => rfl)
end RWK
