/-! ===== the class's store: tell, intern ===== -/
/-- a state's sum -/
noncomputable def smL (X : Int → List Int → Prop) (A : List (List Cd)) : Int := (A.map (hsO X)).sum
noncomputable def smH (X : Int → List Int → Prop) (A : List (List Cd)) : Int := (zI (smL X A)).toInt
theorem sA_wr (μ : am_Mem) (m l : PM) (c : Nat) (i v : Int) : sA μ (up m c i v) l = sA μ (up m c i (zI v).toInt) l := by
  unfold sA
  refine Prod.ext rfl (Prod.ext rfl (Prod.ext rfl (Prod.ext ?_ rfl)))
  funext c' j'
  show zI (up m c i v c' (j' : Int)) = zI (up m c i (zI v).toInt c' (j' : Int))
  unfold up
  split
  · exact (zI_rev _).symm
  · rfl
/-- one state's codes in the store, the n-th -/
def St1 (X : Int → List Int → Prop) (m : PM) (e : Nat) (n : Nat) (A : List (List Cd)) : Prop := ∃ f : Nat, m 109 (n : Int) = (f : Int) ∧ m 109 ((n : Int) + 1) = (f : Int) + (A.flatten.length : Int) ∧ f + A.flatten.length ≤ cN e ∧ f ≤ 1140 * n ∧ CdR X m e (f : Int) A.flatten ∧ m 110 (n : Int) = smH X A
/-- good lists of terms -/
def GdL (A : List (List Cd)) : Prop := A.length ≤ 60 ∧ ∀ p, p ∈ A → GdC p ∧ p.length ≤ 19
/-- the store: the states, each in its order -/
def StI (X : Int → List Int → Prop) (m : PM) (e : Nat) (As : List (List (List Cd))) : Prop := m 107 3 = (As.length : Int) ∧ As.length ≤ 300 ∧ m 109 0 = 0 ∧ (∀ j, 0 ≤ m e j ∧ m e j ≤ 32767) ∧ (∀ i : Nat, i < As.length → St1 X m e i (As.getD i []) ∧ GdL (As.getD i [])) ∧ ∃ f : Nat, m 109 (As.length : Int) = (f : Int) ∧ f ≤ cN e ∧ f ≤ 1140 * As.length
theorem flat_19 : ∀ {A : List (List Cd)}, (∀ p, p ∈ A → p.length ≤ 19) → A.flatten.length ≤ 19 * A.length := by
  intro A
  induction A with
  | nil => intro _; exact Nat.le_refl _
  | cons p A ih =>
    intro h
    have h1 := h p List.mem_cons_self
    have h2 := ih (fun q hq => h q (List.mem_cons_of_mem _ hq))
    rw [List.flatten_cons, List.length_append, List.length_cons]
    omega
theorem GdL_f {A : List (List Cd)} (h : GdL A) : A.flatten.length ≤ 1140 := by
  have := flat_19 (fun p hp => (h.2 p hp).2)
  have := h.1
  omega
theorem take_aL {A : List (List Cd)} {j : Nat} (h : j < A.length) : A.take (j + 1) = A.take j ++ [A.getD j []] := by
  rw [List.take_succ_eq_append_getElem h, List.getD_eq_getElem?_getD, List.getElem?_eq_getElem h]
  rfl
theorem CdR_cg {X : Int → List Int → Prop} {m m' : PM} {e e' : Nat} {b : Int} {cs : List Cd} (k : ∀ j, b ≤ j → j < b + (cs.length : Int) → m' e' j = m e j) (h : CdR X m e b cs) : CdR X m' e' b cs := fun i hi => by
  obtain ⟨x, h1, h2, h3⟩ := h i hi
  exact ⟨x, h1, h2, by rw [k _ (by omega) (by omega)]; exact h3⟩
theorem CdR_app {X : Int → List Int → Prop} {m : PM} {e : Nat} {b : Int} {cs ds : List Cd} (h : CdR X m e b cs) (h' : CdR X m e (b + (cs.length : Int)) ds) : CdR X m e b (cs ++ ds) := fun k hk => by
  by_cases y : k < cs.length
  · obtain ⟨x, h1, h2, h3⟩ := h k y
    have eg : (cs ++ ds).getD k (0, []) = cs.getD k (0, []) := by rw [List.getD_eq_getElem?_getD, List.getElem?_append_left y, ← List.getD_eq_getElem?_getD]
    rw [eg]
    exact ⟨x, h1, h2, h3⟩
  · rw [List.length_append] at hk
    obtain ⟨k', rfl⟩ : ∃ k', k = cs.length + k' := ⟨k - cs.length, by omega⟩
    obtain ⟨x, h1, h2, h3⟩ := h' k' (by omega)
    have eg : (cs ++ ds).getD (cs.length + k') (0, []) = ds.getD k' (0, []) := by rw [List.getD_eq_getElem?_getD, List.getElem?_append_right (by omega), show cs.length + k' - cs.length = k' by omega, ← List.getD_eq_getElem?_getD]
    rw [eg]
    exact ⟨x, h1, h2, by rw [← h3]; congr 1; omega⟩
/-- the same codes, the same list -/
theorem CdR_uni {X : Int → List Int → Prop} (hX : XP X) {m m' : PM} {e e' : Nat} {b b' : Int} {A A' : List (List Cd)} (hA : ∀ p, p ∈ A → GdC p) (hA' : ∀ p, p ∈ A' → GdC p) (hl : A.flatten.length = A'.flatten.length) (h : CdR X m e b A.flatten) (h' : CdR X m' e' b' A'.flatten) : (∀ k : Nat, k < A.flatten.length → m e (b + (k : Int)) = m' e' (b' + (k : Int))) ↔ A = A' := by
  constructor
  · intro hk
    refine flat_uni hA hA' (List.ext_getElem hl (fun k k1 k2 => ?_))
    obtain ⟨x, h1, h2, h3⟩ := h k k1
    obtain ⟨x', g1, g2, g3⟩ := h' k k2
    have z := hk k k1
    rw [h3, g3] at z
    have r := (hX.1 _ _ h1).1
    have r' := (hX.1 _ _ g1).1
    have ea : (A.flatten.getD k (0, [])).1 = (A'.flatten.getD k (0, [])).1 := by omega
    have ex : x = x' := by omega
    have ew := hX.2.1 _ _ _ h1 (by rw [ex]; exact g1)
    have e2 : A.flatten.getD k (0, []) = A'.flatten.getD k (0, []) := Prod.ext ea ew
    rw [List.getD_eq_getElem?_getD, List.getD_eq_getElem?_getD, List.getElem?_eq_getElem k1, List.getElem?_eq_getElem k2] at e2
    exact e2
  · intro e2 k hk
    obtain ⟨x, h1, h2, h3⟩ := h k hk
    obtain ⟨x', g1, g2, g3⟩ := h' k (by omega)
    rw [← e2] at g1 g2 g3
    rw [h3, g3, hX.2.2.1 _ _ _ h1 g1]
section CTL
variable {d : Nat} {Q : Option Value ⊕ Nat → am_Mem → Prop} {X : Int → List Int → Prop} {μ : am_Mem} {m l : PM} {s q e T r1 L1 : Nat} {As : List (List (List Cd))} {A : List (List Cd)}
/-- what telling writes -/
abbrev WTl (e c : Nat) : Prop := c = 112 ∨ c = e ∨ c = 109 ∨ c = 110
/-- a state is told behind the others -/
theorem k_tell (hS : ShX s μ q e) (hX : XP X) (hX2 : ∀ x w, X x w → x < 1024) (hI : CtT X q (tN q) (tS q) m T) (hSt : StI X m e As) (hA : GdL A) (k1 : am_kd μ r1 = (2, L1)) (b1 : L1 ≤ 2000) (hr1 : 94 ≤ r1 ∧ r1 < 107) (hL1 : A.length ≤ L1) (hrow : RwC X q m T r1 0 A)
    (hk : ∀ (μ' : am_Mem) (m' l' : PM) (e' : Nat), Gx μ q e μ' q e' → ShX s μ' q e' → StI X m' e' As → St1 X m' e' As.length A → (∀ c j, c < am_n μ → ¬ WTl e c → m' c j = m c j) → (∀ c j, c < am_n μ → l' c j = l c j) → Q (.inl none) (sA μ' m' l')) :
    Wp (d + 2) 84 (0, [some (.ref 107), some (.ref r1), some (.int (zI (A.length : Int))), some (.ref 84), none, none], [], sA μ m l) Q := by
  obtain ⟨t1, t2, t3, t4, t5, f, f1, f2, f3⟩ := id hSt
  have hx7 := hS.2.2.2.2
  have hx3 := hS.2.2.1
  have hx6 := hS.2.2.2.1
  refine st_0 hS t4 t1 t2 f1 (by omega) f2 (fun μ1 m1 l1 e1 G1 S1 fr1 ce1 sh1 hroom => ?_)
  obtain ⟨⟨s1, s2, s3, s4, s5, s6⟩, ⟨x1', x2'⟩, ⟨x3, x4, x5⟩, x6, x7⟩ := id S1
  have hq := TQ_q s3
  have hE := hE_of S1
  have hTN := hI.1.2.1
  have h58 := tN_le q
  have hAf := GdL_f hA
  have k1' : am_kd μ1 r1 = (2, L1) := (G1.2.1 r1 (by omega)).trans k1
  have fr : ∀ c j, c < am_n μ → m1 c j = m c j := fun c j hc => (fr1 c j hc).1
  have e107 : m1 107 3 = (As.length : Int) := (fr _ _ (by omega)).trans t1
  have hqn : q + 8 ≤ am_n μ := hS.1.2.2.2.1.2
  have hI1 : CtT X q (tN q) (tS q) m1 T := CtT_fr (fun c j z => fr c j (by omega)) hI
  have cg1 : ∀ t cs, t < T → Cg X q m t cs → Cg X q m1 t cs := fun t cs ht h => CgR_cg (T := T) (fun t _ => ⟨fr _ _ (by omega), fr _ _ (by omega), fun i _ => fr _ _ (by omega)⟩) _ t cs ht h
  have hrow1 : RwC X q m1 T r1 0 A := RwC_st (Nat.le_refl _) (fun j _ _ => fr _ _ (by omega)) cg1 hrow
  have hee : e1 = e ∨ am_n μ ≤ e1 := by
    rcases G1.2.2.2.2.1 with h | h
    · exact Or.inl h
    · exact Or.inr h.2
  refine K84_38 s1 s2 hq x1' x2' hE k1' b1 ?_
  rw [e107]
  refine ⟨⟨by omega, by omega⟩, fun m2 em2 => ?_⟩
  have base : ∀ c j, ¬ (c = 110 ∧ j = (As.length : Int)) → m2 c j = m1 c j := fun c j z => by rw [em2, up_o z]
  have loop : ∀ (g i : Nat) (m3 : PM), i + g = A.length → (∀ c j, ¬ (c = 112 ∨ (c = e1 ∧ (f : Int) ≤ j ∧ j < (f : Int) + 1140) ∨ (c = 110 ∧ j = (As.length : Int))) → m3 c j = m1 c j) → m3 110 (As.length : Int) = smL X (A.take i) → CdR X m3 e1 (f : Int) (A.take i).flatten → (∀ j, 0 ≤ m3 e1 j ∧ m3 e1 j ≤ 32767) → Wp (d + 2) 84 (51, [some (.ref 107), some (.ref r1), some (.int (zI (A.length : Int))), some (.ref 84), some (.int (zI ((f : Int) + ((A.take i).flatten.length : Int)))), some (.int (zI (i : Int)))], [], sA μ1 m3 l1) Q := by
    intro g
    induction g with
    | zero =>
      intro i m3 hi f3' hsm hcd hsh
      have ei : i = A.length := by omega
      rw [ei, List.take_length] at hsm hcd ⊢
      have e3 : m3 107 3 = (As.length : Int) := (f3' _ _ (by omega)).trans e107
      refine K84_51 s1 s2 hq x1' x2' hE k1' b1 ⟨⟨by omega, by omega⟩, ⟨by omega, by omega⟩, fun _ => ?_, fun z => absurd (by omega) z⟩
      rw [e3]
      refine ⟨⟨by omega, by omega⟩, ?_⟩
      -- the sum as the machine has it
      have hw : sA μ1 (up m3 109 ((As.length : Int) + 1) ((f : Int) + (A.flatten.length : Int))) l1 = sA μ1 (up (up m3 109 ((As.length : Int) + 1) ((f : Int) + (A.flatten.length : Int))) 110 (As.length : Int) (smH X A)) l1 := by
        have h110 : up m3 109 ((As.length : Int) + 1) ((f : Int) + (A.flatten.length : Int)) 110 (As.length : Int) = smL X A := by rw [up_c (by decide)]; exact hsm
        exact (congrArg (fun z => sA μ1 z l1) (up_self h110).symm).trans (sA_wr μ1 _ l1 110 _ _)
      rw [hw]
      generalize hm4 : up (up m3 109 ((As.length : Int) + 1) ((f : Int) + (A.flatten.length : Int))) 110 (As.length : Int) (smH X A) = m4
      have o4 : ∀ c j, ¬ (c = 109 ∧ j = (As.length : Int) + 1) → ¬ (c = 110 ∧ j = (As.length : Int)) → m4 c j = m3 c j := fun c j z1 z2 => by rw [← hm4, up_o z2, up_o z1]
      have o1 : ∀ c j, ¬ (c = 109 ∧ j = (As.length : Int) + 1) → ¬ (c = 112 ∨ (c = e1 ∧ (f : Int) ≤ j ∧ j < (f : Int) + 1140) ∨ (c = 110 ∧ j = (As.length : Int))) → m4 c j = m1 c j := fun c j z1 z2 => (o4 c j z1 (fun y => z2 (Or.inr (Or.inr y)))).trans (f3' c j z2)
      have hold : ∀ i : Nat, i < As.length → St1 X m4 e1 i (As.getD i []) ∧ GdL (As.getD i []) := fun i hi => by
        obtain ⟨⟨g, g1, g2, g3, g4, g5, g6⟩, gl⟩ := t5 i hi
        have hle : g + (As.getD i []).flatten.length ≤ f := by
          have mono : ∀ (n k : Nat), i + 1 + n = k → k ≤ As.length → ∃ y : Nat, m 109 (k : Int) = (y : Int) ∧ g + (As.getD i []).flatten.length ≤ y := by
            intro n
            induction n with
            | zero =>
              intro k hk _
              refine ⟨g + (As.getD i []).flatten.length, ?_, Nat.le_refl _⟩
              rw [show (k : Int) = (i : Int) + 1 by omega, g2]
              omega
            | succ n ihn =>
              intro k hk hkl
              obtain ⟨y, y1, y2⟩ := ihn (k - 1) (by omega) (by omega)
              obtain ⟨⟨g', h1, h2, _⟩, _⟩ := t5 (k - 1) (by omega)
              rw [show ((k - 1 : Nat) : Int) + 1 = (k : Int) by omega] at h2
              exact ⟨g' + (As.getD (k - 1) []).flatten.length, by rw [h2]; omega, by omega⟩
          obtain ⟨y, y1, y2⟩ := mono (As.length - (i + 1)) As.length (by omega) (Nat.le_refl _)
          omega
        refine ⟨⟨g, ?_, ?_, ?_, g4, ?_, ?_⟩, gl⟩
        · rw [o1 _ _ (by omega) (by omega), fr _ _ (by omega)]; exact g1
        · rw [o1 _ _ (by omega) (by omega), fr _ _ (by omega)]; exact g2
        · have := hE.1
          rcases hee with h | h
          · rw [h]; exact g3
          · have hc : cN e1 = 343140 := if_neg (by omega)
            have : cN e ≤ 343140 := by
              have := hE_of hS
              omega
            omega
        · refine CdR_cg (fun j j1 j2 => ?_) g5
          rw [o1 _ _ (by omega) (by omega)]
          exact ce1 j (by omega)
        · rw [o1 _ _ (by omega) (by omega), fr _ _ (by omega)]; exact g6
      have hsh4 : ∀ j, 0 ≤ m4 e1 j ∧ m4 e1 j ≤ 32767 := fun j => by rw [o4 _ _ (by omega) (by omega)]; exact hsh j
      have hnew : St1 X m4 e1 As.length A := by
        refine ⟨f, ?_, ?_, by omega, f3, CdR_cg (fun j _ _ => o4 _ _ (by omega) (by omega)) hcd, by rw [← hm4, up_s]⟩
        · rw [o1 _ _ (by omega) (by omega), fr _ _ (by omega)]; exact f1
        · rw [← hm4, up_c (by decide), up_s]
      refine hk μ1 m4 l1 e1 G1 S1 ⟨?_, t2, ?_, hsh4, hold, f, ?_, by omega, f3⟩ hnew (fun c j hc z => ?_) (fun c j hc => (fr1 c j hc).2)
      · rw [o1 _ _ (by omega) (by omega)]; exact e107
      · rw [o1 _ _ (by omega) (by omega), fr _ _ (by omega)]; exact t3
      · rw [o1 _ _ (by omega) (by omega), fr _ _ (by omega)]; exact f1
      · rw [o1 _ _ (by omega) (by omega), fr _ _ hc]
    | succ g ih =>
      intro i m3 hi f3' hsm hcd hsh
      have hil : i < A.length := by omega
      obtain ⟨u, u1, u2, u3⟩ := hrow1 i hil
      rw [show (0 : Int) + (i : Int) = (i : Int) by omega] at u1
      have hpm : A.getD i [] ∈ A := gD_in hil
      obtain ⟨hp, hp19⟩ := hA.2 _ hpm
      have er : m3 r1 (i : Int) = (u : Int) := (f3' _ _ (by omega)).trans u1
      have cg13 : ∀ t cs, t < T → Cg X q m1 t cs → Cg X q m3 t cs := fun t cs ht h => CgR_cg (T := T) (fun t _ => ⟨f3' _ _ (by omega), f3' _ _ (by omega), fun i _ => f3' _ _ (by omega)⟩) _ t cs ht h
      have hI3 : CtT X q (tN q) (tS q) m3 T := CtT_fr (fun c j z => f3' c j (by omega)) hI1
      have et : (A.take (i + 1)).flatten = (A.take i).flatten ++ A.getD i [] := by
        rw [take_aL hil, List.flatten_append]
        simp
      have hlt : (A.take (i + 1)).flatten.length ≤ 1140 := by
        have h1 := flat_19 (A := A.take (i + 1)) (fun p hp => (hA.2 p (List.mem_of_mem_take hp)).2)
        rw [List.length_take] at h1
        have := hA.1
        omega
      rw [et, List.length_append] at hlt
      refine K84_51 s1 s2 hq x1' x2' hE k1' b1 ⟨⟨by omega, by omega⟩, ⟨by omega, by omega⟩, fun z => absurd z (by omega), fun _ => ?_⟩
      rw [er]
      refine ⟨⟨by omega, by omega⟩, fun y μ' => Wp (d + 2) 84 (68, [some (.ref 107), some (.ref r1), some (.int (zI (A.length : Int))), some (.ref 84), some (.int (zI ((f : Int) + ((A.take i).flatten.length : Int)))), some (.int (zI (i : Int)))], [.int y], μ') Q, noX, ?_, fun _ _ z => z, fun _ _ z => z.elim⟩
      refine k_tellTerm (d := d + 1) (Q := pI _ noX) (x1 := 0) S1 hX hX2 hI3 u2 (cg13 _ _ u2 u3) hp hp19 ⟨by omega, by omega⟩ (fun m4 hcd4 f4 hsh4 => ?_)
      show Wp (d + 2) 84 (68, _, [.int (zI _)], _) Q
      have e3 : m4 107 3 = (As.length : Int) := (f4 _ _ (by omega)).trans ((f3' _ _ (by omega)).trans e107)
      have er4 : m4 r1 (i : Int) = (u : Int) := (f4 _ _ (by omega)).trans er
      have eh : m4 (q + 4) (u : Int) = hsO X (A.getD i []) := by
        rw [f4 _ _ (by omega)]
        exact (Cg_h hX hI3.1 u2 (cg13 _ _ u2 u3) hp).1
      have es : m4 110 (As.length : Int) = smL X (A.take i) := (f4 _ _ (by omega)).trans hsm
      refine K84_68 s1 s2 hq x1' x2' hE k1' b1 ?_
      rw [e3, er4, eh, es]
      refine ⟨⟨by omega, by omega⟩, ⟨by omega, by omega⟩, ⟨by omega, by omega⟩, fun m5 e5 => ?_⟩
      have o5 : ∀ c j, ¬ (c = 110 ∧ j = (As.length : Int)) → m5 c j = m4 c j := fun c j z => by rw [e5, up_o z]
      have go := ih (i + 1) m5 (by omega) (fun c j z => ?_) ?_ ?_ (fun j => ?_)
      · rw [et, List.length_append, show ((i + 1 : Nat) : Int) = (i : Int) + 1 by omega, show (f : Int) + (((A.take i).flatten.length + (A.getD i []).length : Nat) : Int) = (f : Int) + ((A.take i).flatten.length : Int) + ((A.getD i []).length : Int) by omega] at go
        exact go
      · rw [o5 c j (fun y => z (Or.inr (Or.inr y))), f4 c j (by omega)]
        exact f3' c j z
      · rw [e5, up_s, take_aL hil]
        unfold smL
        rw [List.map_append, List.sum_append]
        simp
      · rw [et]
        refine CdR_app (CdR_cg (fun j j1 j2 => ?_) hcd) (CdR_cg (fun j _ _ => o5 _ _ (by omega)) hcd4)
        rw [o5 _ _ (by omega), f4 _ _ (by omega)]
      · rw [o5 _ _ (by omega)]
        by_cases y : (f : Int) + ((A.take i).flatten.length : Int) ≤ j ∧ j < (f : Int) + ((A.take i).flatten.length : Int) + ((A.getD i []).length : Int)
        · exact hsh4 j y.1 y.2
        · rw [f4 _ _ (by omega)]
          exact hsh j
  have go := loop A.length 0 m2 (by omega) (fun c j z => base c j (fun y => z (Or.inr (Or.inr y)))) (by rw [em2, up_s]; rfl) (fun k hk => absurd hk (by rw [List.take_zero]; exact Nat.not_lt_zero k)) (fun j => by rw [base _ _ (by omega)]; exact sh1 j)
  rw [show (f : Int) + ((A.take 0).flatten.length : Int) = (f : Int) by rw [List.take_zero]; show (f : Int) + ((0 : Nat) : Int) = _; omega] at go
  exact go
end CTL
