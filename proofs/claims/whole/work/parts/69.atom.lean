/-! ===== the reference's beginAtom ===== -/
/-- the memory with an atom begun, as head (0) or condition -/
noncomputable def abM (mm : PM) (v s : Int) : PM := m_place (m_newAtom mm v) (mm 125 18 + 1 - 1) s
/-- an atom has been begun -/
def AB (m m' : PM) (v s : Int) : Prop :=
  (∀ c j, ¬ ((c = 125 ∧ (j = 9 ∨ j = 15 ∨ j = 18)) ∨ c = 129 ∨ c = 130 ∨ (c = 131 ∧ j = m 125 12 - 1) ∨ (c = 132 ∧ j = m 125 12) ∨ ((c = 133 ∨ c = 134) ∧ j = m 125 15) ∨ ((c = 135 ∨ c = 137) ∧ j = m 125 18)) → m' c j = m c j) ∧ m' 125 18 = m 125 18 + 1 ∧ m' 135 (m 125 18) = v ∧ m' 137 (m 125 18) = 0 ∧ (s = 0 → m' 131 (m 125 12 - 1) = m 125 18 ∧ m' 125 15 = m 125 15 ∧ m' 132 (m 125 12) = m 132 (m 125 12)) ∧ (¬ s = 0 → m' 133 (m 125 15) = s ∧ m' 134 (m 125 15) = m 125 18 ∧ m' 125 15 = m 125 15 + 1 ∧ m' 132 (m 125 12) = m 125 15 + 1 ∧ m' 131 (m 125 12 - 1) = m 131 (m 125 12 - 1))
section ATM
variable {t : Int → Int} {n : Int} {m mm : PM} {i : Nat} {vs : List (List Int)} {v s o : Int} {μ : am_Mem} {l : PM}
theorem abM_AB (hs : ∀ c j, ¬ (c = 129 ∨ c = 130 ∨ (c = 125 ∧ j = 9)) → mm c j = m c j) : AB m (abM mm v s) v s ∧ abM mm v s 125 9 = mm 125 9 ∧ (∀ j, abM mm v s 129 j = mm 129 j) ∧ (∀ j, abM mm v s 130 j = mm 130 j) := by
  have e18 : mm 125 18 = m 125 18 := hs _ _ (by omega)
  have e12 : mm 125 12 = m 125 12 := hs _ _ (by omega)
  have e15 : mm 125 15 = m 125 15 := hs _ _ (by omega)
  have ea : mm 125 18 + 1 - 1 = m 125 18 := by omega
  unfold abM
  rw [ea]
  generalize hX : m_newAtom mm v = X
  have hXe : X = up (up (up mm 135 (m 125 18) v) 137 (m 125 18) 0) 125 18 (m 125 18 + 1) := by rw [← hX]; unfold m_newAtom; rw [e18]
  have x12 : X 125 12 = m 125 12 := by rw [hXe, up_i (by decide), up_c (by decide), up_c (by decide), e12]
  have x15 : X 125 15 = m 125 15 := by rw [hXe, up_i (by decide), up_c (by decide), up_c (by decide), e15]
  by_cases q : s = 0
  · have e : m_place X (m 125 18) s = up X 131 (m 125 12 - 1) (m 125 18) := by
      unfold m_place
      rw [if_neg (fun z => z q), x12]
    rw [e, hXe]
    refine ⟨⟨fun c j h => ?_, ?_, ?_, ?_, fun _ => ⟨up_s _ _ _ _, ?_, ?_⟩, fun z => absurd q z⟩, ?_, fun j => ?_, fun j => ?_⟩
    · rw [up_o (by omega), up_o (by omega), up_o (by omega), up_o (by omega), hs c j (by omega)]
    · rw [up_c (by decide), up_s]
    · rw [up_c (by decide), up_c (by decide), up_c (by decide), up_s]
    · rw [up_c (by decide), up_c (by decide), up_s]
    · rw [up_c (by decide), up_i (by decide), up_c (by decide), up_c (by decide), e15]
    · rw [up_c (by decide), up_c (by decide), up_c (by decide), up_c (by decide), hs _ _ (by omega)]
    · rw [up_c (by decide), up_i (by decide), up_c (by decide), up_c (by decide)]
    · rw [up_c (by decide), up_c (by decide), up_c (by decide), up_c (by decide)]
    · rw [up_c (by decide), up_c (by decide), up_c (by decide), up_c (by decide)]
  · have e : m_place X (m 125 18) s = up (up (up (up X 133 (m 125 15) s) 134 (m 125 15) (m 125 18)) 125 15 (m 125 15 + 1)) 132 (m 125 12) (m 125 15 + 1) := by
      unfold m_place m_addCondition
      rw [if_pos q, x15, x12]
    rw [e, hXe]
    refine ⟨⟨fun c j h => ?_, ?_, ?_, ?_, fun z => absurd z q, fun _ => ⟨?_, ?_, ?_, up_s _ _ _ _, ?_⟩⟩, ?_, fun j => ?_, fun j => ?_⟩
    · rw [up_o (by omega), up_o (by omega), up_o (by omega), up_o (by omega), up_o (by omega), up_o (by omega), up_o (by omega), hs c j (by omega)]
    · rw [up_c (by decide), up_i (by decide), up_c (by decide), up_c (by decide), up_s]
    · rw [up_c (by decide), up_c (by decide), up_c (by decide), up_c (by decide), up_c (by decide), up_c (by decide), up_s]
    · rw [up_c (by decide), up_c (by decide), up_c (by decide), up_c (by decide), up_c (by decide), up_s]
    · rw [up_c (by decide), up_c (by decide), up_c (by decide), up_s]
    · rw [up_c (by decide), up_c (by decide), up_s]
    · rw [up_c (by decide), up_s]
    · rw [up_c (by decide), up_c (by decide), up_c (by decide), up_c (by decide), up_c (by decide), up_c (by decide), up_c (by decide), hs _ _ (by omega)]
    · rw [up_c (by decide), up_i (by decide), up_c (by decide), up_c (by decide), up_i (by decide), up_c (by decide), up_c (by decide)]
    · rw [up_c (by decide), up_c (by decide), up_c (by decide), up_c (by decide), up_c (by decide), up_c (by decide), up_c (by decide)]
    · rw [up_c (by decide), up_c (by decide), up_c (by decide), up_c (by decide), up_c (by decide), up_c (by decide), up_c (by decide)]
theorem nmM_hs3 {a b : Int} : ∀ c j, ¬ (c = 129 ∨ c = 130 ∨ (c = 125 ∧ j = 9)) → nmM m a b c j = m c j := fun c j h => k_nmM (by omega) (by omega) (by omega)
/-- the reader's state behind an atom's beginning and a token -/
theorem AB_BI (hn : 0 ≤ n ∧ n ≤ 2000) (hB : BI t n m i vs) (hk : isN (tK t n i)) (s : Int) : BI t n (adM (abM (nmM m (m 125 30) (m 125 31)) v s)) (i + 1) vs ∧ (∀ x u, nX (nmM m (m 125 30) (m 125 31)) x u → nX (adM (abM (nmM m (m 125 30) (m 125 31)) v s)) x u) := by
  obtain ⟨a1, a2, a3, a4, a5⟩ := BI_name hn hB hk
  obtain ⟨⟨c1, -⟩, c9, c129, c130⟩ := abM_AB (v := v) (s := s) (nmM_hs3 (m := m) (a := m 125 30) (b := m 125 31))
  obtain ⟨⟨b1, b2, b3⟩, ⟨b4, b5, b6, b7⟩, ⟨b8, b9, b10⟩, b11, ⟨b12, b13, b14⟩, b15⟩ := hB
  have hnt : (nt t n (i + 1) : Int) = nt t n i + 1 := by
    show ((nt t n i + if isN (tK t n i) then 1 else 0 : Nat) : Int) = _
    rw [if_pos hk]
    omega
  have hX : ∀ x u, nX (nmM m (m 125 30) (m 125 31)) x u → nX (abM (nmM m (m 125 30) (m 125 31)) v s) x u := fun x u z => nX_cg c9 c129 c130 z
  have e128 : abM (nmM m (m 125 30) (m 125 31)) v s 128 = t := by
    funext j
    rw [c1 _ _ (by omega), b1]
  have e8 : abM (nmM m (m 125 30) (m 125 31)) v s 125 8 = n := by rw [c1 _ _ (by omega), b2]
  refine ⟨BI_adv e128 e8 (TX_cg (by rw [e8, b2]) (fun j => by rw [e128, b1]) b3) (by rw [c1 _ _ (by omega)]; exact b7) (NmW_cg c9 c129 c130 a2) (NmD_cg c9 c129 c130 a3) ⟨by rw [c9, hnt]; omega, by rw [nmL_cg c9 c129 c130, a4.2, b10.2, LsT_n hk]⟩ (by rw [c1 _ _ (by omega), hnt]; omega) ⟨by rw [c1 _ _ (by omega)]; exact b12, b13, fun j hj => by rw [c1 _ _ (by omega)]; exact hX _ _ (a5 _ _ (b14 j hj))⟩ (by rw [c1 _ _ (by omega)]; exact b15), fun x u z => nX_cg (adM_o (by omega)) (fun j => adM_o (by omega)) (fun j => adM_o (by omega)) (hX x u z)⟩
/-- the numbers of rules, conditions, atoms are small -/
abbrev RB (m : PM) : Prop := 1 ≤ m 125 12 ∧ m 125 12 ≤ 60 ∧ 0 ≤ m 125 15 ∧ m 125 15 < 500 ∧ 0 ≤ m 125 18 ∧ m 125 18 < 600
theorem ba_name (H : RS μ) (hn : 0 ≤ n ∧ n ≤ 2000) (hB : BI t n m i vs) (hR : RB m) (hs : iR s) (hp : pln t n i) (d : Nat) : Wp (d + 5) 174 (0, [some (.ref 125), some (.int (zI s))], [], sA μ m l) (pV (fun μ' => μ' = sA μ (adM (abM (nmM m (m 125 30) (m 125 31)) (nmI m (m 125 30) (m 125 31)) s)) l) noX) := by
  obtain ⟨a1, a2, a3, a4, a5⟩ := BI_name hn hB (Or.inl hp.1)
  have hg := BI_gN hn hB (Or.inl hp.1)
  have hpl := BI_plain hn hB hp.1
  have h31 := BI_31 hn.1 hB
  obtain ⟨⟨c1, -⟩, -⟩ := abM_AB (v := (nmI m (m 125 30) (m 125 31) : Int)) (s := s) (nmM_hs3 (m := m) (a := m 125 30) (b := m 125 31))
  obtain ⟨⟨b1, b2, b3⟩, ⟨b4, b5, b6, b7⟩, ⟨b8, b9, b10⟩, b11, b12, b13⟩ := hB
  have hk3 : m 125 28 = 3 := b4.trans hp.1
  refine R174_0 H ⟨by omega, fun z => absurd hk3 z, fun _ => ⟨by omega, ⟨fun _ => ⟨b3, b8, hg⟩, fun _ => trivial⟩, ?_⟩⟩
  rintro m1 rfl
  refine ⟨fun z => absurd (hpl.1.mp z) (fun y => y hp), fun _ => ?_⟩
  rw [hpl.2]
  have r30 : nmM m (m 125 30) (m 125 31) 125 30 = m 125 30 := k_nmM (by decide) (by decide) (by decide)
  have r31 : nmM m (m 125 30) (m 125 31) 125 31 = m 125 31 := k_nmM (by decide) (by decide) (by decide)
  have r8 : nmM m (m 125 30) (m 125 31) 125 8 = m 125 8 := k_nmM (by decide) (by decide) (by decide)
  have r18 : nmM m (m 125 30) (m 125 31) 125 18 = m 125 18 := k_nmM (by decide) (by decide) (by decide)
  have r128 : nmM m (m 125 30) (m 125 31) 128 = m 128 := funext fun j => k_nmM (by decide) (by decide) (by omega)
  have hT1 : TX (nmM m (m 125 30) (m 125 31)) := TX_cg r8 (fun j => congrFun r128 j) b3
  have h2 := nmM_2 (a := m 125 30) (b := m 125 31) a3 (by
    have e : sl (nmM m (m 125 30) (m 125 31) 128) (m 125 30) (m 125 31 - m 125 30).toNat = tW t n i := by
      unfold tW
      rw [r128, b1, b6, b7]
    rw [e]
    exact a1)
  rw [r30, r31]
  refine ⟨hT1, a2, hg, ?_⟩
  rintro m2 rfl v3 rfl
  rw [h2.1, h2.2]
  refine ⟨by rw [r18]; omega, ?_⟩
  rintro m4 rfl v5 rfl
  have x12 : m_newAtom (nmM m (m 125 30) (m 125 31)) (nmI m (m 125 30) (m 125 31)) 125 12 = m 125 12 := by rw [k_newAtom (by decide) (by decide) (by decide), k_nmM (by decide) (by decide) (by decide)]
  have x15 : m_newAtom (nmM m (m 125 30) (m 125 31)) (nmI m (m 125 30) (m 125 31)) 125 15 = m 125 15 := by rw [k_newAtom (by decide) (by decide) (by decide), k_nmM (by decide) (by decide) (by decide)]
  rw [x12, x15]
  refine ⟨hs, ⟨fun _ => ⟨by omega, by omega⟩, fun _ => by omega⟩, ?_⟩
  rintro m6 e6
  have e6' : m6 = abM (nmM m (m 125 30) (m 125 31)) (nmI m (m 125 30) (m 125 31)) s := e6
  rw [e6']
  refine ⟨TX_cg (c1 _ _ (by omega)) (fun j => c1 _ _ (by omega)) b3, by rw [c1 _ _ (by omega), c1 _ _ (by omega)]; exact h31, ?_⟩
  rintro m7 rfl
  exact rfl
/-- the memory behind a parenthesis and an atom's name -/
noncomputable def aoM (m : PM) (s : Int) : PM := adM (m_within (abM (nmM (adM m) (adM m 125 30) (adM m 125 31)) (nmI (adM m) (adM m 125 30) (adM m 125 31)) s) 2 (m 125 18))
theorem ba_open (H : RS μ) (hn : 0 ≤ n ∧ n ≤ 2000) (hB : BI t n m i vs) (hR : RB m) (hs : iR s) (h34 : 0 ≤ m 125 34 ∧ m 125 34 < 10) (hk : tK t n i = 1) (hp : pln t n (i + 1)) (d : Nat) : Wp (d + 5) 174 (0, [some (.ref 125), some (.int (zI s))], [], sA μ m l) (pV (fun μ' => μ' = sA μ (aoM m s) l) noX) := by
  have hB1 := BI_skip hB (nN1 (Or.inl hk))
  obtain ⟨a1, a2, a3, a4, a5⟩ := BI_name hn hB1 (Or.inl hp.1)
  have hg := BI_gN hn hB1 (Or.inl hp.1)
  have hpl := BI_plain hn hB1 hp.1
  have h31 := BI_31 hn.1 hB
  have h31' := BI_31 hn.1 hB1
  obtain ⟨⟨c1, c2, -⟩, -⟩ := abM_AB (v := (nmI (adM m) (adM m 125 30) (adM m 125 31) : Int)) (s := s) (nmM_hs3 (m := adM m) (a := adM m 125 30) (b := adM m 125 31))
  have z12 : adM m 125 12 = m 125 12 := adM_o (by omega)
  have z15 : adM m 125 15 = m 125 15 := adM_o (by omega)
  have z18 : adM m 125 18 = m 125 18 := adM_o (by omega)
  have z34 : adM m 125 34 = m 125 34 := adM_o (by omega)
  rw [z12, z15, z18] at c1
  rw [z18] at c2
  obtain ⟨⟨b1, b2, b3⟩, ⟨b4, b5, b6, b7⟩, ⟨b8, b9, b10⟩, b11, b12, b13⟩ := hB
  obtain ⟨⟨d1, d2, d3⟩, ⟨d4, d5, d6, d7⟩, ⟨d8, d9, d10⟩, d11, d12, d13⟩ := hB1
  have hk1 : m 125 28 = 1 := b4.trans hk
  have hk3 : adM m 125 28 = 3 := d4.trans hp.1
  have vo : v_opens m = 1 := if_pos (by omega)
  have mo : m_opens m = adM m := if_pos (by omega)
  refine R174_0 H ⟨by omega, fun _ => ?_, fun z => absurd z (by omega)⟩
  refine R174_41 H ⟨by omega, fun _ => ⟨by omega, ⟨fun _ => ⟨b3, h31⟩, fun z => absurd z (by omega)⟩, ?_⟩, fun z => absurd hk1 z⟩
  rintro m1 e1
  rw [mo] at e1
  subst e1
  refine ⟨fun _ => ⟨by omega, ⟨fun _ => ⟨d3, d8, hg⟩, fun _ => trivial⟩, ?_⟩, fun z => absurd (by rw [vo]; decide) z⟩
  rintro m2 rfl
  refine ⟨fun z => absurd (hpl.1.mp z) (fun y => y hp), fun _ => ?_⟩
  rw [hpl.2]
  have r30 : nmM (adM m) (adM m 125 30) (adM m 125 31) 125 30 = adM m 125 30 := k_nmM (by decide) (by decide) (by decide)
  have r31 : nmM (adM m) (adM m 125 30) (adM m 125 31) 125 31 = adM m 125 31 := k_nmM (by decide) (by decide) (by decide)
  have r8 : nmM (adM m) (adM m 125 30) (adM m 125 31) 125 8 = adM m 125 8 := k_nmM (by decide) (by decide) (by decide)
  have r18 : nmM (adM m) (adM m 125 30) (adM m 125 31) 125 18 = m 125 18 := by rw [k_nmM (by decide) (by decide) (by decide), z18]
  have r128 : nmM (adM m) (adM m 125 30) (adM m 125 31) 128 = adM m 128 := funext fun j => k_nmM (by decide) (by decide) (by omega)
  have hT1 : TX (nmM (adM m) (adM m 125 30) (adM m 125 31)) := TX_cg r8 (fun j => congrFun r128 j) d3
  have h2 := nmM_2 (a := adM m 125 30) (b := adM m 125 31) a3 (by
    have e : sl (nmM (adM m) (adM m 125 30) (adM m 125 31) 128) (adM m 125 30) (adM m 125 31 - adM m 125 30).toNat = tW t n (i + 1) := by
      unfold tW
      rw [r128, d1, d6, d7]
    rw [e]
    exact a1)
  rw [r30, r31]
  refine ⟨hT1, a2, hg, ?_⟩
  rintro m6 rfl v7 rfl
  rw [h2.1, h2.2]
  refine ⟨by rw [r18]; omega, ?_⟩
  rintro m8 rfl v9 rfl
  have x12 : m_newAtom (nmM (adM m) (adM m 125 30) (adM m 125 31)) (nmI (adM m) (adM m 125 30) (adM m 125 31)) 125 12 = m 125 12 := by rw [k_newAtom (by decide) (by decide) (by decide), k_nmM (by decide) (by decide) (by decide), z12]
  have x15 : m_newAtom (nmM (adM m) (adM m 125 30) (adM m 125 31)) (nmI (adM m) (adM m 125 30) (adM m 125 31)) 125 15 = m 125 15 := by rw [k_newAtom (by decide) (by decide) (by decide), k_nmM (by decide) (by decide) (by decide), z15]
  rw [x12, x15]
  refine ⟨hs, ⟨fun _ => ⟨by omega, by omega⟩, fun _ => by omega⟩, ?_⟩
  rintro m10 e10
  have e10' : m10 = abM (nmM (adM m) (adM m 125 30) (adM m 125 31)) (nmI (adM m) (adM m 125 30) (adM m 125 31)) s := e10
  rw [e10']
  have g34 : abM (nmM (adM m) (adM m 125 30) (adM m 125 31)) (nmI (adM m) (adM m 125 30) (adM m 125 31)) s 125 34 = m 125 34 := by rw [c1 _ _ (by omega), z34]
  have e18 : abM (nmM (adM m) (adM m 125 30) (adM m 125 31)) (nmI (adM m) (adM m 125 30) (adM m 125 31)) s 125 18 - 1 = m 125 18 := by rw [c2]; omega
  refine ⟨by rw [g34]; omega, ?_⟩
  rw [e18]
  rintro m11 rfl
  refine ⟨TX_cg (c1 _ _ (by omega)) (fun j => c1 _ _ (by omega)) d3, ?_, ?_⟩
  · rw [within_eq g34, up_i (by decide), up_c (by decide), up_c (by decide), up_c (by decide), up_i (by decide), up_c (by decide), up_c (by decide), up_c (by decide), c1 _ _ (by omega), c1 _ _ (by omega)]
    exact h31'
  · rintro m12 rfl
    exact rfl
end ATM
