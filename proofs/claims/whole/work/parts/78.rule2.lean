/-! ===== the reference's reader: a rule, whole ===== -/
section RU3
variable {t : Int → Int} {n : Int} {μ : am_Mem} {l : PM}
theorem br_open (H : RS μ) (hn : 0 ≤ n ∧ n ≤ 2000) {m : PM} {i : Nat} {vs : List (List Int)} (hB : BI t n m i vs) (hR : RB0 m) (h34 : m 125 34 = 0) (hk : tK t n i = 1) (hp : pln t n (i + 1)) (d : Nat) : Wp (d + 7) 163 (0, [some (.ref 125)], [], sA μ m l) (pV (fun μ' => μ' = sA μ (adM (m_within (rnM (adM m)) 2 (m 125 18))) l) noX) := by
  have hB1 := BI_skip hB (nN1 (Or.inl hk))
  obtain ⟨a1, a2, a3, a4, a5⟩ := BI_name hn hB1 (Or.inl hp.1)
  have hg := BI_gN hn hB1 (Or.inl hp.1)
  have hpl := BI_plain hn hB1 hp.1
  have h31 := BI_31 hn.1 hB
  have h31' := BI_31 hn.1 hB1
  obtain ⟨c1, c2, c3, -, -, -, -, -, -, -, -, ctk⟩ := rn_f (m := adM m) (m0 := m) (fun _ _ q => adM_o q)
  have z12 : adM m 125 12 = m 125 12 := adM_o (by omega)
  have z18 : adM m 125 18 = m 125 18 := adM_o (by omega)
  have z8 : adM m 125 8 = m 125 8 := adM_o (by omega)
  obtain ⟨⟨b1, b2, b3⟩, ⟨b4, b5, b6, b7⟩, ⟨b8, b9, b10⟩, b11, b12, b13⟩ := hB
  obtain ⟨⟨d1, d2, d3⟩, ⟨d4, d5, d6, d7⟩, ⟨d8, d9, d10⟩, d11, d12, d13⟩ := hB1
  have hk1 : m 125 28 = 1 := b4.trans hk
  have hk3 : adM m 125 28 = 3 := d4.trans hp.1
  have vo : v_opens m = 1 := if_pos (by omega)
  have mo : m_opens m = adM m := if_pos (by omega)
  refine R163_0 H ⟨by omega, fun z => absurd z (by omega), fun _ => ⟨by omega, fun _ => ?_, fun z => absurd hk1 z⟩⟩
  refine R163_34 H ⟨by omega, fun _ => ⟨by omega, ⟨fun _ => ⟨b3, h31⟩, fun z => absurd z (by omega)⟩, ?_⟩, fun z => absurd z (by omega)⟩
  rintro m1 e1
  rw [mo] at e1
  subst e1
  refine ⟨fun _ => ⟨by omega, fun _ => ⟨by omega, ⟨fun _ => ⟨d3, d8, hg⟩, fun _ => trivial⟩, ?_⟩, fun z => absurd z (by omega)⟩, fun z => absurd (by rw [vo]; decide) z⟩
  rintro m2 rfl
  refine ⟨fun z => absurd (hpl.1.mp z) (fun y => y hp), fun _ => ?_⟩
  rw [hpl.2]
  have r30 : nmM (adM m) (adM m 125 30) (adM m 125 31) 125 30 = adM m 125 30 := k_nmM (by decide) (by decide) (by decide)
  have r31 : nmM (adM m) (adM m 125 30) (adM m 125 31) 125 31 = adM m 125 31 := k_nmM (by decide) (by decide) (by decide)
  have r8 : nmM (adM m) (adM m 125 30) (adM m 125 31) 125 8 = adM m 125 8 := k_nmM (by decide) (by decide) (by decide)
  have r12 : nmM (adM m) (adM m 125 30) (adM m 125 31) 125 12 = m 125 12 := by rw [k_nmM (by decide) (by decide) (by decide), z12]
  have r18 : nmM (adM m) (adM m 125 30) (adM m 125 31) 125 18 = m 125 18 := by rw [k_nmM (by decide) (by decide) (by decide), z18]
  have r128 : nmM (adM m) (adM m 125 30) (adM m 125 31) 128 = adM m 128 := funext fun j => k_nmM (by decide) (by decide) (by omega)
  have hT1 : TX (nmM (adM m) (adM m 125 30) (adM m 125 31)) := TX_cg r8 (fun j => congrFun r128 j) d3
  have h2 := nmM_2 (a := adM m 125 30) (b := adM m 125 31) a3 (by
    have e : sl (nmM (adM m) (adM m 125 30) (adM m 125 31) 128) (adM m 125 30) (adM m 125 31 - adM m 125 30).toNat = tW t n (i + 1) := by
      unfold tW
      rw [r128, d1, d6, d7]
    rw [e]
    exact a1)
  rw [r30, r31]
  refine ⟨hT1, a2, hg, ?_⟩
  rintro m4 rfl v5 rfl
  rw [h2.1, h2.2, r18]
  refine ⟨by omega, ?_⟩
  rintro m6 rfl v7 e7
  have x12 : m_newAtom (nmM (adM m) (adM m 125 30) (adM m 125 31)) (nmI (adM m) (adM m 125 30) (adM m 125 31)) 125 12 = m 125 12 := by rw [k_newAtom (by decide) (by decide) (by decide), r12]
  have x18 : m_newAtom (nmM (adM m) (adM m 125 30) (adM m 125 31)) (nmI (adM m) (adM m 125 30) (adM m 125 31)) 125 18 - 1 = m 125 18 := by unfold m_newAtom; rw [up_s, r18]; omega
  have e7' : v7 = m 125 18 := by omega
  rw [x12, x18, e7']
  refine ⟨by omega, by omega, ?_⟩
  rintro m8 e8
  have e8' : m8 = rnM (adM m) := by
    rw [e8]
    unfold rnM
    rw [z18]
  rw [e8']
  have g34 : rnM (adM m) 125 34 = 0 := by rw [c1 _ _ (by omega)]; exact h34
  refine ⟨by rw [g34]; omega, ?_⟩
  rintro m9 rfl
  refine ⟨?_, ?_⟩
  · rw [within_eq g34, up_i (by decide), up_c (by decide), up_c (by decide), up_c (by decide), up_i (by decide), up_c (by decide), up_c (by decide), up_c (by decide), ctk _ (by omega), c1 _ _ (by omega), ← z8]
    exact h31'
  · rintro m10 rfl
    exact rfl
/-- the memory behind ( <= -/
noncomputable def raM (m : PM) : PM := adM (m_within (m_newRule (adM m) (-1)) 1 (m 125 12))
theorem br_arrow (H : RS μ) (hn : 0 ≤ n ∧ n ≤ 2000) {m : PM} {i : Nat} {vs : List (List Int)} (hB : BI t n m i vs) (hR : RB0 m) (h34 : m 125 34 = 0) (hk : tK t n i = 1) (hk5 : tK t n (i + 1) = 5) (d : Nat) : Wp (d + 7) 163 (0, [some (.ref 125)], [], sA μ m l) (pV (fun μ' => μ' = sA μ (raM m) l) noX) := by
  have hB1 := BI_skip hB (nN1 (Or.inl hk))
  have h31 := BI_31 hn.1 hB
  have h31' := BI_31 hn.1 hB1
  have z12 : adM m 125 12 = m 125 12 := adM_o (by omega)
  have z34 : adM m 125 34 = 0 := by rw [adM_o (by omega)]; exact h34
  obtain ⟨⟨b1, b2, b3⟩, ⟨b4, b5, b6, b7⟩, ⟨b8, b9, b10⟩, b11, b12, b13⟩ := hB
  obtain ⟨⟨d1, d2, d3⟩, ⟨d4, d5, d6, d7⟩, ⟨d8, d9, d10⟩, d11, d12, d13⟩ := hB1
  have hk1 : m 125 28 = 1 := b4.trans hk
  have hk5' : adM m 125 28 = 5 := d4.trans hk5
  have vo : v_opens m = 1 := if_pos (by omega)
  have mo : m_opens m = adM m := if_pos (by omega)
  have hE := nr_eq (h := -1) z12
  refine R163_0 H ⟨by omega, fun z => absurd z (by omega), fun _ => ⟨by omega, fun _ => ?_, fun z => absurd hk1 z⟩⟩
  refine R163_34 H ⟨by omega, fun _ => ⟨by omega, ⟨fun _ => ⟨b3, h31⟩, fun z => absurd z (by omega)⟩, ?_⟩, fun z => absurd z (by omega)⟩
  rintro m1 e1
  rw [mo] at e1
  subst e1
  refine ⟨fun _ => ⟨by omega, fun z => absurd hk5' z, fun _ => ⟨by omega, by omega, ?_⟩⟩, fun z => absurd (by rw [vo]; decide) z⟩
  rintro m11 rfl
  have g34 : m_newRule (adM m) (-1) 125 34 = 0 := by rw [hE, up_c (by decide), up_i (by decide), up_i (by decide), up_c (by decide)]; exact z34
  have g12 : m_newRule (adM m) (-1) 125 12 - 1 = m 125 12 := by rw [hE, up_c (by decide), up_s]; omega
  refine ⟨by rw [g34]; omega, ?_⟩
  rw [g12]
  rintro m12 rfl
  refine ⟨d3, ?_, ?_⟩
  · rw [within_eq g34, up_i (by decide), up_c (by decide), up_c (by decide), up_c (by decide), up_i (by decide), up_c (by decide), up_c (by decide), up_c (by decide), hE, up_c (by decide), up_i (by decide), up_i (by decide), up_c (by decide), up_c (by decide), up_i (by decide), up_i (by decide), up_c (by decide)]
    exact h31'
  · rintro m13 rfl
    exact rfl
theorem bru_f (H : RS μ) (hn : 0 ≤ n ∧ n ≤ 2000) {m : PM} {i : Nat} {vs : List (List Int)} (hB : BI t n m i vs) (hR : 0 ≤ m 125 12 ∧ m 125 12 ≤ 60) (h : m 125 12 = 60 ∨ (¬ pln t n i ∧ ¬ tK t n i = 1)) : ∃ m', (∀ d, Wp (d + 7) 163 (0, [some (.ref 125)], [], sA μ m l) (pV (fun μ' => μ' = sA μ m' l) noX)) ∧ Flt t n m m' i := by
  have hs := isPl_hs (m := m)
  have hgN := BI_gN hn hB
  by_cases q : m 125 12 = 60
  · refine ⟨m_fail m 1 (m 125 29), fun d => ?_, fail_Flt hB.2.2.2.2.2 hB.2.1.2.1 (fun _ _ _ => rfl)⟩
    refine R163_0 H ⟨by omega, fun _ => ⟨by rw [hB.2.2.2.2.2]; omega, ?_⟩, fun z => absurd q z⟩
    rintro m1 rfl
    exact rfl
  · obtain ⟨hp, h1⟩ : ¬ pln t n i ∧ ¬ tK t n i = 1 := by
      rcases h with z | z
      · exact absurd z q
      · exact z
    have hv := isPl_0 hn hB hp
    obtain ⟨⟨b1, b2, b3⟩, ⟨b4, b5, b6, b7⟩, ⟨b8, b9, b10⟩, b11, b12, b13⟩ := hB
    have hR' := tK_R t n i
    rw [← b4] at hR'
    refine ⟨m_fail (m_isPlainName m) 1 (m_isPlainName m 125 29), fun d => ?_, fail_Flt (by rw [hs _ _ (by omega)]; exact b13) (by rw [hs _ _ (by omega)]; exact b5) (fun c j h => hs c j (by omega))⟩
    refine R163_0 H ⟨by omega, fun z => absurd z q, fun _ => ⟨hR', fun z => absurd (b4.symm.trans z) h1, fun _ => ⟨hR', ⟨fun z => ⟨b3, b8, hgN (Or.inl (b4.symm.trans z))⟩, fun _ => trivial⟩, ?_⟩⟩⟩
    rintro m2 rfl
    refine ⟨fun z => absurd hv z, fun _ => ⟨by rw [hs _ _ (by omega), b13]; omega, ?_⟩⟩
    rintro m3 rfl
    exact rfl
theorem bru_f3 (H : RS μ) (hn : 0 ≤ n ∧ n ≤ 2000) {m : PM} {i : Nat} {vs : List (List Int)} (hB : BI t n m i vs) (hR : RB0 m) (h34 : m 125 34 = 0) (h1 : tK t n i = 1) (h5 : ¬ tK t n (i + 1) = 5) (hp : ¬ pln t n (i + 1)) : ∃ m', (∀ d, Wp (d + 7) 163 (0, [some (.ref 125)], [], sA μ m l) (pV (fun μ' => μ' = sA μ m' l) noX)) ∧ Flt t n m m' (i + 1) := by
  have hB1 := BI_skip hB (nN1 (Or.inl h1))
  have hv := isPl_0 hn hB1 hp
  have hs := isPl_hs (m := adM m)
  have hgN := BI_gN hn hB1
  have h31 := BI_31 hn.1 hB
  obtain ⟨⟨b1, b2, b3⟩, ⟨b4, b5, b6, b7⟩, ⟨b8, b9, b10⟩, b11, b12, b13⟩ := hB
  obtain ⟨⟨c1, c2, c3⟩, ⟨c4, c5, c6, c7⟩, ⟨c8, c9, c10⟩, c11, c12, c13⟩ := hB1
  have hk1 : m 125 28 = 1 := b4.trans h1
  have hR1 := tK_R t n (i + 1)
  rw [← c4] at hR1
  have vo : v_opens m = 1 := if_pos (by omega)
  have mo : m_opens m = adM m := if_pos (by omega)
  refine ⟨m_fail (m_isPlainName (adM m)) 1 (m_isPlainName (adM m) 125 29), fun d => ?_, fail_Flt (by rw [hs _ _ (by omega)]; exact c13) (by rw [hs _ _ (by omega)]; exact c5) (fun c j h => by rw [hs c j (by omega), adM_o (by omega)])⟩
  refine R163_0 H ⟨by omega, fun z => absurd z (by omega), fun _ => ⟨by omega, fun _ => ?_, fun z => absurd hk1 z⟩⟩
  refine R163_34 H ⟨by omega, fun _ => ⟨by omega, ⟨fun _ => ⟨b3, h31⟩, fun z => absurd z (by omega)⟩, ?_⟩, fun z => absurd z (by omega)⟩
  rintro m1 e1
  rw [mo] at e1
  subst e1
  refine ⟨fun _ => ⟨hR1, fun _ => ⟨hR1, ⟨fun z => ⟨c3, c8, hgN (Or.inl (c4.symm.trans z))⟩, fun _ => trivial⟩, ?_⟩, fun z => absurd (fun y => h5 (c4.symm.trans y)) z⟩, fun z => absurd (by rw [vo]; decide) z⟩
  rintro m2 rfl
  refine ⟨fun _ => ⟨by rw [hs _ _ (by omega), c13]; omega, ?_⟩, fun z => absurd hv z⟩
  rintro m3 rfl
  exact rfl
end RU3
