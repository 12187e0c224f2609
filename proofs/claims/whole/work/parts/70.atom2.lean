/-! ===== the reference's beginAtom: faults, not, distinct ===== -/
section AT2
variable {t : Int → Int} {n : Int} {m mm : PM} {i : Nat} {vs : List (List Int)} {v s o : Int} {μ : am_Mem} {l : PM}
theorem ba_f1 (H : RS μ) (hn : 0 ≤ n ∧ n ≤ 2000) (hB : BI t n m i vs) (hp : ¬ pln t n i) (h1 : ¬ tK t n i = 1) : ∃ m', (∀ d, Wp (d + 5) 174 (0, [some (.ref 125), some (.int (zI s))], [], sA μ m l) (pV (fun μ' => μ' = sA μ m' l) noX)) ∧ Flt t n m m' i := by
  have hv := isPl_0 hn hB hp
  have hs := isPl_hs (m := m)
  have hgN := BI_gN hn hB
  have h0 := BI_plain0 hB
  obtain ⟨⟨b1, b2, b3⟩, ⟨b4, b5, b6, b7⟩, ⟨b8, b9, b10⟩, b11, b12, b13⟩ := hB
  have hR := tK_R t n i
  rw [← b4] at hR
  have h41 : ∀ d, Wp (d + 5) 174 (41, [some (.ref 125), some (.int (zI s))], [], sA μ (m_isPlainName m) l) (pV (fun μ' => μ' = sA μ (m_fail (m_isPlainName m) 1 (m_isPlainName m 125 29)) l) noX) := by
    intro d
    refine R174_41 H ⟨by rw [hs _ _ (by omega)]; exact hR, fun z => absurd (by rw [hs _ _ (by omega), b4] at z; exact z) h1, fun _ => ⟨by rw [hs _ _ (by omega), b13]; omega, ?_⟩⟩
    rintro m13 rfl
    exact rfl
  refine ⟨m_fail (m_isPlainName m) 1 (m_isPlainName m 125 29), fun d => ?_, fail_Flt (by rw [hs _ _ (by omega)]; exact b13) (by rw [hs _ _ (by omega)]; exact b5) (fun c j h => hs c j (by omega))⟩
  refine R174_0 H ⟨hR, fun z => ?_, fun z => ⟨hR, ⟨fun z => ⟨b3, b8, hgN (Or.inl (b4.symm.trans z))⟩, fun _ => trivial⟩, ?_⟩⟩
  · have e := (h0 (fun y => z (b4.trans y))).2
    have := h41 d
    rw [e] at this ⊢
    exact this
  · rintro m1 rfl
    exact ⟨fun _ => h41 d, fun z => absurd hv z⟩
theorem ba_f3 (H : RS μ) (hn : 0 ≤ n ∧ n ≤ 2000) (hB : BI t n m i vs) (hsR : iR s) (h1 : tK t n i = 1) (h34 : 0 ≤ m 125 34 ∧ m 125 34 < 10) (hp : ¬ pln t n (i + 1)) (hs1 : ¬ s = 1 ∨ ¬ tK t n (i + 1) = 3) : ∃ m', (∀ d, Wp (d + 5) 174 (0, [some (.ref 125), some (.int (zI s))], [], sA μ m l) (pV (fun μ' => μ' = sA μ m' l) noX)) ∧ Flt t n m m' (i + 1) := by
  have hB1 := BI_skip hB (nN1 (Or.inl h1))
  have hv := isPl_0 hn hB1 hp
  have hs := isPl_hs (m := adM m)
  have hgN := BI_gN hn hB1
  have h31 := BI_31 hn.1 hB
  have h0 := BI_plain0 hB1
  obtain ⟨⟨b1, b2, b3⟩, ⟨b4, b5, b6, b7⟩, ⟨b8, b9, b10⟩, b11, b12, b13⟩ := hB
  obtain ⟨⟨c1, c2, c3⟩, ⟨c4, c5, c6, c7⟩, ⟨c8, c9, c10⟩, c11, c12, c13⟩ := hB1
  have hk1 : m 125 28 = 1 := b4.trans h1
  have hR1 := tK_R t n (i + 1)
  rw [← c4] at hR1
  have vo : v_opens m = 1 := if_pos (by omega)
  have mo : m_opens m = adM m := if_pos (by omega)
  refine ⟨m_fail (m_isPlainName (adM m)) 1 (m_isPlainName (adM m) 125 29), fun d => ?_, fail_Flt (by rw [hs _ _ (by omega)]; exact c13) (by rw [hs _ _ (by omega)]; exact c5) (fun c j h => by rw [hs c j (by omega), adM_o (by omega)])⟩
  refine R174_0 H ⟨by omega, fun _ => ?_, fun z => absurd z (by omega)⟩
  refine R174_41 H ⟨by omega, fun _ => ⟨by omega, ⟨fun _ => ⟨b3, h31⟩, fun z => absurd z (by omega)⟩, ?_⟩, fun z => absurd hk1 z⟩
  rintro m1 e1
  rw [mo] at e1
  subst e1
  refine ⟨fun _ => ⟨hR1, ⟨fun z => ⟨c3, c8, hgN (Or.inl (c4.symm.trans z))⟩, fun _ => trivial⟩, ?_⟩, fun z => absurd (by rw [vo]; decide) z⟩
  rintro m2 rfl
  refine ⟨fun _ => ⟨hsR, fun z => ?_, fun z => ?_⟩, fun z => absurd hv z⟩
  · refine R174_131 H ⟨hsR, fun _ => ⟨by rw [hs _ _ (by omega), c13]; omega, ?_⟩, fun y => absurd z y⟩
    rintro m1 rfl
    exact rfl
  · have hk3 : ¬ tK t n (i + 1) = 3 := by
      rcases hs1 with y | y
      · exact absurd y z
      · exact y
    have e0 := (h0 hk3).2
    have hk3' : ¬ adM m 125 28 = 3 := by rw [c4]; exact hk3
    have w0 : v_isWord (adM m) 0 = 0 := if_pos hk3'
    have w1 : v_isWord (adM m) 1 = 0 := if_pos hk3'
    have n0 : m_isWord (adM m) 0 = adM m := if_pos hk3'
    have n1 : m_isWord (adM m) 1 = adM m := if_pos hk3'
    rw [e0]
    refine ⟨hR1, ⟨fun _ => trivial, fun y => absurd hk3' y⟩, ?_⟩
    rintro m3 e3
    rw [n0] at e3
    rw [e3]
    refine ⟨fun _ => ?_, fun y => absurd w0 y⟩
    refine R174_131 H ⟨hsR, fun y => absurd y z, fun _ => ⟨hR1, ⟨fun _ => trivial, fun y => absurd hk3' y⟩, ?_⟩⟩
    rintro m4 e4
    rw [n1] at e4
    rw [e4]
    refine ⟨fun _ => ⟨by rw [c13]; omega, ?_⟩, fun y => absurd w1 y⟩
    rintro m5 rfl
    exact rfl
/-- a word at hand is in the table -/
theorem word_nm (hn : 0 ≤ n ∧ n ≤ 2000) (hB : BI t n m i vs) (hk : tK t n i = 3) {j : Nat} (hj : j < 10) (hw : tW t n i = wdL.getD j []) : nmM m (m 125 30) (m 125 31) = m ∧ (nmI m (m 125 30) (m 125 31) : Int) = j := by
  obtain ⟨⟨b1, b2, b3⟩, ⟨b4, b5, b6, b7⟩, ⟨b8, b9, b10⟩, b11, b12, b13⟩ := hB
  have e : sl (m 128) (m 125 30) (m 125 31 - m 125 30).toNat = tW t n i := by
    unfold tW
    rw [b1, b6, b7]
  exact nmM_2 b9 (by rw [e, hw]; exact nX_word b9 hj)
theorem ba_not (H : RS μ) (hn : 0 ≤ n ∧ n ≤ 2000) (hB : BI t n m i vs) (h1 : tK t n i = 1) (h34 : 0 ≤ m 125 34 ∧ m 125 34 < 10) (hk : tK t n (i + 1) = 3) (hw : tW t n (i + 1) = wdL.getD 0 []) (d : Nat) : Wp (d + 5) 174 (0, [some (.ref 125), some (.int (zI 1))], [], sA μ m l) (pV (fun μ' => μ' = sA μ (adM (m_within (adM m) 3 0)) l) noX) := by
  have hB1 := BI_skip hB (nN1 (Or.inl h1))
  have hg := BI_gN hn hB1 (Or.inl hk)
  have hpl := BI_plain hn hB1 hk
  have h31 := BI_31 hn.1 hB
  have h31' := BI_31 hn.1 hB1
  obtain ⟨w1, w2⟩ := word_nm hn hB1 hk (j := 0) (by decide) hw
  have z34 : adM m 125 34 = m 125 34 := adM_o (by omega)
  obtain ⟨⟨b1, b2, b3⟩, ⟨b4, b5, b6, b7⟩, ⟨b8, b9, b10⟩, b11, b12, b13⟩ := hB
  obtain ⟨⟨c1, c2, c3⟩, ⟨c4, c5, c6, c7⟩, ⟨c8, c9, c10⟩, c11, c12, c13⟩ := hB1
  have hk1 : m 125 28 = 1 := b4.trans h1
  have hk3 : adM m 125 28 = 3 := c4.trans hk
  have vo : v_opens m = 1 := if_pos (by omega)
  have mo : m_opens m = adM m := if_pos (by omega)
  have e0 : m_isPlainName (adM m) = adM m := hpl.2.trans w1
  have n0 : m_isWord (adM m) 0 = adM m := (if_neg (fun z => z hk3)).trans w1
  have v0 : v_isWord (adM m) 0 = 1 := by
    unfold v_isWord
    rw [if_neg (fun z => z hk3), if_neg (fun z => z w2)]
  refine R174_0 H ⟨by omega, fun _ => ?_, fun z => absurd z (by omega)⟩
  refine R174_41 H ⟨by omega, fun _ => ⟨by omega, ⟨fun _ => ⟨b3, h31⟩, fun z => absurd z (by omega)⟩, ?_⟩, fun z => absurd hk1 z⟩
  rintro m1 e1
  rw [mo] at e1
  subst e1
  refine ⟨fun _ => ⟨by omega, ⟨fun _ => ⟨c3, c8, hg⟩, fun _ => trivial⟩, ?_⟩, fun z => absurd (by rw [vo]; decide) z⟩
  rintro m2 e2
  rw [e0] at e2
  subst e2
  refine ⟨fun _ => ⟨by decide, fun z => absurd rfl z, fun _ => ⟨by omega, ⟨fun z => absurd hk3 z, fun _ => ⟨c3, c8, hg, by decide⟩⟩, ?_⟩⟩, fun z => absurd (hpl.1.mpr (fun y => y.2.1 hw)) z⟩
  rintro m3 e3
  rw [n0] at e3
  subst e3
  refine ⟨fun z => absurd z (by rw [v0]; decide), fun _ => ⟨by rw [z34]; omega, ?_⟩⟩
  rintro m4 rfl
  refine ⟨c3, ?_, ?_⟩
  · rw [within_eq z34, up_i (by decide), up_c (by decide), up_c (by decide), up_c (by decide), up_i (by decide), up_c (by decide), up_c (by decide), up_c (by decide)]
    exact h31'
  · rintro m5 rfl
    exact rfl
/-- the memory behind ( distinct -/
noncomputable def adtM (m : PM) : PM := adM (m_within (abM (adM m) (-1) 3) 4 (m 125 18))
theorem ba_dist (H : RS μ) (hn : 0 ≤ n ∧ n ≤ 2000) (hB : BI t n m i vs) (hR : RB m) (h1 : tK t n i = 1) (h34 : 0 ≤ m 125 34 ∧ m 125 34 < 10) (hk : tK t n (i + 1) = 3) (hw : tW t n (i + 1) = wdL.getD 1 []) (d : Nat) : Wp (d + 5) 174 (0, [some (.ref 125), some (.int (zI 1))], [], sA μ m l) (pV (fun μ' => μ' = sA μ (adtM m) l) noX) := by
  have hB1 := BI_skip hB (nN1 (Or.inl h1))
  have hg := BI_gN hn hB1 (Or.inl hk)
  have hpl := BI_plain hn hB1 hk
  have h31 := BI_31 hn.1 hB
  have h31' := BI_31 hn.1 hB1
  obtain ⟨w1, w2⟩ := word_nm hn hB1 hk (j := 1) (by decide) hw
  have z12 : adM m 125 12 = m 125 12 := adM_o (by omega)
  have z15 : adM m 125 15 = m 125 15 := adM_o (by omega)
  have z18 : adM m 125 18 = m 125 18 := adM_o (by omega)
  have z34 : adM m 125 34 = m 125 34 := adM_o (by omega)
  obtain ⟨⟨f1, f2, -⟩, -⟩ := abM_AB (m := adM m) (mm := adM m) (v := -1) (s := 3) (fun _ _ _ => rfl)
  obtain ⟨⟨b1, b2, b3⟩, ⟨b4, b5, b6, b7⟩, ⟨b8, b9, b10⟩, b11, b12, b13⟩ := hB
  obtain ⟨⟨c1, c2, c3⟩, ⟨c4, c5, c6, c7⟩, ⟨c8, c9, c10⟩, c11, c12, c13⟩ := hB1
  have hk1 : m 125 28 = 1 := b4.trans h1
  have hk3 : adM m 125 28 = 3 := c4.trans hk
  have vo : v_opens m = 1 := if_pos (by omega)
  have mo : m_opens m = adM m := if_pos (by omega)
  have e0 : m_isPlainName (adM m) = adM m := hpl.2.trans w1
  have n0 : m_isWord (adM m) 0 = adM m := (if_neg (fun z => z hk3)).trans w1
  have n1 : m_isWord (adM m) 1 = adM m := (if_neg (fun z => z hk3)).trans w1
  have v0 : v_isWord (adM m) 0 = 0 := by
    unfold v_isWord
    rw [if_neg (fun z => z hk3), if_pos (by rw [w2]; decide)]
  have v1 : v_isWord (adM m) 1 = 1 := by
    unfold v_isWord
    rw [if_neg (fun z => z hk3), if_neg (fun z => z w2)]
  refine R174_0 H ⟨by omega, fun _ => ?_, fun z => absurd z (by omega)⟩
  refine R174_41 H ⟨by omega, fun _ => ⟨by omega, ⟨fun _ => ⟨b3, h31⟩, fun z => absurd z (by omega)⟩, ?_⟩, fun z => absurd hk1 z⟩
  rintro m1 e1
  rw [mo] at e1
  subst e1
  refine ⟨fun _ => ⟨by omega, ⟨fun _ => ⟨c3, c8, hg⟩, fun _ => trivial⟩, ?_⟩, fun z => absurd (by rw [vo]; decide) z⟩
  rintro m2 e2
  rw [e0] at e2
  subst e2
  refine ⟨fun _ => ⟨by decide, fun z => absurd rfl z, fun _ => ⟨by omega, ⟨fun z => absurd hk3 z, fun _ => ⟨c3, c8, hg, by decide⟩⟩, ?_⟩⟩, fun z => absurd (hpl.1.mpr (fun y => y.2.2 hw)) z⟩
  rintro m3 e3
  rw [n0] at e3
  subst e3
  refine ⟨fun _ => ?_, fun z => absurd v0 z⟩
  refine R174_131 H ⟨by decide, fun z => absurd rfl z, fun _ => ⟨by omega, ⟨fun z => absurd hk3 z, fun _ => ⟨c3, c8, hg, by decide⟩⟩, ?_⟩⟩
  rintro m4 e4
  rw [n1] at e4
  subst e4
  refine ⟨fun z => absurd z (by rw [v1]; decide), fun _ => ⟨by rw [z18]; omega, ?_⟩⟩
  rintro m5 rfl v5 rfl
  have x12 : m_newAtom (adM m) (-1) 125 12 = m 125 12 := by rw [k_newAtom (by decide) (by decide) (by decide), z12]
  have x15 : m_newAtom (adM m) (-1) 125 15 = m 125 15 := by rw [k_newAtom (by decide) (by decide) (by decide), z15]
  have x18 : m_newAtom (adM m) (-1) 125 18 - 1 = m 125 18 := by unfold m_newAtom; rw [up_s, z18]; omega
  rw [x12, x15, x18]
  refine ⟨by omega, by omega, ?_⟩
  rintro m6 e6
  have e6' : m6 = abM (adM m) (-1) 3 := by
    rw [e6]
    unfold abM m_place
    rw [if_pos (by decide)]
  rw [e6']
  have g34 : abM (adM m) (-1) 3 125 34 = m 125 34 := by rw [f1 _ _ (by omega), z34]
  refine ⟨by rw [g34]; omega, ?_⟩
  rintro m7 rfl
  refine ⟨c3, ?_, ?_⟩
  · rw [within_eq g34, up_i (by decide), up_c (by decide), up_c (by decide), up_c (by decide), up_i (by decide), up_c (by decide), up_c (by decide), up_c (by decide), f1 _ _ (by omega), f1 _ _ (by omega)]
    exact h31'
  · rintro m8 rfl
    exact rfl
end AT2
