/-! ===== the reference's beginTerm ===== -/
section BTT
variable {t : Int → Int} {n : Int} {m mm : PM} {i : Nat} {vs vs' : List (List Int)} {o w cnt v x : Int} {ct cc f : Nat}
theorem bt_tail (hT : Top m o w cnt ct cc) (hs : ∀ c i, ¬ (c = 129 ∨ c = 130 ∨ c = 146 ∨ (c = 125 ∧ (i = 9 ∨ i = 38))) → mm c i = m c i) (hnd : 0 ≤ m 125 22 ∧ m 125 22 ≤ 1000) {C : PM → Int → Prop} (hC : C (leB mm v x) (m 125 22)) :
    (0 ≤ (mm 125 22) ∧ (mm 125 22) < 1100) ∧ (∀ m15 : PM, m15 = m_newNode mm v x → ∀ v16 : Int, v16 = (((mm 125 22) + 1) - 1) → (0 ≤ ((m15 125 34) - 1) ∧ ((m15 125 34) - 1) < 11) ∧ (iR (m15 143 ((m15 125 34) - 1))) ∧ ((¬ (m15 143 ((m15 125 34) - 1)) = 5 → (0 ≤ ((4 * (m15 145 ((m15 125 34) - 1))) + (m15 144 ((m15 125 34) - 1))) ∧ ((4 * (m15 145 ((m15 125 34) - 1))) + (m15 144 ((m15 125 34) - 1))) < 2400) ∧ (0 ≤ (m15 145 ((m15 125 34) - 1)) ∧ (m15 145 ((m15 125 34) - 1)) < 600)) ∧ (¬ (¬ (m15 143 ((m15 125 34) - 1)) = 5) → (0 ≤ ((4 * (m15 145 ((m15 125 34) - 1))) + (m15 144 ((m15 125 34) - 1))) ∧ ((4 * (m15 145 ((m15 125 34) - 1))) + (m15 144 ((m15 125 34) - 1))) < 4400) ∧ (0 ≤ (m15 145 ((m15 125 34) - 1)) ∧ (m15 145 ((m15 125 34) - 1)) < 1100))) ∧ (∀ m17 : PM, m17 = m_belong m15 v16 → C m17 v16)) := by
  obtain ⟨h1, h2, h3, h4, h5, h6, h7, h8⟩ := hT
  have e22 : mm 125 22 = m 125 22 := hs _ _ (by omega)
  have r1 : ∀ c i, ¬ c = 138 → ¬ c = 139 → ¬ c = 140 → ¬ c = 142 → ¬ (c = 125 ∧ i = 22) → m_newNode mm v x c i = mm c i := fun c i a b c' d e => k_newNode a b c' d e
  have f34 : m_newNode mm v x 125 34 = o := by rw [r1 _ _ (by decide) (by decide) (by decide) (by decide) (by decide), hs _ _ (by omega)]; exact h3
  have f145 : m_newNode mm v x 145 (o - 1) = w := by rw [r1 _ _ (by decide) (by decide) (by decide) (by decide) (by omega), hs _ _ (by omega)]; exact h4
  have f144 : m_newNode mm v x 144 (o - 1) = cnt := by rw [r1 _ _ (by decide) (by decide) (by decide) (by decide) (by omega), hs _ _ (by omega)]; exact h5
  have f143 : m_newNode mm v x 143 (o - 1) = m 143 (o - 1) := by rw [r1 _ _ (by decide) (by decide) (by decide) (by decide) (by omega), hs _ _ (by omega)]
  refine ⟨by rw [e22]; omega, ?_⟩
  rintro m15 rfl v16 e16
  rw [f34, f143, f144, f145]
  refine ⟨by omega, ?_, ⟨fun z => ?_, fun z => ?_⟩, ?_⟩
  · rcases h8 with ⟨a, _⟩ | ⟨a, _⟩ | ⟨a, _⟩ <;> rw [a] <;> omega
  · rcases h8 with ⟨a, _⟩ | ⟨a, _, _, b, c⟩ | ⟨a, _, _, b, c⟩ <;> omega
  · rcases h8 with ⟨a, _, _, b, c⟩ | ⟨a, _⟩ | ⟨a, _⟩ <;> omega
  · rintro m17 rfl
    have e : v16 = m 125 22 := by rw [e16, e22]; omega
    rw [e]
    have : m_belong (m_newNode mm v x) (m 125 22) = leB mm v x := by
      unfold leB
      rw [e22]
      have e2 : m 125 22 + 1 - 1 = m 125 22 := by omega
      rw [e2]
    rw [this]
    exact hC
/-- the end of the last token -/
theorem BI_31 (hn : 0 ≤ n) (hB : BI t n m i vs) : 0 ≤ m 125 31 ∧ m 125 31 ≤ m 125 8 := by
  obtain ⟨⟨b1, b2, b3⟩, ⟨b4, b5, b6, b7⟩, _⟩ := hB
  have h := tks_r (t := t) hn (i + 1)
  rw [tkS_s] at h
  rw [b7, b2]
  exact h
theorem BI_gN (hn : 0 ≤ n ∧ n ≤ 2000) (hB : BI t n m i vs) (hk : isN (tK t n i)) : gN (m 125 30) (m 125 31) := by
  obtain ⟨⟨b1, b2, b3⟩, ⟨b4, b5, b6, b7⟩, _⟩ := hB
  have h := tN_r (t := t) hn.1 hk
  rw [b6, b7]
  unfold gN
  omega
/-- the name of the token at hand -/
theorem BI_name (hn : 0 ≤ n ∧ n ≤ 2000) (hB : BI t n m i vs) (hk : isN (tK t n i)) : nX (nmM m (m 125 30) (m 125 31)) (nmI m (m 125 30) (m 125 31)) (tW t n i) ∧ NmW (nmM m (m 125 30) (m 125 31)) ∧ NmD (nmM m (m 125 30) (m 125 31)) ∧ (nmM m (m 125 30) (m 125 31) 125 9 ≤ m 125 9 + 1 ∧ nmL (nmM m (m 125 30) (m 125 31)) = LsA (nmL m) (tW t n i)) ∧ (∀ x w, nX m x w → nX (nmM m (m 125 30) (m 125 31)) x w) := by
  have hg := BI_gN hn hB hk
  have hnt := nt_le (t := t) hn i
  obtain ⟨⟨b1, b2, b3⟩, ⟨b4, b5, b6, b7⟩, ⟨b8, b9, b10⟩, _⟩ := hB
  obtain ⟨a1, a2, a3, a4, a5, a6⟩ := nmM_X (m := m) b3 b8 b9 (by omega) hg
  have e : sl (m 128) (m 125 30) (m 125 31 - m 125 30).toNat = tW t n i := by
    unfold tW
    rw [b1, b6, b7]
  rw [e] at a1
  exact ⟨a1, a2, a3, ⟨a5, by rw [nmM_L b8, e]⟩, a6⟩
theorem nmM_hs {a b : Int} : ∀ c i, ¬ (c = 129 ∨ c = 130 ∨ c = 146 ∨ (c = 125 ∧ (i = 9 ∨ i = 38))) → nmM m a b c i = m c i := fun c i h => k_nmM (by omega) (by omega) (by omega)
theorem BI_plain (hn : 0 ≤ n ∧ n ≤ 2000) (hB : BI t n m i vs) (hk : tK t n i = 3) : (v_isPlainName m = 0 ↔ ¬ pln t n i) ∧ m_isPlainName m = nmM m (m 125 30) (m 125 31) := by
  obtain ⟨a1, a2, a3, a4, a5⟩ := BI_name hn hB (Or.inl hk)
  have hb4 : m 125 28 = 3 := hB.2.1.1.trans hk
  have w0 := nX_word a3 (j := 0) (by decide)
  have w1 := nX_word a3 (j := 1) (by decide)
  have i0 := nX_inj a3 a1 w0
  have i1 := nX_inj a3 a1 w1
  refine ⟨?_, if_pos hb4⟩
  unfold v_isPlainName pln
  rw [if_pos hb4]
  by_cases q0 : (nmI m (m 125 30) (m 125 31) : Int) = 0
  · rw [if_pos q0]
    have := i0.mp q0
    exact ⟨fun _ z => z.2.1 this, fun _ => rfl⟩
  · rw [if_neg q0]
    by_cases q1 : (nmI m (m 125 30) (m 125 31) : Int) = 1
    · rw [if_pos q1]
      have := i1.mp q1
      exact ⟨fun _ z => z.2.2 this, fun _ => rfl⟩
    · rw [if_neg q1]
      refine ⟨fun z => absurd z (by decide), fun z => absurd ⟨hk, fun y => q0 (i0.mpr y), fun y => q1 (i1.mpr y)⟩ z⟩
theorem BI_plain0 (hB : BI t n m i vs) (hk : ¬ tK t n i = 3) : v_isPlainName m = 0 ∧ m_isPlainName m = m := by
  have hb4 : ¬ m 125 28 = 3 := by rw [hB.2.1.1]; exact hk
  exact ⟨if_neg hb4, if_neg hb4⟩
theorem tK_R (t : Int → Int) (n : Int) (i : Nat) : iR (tK t n i) := by
  unfold tK tkK
  repeat' split
  all_goals omega
variable {d : Nat} {μ : am_Mem} {l : PM}
theorem bt_name (H : RS μ) (hn : 0 ≤ n ∧ n ≤ 2000) (hB : BI t n m i vs) (hT : Top m o w cnt ct cc) (hp : pln t n i) : Wp (d + 5) 178 (0, [some (.ref 125), none], [], sA μ m l) (pV (fun μ' => μ' = sA μ (adM (leB (nmM m (m 125 30) (m 125 31)) (nmI m (m 125 30) (m 125 31)) (-1))) l) noX) := by
  obtain ⟨a1, a2, a3, a4, a5⟩ := BI_name hn hB (Or.inl hp.1)
  have hg := BI_gN hn hB (Or.inl hp.1)
  have hpl := BI_plain hn hB hp.1
  have hnt := nt_le (t := t) hn i
  have h31 := BI_31 hn.1 hB
  have hS := leB_s (v := (nmI m (m 125 30) (m 125 31) : Int)) (x := -1) hT (nmM_hs (a := m 125 30) (b := m 125 31))
  have hpp := Top_p hT
  obtain ⟨⟨b1, b2, b3⟩, ⟨b4, b5, b6, b7⟩, ⟨b8, b9, b10⟩, b11, b12, b13⟩ := hB
  have hR := tK_R t n i
  rw [← b4] at hR
  have hk3 : m 125 28 = 3 := b4.trans hp.1
  refine R178_0 H ⟨hR, fun _ => ⟨hR, ⟨fun _ => ⟨b3, b8, hg⟩, fun _ => trivial⟩, ?_⟩, fun z => absurd hk3 (by omega)⟩
  rintro m1 rfl
  refine ⟨fun z => absurd (hpl.1.mp z) (fun y => y hp), fun _ => ?_⟩
  rw [hpl.2]
  have r30 : nmM m (m 125 30) (m 125 31) 125 30 = m 125 30 := k_nmM (by decide) (by decide) (by decide)
  have r31 : nmM m (m 125 30) (m 125 31) 125 31 = m 125 31 := k_nmM (by decide) (by decide) (by decide)
  have r8 : nmM m (m 125 30) (m 125 31) 125 8 = m 125 8 := k_nmM (by decide) (by decide) (by decide)
  have r128 : nmM m (m 125 30) (m 125 31) 128 = m 128 := funext fun j => k_nmM (by decide) (by decide) (by omega)
  have h2 := nmM_2 (a := m 125 30) (b := m 125 31) a3 (by
    have e : sl (nmM m (m 125 30) (m 125 31) 128) (m 125 30) (m 125 31 - m 125 30).toNat = tW t n i := by
      unfold tW
      rw [r128, b1, b6, b7]
    rw [e]
    exact a1)
  rw [r30, r31]
  refine ⟨TX_cg r8 (fun j => congrFun r128 j) b3, a2, hg, ?_⟩
  rintro m13 rfl v14 rfl
  rw [h2.1, h2.2]
  refine bt_tail (C := fun m17 v16 => (0 ≤ m17 125 31 ∧ m17 125 31 ≤ m17 125 8) ∧ (∀ m18 : PM, m18 = adM m17 → pV (fun μ' => μ' = sA μ (adM (leB (nmM m (m 125 30) (m 125 31)) (nmI m (m 125 30) (m 125 31)) (-1))) l) noX (.inl none) (sA μ m18 l))) hT nmM_hs (by omega) ?_
  refine ⟨?_, fun m18 e18 => ?_⟩
  · rw [hS _ _ (by rcases hpp with ⟨_, rfl, rfl, _⟩ | ⟨_, rfl, rfl⟩ <;> omega), hS _ _ (by rcases hpp with ⟨_, rfl, rfl, _⟩ | ⟨_, rfl, rfl⟩ <;> omega), r31, r8]
    exact h31
  · show _ = _
    rw [e18]
end BTT
