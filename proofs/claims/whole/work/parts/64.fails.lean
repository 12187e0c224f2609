/-! ===== the reference's reader: faults of terms; one turn of its loop ===== -/
section FLS
variable {t : Int → Int} {n : Int} {m mm : PM} {i : Nat} {vs vs' : List (List Int)} {o w cnt v x : Int} {ct cc f : Nat} {μ : am_Mem} {l : PM}
theorem isPl_hs : ∀ c j, ¬ (c = 129 ∨ c = 130 ∨ c = 146 ∨ (c = 125 ∧ (j = 9 ∨ j = 38))) → m_isPlainName m c j = m c j := by
  intro c j h
  unfold m_isPlainName
  split
  · exact nmM_hs c j h
  · rfl
theorem isPl_0 (hn : 0 ≤ n ∧ n ≤ 2000) (hB : BI t n m i vs) (hp : ¬ pln t n i) : v_isPlainName m = 0 := by
  by_cases h : tK t n i = 3
  · exact (BI_plain hn hB h).1.mpr hp
  · exact (BI_plain0 hB h).1
theorem bt_f1 (H : RS μ) (hn : 0 ≤ n ∧ n ≤ 2000) (hB : BI t n m i vs) (h4 : ¬ tK t n i = 4) (hp : ¬ pln t n i) (h1 : ¬ tK t n i = 1) : ∃ m', (∀ d, Wp (d + 5) 178 (0, [some (.ref 125), none], [], sA μ m l) (pV (fun μ' => μ' = sA μ m' l) noX)) ∧ Flt t n m m' i := by
  have hv := isPl_0 hn hB hp
  have hs := isPl_hs (m := m)
  have hgN := BI_gN hn hB
  obtain ⟨⟨b1, b2, b3⟩, ⟨b4, b5, b6, b7⟩, ⟨b8, b9, b10⟩, b11, b12, b13⟩ := hB
  have hR := tK_R t n i
  rw [← b4] at hR
  refine ⟨m_fail (m_isPlainName m) 1 (m_isPlainName m 125 29), fun d => ?_, fail_Flt (by rw [hs _ _ (by omega)]; exact b13) (by rw [hs _ _ (by omega)]; exact b5) (fun c j h => hs c j (by omega))⟩
  refine R178_0 H ⟨hR, fun _ => ⟨hR, ⟨fun z => ⟨b3, b8, hgN (Or.inl (b4.symm.trans z))⟩, fun _ => trivial⟩, ?_⟩, fun z => absurd (b4.symm.trans (Classical.not_not.mp z)) h4⟩
  rintro m1 rfl
  refine ⟨fun _ => ⟨by rw [hs _ _ (by omega)]; exact hR, fun z => absurd (by rw [hs _ _ (by omega), b4] at z; exact z) h1, fun _ => ⟨by rw [hs _ _ (by omega), b13]; omega, ?_⟩⟩, fun z => absurd hv z⟩
  rintro m12 rfl
  exact rfl
theorem bt_f2 (H : RS μ) (hB : BI t n m i vs) (h1 : tK t n i = 1) (h34 : m 125 34 = 10) : ∃ m', (∀ d, Wp (d + 5) 178 (0, [some (.ref 125), none], [], sA μ m l) (pV (fun μ' => μ' = sA μ m' l) noX)) ∧ Flt t n m m' i := by
  have hpl0 := BI_plain0 hB (by omega)
  obtain ⟨⟨b1, b2, b3⟩, ⟨b4, b5, b6, b7⟩, ⟨b8, b9, b10⟩, b11, b12, b13⟩ := hB
  have hR := tK_R t n i
  rw [← b4] at hR
  have hk1 : m 125 28 = 1 := b4.trans h1
  have vo : v_opens m = 0 := if_neg (fun z => z h34)
  have mo : m_opens m = m_fail m 1 (m 125 29) := if_neg (fun z => z h34)
  refine ⟨m_fail m 1 (m 125 29), fun d => ?_, fail_Flt b13 b5 (fun c j h => rfl)⟩
  refine R178_0 H ⟨hR, fun _ => ⟨hR, ⟨fun z => absurd z (by omega), fun _ => trivial⟩, ?_⟩, fun z => absurd z (by omega)⟩
  rintro m1 e1
  rw [hpl0.2] at e1
  subst e1
  refine ⟨fun _ => ⟨hR, fun _ => ⟨by omega, ⟨fun z => absurd h34 z, fun _ => by omega⟩, ?_⟩, fun z => absurd hk1 z⟩, fun z => absurd hpl0.1 z⟩
  rintro m2 e2
  rw [mo] at e2
  subst e2
  exact ⟨fun _ => rfl, fun z => absurd vo z⟩
theorem bt_f3 (H : RS μ) (hn : 0 ≤ n ∧ n ≤ 2000) (hB : BI t n m i vs) (h1 : tK t n i = 1) (h34 : 0 ≤ m 125 34 ∧ m 125 34 < 10) (hp : ¬ pln t n (i + 1)) : ∃ m', (∀ d, Wp (d + 5) 178 (0, [some (.ref 125), none], [], sA μ m l) (pV (fun μ' => μ' = sA μ m' l) noX)) ∧ Flt t n m m' (i + 1) := by
  have hpl0 := BI_plain0 hB (by omega)
  have hB1 := BI_skip hB (nN1 (Or.inl h1))
  have hv := isPl_0 hn hB1 hp
  have hs := isPl_hs (m := adM m)
  have hgN := BI_gN hn hB1
  have h31 := BI_31 hn.1 hB
  obtain ⟨⟨b1, b2, b3⟩, ⟨b4, b5, b6, b7⟩, ⟨b8, b9, b10⟩, b11, b12, b13⟩ := hB
  obtain ⟨⟨c1, c2, c3⟩, ⟨c4, c5, c6, c7⟩, ⟨c8, c9, c10⟩, c11, c12, c13⟩ := hB1
  have hR := tK_R t n i
  rw [← b4] at hR
  have hk1 : m 125 28 = 1 := b4.trans h1
  have hR1 := tK_R t n (i + 1)
  rw [← c4] at hR1
  have vo : v_opens m = 1 := if_pos (by omega)
  have mo : m_opens m = adM m := if_pos (by omega)
  refine ⟨m_fail (m_isPlainName (adM m)) 1 (m_isPlainName (adM m) 125 29), fun d => ?_, fail_Flt (by rw [hs _ _ (by omega)]; exact c13) (by rw [hs _ _ (by omega)]; exact c5) (fun c j h => by rw [hs c j (by omega), adM_o (by omega)])⟩
  refine R178_0 H ⟨hR, fun _ => ⟨hR, ⟨fun z => absurd z (by omega), fun _ => trivial⟩, ?_⟩, fun z => absurd z (by omega)⟩
  rintro m1 e1
  rw [hpl0.2] at e1
  subst e1
  refine ⟨fun _ => ⟨hR, fun _ => ⟨by omega, ⟨fun _ => ⟨b3, h31⟩, fun z => absurd z (by omega)⟩, ?_⟩, fun z => absurd hk1 z⟩, fun z => absurd hpl0.1 z⟩
  rintro m2 e2
  rw [mo] at e2
  subst e2
  refine ⟨fun z => absurd z (by rw [vo]; decide), fun _ => ⟨hR1, ⟨fun z => ⟨c3, c8, hgN (Or.inl (c4.symm.trans z))⟩, fun _ => trivial⟩, ?_⟩⟩
  rintro m3 rfl
  refine ⟨fun z => absurd hv z, fun _ => ⟨by rw [hs _ _ (by omega), c13]; omega, ?_⟩⟩
  rintro m11 rfl
  exact rfl
/-- a variable, one too many -/
theorem bt_f4 (H : RS μ) (hn : 0 ≤ n ∧ n ≤ 2000) (hB : BI t n m i vs) (hT : Top m o w cnt ct cc) (hk : tK t n i = 4) (hx : ¬ vrx vs (tW t n i) < vs.length) (h8 : vs.length = 8) : ∃ m', (∀ d, Wp (d + 5) 178 (0, [some (.ref 125), none], [], sA μ m l) (pV (fun μ' => μ' = sA μ m' l) noX)) ∧ Flt t n m m' i := by
  refine ⟨_, fun d => bt_var H hn hB hT hk d, ?_⟩
  obtain ⟨-, hN⟩ := BI_var hn hB hk
  obtain ⟨⟨b1, b2, b3⟩, ⟨b4, b5, b6, b7⟩, ⟨b8, b9, b10⟩, b11, ⟨b12, b13, b14⟩, b15⟩ := hB
  have r38 : nmM m (m 125 30) (m 125 31) 125 38 = m 125 38 := k_nmM (by decide) (by decide) (by decide)
  have r29 : nmM m (m 125 30) (m 125 31) 125 29 = m 125 29 := k_nmM (by decide) (by decide) (by decide)
  have q : ¬ (vrN (nmM m (m 125 30) (m 125 31)) (nmI m (m 125 30) (m 125 31)) : Int) < nmM m (m 125 30) (m 125 31) 125 38 := by
    rw [hN, r38, b12]
    omega
  have q2 : nmM m (m 125 30) (m 125 31) 125 38 = 8 := by rw [r38, b12, h8]; rfl
  have eM : vrM (nmM m (m 125 30) (m 125 31)) (nmI m (m 125 30) (m 125 31)) = up (up (nmM m (m 125 30) (m 125 31)) 125 32 1) 125 33 (m 125 29) := by
    unfold vrM
    rw [if_neg q, if_pos q2, r29]
    exact if_neg (fun z => z (by rw [k_nmM (by decide) (by decide) (by decide)]; exact b15))
  have hT2 : Top (up (up m 125 32 1) 125 33 (m 125 29)) o w cnt ct cc := by
    unfold Top at hT ⊢
    simp only [up_e]
    simpa using hT
  have hs2 : ∀ c i, ¬ (c = 129 ∨ c = 130 ∨ c = 146 ∨ (c = 125 ∧ (i = 9 ∨ i = 38))) → vrM (nmM m (m 125 30) (m 125 31)) (nmI m (m 125 30) (m 125 31)) c i = up (up m 125 32 1) 125 33 (m 125 29) c i := by
    intro c j h
    rw [eM]
    simp only [up_e]
    rw [nmM_hs c j h]
  have hpp := Top_p hT
  have hS := leB_s (v := -1) (x := vrI (nmM m (m 125 30) (m 125 31)) (nmI m (m 125 30) (m 125 31))) hT2 hs2
  refine ⟨?_, ?_, fun c j h => ?_⟩
  · rw [adM_o (by omega), hS _ _ (by rcases hpp with ⟨_, rfl, rfl, _⟩ | ⟨_, rfl, rfl⟩ <;> omega), hs2 _ _ (by omega), up_i (by decide), up_s]
  · rw [adM_o (by omega), hS _ _ (by rcases hpp with ⟨_, rfl, rfl, _⟩ | ⟨_, rfl, rfl⟩ <;> omega), hs2 _ _ (by omega), up_s]
    exact b5
  · rw [adM_o (by omega), hS _ _ (by rcases hpp with ⟨_, rfl, rfl, _⟩ | ⟨_, rfl, rfl⟩ <;> omega), hs2 _ _ (by omega), up_o (by omega), up_o (by omega)]
/-- a turn of the loop that goes through part -/
theorem rch_part (H : RS μ) (hf : m 125 32 = 0) (ho : 0 < m 125 34 ∧ m 125 34 ≤ 11) {m' : PM} (hw : ∀ d, Wp (d + 7) 171 (0, [some (.ref 125), none, none], [], sA μ m l) (pV (fun μ' => μ' = sA μ m' l) noX)) : Rch μ l m m' := by
  intro d Q h
  refine R155_55 H ⟨by omega, fun z => absurd hf z, fun _ => ⟨by omega, fun _ => ?_, fun z => absurd ho.1 z⟩⟩
  refine R155_83 H ⟨by omega, fun _ => ⟨_, _, hw d, fun μ' hp => ?_, fun _ _ z => z.elim⟩, fun z => absurd (by omega) z⟩
  rw [hp]
  exact R155_101 H h
theorem part_t (H : RS μ) (hB : BI t n m i vs) (hT : Top m o w cnt ct cc) (h2 : ¬ tK t n i = 2) {m' : PM} (hw : ∀ d, Wp (d + 5) 178 (0, [some (.ref 125), none], [], sA μ m l) (pV (fun μ' => μ' = sA μ m' l) noX)) : Rch μ l m m' := by
  obtain ⟨h1, h2', h3, h4, h5, h6, h7, h8⟩ := hT
  have hR := tK_R t n i
  rw [← hB.2.1.1] at hR
  have h28 : ¬ m 125 28 = 2 := by rw [hB.2.1.1]; exact h2
  refine rch_part H hB.2.2.2.2.2 (by omega) (fun d => ?_)
  refine R171_0 (d := d + 1) H ⟨by omega, hR, fun _ => ?_, fun z => absurd h28 z⟩
  rw [h3]
  rintro v1 e1
  refine ⟨by rcases h8 with ⟨a, _⟩ | ⟨a, _⟩ | ⟨a, _⟩ <;> omega, ?_⟩
  rintro v2 e2
  have hm : v_mostParts m v1 = if v1 = 4 then 2 else 4 := by
    unfold v_mostParts
    rcases h8 with ⟨a, _⟩ | ⟨a, _⟩ | ⟨a, _⟩ <;> (rw [a] at e1; rw [e1]; decide)
  refine ⟨by omega, by rw [hm]; split <;> omega, fun _ => ⟨by rcases h8 with ⟨a, _⟩ | ⟨a, _⟩ | ⟨a, _⟩ <;> omega, fun z => ?_, fun _ => ⟨fun _ => ⟨_, _, hw (d + 1), fun μ' hp => ?_, fun _ _ z => z.elim⟩, fun z => ?_⟩⟩, fun z => ?_⟩
  · rcases h8 with ⟨a, _⟩ | ⟨a, _⟩ | ⟨a, _⟩ <;> omega
  · have hp' : μ' = sA μ m' l := hp
    rw [hp']
    exact R171_109 H rfl
  · rcases h8 with ⟨a, _⟩ | ⟨a, _⟩ | ⟨a, _⟩ <;> omega
  · exfalso
    have z' := Classical.not_not.mp z
    rw [hm] at z'
    split at z' <;> (rcases h8 with ⟨a, _, _, _, b⟩ | ⟨a, _, _, _, b⟩ | ⟨a, _, _, _, b⟩ <;> omega)
end FLS
