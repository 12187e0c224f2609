/-! ===== the reference's reader, before its first rule: nothing is known of the variables ===== -/
def BIw (t : Int → Int) (n : Int) (m : PM) (i : Nat) : Prop :=
  (m 128 = t ∧ m 125 8 = n ∧ TX m) ∧ (m 125 28 = tK t n i ∧ m 125 29 = tkP t n i ∧ m 125 30 = tF t n i ∧ m 125 31 = tE t n i) ∧ (NmW m ∧ NmD m ∧ (m 125 9 ≤ 10 + (nt t n i : Int) ∧ nmL m = LsT t n i)) ∧ (0 ≤ m 125 22 ∧ m 125 22 ≤ (nt t n i : Int)) ∧ True ∧ m 125 32 = 0
section WEAK
variable {t : Int → Int} {n : Int} {m mm : PM} {i : Nat} {vs vs' : List (List Int)} {o w cnt v x : Int} {ct cc f : Nat} {μ : am_Mem} {l : PM} {d : Nat}
theorem BI_w (h : BI t n m i vs) : BIw t n m i := ⟨h.1, h.2.1, h.2.2.1, h.2.2.2.1, trivial, h.2.2.2.2.2⟩
theorem BIw_up (h : BIw t n m i) : BI t n (up m 125 38 0) i [] := by
  obtain ⟨⟨b1, b2, b3⟩, ⟨b4, b5, b6, b7⟩, ⟨b8, b9, b10⟩, b11, -, b15⟩ := h
  have u : ∀ c j, ¬ (c = 125 ∧ j = 38) → up m 125 38 0 c j = m c j := fun c j q => up_o q
  have f9 := u 125 9 (by omega)
  have f129 : ∀ j, up m 125 38 0 129 j = m 129 j := fun j => u _ _ (by omega)
  have f130 : ∀ j, up m 125 38 0 130 j = m 130 j := fun j => u _ _ (by omega)
  refine ⟨⟨?_, by rw [u _ _ (by omega)]; exact b2, TX_cg (u _ _ (by omega)) (fun j => u _ _ (by omega)) b3⟩, ⟨by rw [u _ _ (by omega)]; exact b4, by rw [u _ _ (by omega)]; exact b5, by rw [u _ _ (by omega)]; exact b6, by rw [u _ _ (by omega)]; exact b7⟩, ⟨NmW_cg f9 f129 f130 b8, NmD_cg f9 f129 f130 b9, ⟨by rw [f9]; exact b10.1, by rw [nmL_cg f9 f129 f130]; exact b10.2⟩⟩, by rw [u _ _ (by omega)]; exact b11, ⟨up_s _ _ _ _, by decide, fun j hj => absurd hj (by simp)⟩, by rw [u _ _ (by omega)]; exact b15⟩
  rw [← b1]
  funext j
  exact u _ _ (by omega)
theorem BIw_of (h : BI t n (up m 125 38 0) i []) : BIw t n m i := by
  obtain ⟨⟨b1, b2, b3⟩, ⟨b4, b5, b6, b7⟩, ⟨b8, b9, b10⟩, b11, -, b15⟩ := h
  have u : ∀ c j, ¬ (c = 125 ∧ j = 38) → m c j = up m 125 38 0 c j := fun c j q => (up_o q).symm
  have f9 := u 125 9 (by omega)
  have f129 : ∀ j, m 129 j = up m 125 38 0 129 j := fun j => u _ _ (by omega)
  have f130 : ∀ j, m 130 j = up m 125 38 0 130 j := fun j => u _ _ (by omega)
  refine ⟨⟨?_, by rw [u _ _ (by omega)]; exact b2, TX_cg (u _ _ (by omega)) (fun j => u _ _ (by omega)) b3⟩, ⟨by rw [u _ _ (by omega)]; exact b4, by rw [u _ _ (by omega)]; exact b5, by rw [u _ _ (by omega)]; exact b6, by rw [u _ _ (by omega)]; exact b7⟩, ⟨NmW_cg f9 f129 f130 b8, NmD_cg f9 f129 f130 b9, ⟨by rw [f9]; exact b10.1, by rw [nmL_cg f9 f129 f130]; exact b10.2⟩⟩, by rw [u _ _ (by omega)]; exact b11, trivial, by rw [u _ _ (by omega)]; exact b15⟩
  rw [← b1]
  funext j
  exact u _ _ (by omega)
theorem adM_38 {k : Int} : adM (up m 125 38 k) = up (adM m) 125 38 k := by
  have e1 : up m 125 38 k 128 = m 128 := up_r (by decide)
  have e2 : up m 125 38 k 125 8 = m 125 8 := up_i (by decide)
  have e3 : up m 125 38 k 125 31 = m 125 31 := up_i (by decide)
  unfold adM
  rw [e1, e2, e3]
  rw [up_sw (c := 125) (i := 38) (c' := 125) (i' := 29) (by decide), up_sw (c := 125) (i := 38) (c' := 125) (i' := 30) (by decide), up_sw (c := 125) (i := 38) (c' := 125) (i' := 31) (by decide), up_sw (c := 125) (i := 38) (c' := 125) (i' := 28) (by decide)]
theorem BI_skipw (h : BIw t n m i) (hk : isN (tK t n i) → tW t n i ∈ wdL) : BIw t n (adM m) (i + 1) := by
  refine BIw_of ?_
  rw [← adM_38]
  exact BI_skip (BIw_up h) hk
theorem BI_31w (hn : 0 ≤ n) (hB : BIw t n m i) : 0 ≤ m 125 31 ∧ m 125 31 ≤ m 125 8 := by
  obtain ⟨⟨b1, b2, b3⟩, ⟨b4, b5, b6, b7⟩, _⟩ := hB
  have h := tks_r (t := t) hn (i + 1)
  rw [tkS_s] at h
  rw [b7, b2]
  exact h
theorem BI_gNw (hn : 0 ≤ n ∧ n ≤ 2000) (hB : BIw t n m i) (hk : isN (tK t n i)) : gN (m 125 30) (m 125 31) := by
  obtain ⟨⟨b1, b2, b3⟩, ⟨b4, b5, b6, b7⟩, _⟩ := hB
  have h := tN_r (t := t) hn.1 hk
  rw [b6, b7]
  unfold gN
  omega
/-- the name of the token at hand -/
theorem BI_namew (hn : 0 ≤ n ∧ n ≤ 2000) (hB : BIw t n m i) (hk : isN (tK t n i)) : nX (nmM m (m 125 30) (m 125 31)) (nmI m (m 125 30) (m 125 31)) (tW t n i) ∧ NmW (nmM m (m 125 30) (m 125 31)) ∧ NmD (nmM m (m 125 30) (m 125 31)) ∧ (nmM m (m 125 30) (m 125 31) 125 9 ≤ m 125 9 + 1 ∧ nmL (nmM m (m 125 30) (m 125 31)) = LsA (nmL m) (tW t n i)) ∧ (∀ x w, nX m x w → nX (nmM m (m 125 30) (m 125 31)) x w) := by
  have hg := BI_gNw hn hB hk
  have hnt := nt_le (t := t) hn i
  obtain ⟨⟨b1, b2, b3⟩, ⟨b4, b5, b6, b7⟩, ⟨b8, b9, b10⟩, _⟩ := hB
  obtain ⟨a1, a2, a3, a4, a5, a6⟩ := nmM_X (m := m) b3 b8 b9 (by omega) hg
  have e : sl (m 128) (m 125 30) (m 125 31 - m 125 30).toNat = tW t n i := by
    unfold tW
    rw [b1, b6, b7]
  rw [e] at a1
  exact ⟨a1, a2, a3, ⟨a5, by rw [nmM_L b8, e]⟩, a6⟩
theorem BI_plainw (hn : 0 ≤ n ∧ n ≤ 2000) (hB : BIw t n m i) (hk : tK t n i = 3) : (v_isPlainName m = 0 ↔ ¬ pln t n i) ∧ m_isPlainName m = nmM m (m 125 30) (m 125 31) := by
  obtain ⟨a1, a2, a3, a4, a5⟩ := BI_namew hn hB (Or.inl hk)
  have hb4 : m 125 28 = 3 := hB.2.1.1.trans hk
  have w0 := nX_word a3 (j := 0) (by decide)
  have w1 := nX_word a3 (j := 1) (by decide)
  have i0 := nX_inj a3 a1 w0
  have i1 := nX_inj a3 a1 w1
  refine ⟨?_, if_pos hb4⟩
  unfold v_isPlainName pln
  rw [if_pos hb4]
  by_cases q0 : (nmI m (m 125 30) (m 125 31) : Int) = 0
  · rw [if_pos q0]
    have := i0.mp q0
    exact ⟨fun _ z => z.2.1 this, fun _ => rfl⟩
  · rw [if_neg q0]
    by_cases q1 : (nmI m (m 125 30) (m 125 31) : Int) = 1
    · rw [if_pos q1]
      have := i1.mp q1
      exact ⟨fun _ z => z.2.2 this, fun _ => rfl⟩
    · rw [if_neg q1]
      refine ⟨fun z => absurd z (by decide), fun z => absurd ⟨hk, fun y => q0 (i0.mpr y), fun y => q1 (i1.mpr y)⟩ z⟩
theorem BI_plain0w (hB : BIw t n m i) (hk : ¬ tK t n i = 3) : v_isPlainName m = 0 ∧ m_isPlainName m = m := by
  have hb4 : ¬ m 125 28 = 3 := by rw [hB.2.1.1]; exact hk
  exact ⟨if_neg hb4, if_neg hb4⟩
theorem isPl_0w (hn : 0 ≤ n ∧ n ≤ 2000) (hB : BIw t n m i) (hp : ¬ pln t n i) : v_isPlainName m = 0 := by
  by_cases h : tK t n i = 3
  · exact (BI_plainw hn hB h).1.mpr hp
  · exact (BI_plain0w hB h).1
theorem rn_BIw (hn : 0 ≤ n ∧ n ≤ 2000) (hB : BIw t n m i) (hk : isN (tK t n i)) : BI t n (adM (rnM m)) (i + 1) [] ∧ nX (adM (rnM m)) (nmI m (m 125 30) (m 125 31)) (tW t n i) ∧ ∀ x u, nX m x u → nX (adM (rnM m)) x u := by
  obtain ⟨a1, a2, a3, a4, a5⟩ := BI_namew hn hB hk
  obtain ⟨c1, c2, c3, c4, c5, c6, c7, c8, c9, c129, c130, ctk⟩ := rn_f (m := m) (m0 := m) (fun _ _ _ => rfl)
  obtain ⟨⟨b1, b2, b3⟩, ⟨b4, b5, b6, b7⟩, ⟨b8, b9, b10⟩, b11, ⟨b12, b13, b14⟩, b15⟩ := hB
  have hnt : (nt t n (i + 1) : Int) = nt t n i + 1 := by
    show ((nt t n i + if isN (tK t n i) then 1 else 0 : Nat) : Int) = _
    rw [if_pos hk]
    omega
  have hX : ∀ x u, nX (nmM m (m 125 30) (m 125 31)) x u → nX (adM (rnM m)) x u := fun x u z => nX_cg (by rw [adM_o (by omega), c9]) (fun j => by rw [adM_o (by omega), c129]) (fun j => by rw [adM_o (by omega), c130]) z
  have e128 : rnM m 128 = t := by
    funext j
    rw [c1 _ _ (by omega), b1]
  have e8 : rnM m 125 8 = n := by rw [c1 _ _ (by omega), b2]
  refine ⟨BI_adv (vs := []) e128 e8 (TX_cg (by rw [e8, b2]) (fun j => by rw [e128, b1]) b3) (by rw [ctk _ (by omega)]; exact b7) (NmW_cg c9 c129 c130 a2) (NmD_cg c9 c129 c130 a3) ⟨by rw [c9, hnt]; omega, by rw [nmL_cg c9 c129 c130, a4.2, b10.2, LsT_n hk]⟩ (by rw [c1 _ _ (by omega), hnt]; omega) ⟨by rw [c4]; rfl, by decide, fun j hj => absurd hj (by simp)⟩ (by rw [c1 _ _ (by omega)]; exact b15), hX _ _ a1, fun x u z => hX x u (a5 x u z)⟩
/-- the numbers of rules and what they have are small -/
theorem br_namew (H : RS μ) (hn : 0 ≤ n ∧ n ≤ 2000) (hB : BIw t n m i) (hR : RB0 m) (hp : pln t n i) (d : Nat) : Wp (d + 7) 163 (0, [some (.ref 125)], [], sA μ m l) (pV (fun μ' => μ' = sA μ (adM (rnM m)) l) noX) := by
  obtain ⟨a1, a2, a3, a4, a5⟩ := BI_namew hn hB (Or.inl hp.1)
  have hg := BI_gNw hn hB (Or.inl hp.1)
  have hpl := BI_plainw hn hB hp.1
  have h31 := BI_31w hn.1 hB
  obtain ⟨c1, -, -, -, -, -, -, -, -, -, -, ctk⟩ := rn_f (m := m) (m0 := m) (fun _ _ _ => rfl)
  obtain ⟨⟨b1, b2, b3⟩, ⟨b4, b5, b6, b7⟩, ⟨b8, b9, b10⟩, b11, b12, b13⟩ := hB
  have hk3 : m 125 28 = 3 := b4.trans hp.1
  refine R163_0 H ⟨by omega, fun z => absurd z (by omega), fun _ => ⟨by omega, fun z => absurd z (by omega), fun _ => ⟨by omega, ⟨fun _ => ⟨b3, b8, hg⟩, fun _ => trivial⟩, ?_⟩⟩⟩
  rintro m2 rfl
  refine ⟨fun _ => ?_, fun z => absurd (fun y => hpl.1.mp y hp) z⟩
  rw [hpl.2]
  have r28 : nmM m (m 125 30) (m 125 31) 125 28 = m 125 28 := k_nmM (by decide) (by decide) (by decide)
  have r30 : nmM m (m 125 30) (m 125 31) 125 30 = m 125 30 := k_nmM (by decide) (by decide) (by decide)
  have r31 : nmM m (m 125 30) (m 125 31) 125 31 = m 125 31 := k_nmM (by decide) (by decide) (by decide)
  have r8 : nmM m (m 125 30) (m 125 31) 125 8 = m 125 8 := k_nmM (by decide) (by decide) (by decide)
  have r12 : nmM m (m 125 30) (m 125 31) 125 12 = m 125 12 := k_nmM (by decide) (by decide) (by decide)
  have r18 : nmM m (m 125 30) (m 125 31) 125 18 = m 125 18 := k_nmM (by decide) (by decide) (by decide)
  have r128 : nmM m (m 125 30) (m 125 31) 128 = m 128 := funext fun j => k_nmM (by decide) (by decide) (by omega)
  have hT1 : TX (nmM m (m 125 30) (m 125 31)) := TX_cg r8 (fun j => congrFun r128 j) b3
  have h2 := nmM_2 (a := m 125 30) (b := m 125 31) a3 (by
    have e : sl (nmM m (m 125 30) (m 125 31) 128) (m 125 30) (m 125 31 - m 125 30).toNat = tW t n i := by
      unfold tW
      rw [r128, b1, b6, b7]
    rw [e]
    exact a1)
  refine R163_34 H ⟨by rw [r28]; omega, fun z => absurd (r28.trans hk3) z, fun _ => ?_⟩
  rw [r30, r31]
  refine ⟨hT1, a2, hg, ?_⟩
  rintro m14 rfl v15 rfl
  rw [h2.1, h2.2, r18]
  refine ⟨by omega, ?_⟩
  rintro m16 rfl v17 e17
  have x12 : m_newAtom (nmM m (m 125 30) (m 125 31)) (nmI m (m 125 30) (m 125 31)) 125 12 = m 125 12 := by rw [k_newAtom (by decide) (by decide) (by decide), r12]
  have e17' : v17 = m 125 18 := by omega
  rw [x12, e17']
  refine ⟨by omega, by omega, ?_⟩
  rintro m18 e18
  have e18' : m18 = rnM m := e18
  rw [e18']
  refine ⟨by rw [ctk _ (by omega), c1 _ _ (by omega)]; exact h31, ?_⟩
  rintro m19 rfl
  exact rfl
theorem br_openw (H : RS μ) (hn : 0 ≤ n ∧ n ≤ 2000) (hB : BIw t n m i) (hR : RB0 m) (h34 : m 125 34 = 0) (hk : tK t n i = 1) (hp : pln t n (i + 1)) (d : Nat) : Wp (d + 7) 163 (0, [some (.ref 125)], [], sA μ m l) (pV (fun μ' => μ' = sA μ (adM (m_within (rnM (adM m)) 2 (m 125 18))) l) noX) := by
  have hB1 := BI_skipw hB (nN1 (Or.inl hk))
  obtain ⟨a1, a2, a3, a4, a5⟩ := BI_namew hn hB1 (Or.inl hp.1)
  have hg := BI_gNw hn hB1 (Or.inl hp.1)
  have hpl := BI_plainw hn hB1 hp.1
  have h31 := BI_31w hn.1 hB
  have h31' := BI_31w hn.1 hB1
  obtain ⟨c1, c2, c3, -, -, -, -, -, -, -, -, ctk⟩ := rn_f (m := adM m) (m0 := m) (fun _ _ q => adM_o q)
  have z12 : adM m 125 12 = m 125 12 := adM_o (by omega)
  have z18 : adM m 125 18 = m 125 18 := adM_o (by omega)
  have z8 : adM m 125 8 = m 125 8 := adM_o (by omega)
  obtain ⟨⟨b1, b2, b3⟩, ⟨b4, b5, b6, b7⟩, ⟨b8, b9, b10⟩, b11, b12, b13⟩ := hB
  obtain ⟨⟨d1, d2, d3⟩, ⟨d4, d5, d6, d7⟩, ⟨d8, d9, d10⟩, d11, d12, d13⟩ := hB1
  have hk1 : m 125 28 = 1 := b4.trans hk
  have hk3 : adM m 125 28 = 3 := d4.trans hp.1
  have vo : v_opens m = 1 := if_pos (by omega)
  have mo : m_opens m = adM m := if_pos (by omega)
  refine R163_0 H ⟨by omega, fun z => absurd z (by omega), fun _ => ⟨by omega, fun _ => ?_, fun z => absurd hk1 z⟩⟩
  refine R163_34 H ⟨by omega, fun _ => ⟨by omega, ⟨fun _ => ⟨b3, h31⟩, fun z => absurd z (by omega)⟩, ?_⟩, fun z => absurd z (by omega)⟩
  rintro m1 e1
  rw [mo] at e1
  subst e1
  refine ⟨fun _ => ⟨by omega, fun _ => ⟨by omega, ⟨fun _ => ⟨d3, d8, hg⟩, fun _ => trivial⟩, ?_⟩, fun z => absurd z (by omega)⟩, fun z => absurd (by rw [vo]; decide) z⟩
  rintro m2 rfl
  refine ⟨fun z => absurd (hpl.1.mp z) (fun y => y hp), fun _ => ?_⟩
  rw [hpl.2]
  have r30 : nmM (adM m) (adM m 125 30) (adM m 125 31) 125 30 = adM m 125 30 := k_nmM (by decide) (by decide) (by decide)
  have r31 : nmM (adM m) (adM m 125 30) (adM m 125 31) 125 31 = adM m 125 31 := k_nmM (by decide) (by decide) (by decide)
  have r8 : nmM (adM m) (adM m 125 30) (adM m 125 31) 125 8 = adM m 125 8 := k_nmM (by decide) (by decide) (by decide)
  have r12 : nmM (adM m) (adM m 125 30) (adM m 125 31) 125 12 = m 125 12 := by rw [k_nmM (by decide) (by decide) (by decide), z12]
  have r18 : nmM (adM m) (adM m 125 30) (adM m 125 31) 125 18 = m 125 18 := by rw [k_nmM (by decide) (by decide) (by decide), z18]
  have r128 : nmM (adM m) (adM m 125 30) (adM m 125 31) 128 = adM m 128 := funext fun j => k_nmM (by decide) (by decide) (by omega)
  have hT1 : TX (nmM (adM m) (adM m 125 30) (adM m 125 31)) := TX_cg r8 (fun j => congrFun r128 j) d3
  have h2 := nmM_2 (a := adM m 125 30) (b := adM m 125 31) a3 (by
    have e : sl (nmM (adM m) (adM m 125 30) (adM m 125 31) 128) (adM m 125 30) (adM m 125 31 - adM m 125 30).toNat = tW t n (i + 1) := by
      unfold tW
      rw [r128, d1, d6, d7]
    rw [e]
    exact a1)
  rw [r30, r31]
  refine ⟨hT1, a2, hg, ?_⟩
  rintro m4 rfl v5 rfl
  rw [h2.1, h2.2, r18]
  refine ⟨by omega, ?_⟩
  rintro m6 rfl v7 e7
  have x12 : m_newAtom (nmM (adM m) (adM m 125 30) (adM m 125 31)) (nmI (adM m) (adM m 125 30) (adM m 125 31)) 125 12 = m 125 12 := by rw [k_newAtom (by decide) (by decide) (by decide), r12]
  have x18 : m_newAtom (nmM (adM m) (adM m 125 30) (adM m 125 31)) (nmI (adM m) (adM m 125 30) (adM m 125 31)) 125 18 - 1 = m 125 18 := by unfold m_newAtom; rw [up_s, r18]; omega
  have e7' : v7 = m 125 18 := by omega
  rw [x12, x18, e7']
  refine ⟨by omega, by omega, ?_⟩
  rintro m8 e8
  have e8' : m8 = rnM (adM m) := by
    rw [e8]
    unfold rnM
    rw [z18]
  rw [e8']
  have g34 : rnM (adM m) 125 34 = 0 := by rw [c1 _ _ (by omega)]; exact h34
  refine ⟨by rw [g34]; omega, ?_⟩
  rintro m9 rfl
  refine ⟨?_, ?_⟩
  · rw [within_eq g34, up_i (by decide), up_c (by decide), up_c (by decide), up_c (by decide), up_i (by decide), up_c (by decide), up_c (by decide), up_c (by decide), ctk _ (by omega), c1 _ _ (by omega), ← z8]
    exact h31'
  · rintro m10 rfl
    exact rfl
/-- the memory behind ( <= -/
theorem br_arroww (H : RS μ) (hn : 0 ≤ n ∧ n ≤ 2000) (hB : BIw t n m i) (hR : RB0 m) (h34 : m 125 34 = 0) (hk : tK t n i = 1) (hk5 : tK t n (i + 1) = 5) (d : Nat) : Wp (d + 7) 163 (0, [some (.ref 125)], [], sA μ m l) (pV (fun μ' => μ' = sA μ (raM m) l) noX) := by
  have hB1 := BI_skipw hB (nN1 (Or.inl hk))
  have h31 := BI_31w hn.1 hB
  have h31' := BI_31w hn.1 hB1
  have z12 : adM m 125 12 = m 125 12 := adM_o (by omega)
  have z34 : adM m 125 34 = 0 := by rw [adM_o (by omega)]; exact h34
  obtain ⟨⟨b1, b2, b3⟩, ⟨b4, b5, b6, b7⟩, ⟨b8, b9, b10⟩, b11, b12, b13⟩ := hB
  obtain ⟨⟨d1, d2, d3⟩, ⟨d4, d5, d6, d7⟩, ⟨d8, d9, d10⟩, d11, d12, d13⟩ := hB1
  have hk1 : m 125 28 = 1 := b4.trans hk
  have hk5' : adM m 125 28 = 5 := d4.trans hk5
  have vo : v_opens m = 1 := if_pos (by omega)
  have mo : m_opens m = adM m := if_pos (by omega)
  have hE := nr_eq (h := -1) z12
  refine R163_0 H ⟨by omega, fun z => absurd z (by omega), fun _ => ⟨by omega, fun _ => ?_, fun z => absurd hk1 z⟩⟩
  refine R163_34 H ⟨by omega, fun _ => ⟨by omega, ⟨fun _ => ⟨b3, h31⟩, fun z => absurd z (by omega)⟩, ?_⟩, fun z => absurd z (by omega)⟩
  rintro m1 e1
  rw [mo] at e1
  subst e1
  refine ⟨fun _ => ⟨by omega, fun z => absurd hk5' z, fun _ => ⟨by omega, by omega, ?_⟩⟩, fun z => absurd (by rw [vo]; decide) z⟩
  rintro m11 rfl
  have g34 : m_newRule (adM m) (-1) 125 34 = 0 := by rw [hE, up_c (by decide), up_i (by decide), up_i (by decide), up_c (by decide)]; exact z34
  have g12 : m_newRule (adM m) (-1) 125 12 - 1 = m 125 12 := by rw [hE, up_c (by decide), up_s]; omega
  refine ⟨by rw [g34]; omega, ?_⟩
  rw [g12]
  rintro m12 rfl
  refine ⟨d3, ?_, ?_⟩
  · rw [within_eq g34, up_i (by decide), up_c (by decide), up_c (by decide), up_c (by decide), up_i (by decide), up_c (by decide), up_c (by decide), up_c (by decide), hE, up_c (by decide), up_i (by decide), up_i (by decide), up_c (by decide), up_c (by decide), up_i (by decide), up_i (by decide), up_c (by decide)]
    exact h31'
  · rintro m13 rfl
    exact rfl
theorem bru_fw (H : RS μ) (hn : 0 ≤ n ∧ n ≤ 2000) (hB : BIw t n m i) (hR : 0 ≤ m 125 12 ∧ m 125 12 ≤ 60) (h : m 125 12 = 60 ∨ (¬ pln t n i ∧ ¬ tK t n i = 1)) : ∃ m', (∀ d, Wp (d + 7) 163 (0, [some (.ref 125)], [], sA μ m l) (pV (fun μ' => μ' = sA μ m' l) noX)) ∧ Flt t n m m' i := by
  have hs := isPl_hs (m := m)
  have hgN := BI_gNw hn hB
  by_cases q : m 125 12 = 60
  · refine ⟨m_fail m 1 (m 125 29), fun d => ?_, fail_Flt hB.2.2.2.2.2 hB.2.1.2.1 (fun _ _ _ => rfl)⟩
    refine R163_0 H ⟨by omega, fun _ => ⟨by rw [hB.2.2.2.2.2]; omega, ?_⟩, fun z => absurd q z⟩
    rintro m1 rfl
    exact rfl
  · obtain ⟨hp, h1⟩ : ¬ pln t n i ∧ ¬ tK t n i = 1 := by
      rcases h with z | z
      · exact absurd z q
      · exact z
    have hv := isPl_0w hn hB hp
    obtain ⟨⟨b1, b2, b3⟩, ⟨b4, b5, b6, b7⟩, ⟨b8, b9, b10⟩, b11, b12, b13⟩ := hB
    have hR' := tK_R t n i
    rw [← b4] at hR'
    refine ⟨m_fail (m_isPlainName m) 1 (m_isPlainName m 125 29), fun d => ?_, fail_Flt (by rw [hs _ _ (by omega)]; exact b13) (by rw [hs _ _ (by omega)]; exact b5) (fun c j h => hs c j (by omega))⟩
    refine R163_0 H ⟨by omega, fun z => absurd z q, fun _ => ⟨hR', fun z => absurd (b4.symm.trans z) h1, fun _ => ⟨hR', ⟨fun z => ⟨b3, b8, hgN (Or.inl (b4.symm.trans z))⟩, fun _ => trivial⟩, ?_⟩⟩⟩
    rintro m2 rfl
    refine ⟨fun z => absurd hv z, fun _ => ⟨by rw [hs _ _ (by omega), b13]; omega, ?_⟩⟩
    rintro m3 rfl
    exact rfl
theorem bru_f3w (H : RS μ) (hn : 0 ≤ n ∧ n ≤ 2000) (hB : BIw t n m i) (hR : RB0 m) (h34 : m 125 34 = 0) (h1 : tK t n i = 1) (h5 : ¬ tK t n (i + 1) = 5) (hp : ¬ pln t n (i + 1)) : ∃ m', (∀ d, Wp (d + 7) 163 (0, [some (.ref 125)], [], sA μ m l) (pV (fun μ' => μ' = sA μ m' l) noX)) ∧ Flt t n m m' (i + 1) := by
  have hB1 := BI_skipw hB (nN1 (Or.inl h1))
  have hv := isPl_0w hn hB1 hp
  have hs := isPl_hs (m := adM m)
  have hgN := BI_gNw hn hB1
  have h31 := BI_31w hn.1 hB
  obtain ⟨⟨b1, b2, b3⟩, ⟨b4, b5, b6, b7⟩, ⟨b8, b9, b10⟩, b11, b12, b13⟩ := hB
  obtain ⟨⟨c1, c2, c3⟩, ⟨c4, c5, c6, c7⟩, ⟨c8, c9, c10⟩, c11, c12, c13⟩ := hB1
  have hk1 : m 125 28 = 1 := b4.trans h1
  have hR1 := tK_R t n (i + 1)
  rw [← c4] at hR1
  have vo : v_opens m = 1 := if_pos (by omega)
  have mo : m_opens m = adM m := if_pos (by omega)
  refine ⟨m_fail (m_isPlainName (adM m)) 1 (m_isPlainName (adM m) 125 29), fun d => ?_, fail_Flt (by rw [hs _ _ (by omega)]; exact c13) (by rw [hs _ _ (by omega)]; exact c5) (fun c j h => by rw [hs c j (by omega), adM_o (by omega)])⟩
  refine R163_0 H ⟨by omega, fun z => absurd z (by omega), fun _ => ⟨by omega, fun _ => ?_, fun z => absurd hk1 z⟩⟩
  refine R163_34 H ⟨by omega, fun _ => ⟨by omega, ⟨fun _ => ⟨b3, h31⟩, fun z => absurd z (by omega)⟩, ?_⟩, fun z => absurd z (by omega)⟩
  rintro m1 e1
  rw [mo] at e1
  subst e1
  refine ⟨fun _ => ⟨hR1, fun _ => ⟨hR1, ⟨fun z => ⟨c3, c8, hgN (Or.inl (c4.symm.trans z))⟩, fun _ => trivial⟩, ?_⟩, fun z => absurd (fun y => h5 (c4.symm.trans y)) z⟩, fun z => absurd (by rw [vo]; decide) z⟩
  rintro m2 rfl
  refine ⟨fun _ => ⟨by rw [hs _ _ (by omega), c13]; omega, ?_⟩, fun z => absurd hv z⟩
  rintro m3 rfl
  exact rfl
theorem simRw (H : RS μ) (hn : 0 ≤ n ∧ n ≤ 2000) (hB : BIw t n m i) (hR : RB0 m) (h34 : m 125 34 = 0) (hk0 : ¬ tK t n i = 0 ∨ m 125 12 = 0) :
    match pRu t n i with
      | .inl x => ∃ m', Rch μ l m m' ∧ Flt t n m m' x
      | .inr (ru, i') => ∃ m' vs', Rch μ l m m' ∧ BI t n m' i' vs' ∧ RuP m m' ru := by
  have hkR := tK_R t n i
  rw [← hB.2.1.1] at hkR
  have hrr : ∀ m', (∀ d, Wp (d + 7) 163 (0, [some (.ref 125)], [], sA μ m l) (pV (fun μ' => μ' = sA μ m' l) noX)) → Rch μ l m m' := fun m' hw => rch_rule H hB.2.2.2.2.2 h34 (by omega) hkR (by rw [hB.2.1.1]; exact hk0) hw
  have hnd := hB.2.2.2.1
  unfold pRu
  by_cases h5 : tK t n i = 1 ∧ tK t n (i + 1) = 5
  · rw [if_pos h5]
    have hr := hrr _ (fun d => br_arroww H hn hB hR h34 h5.1 h5.2 d)
    have z12 : adM m 125 12 = m 125 12 := adM_o (by omega)
    have z15 : adM m 125 15 = m 125 15 := adM_o (by omega)
    have hE := nr_eq (h := -1) z12
    rw [z15] at hE
    have gs : ∀ c j, ¬ ((c = 125 ∧ (j = 28 ∨ j = 29 ∨ j = 30 ∨ j = 31 ∨ j = 12 ∨ j = 38)) ∨ (c = 131 ∧ j = m 125 12) ∨ (c = 132 ∧ j = m 125 12 + 1)) → m_newRule (adM m) (-1) c j = m c j := by
      intro c j q
      rw [hE, up_o (by omega), up_o (by omega), up_o (by omega), up_o (by omega), adM_o (by omega)]
    have g34 : m_newRule (adM m) (-1) 125 34 = 0 := by rw [gs _ _ (by omega)]; exact h34
    have g12 : m_newRule (adM m) (-1) 125 12 = m 125 12 + 1 := by rw [hE, up_c (by decide), up_s]
    have g132 : m_newRule (adM m) (-1) 132 (m 125 12 + 1) = m 125 15 := by rw [hE, up_s]
    have hBg : BI t n (adM (m_newRule (adM m) (-1))) (i + 2) [] := by
      have hB1 := BI_skipw hB (nN1 (Or.inl h5.1))
      obtain ⟨⟨b1, b2, b3⟩, ⟨b4, b5, b6, b7⟩, ⟨b8, b9, b10⟩, b11, b12, b13⟩ := hB1
      have e9 : m_newRule (adM m) (-1) 125 9 = adM m 125 9 := by rw [gs _ _ (by omega), adM_o (by omega)]
      have e129 : ∀ j, m_newRule (adM m) (-1) 129 j = adM m 129 j := fun j => by rw [gs _ _ (by omega), adM_o (by omega)]
      have e130 : ∀ j, m_newRule (adM m) (-1) 130 j = adM m 130 j := fun j => by rw [gs _ _ (by omega), adM_o (by omega)]
      have hnt : (nt t n (i + 1) : Int) ≤ nt t n (i + 1 + 1) := by
        show (nt t n (i + 1) : Int) ≤ ((nt t n (i + 1) + if isN (tK t n (i + 1)) then 1 else 0 : Nat) : Int)
        split <;> omega
      have e128 : m_newRule (adM m) (-1) 128 = t := by
        funext j
        rw [gs _ _ (by omega), ← b1, adM_o (by omega)]
      have e8 : m_newRule (adM m) (-1) 125 8 = n := by rw [gs _ _ (by omega), ← b2, adM_o (by omega)]
      have e31 : m_newRule (adM m) (-1) 125 31 = adM m 125 31 := by rw [hE, up_c (by decide), up_i (by decide), up_i (by decide), up_c (by decide)]
      refine BI_adv (vs := []) e128 e8 (TX_cg (by rw [e8, b2]) (fun j => by rw [e128, b1]) b3) (by rw [e31]; exact b7) (NmW_cg e9 e129 e130 b8) (NmD_cg e9 e129 e130 b9) ⟨by rw [e9]; omega, by rw [nmL_cg e9 e129 e130, b10.2]; exact (LsT_s (nN1 (Or.inr (Or.inr h5.2)))).symm⟩ ?_ ⟨?_, by decide, fun j hj => absurd hj (by simp)⟩ ?_
      · have e22 : m_newRule (adM m) (-1) 125 22 = adM m 125 22 := by rw [gs _ _ (by omega), adM_o (by omega)]
        rw [e22]
        omega
      · rw [hE, up_c (by decide), up_i (by decide), up_s]
        rfl
      · have e32 : m_newRule (adM m) (-1) 125 32 = adM m 125 32 := by rw [gs _ _ (by omega), adM_o (by omega)]
        rw [e32]
        exact b13
    have hBa : BI t n (raM m) (i + 2) [] := BI_within hBg g34
    have hw : raM m = adM (up (up (up (up (m_newRule (adM m) (-1)) 143 0 1) 144 0 0) 145 0 (m 125 12)) 125 34 (0 + 1)) := by unfold raM; rw [within_eq g34]
    have ra : ∀ c j, ¬ ((c = 125 ∧ (j = 28 ∨ j = 29 ∨ j = 30 ∨ j = 31 ∨ j = 12 ∨ j = 38 ∨ j = 34)) ∨ (c = 131 ∧ j = m 125 12) ∨ (c = 132 ∧ j = m 125 12 + 1) ∨ ((c = 143 ∨ c = 144 ∨ c = 145) ∧ j = 0)) → raM m c j = m c j := by
      intro c j q
      rw [hw, adM_o (by omega), up_o (by omega), up_o (by omega), up_o (by omega), up_o (by omega), gs c j (by omega)]
    have r12 : raM m 125 12 = m 125 12 + 1 := by rw [hw, adM_o (by omega), up_i (by decide), up_c (by decide), up_c (by decide), up_c (by decide), g12]
    have r15 : raM m 125 15 = m 125 15 := ra _ _ (by omega)
    have r18 : raM m 125 18 = m 125 18 := ra _ _ (by omega)
    have r22 : raM m 125 22 = m 125 22 := ra _ _ (by omega)
    have r132 : raM m 132 (m 125 12 + 1) = m 125 15 := by rw [hw, adM_o (by omega), up_c (by decide), up_c (by decide), up_c (by decide), up_c (by decide), g132]
    have hFa : Fr (raM m) 1 1 0 := by
      refine ⟨by decide, by decide, ?_, ?_, ?_, by decide, Or.inl ⟨rfl, by decide⟩⟩
      · rw [hw, adM_o (by omega), up_s]
        decide
      · show raM m 143 0 = 1
        rw [hw, adM_o (by omega), up_c (by decide), up_c (by decide), up_c (by decide), up_s]
      · show raM m 144 0 = 0
        rw [hw, adM_o (by omega), up_c (by decide), up_c (by decide), up_s]
    have raX : ∀ x u, nX m x u → nX (raM m) x u := fun x u z => nX_cg (ra _ _ (by omega)) (fun j => ra _ _ (by omega)) (fun j => ra _ _ (by omega)) z
    have hRa : RB (raM m) := by unfold RB; rw [r12, r15, r18]; omega
    have hh := sim_head (l := l) H hn hBa hRa hFa
    have hPa : ∀ c j, ¬ PCl c j → raM m c j = m c j := fun c j q => ra c j (by omega)
    generalize pAt t n 8 (i + 2) [] = res at hh ⊢
    match res, hh with
    | .inl x, hh =>
      obtain ⟨m', r, hf⟩ := hh
      exact ⟨m', hr.trans r, Flt_of hf hPa⟩
    | .inr (h, i1, vs1), hh =>
      obtain ⟨m1, r1, hB1, hp⟩ := hh
      obtain ⟨p1, ⟨p21, p22, p23⟩, p3, p4, p5, p6, p7, -⟩ := hp
      rw [r12, r15, r18, r22] at p1
      rw [r18] at p3
      rw [r22] at p4
      rw [r18] at p5
      rw [r12, r15, r18] at p7
      obtain ⟨q1, q2, q3⟩ := p7 rfl
      have eR : m 125 12 + 1 - 1 = m 125 12 := by omega
      have hRu : RuC m1 (m 125 12 + 1) (m 125 15) h [] := ⟨by rw [q1]; exact ⟨by omega, by rw [p3]; omega, p5⟩, fun j hj => absurd hj (by simp)⟩
      have hc := sim_conds (l := l) (R := m 125 12 + 1) (C0 := m 125 15) (nd0 := m 125 22) (A0 := m 125 18) (h := h) (m0 := raM m) H hn (by omega) (by omega) (by omega) 8 i1 vs1 [] m1 rfl hB1 ⟨by decide, by decide, p21, by show m1 143 0 = 1; rw [p22]; exact hFa.2.2.2.1, by show m1 144 0 = _; rw [p23]; have e0 : raM m 144 0 = 0 := hFa.2.2.2.2.1; rw [e0]; rfl, by decide, Or.inl ⟨rfl, by decide⟩⟩ (by rw [p1 125 12 (by unfold SA; omega), r12]) (by rw [q2]; show m 125 15 = m 125 15 + ((0 : Nat) : Int); omega) (by rw [p3]; show m 125 18 + 1 = m 125 18 + 1 + ((0 : Nat) : Int); omega) (by rw [q3, r132]; show m 125 15 = m 125 15 + ((0 : Nat) : Int); omega) p4 hRu p1
      dsimp only
      have hP1 : ∀ c j, ¬ PCl c j → m1 c j = m c j := fun c j q => by rw [p1 c j (SA_PCl (by omega) q), hPa c j q]
      generalize pCs t n 8 i1 vs1 [] = res2 at hc ⊢
      match res2, hc with
      | .inl x, hc =>
        obtain ⟨m', r2, hf⟩ := hc
        exact ⟨m', (hr.trans r1).trans r2, Flt_of hf hP1⟩
      | .inr (cs, i2, vs2), hc =>
        obtain ⟨m', r2, a1, a2, a3, a4, a5, a6, a7, a8, a9, a10, a11⟩ := hc
        refine ⟨m', vs2, (hr.trans r1).trans r2, a1, a2, a3, a4, a6, a5, a7, a8, a9, fun c j q => ?_, fun x u z => a11 x u (p6 x u (raX x u z))⟩
        have qS : ¬ SA (m 125 22) 0 (m 125 18) (m 125 15) (m 125 12 + 1) c j := fun z => q (Or.inl z)
        have q12 : ¬ (c = 125 ∧ j = 12) := fun z => q (Or.inr z)
        rw [a10 c j qS, ra c j ?_]
        have t1 := SA_tok qS
        have t2 : ¬ (c = 125 ∧ (j = 34 ∨ j = 38)) := fun z => qS (Or.inl ⟨z.1, by omega⟩)
        have t3 : ¬ ((c = 143 ∨ c = 144 ∨ c = 145) ∧ 0 ≤ j) := fun z => qS (Or.inr (Or.inr (Or.inr (Or.inr (Or.inr (Or.inr (Or.inl z)))))))
        have t4 : ¬ (c = 131 ∧ j = m 125 12 + 1 - 1) := fun z => qS (Or.inr (Or.inr (Or.inr (Or.inr (Or.inr (Or.inr (Or.inr (Or.inl z))))))))
        have t5 : ¬ (c = 132 ∧ j = m 125 12 + 1) := fun z => qS (Or.inr (Or.inr (Or.inr (Or.inr (Or.inr (Or.inr (Or.inr (Or.inr (Or.inl z)))))))))
        clear qS q
        omega
  · rw [if_neg h5]
    unfold pAt
    -- a rule that is an atom alone
    have base : ∀ (m1 : PM) (h : Atm), (∀ c j, ¬ (SA (m 125 22) 0 (m 125 18) (m 125 15) (m 125 12 + 1) c j ∨ (c = 125 ∧ j = 12)) → m1 c j = m c j) → m1 125 34 = 0 → m1 125 12 = m 125 12 + 1 → m1 125 15 = m 125 15 → m1 125 18 = m 125 18 + 1 → m1 132 (m 125 12 + 1) = m 125 15 → m 125 22 ≤ m1 125 22 → m1 131 (m 125 12) = m 125 18 → AtR m1 (m 125 18) h false (m1 125 22) → (∀ x u, nX m x u → nX m1 x u) → RuP m m1 (h, []) := by
      intro m1 h s0 s1 s2 s3 s4 s5 s6 s7 s8 s9
      have eR : m 125 12 + 1 - 1 = m 125 12 := by omega
      refine ⟨s1, s2, by rw [s3]; show m 125 15 = m 125 15 + ((0 : Nat) : Int); omega, Nat.zero_le _, by rw [s4]; show m 125 18 + 1 = m 125 18 + 1 + ((0 : Nat) : Int); omega, by rw [s5]; show m 125 15 = m 125 15 + ((0 : Nat) : Int); omega, s6, ⟨by rw [eR, s7]; exact ⟨by omega, by omega, s8⟩, fun j hj => absurd hj (by simp)⟩, s0, s9⟩
    have setS : ∀ c j, ¬ (SA (m 125 22) 0 (m 125 18) (m 125 15) (m 125 12 + 1) c j ∨ (c = 125 ∧ j = 12)) → ¬ (c = 129 ∨ c = 130 ∨ (c = 125 ∧ (j = 9 ∨ j = 12 ∨ j = 18 ∨ j = 38 ∨ j = 28 ∨ j = 29 ∨ j = 30 ∨ j = 31)) ∨ (c = 131 ∧ j = m 125 12) ∨ (c = 132 ∧ j = m 125 12 + 1) ∨ ((c = 135 ∨ c = 137) ∧ j = m 125 18)) := by
      intro c j q z
      apply q
      rcases z with z | z | z | z | z | z
      · exact Or.inl (Or.inr (Or.inl z))
      · exact Or.inl (Or.inr (Or.inr (Or.inl z)))
      · by_cases y : j = 12
        · exact Or.inr ⟨z.1, y⟩
        · exact Or.inl (Or.inl ⟨z.1, by clear q; omega⟩)
      · exact Or.inl (Or.inr (Or.inr (Or.inr (Or.inr (Or.inr (Or.inr (Or.inr (Or.inl ⟨z.1, by clear q; omega⟩))))))))
      · exact Or.inl (Or.inr (Or.inr (Or.inr (Or.inr (Or.inr (Or.inr (Or.inr (Or.inr (Or.inl z)))))))))
      · exact Or.inl (Or.inr (Or.inr (Or.inr (Or.inr (Or.inr (Or.inr (Or.inr (Or.inr (Or.inr (Or.inr (Or.inl ⟨z.1, by clear q; omega⟩)))))))))))
    by_cases hp : pln t n i
    · rw [if_pos hp]
      obtain ⟨n1, n2, n3⟩ := rn_BIw hn hB (Or.inl hp.1)
      obtain ⟨c1, c2, c3, c4, c5, c6, c7, c8, c9, c129, c130, ctk⟩ := rn_f (m := m) (m0 := m) (fun _ _ _ => rfl)
      have e22 : adM (rnM m) 125 22 = m 125 22 := by rw [adM_o (by omega), c1 _ _ (by omega)]
      refine ⟨adM (rnM m), [], hrr _ (fun d => br_namew H hn hB hR hp d), n1, base _ _ (fun c j q => ?_) ?_ ?_ ?_ ?_ ?_ ?_ ?_ ⟨?_, Nat.zero_le _, ?_, m 125 22, by omega, ?_, trivial⟩ n3⟩
      · have := setS c j q
        rw [adM_o (by clear q; omega), c1 c j this]
      · rw [adM_o (by omega), c1 _ _ (by omega)]; exact h34
      · rw [adM_o (by omega), c2]
      · rw [adM_o (by omega), c1 _ _ (by omega)]
      · rw [adM_o (by omega), c3]
      · rw [adM_o (by omega), c6]
      · rw [e22]; omega
      · rw [adM_o (by omega), c5]
      · show nX _ (adM (rnM m) 135 (m 125 18)) (tW t n i)
        rw [adM_o (by omega), c7]
        exact n2
      · rw [adM_o (by omega), c8]
        rfl
      · rw [e22]
        show m 125 22 + ((0 : Nat) : Int) ≤ m 125 22
        omega
    · rw [if_neg hp]
      by_cases h1 : tK t n i = 1
      · rw [if_pos h1]
        by_cases hp1 : pln t n (i + 1)
        · rw [if_pos hp1]
          have hr := hrr _ (fun d => br_openw H hn hB hR h34 h1 hp1 d)
          obtain ⟨n1, n2, n3⟩ := rn_BIw hn (BI_skipw hB (nN1 (Or.inl h1))) (Or.inl hp1.1)
          obtain ⟨c1, c2, c3, c4, c5, c6, c7, c8, c9, c129, c130, ctk⟩ := rn_f (m := adM m) (m0 := m) (fun _ _ q => adM_o q)
          generalize hg : rnM (adM m) = g at hr n1 n2 n3 c1 c2 c3 c4 c5 c6 c7 c8 c9 c129 c130 ctk
          have g34 : g 125 34 = 0 := by rw [c1 _ _ (by omega)]; exact h34
          have w1 : ∀ c j, ¬ (((c = 143 ∨ c = 144 ∨ c = 145) ∧ j = 0) ∨ (c = 125 ∧ (j = 34 ∨ j = 28 ∨ j = 29 ∨ j = 30 ∨ j = 31))) → adM (m_within g 2 (m 125 18)) c j = g c j := by
            intro c j q
            rw [adM_o (by omega), within_eq g34, up_o (by omega), up_o (by omega), up_o (by omega), up_o (by omega)]
          have hI : PI2 t n (9 + 1) (adM (m_within g 2 (m 125 18))) (i + 2) [] 2 1 (m 125 18) 136 137 (m 125 22) [] := by
            refine ⟨BI_within n1 g34, ⟨by decide, by decide, ?_, ?_, ?_, ?_, by omega⟩, ?_, ?_, trivial, Or.inr ⟨Or.inl rfl, rfl, rfl, by omega, hnd.1⟩⟩
            · rw [adM_o (by omega), within_eq g34, up_s]
              decide
            · show adM (m_within g 2 (m 125 18)) 143 0 = 2
              rw [adM_o (by omega), within_eq g34, up_c (by decide), up_c (by decide), up_c (by decide), up_s]
            · show adM (m_within g 2 (m 125 18)) 145 0 = m 125 18
              rw [adM_o (by omega), within_eq g34, up_c (by decide), up_s]
            · show adM (m_within g 2 (m 125 18)) 144 0 = _
              rw [adM_o (by omega), within_eq g34, up_c (by decide), up_c (by decide), up_s]
              rfl
            · rw [w1 _ _ (by omega), c8]
              rfl
            · rw [w1 _ _ (by omega), c1 _ _ (by omega)]
              show m 125 22 = m 125 22 + ((0 : Nat) : Int)
              omega
          have hAt := atom_parts (l := l) H hn (Or.inl rfl) hI (by decide) 1 4 rfl rfl
          have hXw : ∀ x u, nX (adM g) x u → nX (adM (m_within g 2 (m 125 18))) x u := fun x u z => nX_cg (by rw [w1 _ _ (by omega), adM_o (by omega)]) (fun j => by rw [w1 _ _ (by omega), adM_o (by omega)]) (fun j => by rw [w1 _ _ (by omega), adM_o (by omega)]) z
          unfold pPa
          generalize pPs (tK t n) (pT t n 9) 1 4 (i + 2) [] [] = res at hAt ⊢
          match res, hAt with
          | .inl x, hAt =>
            obtain ⟨m', r2, hF⟩ := hAt
            refine ⟨m', hr.trans r2, Flt_of hF (fun c j q => ?_)⟩
            rw [w1 c j (by omega), c1 c j (by omega)]
          | .inr (ps, i', vs'), hAt =>
            obtain ⟨m3, r3, hB3, q1, q2, q3, q4, q5, q6, q7⟩ := hAt
            have s0 : ∀ c j, ¬ SPl (m 125 22) 1 (m 125 18) 136 137 c j → ¬ (((c = 143 ∨ c = 144 ∨ c = 145) ∧ j = 0) ∨ (c = 125 ∧ (j = 34 ∨ j = 28 ∨ j = 29 ∨ j = 30 ∨ j = 31))) → m3 c j = g c j := fun c j z1 z2 => by rw [q1 c j z1, w1 c j z2]
            refine ⟨m3, vs', hr.trans r3, hB3, base _ _ (fun c j q => ?_) q2 ?_ ?_ ?_ ?_ (by rw [q3]; omega) ?_ ⟨?_, q7, q4, m 125 22, hnd.1, by rw [q3]; exact Int.le_refl _, q5⟩ (fun x u z => q6 x u (hXw x u (n3 x u (nX_cg (adM_o (by omega)) (fun j => adM_o (by omega)) (fun j => adM_o (by omega)) z))))⟩
            · have qS : ¬ SA (m 125 22) 0 (m 125 18) (m 125 15) (m 125 12 + 1) c j := fun z => q (Or.inl z)
              have t1 := setS c j q
              have t3 : ¬ ((c = 143 ∨ c = 144 ∨ c = 145) ∧ 0 ≤ j) := fun z => qS (Or.inr (Or.inr (Or.inr (Or.inr (Or.inr (Or.inr (Or.inl z)))))))
              have t4 : ¬ (c = 125 ∧ j = 34) := fun z => qS (Or.inl ⟨z.1, by clear qS q; omega⟩)
              rw [s0 c j (SPl_SA (o := 1) (by decide) qS) (by clear qS q; omega), c1 c j t1]
            · rw [s0 _ _ (by unfold SPl; omega) (by omega), c2]
            · rw [s0 _ _ (by unfold SPl; omega) (by omega), c1 _ _ (by omega)]
            · rw [s0 _ _ (by unfold SPl; omega) (by omega), c3]
            · rw [s0 _ _ (by unfold SPl; omega) (by omega), c6]
            · rw [s0 _ _ (by unfold SPl; omega) (by omega), c5]
            · show nX m3 (m3 135 (m 125 18)) (tW t n (i + 1))
              rw [s0 135 _ (by unfold SPl; omega) (by omega), c7]
              exact q6 _ _ (hXw _ _ n2)
        · rw [if_neg hp1]
          obtain ⟨m', hw, hF⟩ := bru_f3w (l := l) H hn hB hR h34 h1 (fun z => h5 ⟨h1, z⟩) hp1
          exact ⟨m', hrr _ hw, hF⟩
      · rw [if_neg h1]
        obtain ⟨m', hw, hF⟩ := bru_fw (l := l) H hn hB (by omega) (Or.inr ⟨hp, h1⟩)
        exact ⟨m', hrr _ hw, hF⟩
theorem simSw (H : RS μ) (hn : 0 ≤ n ∧ n ≤ 2000) : ∀ (r i : Nat) (rs : List Rul) (m : PM), rs.length + r = 60 → BIw t n m i → m 125 34 = 0 → ShR m rs → match pSh t n r i rs with
      | .inl x => ∃ m', Rch μ l m m' ∧ Flt t n m m' x
      | .inr rs' => ∃ m' i', Rch μ l m m' ∧ BIw t n m' i' ∧ tK t n i' = 0 ∧ ¬ rs' = [] ∧ m' 125 34 = 0 ∧ ShR m' rs' ∧ ∀ c j, ¬ PCl c j → m' c j = m c j := by
  intro r
  induction r with
  | zero =>
    intro i rs m hr hB h34 hS
    unfold pSh
    by_cases q : tK t n i = 0 ∧ ¬ rs = []
    · rw [if_pos q]
      exact ⟨m, i, Rch.refl, hB, q.1, q.2, h34, hS, fun _ _ _ => rfl⟩
    · rw [if_neg q]
      have hne : ¬ rs = [] := fun z => by rw [z] at hr; simp at hr
      have hk : ¬ tK t n i = 0 := fun z => q ⟨z, hne⟩
      have hkR := tK_R t n i
      rw [← hB.2.1.1] at hkR
      have e12 := hS.1
      obtain ⟨m', hw, hF⟩ := bru_fw (l := l) H hn hB (by omega) (Or.inl (by omega))
      exact ⟨m', rch_rule H hB.2.2.2.2.2 h34 (by omega) hkR (Or.inl (by rw [hB.2.1.1]; exact hk)) hw, hF⟩
  | succ r ih =>
    intro i rs m hr hB h34 hS
    unfold pSh
    by_cases q : tK t n i = 0 ∧ ¬ rs = []
    · rw [if_pos q]
      exact ⟨m, i, Rch.refl, hB, q.1, q.2, h34, hS, fun _ _ _ => rfl⟩
    · rw [if_neg q]
      have e12 := hS.1
      have hk0 : ¬ tK t n i = 0 ∨ m 125 12 = 0 := by
        by_cases z : tK t n i = 0
        · right
          have : rs = [] := Classical.byContradiction fun y => q ⟨z, y⟩
          rw [e12, this]
          rfl
        · exact Or.inl z
      have hR0 : RB0 m := by
        obtain ⟨_, _, _, h4, h5, _⟩ := hS
        unfold RB0
        omega
      have h := simRw (l := l) H hn hB hR0 h34 hk0
      generalize pRu t n i = res at h ⊢
      match res, h with
      | .inl x, h => exact h
      | .inr (ru, i1), h =>
        obtain ⟨m1, vs1, r1, hB1, hp⟩ := h
        have hpc := RuP_PCl hR0.1 hp
        have h3 := ih i1 (rs ++ [ru]) m1 (by simp; omega) (BI_w hB1) hp.1 (ShR_add hB.2.2.2.1.1 hS hp)
        dsimp only
        generalize pSh t n r i1 (rs ++ [ru]) = res2 at h3 ⊢
        match res2, h3 with
        | .inl x, h3 =>
          obtain ⟨m', r2, hf⟩ := h3
          exact ⟨m', r1.trans r2, Flt_of hf hpc⟩
        | .inr rs', h3 =>
          obtain ⟨m', i', r2, a1, a2, a3, a4, a5, a6⟩ := h3
          exact ⟨m', i', r1.trans r2, a1, a2, a3, a4, a5, fun c j z => by rw [a6 c j z, hpc c j z]⟩
end WEAK
