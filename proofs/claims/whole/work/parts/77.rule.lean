/-! ===== the reference's reader: a rule ===== -/
section RUL2
variable {t : Int → Int} {n : Int} {μ : am_Mem} {l : PM}
/-- a rule has been read -/
def RuP (m m' : PM) (ru : Rul) : Prop :=
  m' 125 34 = 0 ∧ m' 125 12 = m 125 12 + 1 ∧ m' 125 15 = m 125 15 + (ru.2.length : Int) ∧ ru.2.length ≤ 8 ∧ m' 125 18 = m 125 18 + 1 + (ru.2.length : Int) ∧ m' 132 (m 125 12 + 1) = m 125 15 + (ru.2.length : Int) ∧ m 125 22 ≤ m' 125 22 ∧ RuC m' (m 125 12 + 1) (m 125 15) ru.1 ru.2 ∧ (∀ c j, ¬ (SA (m 125 22) 0 (m 125 18) (m 125 15) (m 125 12 + 1) c j ∨ (c = 125 ∧ j = 12)) → m' c j = m c j) ∧ ∀ x u, nX m x u → nX m' x u
/-- the turn of the loop that begins a rule -/
theorem rch_rule (H : RS μ) {m m' : PM} (hf : m 125 32 = 0) (ho : m 125 34 = 0) (hR : 0 ≤ m 125 12 ∧ m 125 12 ≤ 60) (hk : iR (m 125 28)) (hk0 : ¬ m 125 28 = 0 ∨ m 125 12 = 0) (hw : ∀ d, Wp (d + 7) 163 (0, [some (.ref 125)], [], sA μ m l) (pV (fun μ' => μ' = sA μ m' l) noX)) : Rch μ l m m' := by
  intro d Q h
  have h83 : Wp (d + 8) 155 (83, [some (.ref 125)], [], sA μ m l) Q := by
    refine R155_83 H ⟨by omega, fun z => absurd ho z, fun _ => ⟨_, _, hw d, fun μ' hp => ?_, fun _ _ z => z.elim⟩⟩
    have hp' : μ' = sA μ m' l := hp
    rw [hp']
    exact R155_94 H h
  refine R155_55 H ⟨by omega, fun z => absurd hf z, fun _ => ⟨by omega, fun z => absurd z (by omega), fun _ => ⟨hk, fun _ => h83, fun z => ⟨by omega, fun y => ?_, fun _ => h83⟩⟩⟩⟩
  rcases hk0 with q | q
  · exact absurd q z
  · exact absurd q y
theorem nr_eq {X : PM} {R h : Int} (e : X 125 12 = R) : m_newRule X h = up (up (up (up X 131 R h) 125 38 0) 125 12 (R + 1)) 132 (R + 1) (X 125 15) := by
  unfold m_newRule
  rw [e]
theorem na_eq {X : PM} {A v : Int} (e : X 125 18 = A) : m_newAtom X v = up (up (up X 135 A v) 137 A 0) 125 18 (A + 1) := by
  unfold m_newAtom
  rw [e]
/-- the memory with a new rule and its head's name -/
noncomputable def rnM (m : PM) : PM := m_newRule (m_newAtom (nmM m (m 125 30) (m 125 31)) (nmI m (m 125 30) (m 125 31))) (m 125 18)
theorem rn_f {m m0 : PM} (hs : ∀ c j, ¬ (c = 125 ∧ (j = 28 ∨ j = 29 ∨ j = 30 ∨ j = 31)) → m c j = m0 c j) : (∀ c j, ¬ (c = 129 ∨ c = 130 ∨ (c = 125 ∧ (j = 9 ∨ j = 12 ∨ j = 18 ∨ j = 38 ∨ j = 28 ∨ j = 29 ∨ j = 30 ∨ j = 31)) ∨ (c = 131 ∧ j = m0 125 12) ∨ (c = 132 ∧ j = m0 125 12 + 1) ∨ ((c = 135 ∨ c = 137) ∧ j = m0 125 18)) → rnM m c j = m0 c j) ∧ rnM m 125 12 = m0 125 12 + 1 ∧ rnM m 125 18 = m0 125 18 + 1 ∧ rnM m 125 38 = 0 ∧ rnM m 131 (m0 125 12) = m0 125 18 ∧ rnM m 132 (m0 125 12 + 1) = m0 125 15 ∧ rnM m 135 (m0 125 18) = nmI m (m 125 30) (m 125 31) ∧ rnM m 137 (m0 125 18) = 0 ∧ rnM m 125 9 = nmM m (m 125 30) (m 125 31) 125 9 ∧ (∀ j, rnM m 129 j = nmM m (m 125 30) (m 125 31) 129 j) ∧ (∀ j, rnM m 130 j = nmM m (m 125 30) (m 125 31) 130 j) ∧ (∀ j, j = 28 ∨ j = 29 ∨ j = 30 ∨ j = 31 → rnM m 125 j = m 125 j) := by
  have k := nmM_hs3 (m := m) (a := m 125 30) (b := m 125 31)
  have e18 : nmM m (m 125 30) (m 125 31) 125 18 = m0 125 18 := by rw [k _ _ (by omega), hs _ _ (by omega)]
  have e18' : m 125 18 = m0 125 18 := hs _ _ (by omega)
  have hX := na_eq (v := (nmI m (m 125 30) (m 125 31) : Int)) e18
  have e12 : m_newAtom (nmM m (m 125 30) (m 125 31)) (nmI m (m 125 30) (m 125 31)) 125 12 = m0 125 12 := by rw [hX, up_i (by decide), up_c (by decide), up_c (by decide), k _ _ (by omega), hs _ _ (by omega)]
  have e15 : m_newAtom (nmM m (m 125 30) (m 125 31)) (nmI m (m 125 30) (m 125 31)) 125 15 = m0 125 15 := by rw [hX, up_i (by decide), up_c (by decide), up_c (by decide), k _ _ (by omega), hs _ _ (by omega)]
  have hE : rnM m = up (up (up (up (up (up (up (nmM m (m 125 30) (m 125 31)) 135 (m0 125 18) (nmI m (m 125 30) (m 125 31))) 137 (m0 125 18) 0) 125 18 (m0 125 18 + 1)) 131 (m0 125 12) (m0 125 18)) 125 38 0) 125 12 (m0 125 12 + 1)) 132 (m0 125 12 + 1) (m0 125 15) := by
    unfold rnM
    rw [nr_eq e12, e15, hX, e18']
  rw [hE]
  refine ⟨fun c j q => ?_, ?_, ?_, ?_, ?_, up_s _ _ _ _, ?_, ?_, ?_, fun j => ?_, fun j => ?_, fun j hj => ?_⟩
  · rw [up_o (by omega), up_o (by omega), up_o (by omega), up_o (by omega), up_o (by omega), up_o (by omega), up_o (by omega), k _ _ (by omega), hs _ _ (by omega)]
  · rw [up_c (by decide), up_s]
  · rw [up_c (by decide), up_i (by decide), up_i (by decide), up_c (by decide), up_s]
  · rw [up_c (by decide), up_i (by decide), up_s]
  · rw [up_c (by decide), up_c (by decide), up_c (by decide), up_s]
  · rw [up_c (by decide), up_c (by decide), up_c (by decide), up_c (by decide), up_c (by decide), up_c (by decide), up_s]
  · rw [up_c (by decide), up_c (by decide), up_c (by decide), up_c (by decide), up_c (by decide), up_s]
  · rw [up_c (by decide), up_i (by decide), up_i (by decide), up_c (by decide), up_i (by decide), up_c (by decide), up_c (by decide)]
  · rw [up_c (by decide), up_c (by decide), up_c (by decide), up_c (by decide), up_c (by decide), up_c (by decide), up_c (by decide)]
  · rw [up_c (by decide), up_c (by decide), up_c (by decide), up_c (by decide), up_c (by decide), up_c (by decide), up_c (by decide)]
  · rw [up_o (by omega), up_o (by omega), up_o (by omega), up_o (by omega), up_o (by omega), up_o (by omega), up_o (by omega), k _ _ (by omega)]
/-- the reader's state behind a new rule's name -/
theorem rn_BI (hn : 0 ≤ n ∧ n ≤ 2000) {m : PM} {i : Nat} {vs : List (List Int)} (hB : BI t n m i vs) (hk : isN (tK t n i)) : BI t n (adM (rnM m)) (i + 1) [] ∧ nX (adM (rnM m)) (nmI m (m 125 30) (m 125 31)) (tW t n i) ∧ ∀ x u, nX m x u → nX (adM (rnM m)) x u := by
  obtain ⟨a1, a2, a3, a4, a5⟩ := BI_name hn hB hk
  obtain ⟨c1, c2, c3, c4, c5, c6, c7, c8, c9, c129, c130, ctk⟩ := rn_f (m := m) (m0 := m) (fun _ _ _ => rfl)
  obtain ⟨⟨b1, b2, b3⟩, ⟨b4, b5, b6, b7⟩, ⟨b8, b9, b10⟩, b11, ⟨b12, b13, b14⟩, b15⟩ := hB
  have hnt : (nt t n (i + 1) : Int) = nt t n i + 1 := by
    show ((nt t n i + if isN (tK t n i) then 1 else 0 : Nat) : Int) = _
    rw [if_pos hk]
    omega
  have hX : ∀ x u, nX (nmM m (m 125 30) (m 125 31)) x u → nX (adM (rnM m)) x u := fun x u z => nX_cg (by rw [adM_o (by omega), c9]) (fun j => by rw [adM_o (by omega), c129]) (fun j => by rw [adM_o (by omega), c130]) z
  have e128 : rnM m 128 = t := by
    funext j
    rw [c1 _ _ (by omega), b1]
  have e8 : rnM m 125 8 = n := by rw [c1 _ _ (by omega), b2]
  refine ⟨BI_adv (vs := []) e128 e8 (TX_cg (by rw [e8, b2]) (fun j => by rw [e128, b1]) b3) (by rw [ctk _ (by omega)]; exact b7) (NmW_cg c9 c129 c130 a2) (NmD_cg c9 c129 c130 a3) ⟨by rw [c9, hnt]; omega, by rw [nmL_cg c9 c129 c130, a4.2, b10.2, LsT_n hk]⟩ (by rw [c1 _ _ (by omega), hnt]; omega) ⟨by rw [c4]; rfl, by decide, fun j hj => absurd hj (by simp)⟩ (by rw [c1 _ _ (by omega)]; exact b15), hX _ _ a1, fun x u z => hX x u (a5 x u z)⟩
/-- the numbers of rules and what they have are small -/
abbrev RB0 (m : PM) : Prop := 0 ≤ m 125 12 ∧ m 125 12 < 60 ∧ 0 ≤ m 125 15 ∧ m 125 15 ≤ 8 * m 125 12 ∧ 0 ≤ m 125 18 ∧ m 125 18 ≤ 9 * m 125 12
theorem br_name (H : RS μ) (hn : 0 ≤ n ∧ n ≤ 2000) {m : PM} {i : Nat} {vs : List (List Int)} (hB : BI t n m i vs) (hR : RB0 m) (hp : pln t n i) (d : Nat) : Wp (d + 7) 163 (0, [some (.ref 125)], [], sA μ m l) (pV (fun μ' => μ' = sA μ (adM (rnM m)) l) noX) := by
  obtain ⟨a1, a2, a3, a4, a5⟩ := BI_name hn hB (Or.inl hp.1)
  have hg := BI_gN hn hB (Or.inl hp.1)
  have hpl := BI_plain hn hB hp.1
  have h31 := BI_31 hn.1 hB
  obtain ⟨c1, -, -, -, -, -, -, -, -, -, -, ctk⟩ := rn_f (m := m) (m0 := m) (fun _ _ _ => rfl)
  obtain ⟨⟨b1, b2, b3⟩, ⟨b4, b5, b6, b7⟩, ⟨b8, b9, b10⟩, b11, b12, b13⟩ := hB
  have hk3 : m 125 28 = 3 := b4.trans hp.1
  refine R163_0 H ⟨by omega, fun z => absurd z (by omega), fun _ => ⟨by omega, fun z => absurd z (by omega), fun _ => ⟨by omega, ⟨fun _ => ⟨b3, b8, hg⟩, fun _ => trivial⟩, ?_⟩⟩⟩
  rintro m2 rfl
  refine ⟨fun _ => ?_, fun z => absurd (fun y => hpl.1.mp y hp) z⟩
  rw [hpl.2]
  have r28 : nmM m (m 125 30) (m 125 31) 125 28 = m 125 28 := k_nmM (by decide) (by decide) (by decide)
  have r30 : nmM m (m 125 30) (m 125 31) 125 30 = m 125 30 := k_nmM (by decide) (by decide) (by decide)
  have r31 : nmM m (m 125 30) (m 125 31) 125 31 = m 125 31 := k_nmM (by decide) (by decide) (by decide)
  have r8 : nmM m (m 125 30) (m 125 31) 125 8 = m 125 8 := k_nmM (by decide) (by decide) (by decide)
  have r12 : nmM m (m 125 30) (m 125 31) 125 12 = m 125 12 := k_nmM (by decide) (by decide) (by decide)
  have r18 : nmM m (m 125 30) (m 125 31) 125 18 = m 125 18 := k_nmM (by decide) (by decide) (by decide)
  have r128 : nmM m (m 125 30) (m 125 31) 128 = m 128 := funext fun j => k_nmM (by decide) (by decide) (by omega)
  have hT1 : TX (nmM m (m 125 30) (m 125 31)) := TX_cg r8 (fun j => congrFun r128 j) b3
  have h2 := nmM_2 (a := m 125 30) (b := m 125 31) a3 (by
    have e : sl (nmM m (m 125 30) (m 125 31) 128) (m 125 30) (m 125 31 - m 125 30).toNat = tW t n i := by
      unfold tW
      rw [r128, b1, b6, b7]
    rw [e]
    exact a1)
  refine R163_34 H ⟨by rw [r28]; omega, fun z => absurd (r28.trans hk3) z, fun _ => ?_⟩
  rw [r30, r31]
  refine ⟨hT1, a2, hg, ?_⟩
  rintro m14 rfl v15 rfl
  rw [h2.1, h2.2, r18]
  refine ⟨by omega, ?_⟩
  rintro m16 rfl v17 e17
  have x12 : m_newAtom (nmM m (m 125 30) (m 125 31)) (nmI m (m 125 30) (m 125 31)) 125 12 = m 125 12 := by rw [k_newAtom (by decide) (by decide) (by decide), r12]
  have e17' : v17 = m 125 18 := by omega
  rw [x12, e17']
  refine ⟨by omega, by omega, ?_⟩
  rintro m18 e18
  have e18' : m18 = rnM m := e18
  rw [e18']
  refine ⟨by rw [ctk _ (by omega), c1 _ _ (by omega)]; exact h31, ?_⟩
  rintro m19 rfl
  exact rfl
end RUL2
