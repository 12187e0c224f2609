/-! ===== the class's terms: grow whole, reserve ===== -/
section CGW
variable {d : Nat} {μ : am_Mem} {m l : PM} {Q : Option Value ⊕ Nat → am_Mem → Prop}
theorem gw_0 (hk : am_kd μ 84 = (1, 8)) (hn : 185 ≤ am_n μ) (hF : am_F μ 84 1 = 85) (hK : am_kd μ 85 = (2, 4096)) (h : Wp (d + 1) 93 (10, [some (.ref 84), none, none, none], [.ref (am_n μ), .ref 84], sA (am_nA μ 2 58192) (nwM m (am_n μ) (fun j => if j < ((4096 : Nat) : Int) then m 85 j else 0)) (nwM l (am_n μ) (fun _ => 0))) Q) : Wp (d + 1) 93 (0, [some (.ref 84), none, none, none], [], sA μ m l) Q := by
  have eF : am_F (sA μ m l) 84 1 = 85 := hF
  refine b93_0 (P := fun r μ' => r = am_n μ ∧ μ' = sA (am_nA μ 2 58192) (nwM m (am_n μ) (fun j => if j < ((4096 : Nat) : Int) then m 85 j else 0)) (nwM l (am_n μ) (fun _ => 0))) (X := noX) hk (by rw [eF]; decide) ?_ (fun x μ' hp => ?_) (fun x μ' z => absurd z (fun z => z))
  · rw [eF]
    exact c_copyOf (N' := 58192) hK (by omega) (by decide) (by decide) (by decide) (by decide) (by decide) (by decide) (by decide) (by decide)
  · rw [hp.1, hp.2]
    exact h
theorem gw_10 (hk : am_kd μ 84 = (1, 8)) (hn : 185 ≤ am_n μ) (hF : am_F μ 84 2 = 86) (hK : am_kd μ 86 = (2, 4096)) (h : Wp (d + 1) 93 (23, [some (.ref 84), none, none, none], [.ref (am_n (gs μ 1 58192)), .ref 84], sA (am_nA (gs μ 1 58192) 2 58192) (nwM m (am_n (gs μ 1 58192)) (fun j => if j < ((4096 : Nat) : Int) then m 86 j else 0)) (nwM l (am_n (gs μ 1 58192)) (fun _ => 0))) Q) : Wp (d + 1) 93 (10, [some (.ref 84), none, none, none], [.ref (am_n μ), .ref 84], sA (am_nA μ 2 58192) m l) Q := by
  have eF : am_F (sA (gs μ 1 58192) m l) 84 2 = 86 := Eq.trans (gs_F (μ := μ) (f := 1) (N := 58192) (c := 84) (j := 2) (by decide)) hF
  have e84 : am_kd (am_nA μ 2 58192) 84 = (1, 8) := (kd_nA (by omega)).trans hk
  have en : am_n (gs μ 1 58192) = am_n μ + 1 := rfl
  refine b93_10 (P := fun r μ' => r = am_n (gs μ 1 58192) ∧ μ' = sA (am_nA (gs μ 1 58192) 2 58192) (nwM m (am_n (gs μ 1 58192)) (fun j => if j < ((4096 : Nat) : Int) then m 86 j else 0)) (nwM l (am_n (gs μ 1 58192)) (fun _ => 0))) (X := noX) e84 (by omega) e84 (fun z => absurd (eF.symm.trans z) (by decide)) ?_ (fun x μ' hp => ?_) (fun x μ' z => absurd z (fun z => z))
  · show Wp d 292 (0, [some (.ref (am_F (sA (gs μ 1 58192) m l) 84 2)), some (.int (58192 : Int32)), none], [], sA (gs μ 1 58192) m l) _
    rw [eF]
    exact c_copyOf (N' := 58192) ((gs_k (by omega)).trans hK) (by omega) (by decide) (by decide) (by decide) (by decide) (by decide) (by decide) (by decide) (by decide)
  · rw [hp.1, hp.2]
    exact h
theorem gw_23 (hk : am_kd μ 84 = (1, 8)) (hn : 185 ≤ am_n μ) (hF : am_F μ 84 3 = 87) (hK : am_kd μ 87 = (2, 16384)) (h : Wp (d + 1) 93 (36, [some (.ref 84), none, none, none], [.ref (am_n (gs μ 2 58192)), .ref 84], sA (am_nA (gs μ 2 58192) 2 232768) (nwM m (am_n (gs μ 2 58192)) (fun j => if j < ((16384 : Nat) : Int) then m 87 j else 0)) (nwM l (am_n (gs μ 2 58192)) (fun _ => 0))) Q) : Wp (d + 1) 93 (23, [some (.ref 84), none, none, none], [.ref (am_n μ), .ref 84], sA (am_nA μ 2 58192) m l) Q := by
  have eF : am_F (sA (gs μ 2 58192) m l) 84 3 = 87 := Eq.trans (gs_F (μ := μ) (f := 2) (N := 58192) (c := 84) (j := 3) (by decide)) hF
  have e84 : am_kd (am_nA μ 2 58192) 84 = (1, 8) := (kd_nA (by omega)).trans hk
  have en : am_n (gs μ 2 58192) = am_n μ + 1 := rfl
  refine b93_23 (P := fun r μ' => r = am_n (gs μ 2 58192) ∧ μ' = sA (am_nA (gs μ 2 58192) 2 232768) (nwM m (am_n (gs μ 2 58192)) (fun j => if j < ((16384 : Nat) : Int) then m 87 j else 0)) (nwM l (am_n (gs μ 2 58192)) (fun _ => 0))) (X := noX) e84 (by omega) e84 (fun z => absurd (eF.symm.trans z) (by decide)) ?_ (fun x μ' hp => ?_) (fun x μ' z => absurd z (fun z => z))
  · show Wp d 292 (0, [some (.ref (am_F (sA (gs μ 2 58192) m l) 84 3)), some (.int (232768 : Int32)), none], [], sA (gs μ 2 58192) m l) _
    rw [eF]
    exact c_copyOf (N' := 232768) ((gs_k (by omega)).trans hK) (by omega) (by decide) (by decide) (by decide) (by decide) (by decide) (by decide) (by decide) (by decide)
  · rw [hp.1, hp.2]
    exact h
theorem gw_36 (hk : am_kd μ 84 = (1, 8)) (hn : 185 ≤ am_n μ) (hF : am_F μ 84 4 = 88) (hK : am_kd μ 88 = (2, 4096)) (h : Wp (d + 1) 93 (49, [some (.ref 84), none, none, none], [.ref (am_n (gs μ 3 232768)), .ref 84], sA (am_nA (gs μ 3 232768) 2 58192) (nwM m (am_n (gs μ 3 232768)) (fun j => if j < ((4096 : Nat) : Int) then m 88 j else 0)) (nwM l (am_n (gs μ 3 232768)) (fun _ => 0))) Q) : Wp (d + 1) 93 (36, [some (.ref 84), none, none, none], [.ref (am_n μ), .ref 84], sA (am_nA μ 2 232768) m l) Q := by
  have eF : am_F (sA (gs μ 3 232768) m l) 84 4 = 88 := Eq.trans (gs_F (μ := μ) (f := 3) (N := 232768) (c := 84) (j := 4) (by decide)) hF
  have e84 : am_kd (am_nA μ 2 232768) 84 = (1, 8) := (kd_nA (by omega)).trans hk
  have en : am_n (gs μ 3 232768) = am_n μ + 1 := rfl
  refine b93_36 (P := fun r μ' => r = am_n (gs μ 3 232768) ∧ μ' = sA (am_nA (gs μ 3 232768) 2 58192) (nwM m (am_n (gs μ 3 232768)) (fun j => if j < ((4096 : Nat) : Int) then m 88 j else 0)) (nwM l (am_n (gs μ 3 232768)) (fun _ => 0))) (X := noX) e84 (by omega) e84 (fun z => absurd (eF.symm.trans z) (by decide)) ?_ (fun x μ' hp => ?_) (fun x μ' z => absurd z (fun z => z))
  · show Wp d 292 (0, [some (.ref (am_F (sA (gs μ 3 232768) m l) 84 4)), some (.int (58192 : Int32)), none], [], sA (gs μ 3 232768) m l) _
    rw [eF]
    exact c_copyOf (N' := 58192) ((gs_k (by omega)).trans hK) (by omega) (by decide) (by decide) (by decide) (by decide) (by decide) (by decide) (by decide) (by decide)
  · rw [hp.1, hp.2]
    exact h
theorem gw_49 (hk : am_kd μ 84 = (1, 8)) (hn : 185 ≤ am_n μ) (hF : am_F μ 84 5 = 89) (hK : am_kd μ 89 = (2, 4096)) (h : Wp (d + 1) 93 (62, [some (.ref 84), none, none, none], [.ref (am_n (gs μ 4 58192)), .ref 84], sA (am_nA (gs μ 4 58192) 2 58192) (nwM m (am_n (gs μ 4 58192)) (fun j => if j < ((4096 : Nat) : Int) then m 89 j else 0)) (nwM l (am_n (gs μ 4 58192)) (fun _ => 0))) Q) : Wp (d + 1) 93 (49, [some (.ref 84), none, none, none], [.ref (am_n μ), .ref 84], sA (am_nA μ 2 58192) m l) Q := by
  have eF : am_F (sA (gs μ 4 58192) m l) 84 5 = 89 := Eq.trans (gs_F (μ := μ) (f := 4) (N := 58192) (c := 84) (j := 5) (by decide)) hF
  have e84 : am_kd (am_nA μ 2 58192) 84 = (1, 8) := (kd_nA (by omega)).trans hk
  have en : am_n (gs μ 4 58192) = am_n μ + 1 := rfl
  refine b93_49 (P := fun r μ' => r = am_n (gs μ 4 58192) ∧ μ' = sA (am_nA (gs μ 4 58192) 2 58192) (nwM m (am_n (gs μ 4 58192)) (fun j => if j < ((4096 : Nat) : Int) then m 89 j else 0)) (nwM l (am_n (gs μ 4 58192)) (fun _ => 0))) (X := noX) e84 (by omega) e84 (fun z => absurd (eF.symm.trans z) (by decide)) ?_ (fun x μ' hp => ?_) (fun x μ' z => absurd z (fun z => z))
  · show Wp d 292 (0, [some (.ref (am_F (sA (gs μ 4 58192) m l) 84 5)), some (.int (58192 : Int32)), none], [], sA (gs μ 4 58192) m l) _
    rw [eF]
    exact c_copyOf (N' := 58192) ((gs_k (by omega)).trans hK) (by omega) (by decide) (by decide) (by decide) (by decide) (by decide) (by decide) (by decide) (by decide)
  · rw [hp.1, hp.2]
    exact h
theorem gw_62 (hk : am_kd μ 84 = (1, 8)) (hn : 185 ≤ am_n μ) (hF : am_F μ 84 6 = 90) (hK : am_kd μ 90 = (2, 4096)) (h : Wp (d + 1) 93 (75, [some (.ref 84), none, none, none], [.ref (am_n (gs μ 5 58192)), .ref 84], sA (am_nA (gs μ 5 58192) 2 58192) (nwM m (am_n (gs μ 5 58192)) (fun j => if j < ((4096 : Nat) : Int) then m 90 j else 0)) (nwM l (am_n (gs μ 5 58192)) (fun _ => 0))) Q) : Wp (d + 1) 93 (62, [some (.ref 84), none, none, none], [.ref (am_n μ), .ref 84], sA (am_nA μ 2 58192) m l) Q := by
  have eF : am_F (sA (gs μ 5 58192) m l) 84 6 = 90 := Eq.trans (gs_F (μ := μ) (f := 5) (N := 58192) (c := 84) (j := 6) (by decide)) hF
  have e84 : am_kd (am_nA μ 2 58192) 84 = (1, 8) := (kd_nA (by omega)).trans hk
  have en : am_n (gs μ 5 58192) = am_n μ + 1 := rfl
  refine b93_62 (P := fun r μ' => r = am_n (gs μ 5 58192) ∧ μ' = sA (am_nA (gs μ 5 58192) 2 58192) (nwM m (am_n (gs μ 5 58192)) (fun j => if j < ((4096 : Nat) : Int) then m 90 j else 0)) (nwM l (am_n (gs μ 5 58192)) (fun _ => 0))) (X := noX) e84 (by omega) e84 (fun z => absurd (eF.symm.trans z) (by decide)) ?_ (fun x μ' hp => ?_) (fun x μ' z => absurd z (fun z => z))
  · show Wp d 292 (0, [some (.ref (am_F (sA (gs μ 5 58192) m l) 84 6)), some (.int (58192 : Int32)), none], [], sA (gs μ 5 58192) m l) _
    rw [eF]
    exact c_copyOf (N' := 58192) ((gs_k (by omega)).trans hK) (by omega) (by decide) (by decide) (by decide) (by decide) (by decide) (by decide) (by decide) (by decide)
  · rw [hp.1, hp.2]
    exact h
theorem gw_75 (hk : am_kd μ 84 = (1, 8)) (hn : 185 ≤ am_n μ) (h : Wp d 93 (96, [some (.ref 84), some (.int (zI 0)), none, none], [], sA (gs (gs (gs μ 6 58192) 7 58192) 8 131072) (nwM (nwM m (am_n μ + 1) (fun _ => 0)) (am_n μ + 2) (fun _ => 0)) (nwM (nwM l (am_n μ + 1) (fun _ => 0)) (am_n μ + 2) (fun _ => 0))) Q) : Wp d 93 (75, [some (.ref 84), none, none, none], [.ref (am_n μ), .ref 84], sA (am_nA μ 2 58192) m l) Q := by
  have e84 : am_kd (am_nA μ 2 58192) 84 = (1, 8) := (kd_nA (by omega)).trans hk
  have e84b : am_kd (am_nA (gs μ 6 58192) 2 58192) 84 = (1, 8) := (kd_nA (show ¬ 84 = am_n μ + 1 by omega)).trans e84
  have e84c : am_kd (am_nA (gs (gs μ 6 58192) 7 58192) 2 131072) 84 = (1, 8) := (kd_nA (show ¬ 84 = am_n μ + 1 + 1 by omega)).trans e84b
  have e1 : am_nA (am_pR (sA (am_nA μ 2 58192) m l) 84 6 (am_n μ)) 2 (58192 : Int32).toNatClampNeg = sA (am_nA (gs μ 6 58192) 2 58192) (nwM m (am_n μ + 1) (fun _ => 0)) (nwM l (am_n μ + 1) (fun _ => 0)) := by
    have e0 : (58192 : Int32).toNatClampNeg = 58192 := by decide
    rw [e0]
    exact nA_sA (gs μ 6 58192) m l 2 58192
  have e2 : am_nA (sA (gs (gs μ 6 58192) 7 58192) (nwM m (am_n μ + 1) (fun _ => 0)) (nwM l (am_n μ + 1) (fun _ => 0))) 2 (131072 : Int32).toNatClampNeg = sA (am_nA (gs (gs μ 6 58192) 7 58192) 2 131072) (nwM (nwM m (am_n μ + 1) (fun _ => 0)) (am_n μ + 2) (fun _ => 0)) (nwM (nwM l (am_n μ + 1) (fun _ => 0)) (am_n μ + 2) (fun _ => 0)) := by
    have e0 : (131072 : Int32).toNatClampNeg = 131072 := by decide
    rw [e0]
    exact nA_sA (gs (gs μ 6 58192) 7 58192) _ _ 2 131072
  refine b93_75 e84 (by omega) (by rw [e1]; exact e84b) (show ¬ am_n μ + 1 = 15 by omega) ?_
  rw [e1]
  show Wp d 93 (86, _, [], sA (gs (gs μ 6 58192) 7 58192) (nwM m (am_n μ + 1) (fun _ => 0)) (nwM l (am_n μ + 1) (fun _ => 0))) Q
  refine b93_86 (by rw [e2]; exact e84c) (show ¬ am_n μ + 1 + 1 = 15 by omega) ?_
  rw [e2]
  show Wp d 93 (94, _, [], sA (gs (gs (gs μ 6 58192) 7 58192) 8 131072) (nwM (nwM m (am_n μ + 1) (fun _ => 0)) (am_n μ + 2) (fun _ => 0)) (nwM (nwM l (am_n μ + 1) (fun _ => 0)) (am_n μ + 2) (fun _ => 0))) Q
  exact b93_94 h
/-- grow up to its loop: the rows are copied -/
theorem gw_a (hk : am_kd μ 84 = (1, 8)) (hn : 185 ≤ am_n μ) (T : TS μ 85 4096 16384 8192) (h : ∀ m' l' : PM, (∀ c j, c < am_n μ → m' c j = m c j ∧ l' c j = l c j) → (∀ i, i < 6 → ∀ j : Int, j < 4096 → m' (am_n μ + i) j = m (85 + i) j) → (∀ j : Int, j < 16384 → m' (am_n μ + 2) j = m 87 j) → (∀ j, m' (am_n μ + 7) j = 0) → Wp (d + 1) 93 (96, [some (.ref 84), some (.int (zI 0)), none, none], [], sA (grM μ) m' l') Q) : Wp (d + 1) 93 (0, [some (.ref 84), none, none, none], [], sA μ m l) Q := by
  have g1 : ∀ μ : am_Mem, 185 ≤ am_n μ → am_kd μ 84 = (1, 8) → ∀ f N, am_kd (gs μ f N) 84 = (1, 8) := fun μ h a f N => (gs_k (by omega)).trans a
  have g2 : ∀ μ : am_Mem, 185 ≤ am_n μ → ∀ c v, c < 100 → am_kd μ c = v → ∀ f N, am_kd (gs μ f N) c = v := fun μ h c v hc a f N => (gs_k (by omega)).trans a
  have g3 : ∀ μ : am_Mem, 185 ≤ am_n μ → ∀ f N, 185 ≤ am_n (gs μ f N) := fun μ h f N => Nat.le_succ_of_le h
  have g4 : ∀ (μ : am_Mem) (f f' N r : Nat), ¬ f' = f → am_F μ 84 f' = r → am_F (gs μ f N) 84 f' = r := fun μ f f' N r hne a => (gs_F (fun z => hne z.2)).trans a
  refine gw_0 hk hn (tF0 T) (tK0 T) ?_
  refine gw_10 hk hn (tF1 T) (tK1 T) ?_
  have k1 := g1 μ hn hk 1 58192
  have n1 := g3 μ hn 1 58192
  refine gw_23 k1 n1 (g4 _ _ _ _ _ (by decide) (tF2 T)) (g2 _ hn _ _ (by decide) (tK2 T) _ _) ?_
  have k2 := g1 _ n1 k1 2 58192
  have n2 := g3 _ n1 2 58192
  refine gw_36 k2 n2 (g4 _ _ _ _ _ (by decide) (g4 _ _ _ _ _ (by decide) (tF3 T))) (g2 _ n1 _ _ (by decide) (g2 _ hn _ _ (by decide) (tK3 T) _ _) _ _) ?_
  have k3 := g1 _ n2 k2 3 232768
  have n3 := g3 _ n2 3 232768
  refine gw_49 k3 n3 (g4 _ _ _ _ _ (by decide) (g4 _ _ _ _ _ (by decide) (g4 _ _ _ _ _ (by decide) (tF4 T)))) (g2 _ n2 _ _ (by decide) (g2 _ n1 _ _ (by decide) (g2 _ hn _ _ (by decide) (tK4 T) _ _) _ _) _ _) ?_
  have k4 := g1 _ n3 k3 4 58192
  have n4 := g3 _ n3 4 58192
  refine gw_62 k4 n4 (g4 _ _ _ _ _ (by decide) (g4 _ _ _ _ _ (by decide) (g4 _ _ _ _ _ (by decide) (g4 _ _ _ _ _ (by decide) (tF5 T))))) (g2 _ n3 _ _ (by decide) (g2 _ n2 _ _ (by decide) (g2 _ n1 _ _ (by decide) (g2 _ hn _ _ (by decide) (tK5 T) _ _) _ _) _ _) _ _) ?_
  have k5 := g1 _ n4 k4 5 58192
  have n5 := g3 _ n4 5 58192
  refine gw_75 k5 n5 ?_
  refine h _ _ (fun c j hc => ?_) (fun i hi j hj => ?_) (fun j hj => ?_) (fun j => ?_)
  · constructor
    · simp only [gs_n]
      rw [nwM_o (by omega), nwM_o (by omega), nwM_o (by omega), nwM_o (by omega), nwM_o (by omega), nwM_o (by omega), nwM_o (by omega), nwM_o (by omega)]
    · simp only [gs_n]
      rw [nwM_o (by omega), nwM_o (by omega), nwM_o (by omega), nwM_o (by omega), nwM_o (by omega), nwM_o (by omega), nwM_o (by omega), nwM_o (by omega)]
  · have hj' : j < ((4096 : Nat) : Int) := hj
    simp only [gs_n]
    rw [nwM_o (by omega), nwM_o (by omega)]
    by_cases i5 : i = 5
    · rw [i5, nwM_s, if_pos hj', nwM_o (by omega), nwM_o (by omega), nwM_o (by omega), nwM_o (by omega), nwM_o (by omega)]
    rw [nwM_o (by omega)]
    by_cases i4 : i = 4
    · rw [i4, nwM_s, if_pos hj', nwM_o (by omega), nwM_o (by omega), nwM_o (by omega), nwM_o (by omega)]
    rw [nwM_o (by omega)]
    by_cases i3 : i = 3
    · rw [i3, nwM_s, if_pos hj', nwM_o (by omega), nwM_o (by omega), nwM_o (by omega)]
    rw [nwM_o (by omega)]
    by_cases i2 : i = 2
    · rw [i2, nwM_s, if_pos (by omega), nwM_o (by omega), nwM_o (by omega)]
    rw [nwM_o (by omega)]
    by_cases i1 : i = 1
    · rw [i1, nwM_s, if_pos hj', nwM_o (by omega)]
    rw [nwM_o (by omega), show i = 0 by omega, Nat.add_zero, nwM_s, if_pos hj']
  · have hj' : j < ((16384 : Nat) : Int) := hj
    simp only [gs_n]
    rw [nwM_o (by omega), nwM_o (by omega), nwM_o (by omega), nwM_o (by omega), nwM_o (by omega), nwM_s, if_pos hj', nwM_o (by omega), nwM_o (by omega)]
  · simp only [gs_n]
    exact nwM_s
end CGW
