/-! ===== the reference's read, up to the roles ===== -/
/-- what of the reference's memory a sheet is -/
abbrev SRr (c : Nat) (j : Int) : Prop := (129 ≤ c ∧ c ≤ 146) ∨ (c = 125 ∧ (j = 9 ∨ j = 12 ∨ j = 15 ∨ j = 18 ∨ j = 22))
theorem RV_cg2 {m m' : PM} {rs : List Rul} (k : ∀ c j, SRr c j → m' c j = m c j) (h : RV m rs) : RV m' rs := by
  obtain ⟨⟨h1, h2, h3, h4, h5, h6⟩, w, dd, b, n60, ok⟩ := h
  have e9 : m' 125 9 = m 125 9 := k _ _ (by omega)
  have e22 : m' 125 22 = m 125 22 := k _ _ (by omega)
  have e18 : m' 125 18 = m 125 18 := k _ _ (by omega)
  have e15 : m' 125 15 = m 125 15 := k _ _ (by omega)
  have e129 : ∀ i, m' 129 i = m 129 i := fun i => k _ _ (by omega)
  have e130 : ∀ i, m' 130 i = m 130 i := fun i => k _ _ (by omega)
  have e131 : ∀ i, m' 131 i = m 131 i := fun i => k _ _ (by omega)
  have e132 : ∀ i, m' 132 i = m 132 i := fun i => k _ _ (by omega)
  have e133 : ∀ i, m' 133 i = m 133 i := fun i => k _ _ (by omega)
  have e134 : ∀ i, m' 134 i = m 134 i := fun i => k _ _ (by omega)
  have hA : ∀ {a : Int} {at_ : Atm} {d : Bool}, AtR m a at_ d (m 125 22) → AtR m' a at_ d (m' 125 22) := fun z => AtR_cg (fun x u q => nX_cg e9 e129 e130 q) (by omega) (k _ _ (by omega)) (k _ _ (by omega)) (fun j _ _ => k _ _ (by omega)) (fun j _ _ => ⟨k _ _ (by omega), k _ _ (by omega), k _ _ (by omega), k _ _ (by omega)⟩) (fun j _ _ => k _ _ (by omega)) z
  refine ⟨⟨by rw [k _ _ (by omega)]; exact h1, by rw [e132]; exact h2, by rw [e15, e132]; exact h3, by rw [e15]; exact h4, by rw [e18]; exact h5, fun r hr => ?_⟩, NmW_cg e9 e129 e130 w, NmD_cg e9 e129 e130 dd, by omega, n60, ok⟩
  obtain ⟨⟨⟨q1, q2, q3⟩, q4⟩, q5, q6, q7⟩ := h6 r hr
  refine ⟨⟨⟨by rw [e131]; exact q1, by rw [e131, e18]; exact q2, by rw [e131]; exact hA q3⟩, fun j hj => ?_⟩, by rw [e132, e132]; exact q5, by rw [e132]; exact q6, by rw [e132, e15]; exact q7⟩
  obtain ⟨z1, z2, z3, z4⟩ := q4 j hj
  rw [e132, e133, e134, e18]
  exact ⟨z1, z2, z3, hA z4⟩
/-- what a read that finds a fault may write -/
abbrev RdR (c : Nat) (j : Int) : Prop := PCl c j ∨ WKc c j ∨ c = 128 ∨ (c = 125 ∧ (j = 0 ∨ j = 3 ∨ j = 8))
theorem tsM_in {m : PM} {src : Nat} {k j : Int} (h : 0 ≤ j ∧ j < k) : tsM m src k 128 j = m src j := if_pos ⟨rfl, h⟩
section RRD
variable {d : Nat} {μ : am_Mem} {l : PM} {Q : Option Value ⊕ Nat → am_Mem → Prop}
theorem c_checkAll_f {m : PM} (H : RS μ) (hR : iR (m 125 32)) (f : ¬ m 125 32 = 0) : Wp (d + 6) 182 (0, [some (.ref 125)], [], sA μ m l) (pV (fun μ' => μ' = sA μ m l) noX) := by
  refine R182_0 H ⟨hR, fun _ => ?_, fun q => absurd f q⟩
  refine ⟨fun _ => ?_, fun q => absurd f q⟩
  refine ⟨fun _ => ?_, fun q => absurd f q⟩
  refine ⟨fun _ => ?_, fun q => absurd f q⟩
  refine ⟨fun _ => ?_, fun q => absurd f q⟩
  exact ⟨fun _ => rfl, fun q => absurd f q⟩
/-- a sheet's signs are taken and read -/
theorem rd_take {m : PM} {src : Nat} {n : Int} (H : RS μ) (hsrc : src = 126 ∨ src = 127) (hn : 0 ≤ n ∧ n ≤ 2000) (ht : ∀ j, 0 ≤ m src j ∧ m src j ≤ 127) (ht8 : ∀ j, 0 ≤ m 128 j ∧ m 128 j ≤ 127) : match pSh (m src) n 60 0 [] with
    | .inl x => ∃ m', (∀ d, Wp (d + 8) 155 (0, [some (.ref 125)], [], sA μ (tsM (up m 125 8 n) src n) l) (pV (fun μ' => μ' = sA μ m' l) noX)) ∧ m' 125 32 = 1 ∧ m' 125 33 = tkP (m src) n x ∧ (∀ j, 0 ≤ m' 128 j ∧ m' 128 j ≤ 127) ∧ ∀ c j, ¬ (PCl c j ∨ c = 128 ∨ (c = 125 ∧ j = 8)) → m' c j = m c j
    | .inr rs => ∃ m', (∀ d, Wp (d + 8) 155 (0, [some (.ref 125)], [], sA μ (tsM (up m 125 8 n) src n) l) (pV (fun μ' => μ' = sA μ m' l) noX)) ∧ m' 125 32 = 0 ∧ RV m' rs ∧ nmL m' = LsE (m src) n ∧ m' 125 8 = n ∧ (∀ j, 0 ≤ j → j < n → m' 128 j = m src j) ∧ (∀ j, 0 ≤ m' 128 j ∧ m' 128 j ≤ 127) ∧ ∀ c j, ¬ (PCl c j ∨ c = 128 ∨ (c = 125 ∧ j = 8)) → m' c j = m c j := by
  have e8 : tsM (up m 125 8 n) src n 125 8 = n := by rw [tsM_o (by omega), up_s]
  have es : ∀ j, up m 125 8 n src j = m src j := fun j => up_c (by omega)
  have ei : ∀ j, 0 ≤ j → j < n → tsM (up m 125 8 n) src n 128 j = m src j := fun j h1 h2 => by rw [tsM_in ⟨h1, h2⟩, es]
  have er : ∀ j, 0 ≤ tsM (up m 125 8 n) src n 128 j ∧ tsM (up m 125 8 n) src n 128 j ≤ 127 := by
    intro j
    by_cases q : 0 ≤ j ∧ j < n
    · rw [ei j q.1 q.2]
      exact ht j
    · rw [tsM_o (by omega), up_c (by decide)]
      exact ht8 j
  have eo : ∀ c j, ¬ (PCl c j ∨ c = 128 ∨ (c = 125 ∧ j = 8)) → tsM (up m 125 8 n) src n c j = m c j := fun c j q => by rw [tsM_o (by omega), up_o (by omega)]
  have hTX : TX (tsM (up m 125 8 n) src n) := ⟨by rw [e8]; exact hn.1, by rw [e8]; exact hn.2, er⟩
  have z := c_readSigns (l := l) H hTX
  have eP : pSh (tsM (up m 125 8 n) src n 128) n 60 = pSh (m src) n 60 := pSh_cgt hn.1 ei 60
  have eL : LsE (tsM (up m 125 8 n) src n 128) n = LsE (m src) n := LsE_cgt hn.1 ei
  have eT : ∀ x, tkP (tsM (up m 125 8 n) src n 128) n x = tkP (m src) n x := fun x => tkP_cgt hn.1 ei x
  rw [e8, eP] at z
  generalize tsM (up m 125 8 n) src n = m2 at *
  cases hP : pSh (m src) n 60 0 [] with
  | inl x =>
    rw [hP] at z
    obtain ⟨m', w, f1, f2, fr⟩ := z
    exact ⟨m', w, f1, f2.trans (eT x), fun j => by rw [fr _ _ (by omega)]; exact er j, fun c j q => (fr c j (fun y => q (Or.inl y))).trans (eo c j q)⟩
  | inr rs =>
    rw [hP] at z
    obtain ⟨m', w, f1, _, n60, s1, s2, s3, s4, ⟨i0, hi0, s5⟩, fr⟩ := z
    exact ⟨m', w, f1, ⟨s1, s2, s3, s4, n60, pSh_ok 60 0 [] rs (fun _ y => absurd y List.not_mem_nil) hP⟩, by rw [s5, LsE_eq hi0]; exact eL, by rw [fr _ _ (by omega)]; exact e8, fun j h1 h2 => by rw [fr _ _ (by omega)]; exact ei j h1 h2, fun j => by rw [fr _ _ (by omega)]; exact er j, fun c j q => (fr c j (fun y => q (Or.inl y))).trans (eo c j q)⟩
end RRD
