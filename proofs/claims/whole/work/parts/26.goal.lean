/-! ===== what is left to show, out of an invariant ===== -/
abbrev TF : List mC := Tc42 ++ [(6, 1, [], [], [])]
set_option maxRecDepth 20000 in
theorem law_start {L D : Nat} {xs : Nat → Int32} {Q : Option Value ⊕ Nat → am_Mem → Prop} (h : Wp (D + 6) 295 (23, lawV 0 none none, [], mT L xs 186 TF 2475969) Q) : Wp (D + 6) 295 (0, am_ent GG am_LAW [.ref 0], [], am_m0 L xs) Q := by
  show Wp (D + 6) 295 (0, [some (.ref 0), none, none, none, none, none, none], [], am_m0 L xs) Q
  rw [mT_0]
  refine b295_0 (P := fun μ' => μ' = mT L xs 125 Tc36 132380) ?_ ?_
  · rw [mT_nO]
    · exact ctor14 (d := D + 0)
    · rfl
  rintro μ' rfl
  refine b295_7 (P := fun μ' => μ' = mT L xs 185 Tc42 2475968) ?_ ?_
  · rw [mT_nO]
    · exact ctor15 (d := D + 5)
    · rfl
  rintro μ' rfl
  refine b295_15 ?_
  have e1 : (Int32.ofInt 1).toNatClampNeg = 1 := by decide
  rw [e1, mT_nA]
  · exact h
  · rfl
theorem lawF_0s {L : Nat} {xs : Nat → Int32} : lawF L xs (mT L xs 186 TF 2475969) := ⟨rfl, fun _ => rfl, rfl, rfl, rfl⟩
/-- the goal, out of an invariant I between the class's and the reference's cells, call by call -/
theorem goal_of (D : Nat) (hD : D ≤ 900) (I : Nat → (Nat → Int32) → Nat → am_Mem → Prop) (h0 : ∀ L xs, L ≤ 2048 → I L xs 0 (mT L xs 186 TF 2475969)) (hr : ∀ L xs i μ, L ≤ 2048 → 4 * i ≤ L → I L xs i μ → am_n μ ≤ 61040 ∧ am_sl μ ≤ 8913034)
    (hc : ∀ L xs, L ≤ 2048 → ∀ i μ, 4 * i + 4 ≤ L → lawF L xs μ → I L xs i μ → ∀ c, c < 32 → xs (4 * i) &&& (Int8.ofInt 31).toInt32 = nI c → lawC L xs (D + 5) i c (I L xs (i + 1)) μ) : am_Goal := by
  intro L xs hL
  have h1 : Wp (D + 6) 295 (0, am_ent GG am_LAW [.ref 0], [], am_m0 L xs) (pI (fun x μ' => x = 1 ∧ ∃ j, 4 * j ≤ L ∧ I L xs j μ') noX) :=
    law_start (law_loop hL (I L xs) (hc L xs hL) L 0 _ none none (by omega) (by omega) lawF_0s (h0 L xs hL))
  obtain ⟨n, o, μ', h2, h3⟩ := h1
  cases o with
  | inr e => exact h3.elim
  | inl v =>
    obtain ⟨x, rfl, rfl, j, hj, hI⟩ := pI_r h3
    obtain ⟨r1, r2⟩ := hr L xs j μ' hL hj hI
    exact ⟨n, D + 6, μ', by omega, h2, r1, r2⟩
