/-! ===== the case of end ===== -/
theorem i64_lt (x y : Int32) : x.toInt64 < y.toInt64 ↔ x < y := by
  rw [Int64.lt_iff_toInt_lt, Int32.lt_iff_toInt_lt, Int32.toInt_toInt64, Int32.toInt_toInt64]
theorem i64_0 (x : Int32) : x.toInt64 < Int64.ofNat 0 ↔ x < 0 := by
  have := i64_lt x 0
  exact this
section CEN
variable {L i d : Nat} {xs : Nat → Int32} {μ : am_Mem}
theorem case_end (hF : lawF L xs μ) (hi : 4 * i + 4 ≤ L) (hL : L ≤ 2048) (hT : TextI μ) : lawC L xs (d + 1) i 1 (fun μ' => SameT μ μ' ∧ TextI μ') μ := by
  obtain ⟨n, t1, ⟨t2, t3, t4⟩, ⟨t5, t6, t7⟩, t8⟩ := hT
  have ea : ∀ ν, lawF L xs ν → ar i 1 ν = xs (4 * i + 1) := fun ν h => ar_eq (j := 1) h (by omega)
  show Wp (d + 1) 270 (0, [some (.ref 16), some (.int (ar i 1 μ)), none], [], μ) _
  rw [ea μ hF]
  generalize hax : xs (4 * i + 1) = a
  have hB : ∀ ν : am_Mem, lawF L xs ν → ∀ Q, Wp (d + 1) 152 (0, [some (.ref 125), some (.int a)], [], ν) Q → Wp (d + 1) 152 (0, [some (.ref 125), some (.int (ar i 1 ν))], [], ν) Q := fun ν h Q hq => by rw [ea ν h, hax]; exact hq
  refine w270 hF.2.2.1 (c_end hF.2.2.1) (fun μ' h => ?_) (fun e μ' h => ?_)
  · obtain ⟨h0, h1, rfl⟩ := h
    obtain ⟨m, hm, rfl⟩ := nI_of h0
    rw [t4] at h1
    have hmn : m ≤ n := by
      rcases Nat.lt_or_ge n m with q | q
      · exact absurd h1 (nI_ge q hm)
      · exact q
    have hF1 : lawF L xs (am_pA μ 16 1 (nI m)) := lawF_same hF rfl (fun j => by rw [rA, if_neg (by omega)])
    refine ⟨hF1, hB _ hF1 _ ?_⟩
    refine Wp.mono (r_end (μ := am_pA μ 16 1 (nI m)) hF.2.2.2.1) fun o μ2 h2 => ?_
    cases o with
    | inr e => exact h2.elim
    | inl v =>
      obtain ⟨rfl, h2⟩ := pV_r h2
      rw [rA, if_neg (by omega), t7] at h2
      rcases h2 with ⟨-, -, rfl⟩ | ⟨h2, -⟩
      · refine ⟨lawF_same hF rfl (fun j => by rw [rA, if_neg (by omega), rA, if_neg (by omega), rA, if_neg (by omega)]), ⟨⟨fun r j hw => ⟨?_, rfl, rfl⟩, rfl, rfl, Nat.le_succ _, Nat.le_add_right _ _⟩, m, by omega, ⟨t2, t3, ?_⟩, ⟨t5, t6, ?_⟩, fun j hj => ?_⟩, ?_⟩
        · have w2 : ¬ (r = 125 ∧ j = 2) := fun q => hw (Or.inr (Or.inr (Or.inl ⟨q.1, Or.inr q.2⟩)))
          have w3 : ¬ (r = 125 ∧ j = 0) := fun q => hw (Or.inr (Or.inr (Or.inl ⟨q.1, Or.inl q.2⟩)))
          have w5 : ¬ (r = 16 ∧ j = 1) := fun q => hw (Or.inl q)
          rw [rA, if_neg w2, rA, if_neg w3, rA, if_neg w5]
        · rw [rA, if_neg (by omega), rA, if_neg (by omega), rA, if_pos ⟨rfl, rfl⟩]
        · rw [rA, if_pos ⟨rfl, rfl⟩]
        · rw [rA, if_neg (by omega), rA, if_neg (by omega), rA, if_neg (by omega), rA, if_neg (by omega), rA, if_neg (by omega), rA, if_neg (by omega)]
          exact t8 j (by omega)
        · rw [rA, if_neg (by omega), rA, if_pos ⟨rfl, rfl⟩]
      · rcases h2 with q | q
        · exact absurd ((i64_0 _).mp q) h0
        · exact absurd ((i64_lt _ _).mp q) (nI_nlt hmn (by omega))
  · obtain ⟨rfl, rfl, h⟩ := h
    rw [t4] at h
    have hF1 : lawF L xs (am_nX μ) := lawF_same hF rfl (fun j => rfl)
    refine ⟨rfl, hF1, hB _ hF1 _ ?_⟩
    refine Wp.mono (r_end (μ := am_nX μ) hF.2.2.2.1) fun o μ2 h2 => ?_
    cases o with
    | inr e => exact h2.elim
    | inl v =>
      obtain ⟨rfl, h2⟩ := pV_r h2
      have e7 : am_A (am_nX μ) 125 2 = nI n := t7
      rw [e7] at h2
      rcases h2 with ⟨g1, g2, -⟩ | ⟨-, rfl⟩
      · refine absurd ⟨fun q => g1 ((i64_0 _).mpr q), ?_⟩ h
        have g3 : ¬ nI n < a := fun q => g2 ((i64_lt _ _).mpr q)
        exact Int32.not_lt.mp g3
      · refine ⟨lawF_same hF rfl (fun j => by rw [rA, if_neg (by omega)]; rfl), ⟨⟨fun r j hw => ⟨?_, rfl, rfl⟩, rfl, rfl, Nat.le_refl _, Nat.le_refl _⟩, n, t1, ⟨t2, t3, ?_⟩, ⟨t5, t6, ?_⟩, fun j hj => ?_⟩, ?_⟩
        · rw [rA, if_neg]
          · rfl
          · rintro ⟨rfl, rfl⟩
            exact hw (Or.inr (Or.inr (Or.inl ⟨rfl, Or.inl rfl⟩)))
        · rw [rA, if_neg (by omega)]; exact t4
        · rw [rA, if_neg (by omega)]; exact t7
        · rw [rA, if_neg (by omega), rA, if_neg (by omega)]; exact t8 j hj
        · rw [rA, if_pos ⟨rfl, rfl⟩]
end CEN
