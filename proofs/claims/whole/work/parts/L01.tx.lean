/-! ===== the text's calls once more, with the range of their signs ===== -/
abbrev sgR (v : Int32) : Prop := 0 ≤ v.toInt ∧ v.toInt ≤ 127
/-- the signs of both texts are signs -/
def RngI (μ : am_Mem) : Prop := ∀ j, sgR (am_A μ 17 j) ∧ sgR (am_A μ 126 j)
theorem sgOk_R {v : Int32} (h : sgOk v) : sgR v := by
  rcases h with h | h | ⟨h1, h2⟩
  · rw [h]; exact ⟨by decide, by decide⟩
  · rw [h]; exact ⟨by decide, by decide⟩
  · rw [Int32.lt_iff_toInt_lt] at h1
    rw [Int32.le_iff_toInt_le] at h2
    have a1 : ((Int8.ofInt 32).toInt32).toInt = 32 := by decide
    have a2 : ((Int8.ofInt 126).toInt32).toInt = 126 := by decide
    rw [a1] at h1
    rw [a2] at h2
    exact ⟨by omega, by omega⟩
theorem txA_R {b : Nat → Int32} {n : Nat} {f : Nat → Int32} (hb : ∀ j, sgR (b j)) : ∀ i, (∀ k, k < i → sgOk (f k)) → ∀ j, sgR (txA b n f i j) := by
  intro i
  induction i with
  | zero => intro _ j; exact hb j
  | succ i ih =>
    intro hf j
    have h := ih (fun k hk => hf k (Nat.lt_succ_of_lt hk))
    unfold txA
    by_cases z : f i = 0
    · rw [if_pos z]; exact h j
    · rw [if_neg z]
      show sgR (if j = n + sgN f i then f i else txA b n f i j)
      by_cases y : j = n + sgN f i
      · rw [if_pos y]; exact sgOk_R (hf i (Nat.lt_succ_self i))
      · rw [if_neg y]; exact h j
/-- what the text's calls leave -/
def TxP (μ μ' : am_Mem) : Prop := (SameT μ μ' ∧ TextI μ') ∧ am_n μ ≤ am_n μ' ∧ (RngI μ → RngI μ')
section LTA
variable {L i d : Nat} {xs : Nat → Int32} {μ : am_Mem}
set_option maxHeartbeats 1000000 in
theorem tx_put (hF : lawF L xs μ) (hi : 4 * i + 4 ≤ L) (hL : L ≤ 2048) (hT : TextI μ) : lawC L xs (d + 1) i 0 (TxP μ) μ := by
  obtain ⟨n, t1, ⟨t2, t3, t4⟩, ⟨t5, t6, t7⟩, t8⟩ := hT
  have ea : ∀ ν, lawF L xs ν → ar i 1 ν = xs (4 * i + 1) := fun ν h => ar_eq (j := 1) h (by omega)
  show Wp (d + 1) 269 (0, [some (.ref 16), some (.int (ar i 1 μ)), some (.ref 185), none], [], μ) _
  rw [ea μ hF]
  generalize hax : xs (4 * i + 1) = a
  have hB : ∀ ν : am_Mem, lawF L xs ν → ∀ Q, Wp (d + 1) 149 (0, [some (.ref 125), some (.int a), none, none, none, none], [], ν) Q → Wp (d + 1) 149 (0, [some (.ref 125), some (.int (ar i 1 ν)), none, none, none, none], [], ν) Q := fun ν h Q hq => by rw [ea ν h, hax]; exact hq
  refine w269 hF.2.2.1 (c_put hF.2.2.1 t2 t3 t4 t1) (fun y μ' h => ?_) (fun e μ' h => ?_)
  · obtain ⟨hok, hle, rfl, rfl⟩ := h
    obtain ⟨k1, k2, k3, k4, k5⟩ := putM_kd (μ := μ) n (sgB a) 4
    refine ⟨by rw [k1]; exact hF.2.2.2.2, ?_⟩
    have hF1 : lawF L xs (am_pL (putM μ n (sgB a) 4) 185 (Int32.ofInt 0).toNatClampNeg (nI (n + sgN (sgB a) 4)).toInt64) := lawF_same hF k1 (fun j => by rw [rpA, putM_A, if_neg (by omega), if_neg (by omega)])
    refine ⟨hF1, hB _ hF1 _ ?_⟩
    generalize hν : am_pL (putM μ n (sgB a) 4) 185 (Int32.ofInt 0).toNatClampNeg (nI (n + sgN (sgB a) 4)).toInt64 = ν at hF1
    have nk : am_kd ν = am_kd μ := by rw [← hν]; exact k1
    have nF : am_F ν = am_F μ := by rw [← hν]; exact k2
    have nA : ∀ r j, am_A ν r j = if r = 17 then txA (am_A μ 17) n (sgB a) 4 j else if r = 16 ∧ j = 1 then am_A (putM μ n (sgB a) 4) 16 1 else am_A μ r j := fun r j => by rw [← hν, rpA]; exact putM_A 4 r j
    have nL : ∀ r j, ¬ r = 185 → am_L ν r j = am_L μ r j := fun r j hr => by rw [← hν, rL, if_neg (fun q => hr q.1), k5]
    have nO : am_L ν 185 (Int32.ofInt 0).toNatClampNeg = (nI (n + sgN (sgB a) 4)).toInt64 := by rw [← hν, rL, if_pos ⟨rfl, rfl⟩]
    have nn : am_n ν = am_n μ ∧ am_sl ν = am_sl μ := by rw [← hν]; exact ⟨k3, k4⟩
    refine Wp.mono (r_put (n := n) (by rw [nk]; exact hF.2.2.2.1) (by rw [nF]; exact t5) (by rw [nk]; exact t6) (by rw [nA, if_neg (by omega), if_neg (by omega)]; exact t7) t1) fun o μ2 h2 => ?_
    cases o with
    | inr e => exact h2.elim
    | inl v =>
      obtain ⟨y, rfl, h2⟩ := pI_r h2
      rcases h2 with ⟨-, -, rfl, rfl⟩ | ⟨⟨j, hj, hb⟩, -⟩ | ⟨-, hgt, -⟩
      · obtain ⟨m1, m2, m3, m4, m5⟩ := rpM_kd (μ := am_pA ν 125 0 (Int32.ofInt 0)) n (sgB a) 4
        have mA : ∀ r j, am_A (rpM (am_pA ν 125 0 (Int32.ofInt 0)) n (sgB a) 4) r j = if r = 126 then txA (am_A μ 126) n (sgB a) 4 j else if r = 125 ∧ j = 2 then am_A (rpM (am_pA ν 125 0 (Int32.ofInt 0)) n (sgB a) 4) 125 2 else if r = 125 ∧ j = 0 then Int32.ofInt 0 else am_A ν r j := by
          intro r j
          have e126 : am_A (am_pA ν 125 0 (Int32.ofInt 0)) 126 = am_A μ 126 := by
            funext q
            rw [rA, if_neg (by omega), nA, if_neg (by omega), if_neg (by omega)]
          rw [rpM_A, e126, rA]
        refine ⟨lawF_same hF (by rw [m1]; exact nk) (fun j => by rw [mA, if_neg (by omega), if_neg (by omega), if_neg (by omega), nA, if_neg (by omega), if_neg (by omega)]), ⟨⟨⟨fun r j hw => ⟨?_, ?_, ?_⟩, by rw [m1]; exact nk, by rw [m2]; exact nF, by rw [m3]; show am_n ν ≤ _; omega, by rw [m4]; show am_sl ν ≤ _; omega⟩, n + sgN (sgB a) 4, hle, ⟨by rw [m2]; show am_F ν 16 0 = 17; rw [nF]; exact t2, by rw [m1]; show am_kd ν 17 = _; rw [nk]; exact t3, ?_⟩, ⟨by rw [m2]; show am_F ν 125 1 = 126; rw [nF]; exact t5, by rw [m1]; show am_kd ν 126 = _; rw [nk]; exact t6, ?_⟩, fun j hj => ?_⟩, by rw [m3]; show am_n μ ≤ am_n ν; omega, fun hg j => ⟨?_, ?_⟩⟩, ?_, fun _ => ?_⟩
        · have w1 : ¬ r = 126 := fun q => hw (Or.inr (Or.inr (Or.inr (Or.inl q))))
          have w2 : ¬ (r = 125 ∧ j = 2) := fun q => hw (Or.inr (Or.inr (Or.inl ⟨q.1, Or.inr q.2⟩)))
          have w3 : ¬ (r = 125 ∧ j = 0) := fun q => hw (Or.inr (Or.inr (Or.inl ⟨q.1, Or.inl q.2⟩)))
          have w4 : ¬ r = 17 := fun q => hw (Or.inr (Or.inl q))
          have w5 : ¬ (r = 16 ∧ j = 1) := fun q => hw (Or.inl q)
          rw [mA, if_neg w1, if_neg w2, if_neg w3, nA, if_neg w4, if_neg w5]
        · rw [m5]
          show am_L ν r j = _
          exact nL r j fun q => hw (Or.inr (Or.inr (Or.inr (Or.inr q))))
        · rw [m2]
          show am_F ν r j = _
          rw [nF]
        · rw [mA, if_neg (by omega), if_neg (by omega), if_neg (by omega), nA, if_neg (by omega), if_pos ⟨rfl, rfl⟩]
          exact putM_len t4 4
        · refine rpM_len ?_ 4
          rw [rA, if_neg (by omega), nA, if_neg (by omega), if_neg (by omega)]
          exact t7
        · rw [mA, if_neg (by omega), if_neg (by omega), if_neg (by omega), nA, if_pos rfl, mA, if_pos rfl]
          exact txA_eq t8 4 j hj
        · rw [mA, if_neg (by omega), if_neg (by omega), if_neg (by omega), nA, if_pos rfl]
          exact txA_R (fun j => (hg j).1) 4 hok j
        · rw [mA, if_pos rfl]
          exact txA_R (fun j => (hg j).2) 4 hok j
        · rw [mA, if_neg (by omega), if_neg (by omega), if_pos ⟨rfl, rfl⟩]
        · rw [m5]
          exact nO
      · exact absurd (hok j hj) hb
      · exact absurd hle hgt
  · obtain ⟨rfl, h⟩ := h
    have hF1 : lawF L xs (am_nX μ) := lawF_same hF rfl (fun j => rfl)
    have key : ∀ k : Int32, k = Int32.ofInt 1 ∧ (∃ j, j < 4 ∧ ¬ sgOk (sgB a j)) ∨ k = Int32.ofInt 2 ∧ (∀ j, j < 4 → sgOk (sgB a j)) ∧ ¬ n + sgN (sgB a) 4 ≤ 2000 → lawF L xs (am_nX μ) ∧ Wp (d + 1) 149 (0, [some (.ref 125), some (.int (ar i 1 (am_nX μ))), none, none, none, none], [], am_nX μ) (pI (fun b μ2 => lawF L xs μ2 ∧ TxP μ μ2 ∧ am_A μ2 125 0 = k ∧ (k = 0 → am_L μ2 185 (Int32.ofInt 0).toNatClampNeg = b.toInt64)) noX) := by
      intro k hk
      refine ⟨hF1, hB _ hF1 _ ?_⟩
      refine Wp.mono (r_put (n := n) (μ := am_nX μ) hF.2.2.2.1 t5 t6 t7 t1) fun o μ2 h2 => ?_
      have fin : ∀ b : Int32, μ2 = am_pA (am_nX μ) 125 0 k → ¬ k = 0 → lawF L xs μ2 ∧ TxP μ μ2 ∧ am_A μ2 125 0 = k ∧ (k = 0 → am_L μ2 185 (Int32.ofInt 0).toNatClampNeg = b.toInt64) := by
        rintro b rfl hk0
        refine ⟨lawF_same hF rfl (fun j => by rw [rA, if_neg (by omega)]; rfl), ⟨⟨⟨fun r j hw => ⟨?_, rfl, rfl⟩, rfl, rfl, Nat.le_refl _, Nat.le_refl _⟩, n, t1, ⟨t2, t3, ?_⟩, ⟨t5, t6, ?_⟩, fun j hj => ?_⟩, Nat.le_succ _, fun hg j => ⟨?_, ?_⟩⟩, ?_, fun q => absurd q hk0⟩
        · rw [rA, if_neg]
          · rfl
          · rintro ⟨rfl, rfl⟩
            exact hw (Or.inr (Or.inr (Or.inl ⟨rfl, Or.inl rfl⟩)))
        · rw [rA, if_neg (by omega)]; exact t4
        · rw [rA, if_neg (by omega)]; exact t7
        · rw [rA, if_neg (by omega), rA, if_neg (by omega)]; exact t8 j hj
        · rw [rA, if_neg (by omega)]; exact (hg j).1
        · rw [rA, if_neg (by omega)]; exact (hg j).2
        · rw [rA, if_pos ⟨rfl, rfl⟩]
      cases o with
      | inr e => exact h2.elim
      | inl v =>
        obtain ⟨y, rfl, h2⟩ := pI_r h2
        rcases h2 with ⟨h3, h4, -, -⟩ | ⟨h3, rfl⟩ | ⟨h3, h4, rfl⟩
        · rcases hk with ⟨-, j, hj, hb⟩ | ⟨-, -, hgt⟩
          · exact absurd (h3 j hj) hb
          · exact absurd h4 hgt
        · rcases hk with ⟨rfl, -⟩ | ⟨-, hall, -⟩
          · exact fin y rfl (by decide)
          · obtain ⟨j, hj, hb⟩ := h3
            exact absurd (hall j hj) hb
        · rcases hk with ⟨-, j, hj, hb⟩ | ⟨rfl, -⟩
          · exact absurd (h3 j hj) hb
          · exact fin y rfl (by decide)
    rcases h with ⟨rfl, h⟩ | ⟨rfl, h1, h2⟩
    · exact Or.inl ⟨rfl, key _ (Or.inl ⟨rfl, h⟩)⟩
    · exact Or.inr ⟨rfl, key _ (Or.inr ⟨rfl, h1, h2⟩)⟩
end LTA
section LTB
variable {L i d : Nat} {xs : Nat → Int32} {μ : am_Mem}
theorem tx_end (hF : lawF L xs μ) (hi : 4 * i + 4 ≤ L) (hL : L ≤ 2048) (hT : TextI μ) : lawC L xs (d + 1) i 1 (TxP μ) μ := by
  obtain ⟨n, t1, ⟨t2, t3, t4⟩, ⟨t5, t6, t7⟩, t8⟩ := hT
  have ea : ∀ ν, lawF L xs ν → ar i 1 ν = xs (4 * i + 1) := fun ν h => ar_eq (j := 1) h (by omega)
  show Wp (d + 1) 270 (0, [some (.ref 16), some (.int (ar i 1 μ)), none], [], μ) _
  rw [ea μ hF]
  generalize hax : xs (4 * i + 1) = a
  have hB : ∀ ν : am_Mem, lawF L xs ν → ∀ Q, Wp (d + 1) 152 (0, [some (.ref 125), some (.int a)], [], ν) Q → Wp (d + 1) 152 (0, [some (.ref 125), some (.int (ar i 1 ν))], [], ν) Q := fun ν h Q hq => by rw [ea ν h, hax]; exact hq
  refine w270 hF.2.2.1 (c_end hF.2.2.1) (fun μ' h => ?_) (fun e μ' h => ?_)
  · obtain ⟨h0, h1, rfl⟩ := h
    obtain ⟨m, hm, rfl⟩ := nI_of h0
    rw [t4] at h1
    have hmn : m ≤ n := by
      rcases Nat.lt_or_ge n m with q | q
      · exact absurd h1 (nI_ge q hm)
      · exact q
    have hF1 : lawF L xs (am_pA μ 16 1 (nI m)) := lawF_same hF rfl (fun j => by rw [rA, if_neg (by omega)])
    refine ⟨hF1, hB _ hF1 _ ?_⟩
    refine Wp.mono (r_end (μ := am_pA μ 16 1 (nI m)) hF.2.2.2.1) fun o μ2 h2 => ?_
    cases o with
    | inr e => exact h2.elim
    | inl v =>
      obtain ⟨rfl, h2⟩ := pV_r h2
      rw [rA, if_neg (by omega), t7] at h2
      rcases h2 with ⟨-, -, rfl⟩ | ⟨h2, -⟩
      · refine ⟨lawF_same hF rfl (fun j => by rw [rA, if_neg (by omega), rA, if_neg (by omega), rA, if_neg (by omega)]), ⟨⟨⟨fun r j hw => ⟨?_, rfl, rfl⟩, rfl, rfl, Nat.le_succ _, Nat.le_add_right _ _⟩, m, by omega, ⟨t2, t3, ?_⟩, ⟨t5, t6, ?_⟩, fun j hj => ?_⟩, Nat.le_refl _, fun hg j => ⟨?_, ?_⟩⟩, ?_⟩
        · have w2 : ¬ (r = 125 ∧ j = 2) := fun q => hw (Or.inr (Or.inr (Or.inl ⟨q.1, Or.inr q.2⟩)))
          have w3 : ¬ (r = 125 ∧ j = 0) := fun q => hw (Or.inr (Or.inr (Or.inl ⟨q.1, Or.inl q.2⟩)))
          have w5 : ¬ (r = 16 ∧ j = 1) := fun q => hw (Or.inl q)
          rw [rA, if_neg w2, rA, if_neg w3, rA, if_neg w5]
        · rw [rA, if_neg (by omega), rA, if_neg (by omega), rA, if_pos ⟨rfl, rfl⟩]
        · rw [rA, if_pos ⟨rfl, rfl⟩]
        · rw [rA, if_neg (by omega), rA, if_neg (by omega), rA, if_neg (by omega), rA, if_neg (by omega), rA, if_neg (by omega), rA, if_neg (by omega)]
          exact t8 j (by omega)
        · rw [rA, if_neg (by omega), rA, if_neg (by omega), rA, if_neg (by omega)]
          exact (hg j).1
        · rw [rA, if_neg (by omega), rA, if_neg (by omega), rA, if_neg (by omega)]
          exact (hg j).2
        · rw [rA, if_neg (by omega), rA, if_pos ⟨rfl, rfl⟩]
      · rcases h2 with q | q
        · exact absurd ((i64_0 _).mp q) h0
        · exact absurd ((i64_lt _ _).mp q) (nI_nlt hmn (by omega))
  · obtain ⟨rfl, rfl, h⟩ := h
    rw [t4] at h
    have hF1 : lawF L xs (am_nX μ) := lawF_same hF rfl (fun j => rfl)
    refine ⟨rfl, hF1, hB _ hF1 _ ?_⟩
    refine Wp.mono (r_end (μ := am_nX μ) hF.2.2.2.1) fun o μ2 h2 => ?_
    cases o with
    | inr e => exact h2.elim
    | inl v =>
      obtain ⟨rfl, h2⟩ := pV_r h2
      have e7 : am_A (am_nX μ) 125 2 = nI n := t7
      rw [e7] at h2
      rcases h2 with ⟨g1, g2, -⟩ | ⟨-, rfl⟩
      · refine absurd ⟨fun q => g1 ((i64_0 _).mpr q), ?_⟩ h
        have g3 : ¬ nI n < a := fun q => g2 ((i64_lt _ _).mpr q)
        exact Int32.not_lt.mp g3
      · refine ⟨lawF_same hF rfl (fun j => by rw [rA, if_neg (by omega)]; rfl), ⟨⟨⟨fun r j hw => ⟨?_, rfl, rfl⟩, rfl, rfl, Nat.le_refl _, Nat.le_refl _⟩, n, t1, ⟨t2, t3, ?_⟩, ⟨t5, t6, ?_⟩, fun j hj => ?_⟩, Nat.le_succ _, fun hg j => ⟨?_, ?_⟩⟩, ?_⟩
        · rw [rA, if_neg]
          · rfl
          · rintro ⟨rfl, rfl⟩
            exact hw (Or.inr (Or.inr (Or.inl ⟨rfl, Or.inl rfl⟩)))
        · rw [rA, if_neg (by omega)]; exact t4
        · rw [rA, if_neg (by omega)]; exact t7
        · rw [rA, if_neg (by omega), rA, if_neg (by omega)]; exact t8 j hj
        · rw [rA, if_neg (by omega)]; exact (hg j).1
        · rw [rA, if_neg (by omega)]; exact (hg j).2
        · rw [rA, if_pos ⟨rfl, rfl⟩]
end LTB
section LTC
variable {L i d : Nat} {xs : Nat → Int32} {μ : am_Mem}
theorem tx_fault (hF : lawF L xs μ) (hf : am_A μ 16 2 = am_A μ 125 3) (hT : TextI μ) : lawC L xs d i 3 (TxP μ) μ := by
  show Wp d 120 (0, [some (.ref 16)], [], μ) _
  refine Wp.mono (c_fault hF.2.2.1) fun o μ1 h => ?_
  cases o with
  | inr e => exact h.elim
  | inl v =>
    obtain ⟨y, rfl, rfl, rfl⟩ := pI_r h
    refine ⟨hF, ?_⟩
    show Wp d 209 (0, [some (.ref 125)], [], μ1) _
    refine Wp.mono (r_fault hF.2.2.2.1) fun o μ2 h => ?_
    cases o with
    | inr e => exact h.elim
    | inl v =>
      obtain ⟨y, rfl, rfl, rfl⟩ := pI_r h
      refine ⟨lawF_same hF rfl (fun j => by rw [rA, if_neg (by omega)]), ⟨⟨⟨fun r j hw => ⟨?_, rfl, rfl⟩, rfl, rfl, Nat.le_succ _, Nat.le_add_right _ _⟩, ?_⟩, Nat.le_refl _, fun hg j => ⟨?_, ?_⟩⟩, hf⟩
      · rw [rA, if_neg]
        rintro ⟨rfl, rfl⟩
        exact hw (Or.inr (Or.inr (Or.inl ⟨rfl, Or.inl rfl⟩)))
      · obtain ⟨n, h1, ⟨h2, h3, h4⟩, ⟨h5, h6, h7⟩, h8⟩ := hT
        refine ⟨n, h1, ⟨h2, h3, ?_⟩, ⟨h5, h6, ?_⟩, fun j hj => ?_⟩
        · rw [rA, if_neg (by omega)]; exact h4
        · rw [rA, if_neg (by omega)]; exact h7
        · rw [rA, if_neg (by omega), rA, if_neg (by omega)]; exact h8 j hj
      · rw [rA, if_neg (by omega)]; exact (hg j).1
      · rw [rA, if_neg (by omega)]; exact (hg j).2
end LTC
