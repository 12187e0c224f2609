/-! ===== the text's calls: put, end, fault, of both ===== -/
/-- what the text's calls may write -/
def wT (r j : Nat) : Prop := (r = 16 ∧ j = 1) ∨ r = 17 ∨ (r = 125 ∧ (j = 0 ∨ j = 2)) ∨ r = 126 ∨ r = 185
/-- nothing else has changed; at most one throw was made -/
def SameT (μ μ' : am_Mem) : Prop := (∀ r j, ¬ wT r j → am_A μ' r j = am_A μ r j ∧ am_L μ' r j = am_L μ r j ∧ am_F μ' r j = am_F μ r j) ∧ am_kd μ' = am_kd μ ∧ am_F μ' = am_F μ ∧ am_n μ' ≤ am_n μ + 1 ∧ am_sl μ' ≤ am_sl μ + 6
/-- both hold the same text -/
def TextI (μ : am_Mem) : Prop := ∃ n, n ≤ 2000 ∧ (am_F μ 16 0 = 17 ∧ am_kd μ 17 = (5, 2000) ∧ am_A μ 16 1 = nI n) ∧ (am_F μ 125 1 = 126 ∧ am_kd μ 126 = (2, 2000) ∧ am_A μ 125 2 = nI n) ∧ ∀ j, j < n → am_A μ 17 j = am_A μ 126 j
/-- a text with the signs of f put behind n -/
def txA (b : Nat → Int32) (n : Nat) (f : Nat → Int32) : Nat → Nat → Int32
  | 0 => b
  | i + 1 => if f i = 0 then txA b n f i else fun j => if j = n + sgN f i then f i else txA b n f i j
theorem txA_eq {b b' : Nat → Int32} {n : Nat} {f : Nat → Int32} (h : ∀ j, j < n → b j = b' j) : ∀ i j, j < n + sgN f i → txA b n f i j = txA b' n f i j := by
  intro i
  induction i with
  | zero => intro j hj; exact h j hj
  | succ i ih =>
    intro j hj
    have e1 : sgN f (i + 1) = if f i = 0 then sgN f i else sgN f i + 1 := rfl
    unfold txA
    by_cases hz : f i = 0
    · rw [e1, if_pos hz] at hj
      rw [if_pos hz, if_pos hz]
      exact ih j hj
    · rw [e1, if_neg hz] at hj
      rw [if_neg hz, if_neg hz]
      show (if j = n + sgN f i then f i else txA b n f i j) = if j = n + sgN f i then f i else txA b' n f i j
      by_cases q : j = n + sgN f i
      · rw [if_pos q, if_pos q]
      · rw [if_neg q, if_neg q]
        exact ih j (by omega)
theorem putM_A {μ : am_Mem} {n : Nat} {f : Nat → Int32} : ∀ i r j, am_A (putM μ n f i) r j = if r = 17 then txA (am_A μ 17) n f i j else if r = 16 ∧ j = 1 then am_A (putM μ n f i) 16 1 else am_A μ r j := by
  intro i
  induction i with
  | zero =>
    intro r j
    by_cases h : r = 17
    · rw [if_pos h, h]; rfl
    · rw [if_neg h]
      by_cases h2 : r = 16 ∧ j = 1
      · rw [if_pos h2, h2.1, h2.2]
      · rw [if_neg h2]; rfl
  | succ i ih =>
    intro r j
    unfold putM txA
    by_cases hz : f i = 0
    · rw [if_pos hz, if_pos hz]
      exact ih r j
    · rw [if_neg hz, if_neg hz, rA, rA]
      by_cases h : r = 17
      · rw [if_pos h, if_neg (by omega), h]
        by_cases q : j = n + sgN f i
        · rw [if_pos ⟨rfl, q⟩, if_pos q]
        · rw [if_neg (fun z => q z.2), if_neg q, ih, if_pos rfl]
      · rw [if_neg h]
        by_cases h2 : r = 16 ∧ j = 1
        · rw [if_pos h2, if_pos h2, rA, if_pos ⟨rfl, rfl⟩]
        · rw [if_neg h2, if_neg h2, if_neg (fun z => h z.1), ih, if_neg h, if_neg h2]
theorem rpM_A {μ : am_Mem} {n : Nat} {f : Nat → Int32} : ∀ i r j, am_A (rpM μ n f i) r j = if r = 126 then txA (am_A μ 126) n f i j else if r = 125 ∧ j = 2 then am_A (rpM μ n f i) 125 2 else am_A μ r j := by
  intro i
  induction i with
  | zero =>
    intro r j
    by_cases h : r = 126
    · rw [if_pos h, h]; rfl
    · rw [if_neg h]
      by_cases h2 : r = 125 ∧ j = 2
      · rw [if_pos h2, h2.1, h2.2]
      · rw [if_neg h2]; rfl
  | succ i ih =>
    intro r j
    unfold rpM txA
    by_cases hz : f i = 0
    · rw [if_pos hz, if_pos hz]
      exact ih r j
    · rw [if_neg hz, if_neg hz, rA, rA]
      by_cases h : r = 126
      · rw [if_pos h, if_neg (by omega), h]
        by_cases q : j = n + sgN f i
        · rw [if_pos ⟨rfl, q⟩, if_pos q]
        · rw [if_neg (fun z => q z.2), if_neg q, ih, if_pos rfl]
      · rw [if_neg h]
        by_cases h2 : r = 125 ∧ j = 2
        · rw [if_pos h2, if_pos h2, rA, if_pos ⟨rfl, rfl⟩]
        · rw [if_neg h2, if_neg h2, if_neg (fun z => h z.1), ih, if_neg h, if_neg h2]
section TXT
variable {L i d : Nat} {xs : Nat → Int32} {μ : am_Mem}
theorem lawF_same {μ' : am_Mem} (hF : lawF L xs μ) (h1 : am_kd μ' = am_kd μ) (h2 : ∀ j, am_A μ' 0 j = am_A μ 0 j) : lawF L xs μ' := by
  obtain ⟨a1, a2, a3, a4, a5⟩ := hF
  exact ⟨by rw [h1]; exact a1, fun j => by rw [h2]; exact a2 j, by rw [h1]; exact a3, by rw [h1]; exact a4, by rw [h1]; exact a5⟩
/-- fault: both tell the same place -/
theorem case_fault (hF : lawF L xs μ) (hf : am_A μ 16 2 = am_A μ 125 3) : lawC L xs d i 3 (fun μ' => SameT μ μ' ∧ (TextI μ → TextI μ')) μ := by
  show Wp d 120 (0, [some (.ref 16)], [], μ) _
  refine Wp.mono (c_fault hF.2.2.1) fun o μ1 h => ?_
  cases o with
  | inr e => exact h.elim
  | inl v =>
    obtain ⟨y, rfl, rfl, rfl⟩ := pI_r h
    refine ⟨hF, ?_⟩
    show Wp d 209 (0, [some (.ref 125)], [], μ1) _
    refine Wp.mono (r_fault hF.2.2.2.1) fun o μ2 h => ?_
    cases o with
    | inr e => exact h.elim
    | inl v =>
      obtain ⟨y, rfl, rfl, rfl⟩ := pI_r h
      refine ⟨lawF_same hF rfl (fun j => by rw [rA, if_neg (by omega)]), ⟨⟨fun r j hw => ⟨?_, rfl, rfl⟩, rfl, rfl, Nat.le_succ _, Nat.le_add_right _ _⟩, fun hT => ?_⟩, hf⟩
      · rw [rA, if_neg]
        rintro ⟨rfl, rfl⟩
        exact hw (Or.inr (Or.inr (Or.inl ⟨rfl, Or.inl rfl⟩)))
      · obtain ⟨n, h1, ⟨h2, h3, h4⟩, ⟨h5, h6, h7⟩, h8⟩ := hT
        refine ⟨n, h1, ⟨h2, h3, ?_⟩, ⟨h5, h6, ?_⟩, fun j hj => ?_⟩
        · rw [rA, if_neg (by omega)]; exact h4
        · rw [rA, if_neg (by omega)]; exact h7
        · rw [rA, if_neg (by omega), rA, if_neg (by omega)]; exact h8 j hj
end TXT
