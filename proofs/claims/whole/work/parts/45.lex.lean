/-! ===== the class's tokens: behindName, skip ===== -/
/-- a sign of names -/
def nmB (v : Int32) : Bool := (!decide (v < (Int8.ofInt 97).toInt32) && !decide ((Int8.ofInt 122).toInt32 < v)) || (!decide (v < (Int8.ofInt 48).toInt32) && !decide ((Int8.ofInt 57).toInt32 < v)) || decide (v = (Int8.ofInt 95).toInt32)
/-- where the signs of names end, k places looked at from i on -/
def nmE (g : Nat → Int32) : Nat → Nat → Nat
  | 0, i => i
  | k + 1, i => bif nmB (g i) then nmE g k (i + 1) else i
/-- the tokens' object, its text of n signs in the cell x -/
def TkA (μ : am_Mem) (a x n : Nat) : Prop := am_kd μ a = (1, 9) ∧ am_F μ a 4 = x ∧ ¬ x = 15 ∧ am_kd μ x = (5, 2000) ∧ am_A μ a 5 = nI n ∧ n ≤ 2000
section LEX
variable {d a x n : Nat} {μ : am_Mem}
theorem behind_l (h : TkA μ a x n) {x1 : Int32} : ∀ k i o3 o4 o5, i + k = n → Wp d 108 (2, [some (.ref a), some (.int x1), some (.int (nI i)), o3, o4, o5], [], μ) (pI (fun y μ' => y = nI (nmE (am_A μ x) k i) ∧ μ' = μ) noX) := by
  obtain ⟨h1, h2, h3, h4, h5, h6⟩ := h
  intro k
  induction k with
  | zero =>
    intro i o3 o4 o5 hi
    obtain rfl : i = n := by omega
    refine b108_2 h1 (fun _ => b108_79 h1 ⟨h5, rfl⟩) (fun q => absurd ?_ q)
    rw [h5]
    exact nI_le (Nat.le_refl i) (by omega)
  | succ k ih =>
    intro i o3 o4 o5 hi
    have hin : i < n := by omega
    have hyes : nmB (am_A μ x i) = true → ∀ y3 y4 y5, Wp d 108 (73, [some (.ref a), some (.int x1), some (.int (nI i)), some (.int y3), some (.int y4), some (.int y5)], [], μ) (pI (fun y μ' => y = nI (nmE (am_A μ x) (k + 1) i) ∧ μ' = μ) noX) := by
      intro hb y3 y4 y5
      refine b108_73 ?_
      rw [ni1]
      have e : nmE (am_A μ x) (k + 1) i = nmE (am_A μ x) k (i + 1) := by
        show (bif nmB (am_A μ x i) then _ else _) = _
        rw [hb]
        rfl
      rw [e]
      exact ih (i + 1) _ _ _ (by omega)
    have hno : nmB (am_A μ x i) = false → ∀ y3 y4 y5, Wp d 108 (71, [some (.ref a), some (.int x1), some (.int (nI i)), some (.int y3), some (.int y4), some (.int y5)], [], μ) (pI (fun y μ' => y = nI (nmE (am_A μ x) (k + 1) i) ∧ μ' = μ) noX) := by
      intro hb y3 y4 y5
      refine b108_71 ⟨?_, rfl⟩
      have e : nmE (am_A μ x) (k + 1) i = i := by
        show (bif nmB (am_A μ x i) then _ else _) = _
        rw [hb]
        rfl
      rw [e]
    refine b108_2 h1 (fun q => absurd q (by rw [h5]; exact nI_ge hin (by omega))) (fun _ => ?_)
    have hx : am_A μ (am_F μ a 4) (nI i).toNatClampNeg = am_A μ x i := by rw [h2, nI_clamp (by omega)]
    generalize hv : am_A μ x i = v at hx hyes hno
    have h53 : ∀ y4 s0, (y4 = Int32.ofInt 1 ∧ (¬ v < (Int8.ofInt 97).toInt32 ∧ ¬ (Int8.ofInt 122).toInt32 < v) ∨ y4 = Int32.ofInt 0 ∧ ¬ (¬ v < (Int8.ofInt 97).toInt32 ∧ ¬ (Int8.ofInt 122).toInt32 < v)) → (s0 = Int32.ofInt 1 ∧ (¬ v < (Int8.ofInt 48).toInt32 ∧ ¬ (Int8.ofInt 57).toInt32 < v) ∨ s0 = Int32.ofInt 0 ∧ ¬ (¬ v < (Int8.ofInt 48).toInt32 ∧ ¬ (Int8.ofInt 57).toInt32 < v)) →
        Wp d 108 (53, [some (.ref a), some (.int x1), some (.int (nI i)), some (.int v), some (.int y4), o5], [.int s0], μ) (pI (fun y μ' => y = nI (nmE (am_A μ x) (k + 1) i) ∧ μ' = μ) noX) := by
      intro y4 s0 hl hdg
      refine b108_53 (fun q => ?_) (fun q => ?_)
      · rcases hl with ⟨rfl, hl⟩ | ⟨rfl, -⟩
        · exact hyes (by unfold nmB; rw [decide_eq_false hl.1, decide_eq_false hl.2]; simp) _ _ _
        · exact absurd (by decide) q
      · rcases hl with ⟨rfl, -⟩ | ⟨rfl, hl⟩
        · exact absurd (by decide) q
        · refine b108_60 (fun q2 => ?_) (fun q2 => ?_)
          · rcases hdg with ⟨rfl, hg⟩ | ⟨rfl, -⟩
            · exact hyes (by unfold nmB; rw [decide_eq_false hg.1, decide_eq_false hg.2]; simp) _ _ _
            · exact absurd (by decide) q2
          · rcases hdg with ⟨rfl, -⟩ | ⟨rfl, hg⟩
            · exact absurd (by decide) q2
            · refine b108_65 (fun q3 => hyes (by simp [nmB, q3]) _ _ _) (fun q3 => hno ?_ _ _ _)
              simp only [nmB, Bool.or_eq_false_iff, Bool.and_eq_false_iff, Bool.not_eq_false', decide_eq_true_eq, decide_eq_false_iff_not]
              refine ⟨⟨?_, ?_⟩, q3⟩
              · by_cases z : v < (Int8.ofInt 97).toInt32
                · exact Or.inl z
                · exact Or.inr (Classical.not_not.mp fun z2 => hl ⟨z, z2⟩)
              · by_cases z : v < (Int8.ofInt 48).toInt32
                · exact Or.inl z
                · exact Or.inr (Classical.not_not.mp fun z2 => hg ⟨z, z2⟩)
    have h34 : ∀ y4, (y4 = Int32.ofInt 1 ∧ (¬ v < (Int8.ofInt 97).toInt32 ∧ ¬ (Int8.ofInt 122).toInt32 < v) ∨ y4 = Int32.ofInt 0 ∧ ¬ (¬ v < (Int8.ofInt 97).toInt32 ∧ ¬ (Int8.ofInt 122).toInt32 < v)) →
        Wp d 108 (34, [some (.ref a), some (.int x1), some (.int (nI i)), some (.int v), o4, o5], [.int y4], μ) (pI (fun y μ' => y = nI (nmE (am_A μ x) (k + 1) i) ∧ μ' = μ) noX) := by
      intro y4 hl
      refine b108_34 (fun q => b108_52 (h53 _ _ hl (Or.inr ⟨rfl, fun z => z.1 q⟩))) (fun q => ?_)
      exact b108_42 (fun q2 => b108_52 (h53 _ _ hl (Or.inr ⟨rfl, fun z => z.2 q2⟩))) (fun q2 => b108_48 (h53 _ _ hl (Or.inl ⟨rfl, q, q2⟩)))
    refine b108_10 h1 (by rw [h2]; exact h3) (by rw [h2, h4]) (by rw [h2, h4]; exact nI_inn (by omega) (by decide)) (fun q => ?_) (fun q => ?_)
    · rw [hx] at q ⊢
      exact b108_33 (h34 _ (Or.inr ⟨rfl, fun z => z.1 q⟩))
    · rw [hx] at q ⊢
      exact b108_23 (fun q2 => b108_33 (h34 _ (Or.inr ⟨rfl, fun z => z.2 q2⟩))) (fun q2 => b108_29 (h34 _ (Or.inl ⟨rfl, q, q2⟩)))
theorem c_behindName (h : TkA μ a x n) {i : Nat} (hi : i ≤ n) : Wp d 108 (0, [some (.ref a), some (.int (nI i)), none, none, none, none], [], μ) (pI (fun y μ' => y = nI (nmE (am_A μ x) (n - i) i) ∧ μ' = μ) noX) :=
  b108_0 (behind_l h (n - i) i none none none (by omega))
end LEX
