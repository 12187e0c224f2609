/-! ===== put of the reference ===== -/
theorem sv_32 : ∀ v, v < 256 → ((nI v).toInt64 < (32 : Int64) ↔ nI v < (Int8.ofInt 32).toInt32) := by decide +kernel
theorem sv_126 : ∀ v, v < 256 → ((126 : Int64) < (nI v).toInt64 ↔ ¬ nI v ≤ (Int8.ofInt 126).toInt32) := by decide +kernel
theorem sv_0 : ∀ v, v < 256 → (nI v ≤ 0 ↔ nI v = 0) := by decide +kernel
theorem sgB_0 (a : Int32) (i : Nat) : sgB a i ≤ 0 ↔ sgB a i = 0 := by
  obtain ⟨v, hv, e⟩ := sgB_lt a i
  rw [e]
  exact sv_0 v hv
/-- whether all so far are signs, as a flag -/
def sgF (a : Int32) (i : Nat) (x : Int32) : Prop := (x = Int32.ofInt 1 ∧ ∀ j, j < i → sgOk (sgB a j)) ∨ (x = Int32.ofInt 0 ∧ ∃ j, j < i ∧ ¬ sgOk (sgB a j))
section RP2
variable {d : Nat} {μ : am_Mem} {a : Int32} {Q : Option Value ⊕ Nat → am_Mem → Prop}
theorem rput_l1 (hg : ∀ x3 o5, sgF a 4 x3 → Wp (d + 1) 149 (82, [some (.ref 125), some (.int a), some (.int (nI (sgN (sgB a) 4))), some (.int x3), some (.int (nI 4)), o5], [], μ) Q) :
    ∀ m i x3 o5, i + m = 4 → sgF a i x3 → Wp (d + 1) 149 (7, [some (.ref 125), some (.int a), some (.int (nI (sgN (sgB a) i))), some (.int x3), some (.int (nI i)), o5], [], μ) Q := by
  intro m
  induction m with
  | zero =>
    intro i x3 o5 hi hf
    obtain rfl : i = 4 := by omega
    exact b149_7 (fun _ => hg x3 o5 hf) (fun h => absurd ((i4 4 (by omega)).mpr rfl) h)
  | succ m ih =>
    intro i x3 o5 hi hf
    have hi4 : i < 4 := by omega
    have h62 : ∀ y3 s0, sgF a (i + 1) s0 → Wp (d + 1) 149 (62, [some (.ref 125), some (.int a), some (.int (nI (sgN (sgB a) i))), some (.int y3), some (.int (nI i)), some (.int (sgB a i))], [.int s0], μ) Q := by
      intro y3 s0 hs
      refine b149_62 (fun hz => ?_) (fun hz => ?_)
      · have hz2 := (sgB_0 a i).mp hz
        refine b149_74 (b149_75 ?_)
        rw [ni1]
        have e : sgN (sgB a) (i + 1) = sgN (sgB a) i := by rw [sgN, if_pos hz2]
        rw [← e]
        exact ih (i + 1) s0 _ (by omega) hs
      · have hz2 : ¬ sgB a i = 0 := fun q => hz ((sgB_0 a i).mpr q)
        refine b149_68 (b149_75 ?_)
        rw [ni1, ni1]
        have e : sgN (sgB a) (i + 1) = sgN (sgB a) i + 1 := by rw [sgN, if_neg hz2]
        rw [← e]
        exact ih (i + 1) s0 _ (by omega) hs
    have yes : ∀ y3, (∀ j, j < i → sgOk (sgB a j)) → sgOk (sgB a i) → Wp (d + 1) 149 (57, [some (.ref 125), some (.int a), some (.int (nI (sgN (sgB a) i))), some (.int y3), some (.int (nI i)), some (.int (sgB a i))], [], μ) Q := by
      intro y3 hall hs
      refine b149_57 (h62 _ _ (Or.inl ⟨rfl, fun j hj => ?_⟩))
      by_cases e : j = i
      · rw [e]; exact hs
      · exact hall j (by omega)
    have no : ∀ y3, (∃ j, j < i + 1 ∧ ¬ sgOk (sgB a j)) → Wp (d + 1) 149 (61, [some (.ref 125), some (.int a), some (.int (nI (sgN (sgB a) i))), some (.int y3), some (.int (nI i)), some (.int (sgB a i))], [], μ) Q := fun y3 hs => b149_61 (h62 _ _ (Or.inr ⟨rfl, hs⟩))
    refine b149_7 (fun h => absurd ((i4 i (by omega)).mp h) (by omega)) (fun _ => ?_)
    refine b149_13 (fun h3 => ?_) (fun h3 => ?_)
    · rw [sgB_r a i hi4]
      rcases hf with ⟨rfl, -⟩ | ⟨-, j, hj, hb⟩
      · exact absurd h3 (by decide)
      · exact no _ ⟨j, by omega, hb⟩
    · rw [sgB_r a i hi4]
      rcases hf with ⟨-, hall⟩ | ⟨rfl, -⟩
      · obtain ⟨v, hv, ev⟩ := sgB_lt a i
        refine b149_30 (fun h0 => yes _ hall (Or.inl h0)) (fun h0 => ?_)
        refine b149_35 (fun h10 => yes _ hall (Or.inr (Or.inl h10))) (fun h10 => ?_)
        refine b149_42 r_in (fun z μ' hz => ?_) (fun _ _ h => h.elim)
        obtain ⟨rfl, hz⟩ := hz
        rw [ev] at hz
        rcases hz with ⟨rfl, g1, g2⟩ | ⟨rfl, g1⟩
        · refine b149_54 (fun h => absurd h (by decide)) (fun _ => yes _ hall (Or.inr (Or.inr ?_)))
          rw [ev]
          exact ⟨fun q => g1 ((sv_32 v hv).mpr q), Classical.not_not.mp fun q => g2 ((sv_126 v hv).mpr q)⟩
        · refine b149_54 (fun _ => no _ ⟨i, by omega, ?_⟩) (fun h => absurd (by decide) h)
          rintro (q | q | q)
          · exact h0 q
          · exact h10 q
          · rw [ev] at q
            rcases g1 with g | g
            · exact q.1 ((sv_32 v hv).mp g)
            · exact (sv_126 v hv).mp g q.2
      · exact absurd (by decide) h3
/-- the memory behind i of the four -/
def rpM (μ : am_Mem) (n : Nat) (f : Nat → Int32) : Nat → am_Mem
  | 0 => μ
  | i + 1 => if f i = 0 then rpM μ n f i else am_pA (am_pA (rpM μ n f i) 126 (n + sgN f i) (f i)) 125 2 (nI (n + sgN f i + 1))
theorem rpM_kd (n : Nat) (f : Nat → Int32) : ∀ i, am_kd (rpM μ n f i) = am_kd μ ∧ am_F (rpM μ n f i) = am_F μ ∧ am_n (rpM μ n f i) = am_n μ ∧ am_sl (rpM μ n f i) = am_sl μ ∧ am_L (rpM μ n f i) = am_L μ := by
  intro i
  induction i with
  | zero => exact ⟨rfl, rfl, rfl, rfl, rfl⟩
  | succ i ih =>
    unfold rpM
    split
    · exact ih
    · exact ih
theorem rpM_len {n : Nat} {f : Nat → Int32} (h : am_A μ 125 2 = nI n) : ∀ i, am_A (rpM μ n f i) 125 2 = nI (n + sgN f i) := by
  intro i
  induction i with
  | zero => exact h
  | succ i ih =>
    have e1 : sgN f (i + 1) = if f i = 0 then sgN f i else sgN f i + 1 := rfl
    have e2 : rpM μ n f (i + 1) = if f i = 0 then rpM μ n f i else am_pA (am_pA (rpM μ n f i) 126 (n + sgN f i) (f i)) 125 2 (nI (n + sgN f i + 1)) := rfl
    rw [e1, e2]
    by_cases hz : f i = 0
    · rw [if_pos hz, if_pos hz]
      exact ih
    · rw [if_neg hz, if_neg hz, rA, if_pos ⟨rfl, rfl⟩]
      rfl
theorem rput_l2 {n : Nat} (hk : am_kd μ 125 = (1, 12)) (hF : am_F μ 125 1 = 126) (h17 : am_kd μ 126 = (2, 2000)) (hn : am_A μ 125 2 = nI n) (hle : n + sgN (sgB a) 4 ≤ 2000) {x2 x3 : Int32} (hq : Q (.inl (some (.int (nI (n + sgN (sgB a) 4))))) (rpM μ n (sgB a) 4)) :
    ∀ m i o5, i + m = 4 → Wp d 149 (121, [some (.ref 125), some (.int a), some (.int x2), some (.int x3), some (.int (nI i)), o5], [], rpM μ n (sgB a) i) Q := by
  intro m
  induction m with
  | zero =>
    intro i o5 hi
    obtain rfl : i = 4 := by omega
    refine b149_121 (fun _ => ?_) (fun h => absurd ((i4 4 (by omega)).mpr rfl) h)
    refine b149_172 (by rw [(rpM_kd n (sgB a) 4).1]; exact hk) ?_
    rw [rpM_len hn]
    exact hq
  | succ m ih =>
    intro i o5 hi
    have hi4 : i < 4 := by omega
    refine b149_121 (fun h => absurd ((i4 i (by omega)).mp h) (by omega)) (fun _ => ?_)
    refine b149_127 (fun hz => ?_) (fun hz => ?_)
    · rw [sgB_r a i hi4] at hz ⊢
      have hz2 := (sgB_0 a i).mp hz
      refine b149_166 ?_
      rw [ni1]
      have e : rpM μ n (sgB a) (i + 1) = rpM μ n (sgB a) i := by rw [rpM, if_pos hz2]
      rw [← e]
      exact ih (i + 1) _ (by omega)
    · rw [sgB_r a i hi4] at hz ⊢
      have hz2 : ¬ sgB a i = 0 := fun q => hz ((sgB_0 a i).mpr q)
      have e : rpM μ n (sgB a) (i + 1) = am_pA (am_pA (rpM μ n (sgB a) i) 126 (n + sgN (sgB a) i) (sgB a i)) 125 2 (nI (n + sgN (sgB a) i + 1)) := by rw [rpM, if_neg hz2]
      have hsm : sgN (sgB a) i + 1 ≤ sgN (sgB a) 4 := by
        have := sgN_mono (sgB a) (i + 1) 4 (by omega)
        rw [sgN, if_neg hz2] at this
        exact this
      obtain ⟨k1, k2, -⟩ := rpM_kd (μ := μ) n (sgB a) i
      have hFi : am_F (rpM μ n (sgB a) i) 125 1 = 126 := by rw [k2]; exact hF
      have hLi : am_A (rpM μ n (sgB a) i) 125 2 = nI (n + sgN (sgB a) i) := rpM_len hn i
      have hcl : (nI (n + sgN (sgB a) i)).toNatClampNeg = n + sgN (sgB a) i := nI_clamp (by omega)
      have hk2 : am_kd (rpM μ n (sgB a) i) 125 = (1, 12) := by rw [k1]; exact hk
      have hA : am_A (am_pA (rpM μ n (sgB a) i) 126 (n + sgN (sgB a) i) (sgB a i)) 125 2 = nI (n + sgN (sgB a) i) := by
        rw [rA, if_neg (by omega)]
        exact hLi
      refine b149_145 hk2 (by rw [hFi]; decide) hk2 (by rw [hFi, k1, h17]) ?_ hk2 hk2 ?_
      · rw [hFi, k1, h17, hLi]
        exact nI_inn (by omega) (by decide)
      · refine b149_166 ?_
        rw [hFi, hLi, hcl, hA, ni1, ni1, ← e]
        exact ih (i + 1) _ (by omega)
def rputP (μ : am_Mem) (a : Int32) (n : Nat) (y : Int32) (μ' : am_Mem) : Prop := ((∀ j, j < 4 → sgOk (sgB a j)) ∧ n + sgN (sgB a) 4 ≤ 2000 ∧ y = nI (n + sgN (sgB a) 4) ∧ μ' = rpM (am_pA μ 125 0 (Int32.ofInt 0)) n (sgB a) 4) ∨ ((∃ j, j < 4 ∧ ¬ sgOk (sgB a j)) ∧ μ' = am_pA μ 125 0 (Int32.ofInt 1)) ∨ ((∀ j, j < 4 → sgOk (sgB a j)) ∧ ¬ n + sgN (sgB a) 4 ≤ 2000 ∧ μ' = am_pA μ 125 0 (Int32.ofInt 2))
/-- put: what it answers, which it refuses, what it writes -/
theorem r_put {n : Nat} (hk : am_kd μ 125 = (1, 12)) (hF : am_F μ 125 1 = 126) (h17 : am_kd μ 126 = (2, 2000)) (hn : am_A μ 125 2 = nI n) (hn2 : n ≤ 2000) :
    Wp (d + 1) 149 (0, [some (.ref 125), some (.int a), none, none, none, none], [], μ) (pI (rputP μ a n) noX) := by
  refine b149_0 (rput_l1 (fun x3 o5 hf => ?_) 4 0 _ none rfl (Or.inl ⟨rfl, fun j hj => absurd hj (by omega)⟩))
  have h4 := sgN_le (sgB a) 4
  have hc : am_A μ 125 2 + nI (sgN (sgB a) 4) ≤ (Int16.ofInt 2000).toInt32 ↔ n + sgN (sgB a) 4 ≤ 2000 := by
    rw [hn, nI_add]
    constructor
    · intro h
      rcases Nat.lt_or_ge 2000 (n + sgN (sgB a) 4) with q | q
      · exact absurd h (nI_ge q (by omega))
      · exact q
    · intro h
      exact nI_le h (by decide)
  have fin : ∀ s1 s2, (s1 = Int32.ofInt 0 ∧ (∀ j, j < 4 → sgOk (sgB a j)) ∨ s1 = Int32.ofInt 1 ∧ ∃ j, j < 4 ∧ ¬ sgOk (sgB a j)) → (s2 = Int32.ofInt 0 ∧ n + sgN (sgB a) 4 ≤ 2000 ∨ s2 = Int32.ofInt 1 ∧ ¬ n + sgN (sgB a) 4 ≤ 2000) →
      Wp (d + 1) 149 (109, [some (.ref 125), some (.int a), some (.int (nI (sgN (sgB a) 4))), some (.int x3), some (.int (nI 4)), o5], [.int s2, .int s1, .ref 125], μ) (pI (rputP μ a n) noX) := by
    intro s1 s2 hs1 hs2
    refine b149_109 hk (r_refuse hk) (fun y μ' hy => ?_) (fun _ _ h => h.elim)
    obtain ⟨rfl, rfl⟩ := hy
    rcases hs1 with ⟨rfl, hok⟩ | ⟨rfl, hbad⟩
    · rcases hs2 with ⟨rfl, hle⟩ | ⟨rfl, hgt⟩
      · refine b149_113 (fun _ => ?_) (fun h => absurd (by decide) h)
        exact b149_118 (rput_l2 (i := 0) (μ := am_pA μ 125 0 (Int32.ofInt 0)) hk hF h17 (by rw [rA, if_neg (by decide)]; exact hn) hle (Or.inl ⟨hok, hle, rfl, rfl⟩) 4 o5 rfl)
      · refine b149_113 (fun h => absurd h (by decide)) (fun _ => b149_116 (Or.inr (Or.inr ⟨hok, hgt, rfl⟩)))
    · have e : ∀ s2, rfN (Int32.ofInt 1) s2 (Int32.ofInt 0) = Int32.ofInt 1 := fun s2 => by
        unfold rfN
        rw [if_neg (by decide)]
      rw [e]
      refine b149_113 (fun h => absurd h (by decide)) (fun _ => b149_116 (Or.inr (Or.inl ⟨hbad, rfl⟩)))
  have f92 : ∀ s1, (s1 = Int32.ofInt 0 ∧ (∀ j, j < 4 → sgOk (sgB a j)) ∨ s1 = Int32.ofInt 1 ∧ ∃ j, j < 4 ∧ ¬ sgOk (sgB a j)) → Wp (d + 1) 149 (92, [some (.ref 125), some (.int a), some (.int (nI (sgN (sgB a) 4))), some (.int x3), some (.int (nI 4)), o5], [.int s1, .ref 125], μ) (pI (rputP μ a n) noX) := by
    intro s1 hs1
    refine b149_92 hk (fun h => ?_) (fun h => ?_)
    · exact b149_108 (fin s1 _ hs1 (Or.inl ⟨rfl, hc.mp h⟩))
    · exact b149_104 (fin s1 _ hs1 (Or.inr ⟨rfl, fun q => h (hc.mpr q)⟩))
  refine b149_82 (fun h => ?_) (fun h => ?_)
  · rcases hf with ⟨rfl, hok⟩ | ⟨rfl, -⟩
    · exact b149_91 (f92 _ (Or.inl ⟨rfl, hok⟩))
    · exact absurd (by decide) h
  · rcases hf with ⟨rfl, -⟩ | ⟨rfl, hbad⟩
    · exact absurd (by decide) h
    · exact b149_87 (f92 _ (Or.inr ⟨rfl, hbad⟩))
end RP2
