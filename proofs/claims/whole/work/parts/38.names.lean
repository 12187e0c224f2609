/-! ===== the class's names: lengthOf, isName ===== -/
/-- the names of an object: its cells (pool, from, slots), how many, where each begins -/
def NmA (μ : am_Mem) (a p f s c : Nat) (fr : Nat → Nat) : Prop :=
  am_kd μ a = (1, 3) ∧ am_F μ a 1 = p ∧ am_F μ a 2 = f ∧ am_F μ a 3 = s ∧ (¬ p = 15 ∧ ¬ f = 15 ∧ ¬ s = 15) ∧ am_kd μ p = (5, 2058) ∧ am_kd μ f = (2, 1025) ∧ am_kd μ s = (2, 2048) ∧ am_A μ a 4 = nI c ∧ c ≤ 1024 ∧ (∀ k, k ≤ c → am_A μ f k = nI (fr k)) ∧ (∀ k, k < c → fr k ≤ fr (k + 1)) ∧ fr c ≤ 2058
theorem NmA_le {μ : am_Mem} {a p f s c : Nat} {fr : Nat → Nat} (h : NmA μ a p f s c fr) : ∀ m k, k + m = c → fr k ≤ 2058 := by
  intro m
  induction m with
  | zero =>
    intro k hk
    obtain rfl : k = c := by omega
    exact h.2.2.2.2.2.2.2.2.2.2.2.2
  | succ m ih =>
    intro k hk
    have h1 := h.2.2.2.2.2.2.2.2.2.2.2.1 k (by omega)
    have h2 := ih (k + 1) (by omega)
    omega
theorem nI_sub {x y : Nat} (h : y ≤ x) : nI x - nI y = nI (x - y) := by
  have e : nI x = nI (x - y) + nI y := by rw [nI_add, Nat.sub_add_cancel h]
  rw [e]
  exact Int32.add_sub_cancel _ _
section NMS
variable {d a p f s c k : Nat} {μ : am_Mem} {fr : Nat → Nat}
theorem c_lengthOf (h : NmA μ a p f s c fr) (hk : k < c) : Wp d 51 (0, [some (.ref a), some (.int (nI k))], [], μ) (pI (fun y μ' => y = nI (fr (k + 1) - fr k) ∧ μ' = μ) noX) := by
  obtain ⟨h1, h2, h3, h4, ⟨h5, h6, h7⟩, h8, h9, h10, h11, h12, h13, h14, h15⟩ := h
  have i1 : ¬ (nI (k + 1) < 0 ∨ 1025 ≤ (nI (k + 1)).toNatClampNeg) := nI_inn (by omega) (by decide)
  have i2 : ¬ (nI k < 0 ∨ 1025 ≤ (nI k).toNatClampNeg) := nI_inn (by omega) (by decide)
  have hf : (am_kd μ (am_F μ a 2)).1 = 2 ∨ (am_kd μ (am_F μ a 2)).1 = 8 := by rw [h3, h9]; exact Or.inl rfl
  have hn : ¬ am_F μ a 2 = 15 := by rw [h3]; exact h6
  refine b51_0 h1 hn hf (by rw [h3, h9, ni1]; exact i1) h1 hn hf (by rw [h3, h9]; exact i2) ⟨?_, rfl⟩
  rw [h3, ni1, nI_clamp (by omega), nI_clamp (by omega), h13 (k + 1) (by omega), h13 k (by omega), nI_sub (h14 k hk)]
/-- whether name k has these signs -/
def NmIs (μ : am_Mem) (p : Nat) (fr : Nat → Nat) (k t b n : Nat) : Prop := fr (k + 1) - fr k = n ∧ ∀ j, j < n → am_A μ p (fr k + j) = am_A μ t (b + j)
theorem isName_l {t tn b n : Nat} (h : NmA μ a p f s c fr) (hk : k < c) (ht : am_kd μ t = (5, tn)) (hb : b + n ≤ tn) (htn : tn < 2 ^ 31) (hl : fr (k + 1) - fr k = n) : ∀ m i, i + m = n → (∀ j, j < i → am_A μ p (fr k + j) = am_A μ t (b + j)) →
    Wp d 50 (15, [some (.ref a), some (.int (nI k)), some (.ref t), some (.int (nI b)), some (.int (nI n)), some (.int (nI i))], [], μ) (pI (fun y μ' => μ' = μ ∧ ((y = Int32.ofInt 1 ∧ NmIs μ p fr k t b n) ∨ (y = Int32.ofInt 0 ∧ ¬ NmIs μ p fr k t b n))) noX) := by
  have hle := NmA_le h (c - (k + 1)) (k + 1) (by omega)
  obtain ⟨h1, h2, h3, h4, ⟨h5, h6, h7⟩, h8, h9, h10, h11, h12, h13, h14, h15⟩ := h
  have h14k := h14 k hk
  intro m
  induction m with
  | zero =>
    intro i hi hs
    obtain rfl : i = n := by omega
    exact b50_15 (fun _ => b50_53 ⟨rfl, Or.inl ⟨rfl, hl, hs⟩⟩) (fun q => absurd (nI_le (Nat.le_refl i) (by omega)) q)
  | succ m ih =>
    intro i hi hs
    have hin : i < n := by omega
    have i2 : ¬ (nI k < 0 ∨ 1025 ≤ (nI k).toNatClampNeg) := nI_inn (by omega) (by decide)
    have i3 : ¬ (nI (fr k + i) < 0 ∨ 2058 ≤ (nI (fr k + i)).toNatClampNeg) := nI_inn (by omega) (by decide)
    have i4 : ¬ (nI (b + i) < 0 ∨ tn ≤ (nI (b + i)).toNatClampNeg) := nI_inn (by omega) htn
    have ek : am_A μ (am_F μ a 2) (nI k).toNatClampNeg + nI i = nI (fr k + i) := by rw [h3, nI_clamp (by omega), h13 k (by omega), nI_add]
    refine b50_15 (fun q => absurd q (nI_ge hin (by omega))) (fun _ => ?_)
    refine b50_22 h1 (by rw [h2]; exact h5) h1 (by rw [h3]; exact h6) (by rw [h3, h9]; exact Or.inl rfl) (by rw [h3, h9]; exact i2) (by rw [h2, h8]) (by rw [ek, h2, h8]; exact i3) (by rw [ht]) (by rw [nI_add, ht]; exact i4) (fun q => ?_) (fun q => ?_)
    · rw [ek, h2, nI_clamp (by omega), nI_add, nI_clamp (by omega)] at q
      refine b50_47 ?_
      rw [ni1]
      refine ih (i + 1) (by omega) (fun j hj => ?_)
      by_cases e : j = i
      · rw [e]; exact q
      · exact hs j (by omega)
    · rw [ek, h2, nI_clamp (by omega), nI_add, nI_clamp (by omega)] at q
      exact b50_45 ⟨rfl, Or.inr ⟨rfl, fun z => q (z.2 i hin)⟩⟩
theorem c_isName {t tn b n : Nat} (h : NmA μ a p f s c fr) (hk : k < c) (ht : am_kd μ t = (5, tn)) (hb : b + n ≤ tn) (htn : tn < 2 ^ 31) :
    Wp (d + 1) 50 (0, [some (.ref a), some (.int (nI k)), some (.ref t), some (.int (nI b)), some (.int (nI n)), none], [], μ) (pI (fun y μ' => μ' = μ ∧ ((y = Int32.ofInt 1 ∧ NmIs μ p fr k t b n) ∨ (y = Int32.ofInt 0 ∧ ¬ NmIs μ p fr k t b n))) noX) := by
  have hle := NmA_le h (c - (k + 1)) (k + 1) (by omega)
  refine b50_0 h.1 (c_lengthOf h hk) (fun y μ' hy => ?_) (fun _ _ q => q.elim)
  obtain ⟨rfl, rfl⟩ := hy
  refine b50_5 (fun q => ?_) (fun q => ?_)
  · have hl : fr (k + 1) - fr k = n := (nI_eq (by omega) (by omega)).mp q
    exact b50_12 (isName_l h hk ht hb htn hl n 0 (by omega) (fun j hj => absurd hj (by omega)))
  · refine b50_10 ⟨rfl, Or.inr ⟨rfl, fun z => q ?_⟩⟩
    rw [z.1]
end NMS
