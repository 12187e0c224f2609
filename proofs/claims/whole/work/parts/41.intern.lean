/-! ===== the class's names: the way that intern goes ===== -/
/-- names with their table -/
def NmI (μ : am_Mem) (a p f s c : Nat) (fr : Nat → Nat) : Prop := NmA μ a p f s c fr ∧ (∀ i, i < 2048 → ∃ v, v ≤ c ∧ am_A μ s i = nI v) ∧ HT 2048 (fun i => (am_A μ s i).toNatClampNeg) (fun k => (nmP (fun j => am_A μ p (fr k + j)) (fr (k + 1) - fr k)).toNatClampNeg) c
theorem pl_next : ∀ q, q < 2048 → (nI (q + 1) &&& (Int16.ofInt 2047).toInt32) = nI ((q + 1) % 2048) := by decide +kernel
theorem oI1 : Int32.ofInt 1 = nI 1 := by decide
section INT
variable {d a p f s c t tn b n t0 m : Nat} {μ : am_Mem} {fr : Nat → Nat} {Q : Option Value ⊕ Nat → am_Mem → Prop} {hs : Int32}
theorem intern_w (h : NmI μ a p f s c fr) (hc : c < 1024) (ht : am_kd μ t = (5, tn)) (hb : b + n ≤ tn) (htn : tn < 2 ^ 31) (h0 : t0 < 2048) (hm : m < 2048) (hz : (am_A μ s ((t0 + m) % 2048)).toNatClampNeg = 0) (hnz : ∀ m', m' < m → ¬ (am_A μ s ((t0 + m') % 2048)).toNatClampNeg = 0)
    (hfound : ∀ k, k < c → NmIs μ p fr k t b n → Q (.inl (some (.int (nI k)))) μ)
    (hnew : (∀ m', m' < m → ∀ k, (am_A μ s ((t0 + m') % 2048)).toNatClampNeg = k + 1 → ¬ NmIs μ p fr k t b n) → ∀ o7, Wp (d + 2) 49 (108, [some (.ref a), some (.ref t), some (.int (nI b)), some (.int (nI n)), some (.int hs), some (.int (nI ((t0 + m) % 2048))), some (.int (nI m)), o7], [], μ) Q) :
    ∀ r i o7, i + r = m → (∀ m', m' < i → ∀ k, (am_A μ s ((t0 + m') % 2048)).toNatClampNeg = k + 1 → ¬ NmIs μ p fr k t b n) → Wp (d + 2) 49 (49, [some (.ref a), some (.ref t), some (.int (nI b)), some (.int (nI n)), some (.int hs), some (.int (nI ((t0 + i) % 2048))), some (.int (nI i)), o7], [], μ) Q := by
  obtain ⟨hA, hv, hH⟩ := h
  obtain ⟨h1, h2, h3, h4, ⟨h5, h6, h7⟩, h8, h9, h10, h11, h12, h13, h14, h15⟩ := id hA
  have e2048 : (Int16.ofInt 2048).toInt32 = nI 2048 := by decide
  intro r
  induction r with
  | zero =>
    intro i o7 hi hno
    obtain rfl : i = m := by omega
    have hq : (t0 + i) % 2048 < 2048 := Nat.mod_lt _ (by omega)
    obtain ⟨v, hv1, hv2⟩ := hv _ hq
    have hv0 : v = 0 := by
      rw [hv2, nI_clamp (by omega)] at hz
      exact hz
    refine b49_49 (fun q => absurd q (by rw [e2048]; exact nI_ge hm (by decide))) (fun _ => ?_)
    refine b49_57 h1 (by rw [h4]; exact h7) (by rw [h4, h10]; exact Or.inl rfl) (by rw [h4, h10]; exact nI_inn hq (by decide)) (fun q => ?_) (fun _ => ?_)
    · rw [h4, nI_clamp (by omega), hv2, hv0] at q
      exact absurd (by decide) q
    · exact b49_74 (hnew hno _)
  | succ r ih =>
    intro i o7 hi hno
    have him : i < m := by omega
    have hq : (t0 + i) % 2048 < 2048 := Nat.mod_lt _ (by omega)
    obtain ⟨v, hv1, hv2⟩ := hv _ hq
    have hvz : ¬ v = 0 := by
      have := hnz i him
      rw [hv2, nI_clamp (by omega)] at this
      exact this
    obtain ⟨k, rfl⟩ : ∃ k, v = k + 1 := ⟨v - 1, by omega⟩
    have ek : am_A μ (am_F μ a 3) (nI ((t0 + i) % 2048)).toNatClampNeg - Int32.ofInt 1 = nI k := by
      rw [h4, nI_clamp (by omega), hv2, oI1, nI_sub (by omega)]
      rfl
    refine b49_49 (fun q => absurd q (by rw [e2048]; exact nI_ge (by omega) (by decide))) (fun _ => ?_)
    refine b49_57 h1 (by rw [h4]; exact h7) (by rw [h4, h10]; exact Or.inl rfl) (by rw [h4, h10]; exact nI_inn hq (by decide)) (fun _ => ?_) (fun q => ?_)
    · rw [ek]
      refine b49_77 h1 (c_isName hA (by omega) ht hb htn) (fun y μ' hy => ?_) (fun _ _ q => q.elim)
      obtain ⟨rfl, hy⟩ := hy
      rcases hy with ⟨rfl, his⟩ | ⟨rfl, hno2⟩
      · exact b49_86 (fun q => absurd q (by decide)) (fun _ => b49_89 (hfound k (by omega) his))
      · refine b49_86 (fun _ => b49_92 ?_) (fun q => absurd (by decide) q)
        rw [ni1, ni1, pl_next _ hq]
        have e : ((t0 + i) % 2048 + 1) % 2048 = (t0 + (i + 1)) % 2048 := by omega
        rw [e]
        refine ih (i + 1) _ (by omega) (fun m' h1' k' hk' => ?_)
        by_cases q : m' = i
        · rw [q, hv2, nI_clamp (by omega)] at hk'
          obtain rfl : k' = k := by omega
          exact hno2
        · exact hno m' (by omega) k' hk'
    · rw [ek] at q
      refine absurd (fun z => ?_) q
      have hk31 : k < 2 ^ 31 := by omega
      have z2 : nI k = Int32.ofInt (-1) := z
      exact absurd (show nI k < 0 by rw [z2]; decide) (nI_pos hk31)
end INT
