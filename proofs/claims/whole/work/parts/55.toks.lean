/-! ===== tokens one behind the other; how many names there can be ===== -/
/-- where token i is looked for from -/
noncomputable def tkS (t : Int → Int) (n : Int) : Nat → Int
  | 0 => 0
  | i + 1 => tkE t n (skP t n (tkS t n i))
/-- where token i stands -/
noncomputable def tkP (t : Int → Int) (n : Int) (i : Nat) : Int := skP t n (tkS t n i)
noncomputable def tK (t : Int → Int) (n : Int) (i : Nat) : Int := tkK t n (tkP t n i)
noncomputable def tF (t : Int → Int) (n : Int) (i : Nat) : Int := tkF t n (tkP t n i)
noncomputable def tE (t : Int → Int) (n : Int) (i : Nat) : Int := tkE t n (tkP t n i)
theorem tkS_s (t : Int → Int) (n : Int) (i : Nat) : tkS t n (i + 1) = tE t n i := rfl
/-- the signs of a token's name -/
noncomputable def tW (t : Int → Int) (n : Int) (i : Nat) : List Int := sl t (tF t n i) (tE t n i - tF t n i).toNat
abbrev isN (k : Int) : Prop := k = 3 ∨ k = 4
/-- how many names and variables there are before token i -/
noncomputable def nt (t : Int → Int) (n : Int) : Nat → Nat
  | 0 => 0
  | i + 1 => nt t n i + if isN (tK t n i) then 1 else 0
theorem nep_end (t : Int → Int) : ∀ (k : Nat) (p : Int), nep t k p < p + k → nmV (t (nep t k p)) = 0 := by
  intro k
  induction k with
  | zero => intro p h; exact absurd h (by unfold nep; omega)
  | succ k ih =>
    intro p h
    unfold nep at h ⊢
    split
    · assumption
    · rename_i q
      rw [if_neg q] at h
      exact ih (p + 1) (by omega)
theorem neP_end {t : Int → Int} {n p : Int} (h : 0 ≤ p ∧ p ≤ n) : nmV (sgn t n (neP t n p)) = 0 := by
  have hl := nep_le t (n - p).toNat p
  unfold sgn
  split
  · exact nmV_0
  · rename_i q
    unfold neP at q ⊢
    exact nep_end t _ p (by omega)
theorem neP_gt {t : Int → Int} {n p : Int} (h : p < n) (hq : ¬ nmV (sgn t n p) = 0) : p + 1 ≤ neP t n p := by
  unfold sgn at hq
  rw [if_neg (by omega)] at hq
  unfold neP
  obtain ⟨k, hk⟩ : ∃ k, (n - p).toNat = k + 1 := ⟨(n - p).toNat - 1, by omega⟩
  rw [hk]
  have := nep_le t k (p + 1)
  unfold nep
  rw [if_neg hq]
  omega
section TOK
variable {t : Int → Int} {n p : Int}
theorem sg_lt (h : ¬ nmV (sgn t n p) = 0) : p < n := by
  refine Classical.byContradiction fun q => h ?_
  unfold sgn
  rw [if_pos (by omega)]
  exact nmV_0
/-- what a token's kind says of its ends -/
theorem tk_name (h : tkK t n p = 3) (h0 : 0 ≤ p) : p < n ∧ ¬ nmV (sgn t n p) = 0 ∧ tkF t n p = p ∧ tkE t n p = neP t n p ∧ neP t n p - p ≤ 16 ∧ p + 1 ≤ neP t n p ∧ neP t n p ≤ n := by
  unfold tkK at h
  by_cases h1 : n ≤ p
  · rw [if_pos h1] at h; omega
  rw [if_neg h1] at h
  by_cases h2 : sgn t n p = 40
  · rw [if_pos h2] at h; omega
  rw [if_neg h2] at h
  by_cases h3 : sgn t n p = 41
  · rw [if_pos h3] at h; omega
  rw [if_neg h3] at h
  by_cases h4 : sgn t n p = 60 ∧ sgn t n (p + 1) = 61
  · rw [if_pos h4] at h; omega
  rw [if_neg h4] at h
  by_cases h5 : tkQ t n p
  · rw [if_pos h5] at h
    by_cases h6 : neP t n (tkF t n p) - tkF t n p ≤ 16
    · rw [if_pos h6] at h
      by_cases h7 : sgn t n p = 63
      · rw [if_pos h7] at h; omega
      · have hF : tkF t n p = p := by unfold tkF; rw [if_neg h1, if_pos h5, if_neg h7]
        have hE : tkE t n p = neP t n p := by unfold tkE; rw [if_neg h1, if_neg h4, if_pos h5, hF]
        rw [hF] at h6
        have hv : ¬ nmV (sgn t n p) = 0 := by
          rcases h5 with z | z
          · exact z
          · exact absurd z.1 h7
        have hl := nep_le t (n - p).toNat p
        exact ⟨by omega, hv, hF, hE, h6, neP_gt (by omega) hv, by unfold neP; omega⟩
    · rw [if_neg h6] at h; omega
  · rw [if_neg h5] at h; omega
theorem tk_var (h : tkK t n p = 4) (h0 : 0 ≤ p) : p + 1 < n ∧ sgn t n p = 63 ∧ ¬ nmV (sgn t n (p + 1)) = 0 ∧ tkF t n p = p + 1 ∧ tkE t n p = neP t n (p + 1) ∧ neP t n (p + 1) - (p + 1) ≤ 16 ∧ p + 2 ≤ neP t n (p + 1) ∧ neP t n (p + 1) ≤ n := by
  unfold tkK at h
  by_cases h1 : n ≤ p
  · rw [if_pos h1] at h; omega
  rw [if_neg h1] at h
  by_cases h2 : sgn t n p = 40
  · rw [if_pos h2] at h; omega
  rw [if_neg h2] at h
  by_cases h3 : sgn t n p = 41
  · rw [if_pos h3] at h; omega
  rw [if_neg h3] at h
  by_cases h4 : sgn t n p = 60 ∧ sgn t n (p + 1) = 61
  · rw [if_pos h4] at h; omega
  rw [if_neg h4] at h
  by_cases h5 : tkQ t n p
  · rw [if_pos h5] at h
    by_cases h6 : neP t n (tkF t n p) - tkF t n p ≤ 16
    · rw [if_pos h6] at h
      by_cases h7 : sgn t n p = 63
      · have hF : tkF t n p = p + 1 := by unfold tkF; rw [if_neg h1, if_pos h5, if_pos h7]
        have hE : tkE t n p = neP t n (p + 1) := by unfold tkE; rw [if_neg h1, if_neg h4, if_pos h5, hF]
        rw [hF] at h6
        have hv : ¬ nmV (sgn t n (p + 1)) = 0 := by
          rcases h5 with z | z
          · exact absurd (by rw [h7]; exact nmV_63) z
          · exact z.2
        have hp := sg_lt hv
        have hl := nep_le t (n - (p + 1)).toNat (p + 1)
        have hg := neP_gt hp hv
        exact ⟨hp, h7, hv, hF, hE, h6, by omega, by unfold neP; omega⟩
      · rw [if_neg h7] at h; omega
    · rw [if_neg h6] at h; omega
  · rw [if_neg h5] at h; omega
theorem tk_le (h0 : 0 ≤ p ∧ p ≤ n) : p ≤ tkE t n p ∧ tkE t n p ≤ n ∧ (p < n → p + 1 ≤ tkE t n p) := by
  unfold tkE
  by_cases h1 : n ≤ p
  · rw [if_pos h1]; omega
  rw [if_neg h1]
  by_cases h4 : sgn t n p = 60 ∧ sgn t n (p + 1) = 61
  · rw [if_pos h4]
    have : p + 1 < n := by
      refine Classical.byContradiction fun q => ?_
      have := h4.2
      unfold sgn at this
      rw [if_pos (by omega)] at this
      omega
    omega
  rw [if_neg h4]
  by_cases h5 : tkQ t n p
  · rw [if_pos h5]
    unfold tkF
    rw [if_neg h1, if_pos h5]
    by_cases h7 : sgn t n p = 63
    · rw [if_pos h7]
      have hv : ¬ nmV (sgn t n (p + 1)) = 0 := by
        rcases h5 with z | z
        · exact absurd (by rw [h7]; exact nmV_63) z
        · exact z.2
      have hp := sg_lt hv
      have hl := nep_le t (n - (p + 1)).toNat (p + 1)
      unfold neP
      omega
    · rw [if_neg h7]
      have hv : ¬ nmV (sgn t n p) = 0 := by
        rcases h5 with z | z
        · exact z
        · exact absurd z.1 h7
      have hl := nep_le t (n - p).toNat p
      have hg := neP_gt (by omega) hv
      unfold neP at hg ⊢
      omega
  · rw [if_neg h5]; omega
theorem tks_r (hn : 0 ≤ n) : ∀ i, 0 ≤ tkS t n i ∧ tkS t n i ≤ n := by
  intro i
  induction i with
  | zero => exact ⟨Int.le_refl _, hn⟩
  | succ i ih =>
    have h1 := skp_le t (n - tkS t n i).toNat false (tkS t n i)
    have h2 := tk_le (t := t) (p := skP t n (tkS t n i)) (n := n) (by unfold skP; omega)
    show 0 ≤ tkE t n (skP t n (tkS t n i)) ∧ tkE t n (skP t n (tkS t n i)) ≤ n
    have h3 : 0 ≤ skP t n (tkS t n i) := by unfold skP; omega
    omega
theorem tkP_r (hn : 0 ≤ n) (i : Nat) : tkS t n i ≤ tkP t n i ∧ 0 ≤ tkP t n i ∧ tkP t n i ≤ n := by
  have h := tks_r (t := t) hn i
  have h1 := skp_le t (n - tkS t n i).toNat false (tkS t n i)
  unfold tkP skP
  omega
/-- a name token's name -/
theorem tN_r (hn : 0 ≤ n) {i : Nat} (h : isN (tK t n i)) : 0 ≤ tF t n i ∧ tF t n i < tE t n i ∧ tE t n i ≤ tF t n i + 16 ∧ tE t n i ≤ n ∧ tkS t n i ≤ tF t n i := by
  have hp := tkP_r (t := t) hn i
  rcases h with h | h
  · obtain ⟨a1, a2, a3, a4, a5, a6, a7⟩ := tk_name h hp.2.1
    unfold tF tE
    rw [a3, a4]
    omega
  · obtain ⟨a1, a2, a3, a4, a5, a6, a7, a8⟩ := tk_var h hp.2.1
    unfold tF tE
    rw [a4, a5]
    omega
theorem nt_aux (hn : 0 ≤ n) : ∀ i, 2 * (nt t n i : Int) ≤ tkS t n i + 1 ∧ (2 * (nt t n i : Int) ≤ tkS t n i ∨ nmV (sgn t n (tkS t n i)) = 0 ∨ n ≤ tkS t n i) := by
  intro i
  induction i with
  | zero => exact ⟨by show 2 * ((0 : Nat) : Int) ≤ 0 + 1; omega, Or.inl (by show 2 * ((0 : Nat) : Int) ≤ 0; omega)⟩
  | succ i ih =>
    have hp := tkP_r (t := t) hn i
    have hle := tk_le (t := t) (n := n) (p := tkP t n i) ⟨hp.2.1, hp.2.2⟩
    have e : (nt t n (i + 1) : Int) = nt t n i + if isN (tK t n i) then 1 else 0 := by
      show ((nt t n i + if isN (tK t n i) then 1 else 0 : Nat) : Int) = _
      split <;> omega
    rw [e, tkS_s]
    by_cases hk : isN (tK t n i)
    · rw [if_pos hk]
      rcases hk with h | h
      · obtain ⟨a1, a2, a3, a4, a5, a6, a7⟩ := tk_name h hp.2.1
        have eE : tE t n i = neP t n (tkP t n i) := a4
        have hz := neP_end (t := t) (n := n) (p := tkP t n i) ⟨hp.2.1, by omega⟩
        rw [eE]
        refine ⟨?_, Or.inr (Or.inl hz)⟩
        by_cases hs : tkP t n i = tkS t n i
        · rcases ih.2 with z | z | z
          · omega
          · rw [← hs] at z; exact absurd z a2
          · omega
        · omega
      · obtain ⟨a1, a2, a3, a4, a5, a6, a7, a8⟩ := tk_var h hp.2.1
        have eE : tE t n i = neP t n (tkP t n i + 1) := a5
        have hz := neP_end (t := t) (n := n) (p := tkP t n i + 1) ⟨by omega, by omega⟩
        rw [eE]
        exact ⟨by omega, Or.inr (Or.inl hz)⟩
    · rw [if_neg hk]
      have eE : tE t n i = tkE t n (tkP t n i) := rfl
      rw [eE]
      refine ⟨by omega, ?_⟩
      by_cases h : tkP t n i < n
      · have := hle.2.2 h
        exact Or.inl (by omega)
      · exact Or.inr (Or.inr (by omega))
theorem nt_le (hn : 0 ≤ n ∧ n ≤ 2000) (i : Nat) : nt t n i ≤ 1000 := by
  have h1 := (nt_aux (t := t) hn.1 i).1
  have h2 := tks_r (t := t) hn.1 i
  omega
end TOK
