/-! ===== the pure reading: a term has no more codes than names and variables ===== -/
section CPA
variable {t : Int → Int} {n : Int}
theorem pT0_nt {i i' : Nat} {vs vs' : List (List Int)} {e : Rd (List Cd)} {cs : List Cd} (h : pT0 t n i vs e = .inr (cs, i', vs')) : (e = .inr (cs, i', vs') ∧ tK t n i = 1) ∨ (cs.length = 1 ∧ i' = i + 1 ∧ isN (tK t n i)) := by
  unfold pT0 at h
  split at h
  · rename_i k
    split at h
    · cases h; exact Or.inr ⟨rfl, rfl, Or.inr k⟩
    · split at h
      · cases h
      · cases h; exact Or.inr ⟨rfl, rfl, Or.inr k⟩
  · split at h
    · rename_i k
      cases h; exact Or.inr ⟨rfl, rfl, Or.inl k.1⟩
    · split at h
      · rename_i k
        exact Or.inl ⟨h, k⟩
      · cases h
theorem pPs_nt {K : Nat → Int} {f : Nat → List (List Int) → Rd (List Cd)} {mn : Nat} (hf : ∀ i vs c i' vs', f i vs = .inr (c, i', vs') → c.length + nt t n i ≤ nt t n i') : ∀ (r i : Nat) (vs : List (List Int)) (acc ps : List (List Cd)) (i' : Nat) (vs' : List (List Int)), pPs K f mn r i vs acc = .inr (ps, i', vs') → ps.flatten.length + nt t n i ≤ acc.flatten.length + nt t n i' := by
  intro r
  induction r with
  | zero =>
    intro i vs acc ps i' vs' h
    have := nt_m t n i
    unfold pPs at h
    split at h
    · cases h; omega
    · cases h
  | succ r ih =>
    intro i vs acc ps i' vs' h
    have := nt_m t n i
    unfold pPs at h
    split at h
    · cases h; omega
    · cases q : f i vs with
      | inl x => rw [q] at h; cases h
      | inr y =>
        obtain ⟨c, j, ws⟩ := y
        rw [q] at h
        have h1 := ih j ws (acc ++ [c]) ps i' vs' h
        have h2 := hf _ _ _ _ _ q
        have e : (acc ++ [c]).flatten.length = acc.flatten.length + c.length := by simp
        omega
theorem pT_nt : ∀ (dl i : Nat) (vs : List (List Int)) (cs : List Cd) (i' : Nat) (vs' : List (List Int)), pT t n dl i vs = .inr (cs, i', vs') → cs.length + nt t n i ≤ nt t n i' := by
  intro dl
  induction dl with
  | zero =>
    intro i vs cs i' vs' h
    rcases pT0_nt (show pT0 t n i vs (.inl i) = _ from h) with q | ⟨q1, q2, q3⟩
    · cases q.1
    · rw [q1, q2, nt_n q3]; omega
  | succ dl ih =>
    intro i vs cs i' vs' h
    rcases pT0_nt (show pT0 t n i vs _ = _ from h) with ⟨q, _⟩ | ⟨q1, q2, q3⟩
    · split at q
      · rename_i hp
        cases z : pPs (tK t n) (pT t n dl) 1 4 (i + 2) vs [] with
        | inl x => rw [z] at q; cases q
        | inr y =>
          obtain ⟨ps, j, ws⟩ := y
          rw [z] at q
          cases q
          have h1 := pPs_nt ih 4 (i + 2) vs [] ps i' vs' z
          have h2 := nt_n (t := t) (n := n) (i := i + 1) (Or.inl hp.1)
          have h3 := nt_m t n i
          have e : ((ps.length, tW t n (i + 1)) :: ps.flatten).length = ps.flatten.length + 1 := rfl
          have e0 : ([] : List (List Cd)).flatten.length = 0 := rfl
          have e2 : i + 1 + 1 = i + 2 := rfl
          rw [e2] at h2
          omega
      · cases q
    · rw [q1, q2, nt_n q3]; omega
end CPA
