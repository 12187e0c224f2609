/-! ===== the pure reading: the bits of a term's variables ===== -/
section CPB
variable {t : Int → Int} {n : Int}
theorem vm_var {v : Nat} (h : v < 8) : vmC [(5 + v, [])] < 256 := by
  show (if 5 ≤ 5 + v then 2 ^ (5 + v - 5) else 0) ||| 0 < 256
  rw [Nat.or_zero, if_pos (by omega), show 5 + v - 5 = v by omega]
  have z : 2 ^ v < 2 ^ 8 := Nat.pow_lt_pow_right (by decide) h
  exact z
theorem pT0_vm {i i' : Nat} {vs vs' : List (List Int)} {e : Rd (List Cd)} {cs : List Cd} (hv : vs.length ≤ 8) (h : pT0 t n i vs e = .inr (cs, i', vs')) : e = .inr (cs, i', vs') ∨ (vmC cs < 256 ∧ vs'.length ≤ 8) := by
  unfold pT0 at h
  split at h
  · split at h
    · cases h; exact Or.inr ⟨vm_var (by omega), hv⟩
    · split at h
      · cases h
      · cases h; exact Or.inr ⟨vm_var (by omega), by simp; omega⟩
  · split at h
    · cases h; exact Or.inr ⟨(show (0 : Nat) ||| 0 < 256 by decide), hv⟩
    · split at h
      · exact Or.inl h
      · cases h
theorem pPs_vm {K : Nat → Int} {f : Nat → List (List Int) → Rd (List Cd)} {mn : Nat} (hf : ∀ i vs c i' vs', vs.length ≤ 8 → f i vs = .inr (c, i', vs') → vmC c < 256 ∧ vs'.length ≤ 8) : ∀ (r i : Nat) (vs : List (List Int)) (acc ps : List (List Cd)) (i' : Nat) (vs' : List (List Int)), vs.length ≤ 8 → vmC acc.flatten < 256 → pPs K f mn r i vs acc = .inr (ps, i', vs') → vmC ps.flatten < 256 ∧ vs'.length ≤ 8 ∧ ps.length ≤ acc.length + r := by
  intro r
  induction r with
  | zero =>
    intro i vs acc ps i' vs' hv ha h
    unfold pPs at h
    split at h
    · cases h; exact ⟨ha, hv, Nat.le_refl _⟩
    · cases h
  | succ r ih =>
    intro i vs acc ps i' vs' hv ha h
    unfold pPs at h
    split at h
    · cases h; exact ⟨ha, hv, Nat.le_add_right _ _⟩
    · cases q : f i vs with
      | inl x => rw [q] at h; cases h
      | inr y =>
        obtain ⟨c, j, ws⟩ := y
        rw [q] at h
        have h2 := hf _ _ _ _ _ hv q
        have e : (acc ++ [c]).flatten = acc.flatten ++ c := by simp
        have el : (acc ++ [c]).length = acc.length + 1 := by simp
        have h1 := ih j ws (acc ++ [c]) ps i' vs' h2.2 (by rw [e, vmC_app]; exact Nat.or_lt_two_pow (n := 8) ha h2.1) h
        exact ⟨h1.1, h1.2.1, by omega⟩
theorem pT_vm : ∀ (dl i : Nat) (vs : List (List Int)) (cs : List Cd) (i' : Nat) (vs' : List (List Int)), vs.length ≤ 8 → pT t n dl i vs = .inr (cs, i', vs') → vmC cs < 256 ∧ vs'.length ≤ 8 := by
  intro dl
  induction dl with
  | zero =>
    intro i vs cs i' vs' hv h
    rcases pT0_vm hv (show pT0 t n i vs (.inl i) = _ from h) with q | q
    · cases q
    · exact q
  | succ dl ih =>
    intro i vs cs i' vs' hv h
    rcases pT0_vm hv (show pT0 t n i vs _ = _ from h) with q | q
    · split at q
      · cases z : pPs (tK t n) (pT t n dl) 1 4 (i + 2) vs [] with
        | inl x => rw [z] at q; cases q
        | inr y =>
          obtain ⟨ps, j, ws⟩ := y
          rw [z] at q
          cases q
          have h1 := pPs_vm ih 4 (i + 2) vs [] ps i' vs' hv (by decide) z
          have hl : ps.length ≤ 4 := by have := h1.2.2; simpa using this
          refine ⟨?_, h1.2.1⟩
          show (if 5 ≤ ps.length then 2 ^ (ps.length - 5) else 0) ||| vmC ps.flatten < 256
          rw [if_neg (by omega), Nat.zero_or]
          exact h1.1
      · cases q
    · exact q
end CPB
