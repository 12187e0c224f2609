/-! ===== the roles of a sheet ===== -/
/-- the roles' terms: each once, in order, at most four -/
def rlA (acc : List (List Cd)) (ru : Rul) : List (List Cd) := if ru.1.1 = wdL.getD 2 [] ∧ ¬ acc.length = 4 ∧ ¬ (ru.1.2.getD 0 []) ∈ acc then acc ++ [ru.1.2.getD 0 []] else acc
def rlS (rs : List Rul) : List (List Cd) := rs.foldl rlA []
theorem rlS_snoc (rs : List Rul) (ru : Rul) : rlS (rs ++ [ru]) = rlA (rlS rs) ru := by
  unfold rlS
  rw [List.foldl_append]
  rfl
theorem rlA_len {acc : List (List Cd)} {ru : Rul} (h : acc.length ≤ 4) : (rlA acc ru).length ≤ 4 := by
  unfold rlA
  split
  · rename_i q
    rw [List.length_append, List.length_singleton]
    omega
  · exact h
theorem own_role : ownC (wdL.getD 2 []) = 1 := by decide +kernel
/-- a role's rule has one term, without variables, and no conditions -/
theorem role_ok {rs : List Rul} {r : Nat} (h2 : ¬ Bad2 rs r) (h3 : ¬ Bad3 rs r) (e : (rs.getD r ruD).1.1 = wdL.getD 2 []) : (rs.getD r ruD).1.2.length = 1 ∧ (rs.getD r ruD).2 = [] ∧ ∀ p, p ∈ (rs.getD r ruD).1.2 → gnd p := by
  have c2 : Cns (upA rs (r + 1)) := Classical.byContradiction h2
  have z := (c2 (rs.getD r ruD).1 ⟨r, Nat.lt_succ_self r, Or.inl rfl⟩).1
  rw [e, own_role] at z
  have nv : ¬ (¬ (rs.getD r ruD).2 = [] ∨ atV (rs.getD r ruD).1) := fun y => h3 (Or.inr (Or.inr (Or.inl ⟨e, y⟩)))
  refine ⟨?_, Classical.byContradiction fun y => nv (Or.inl y), fun p hp c hc => ?_⟩
  · rcases z with y | y
    · exact absurd y (by decide)
    · omega
  · exact Nat.lt_of_not_le fun y => nv (Or.inr ⟨p, hp, c, hc, y⟩)
