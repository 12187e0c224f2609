/-! ===== the reference's takeSheet ===== -/
section TKS
variable {d : Nat} {Q : Option Value ⊕ Nat → am_Mem → Prop} {μ : am_Mem} {l : PM}
/-- the sheet's row with the first k signs of another -/
def tsM (m : PM) (src : Nat) (k : Int) : PM := fun c j => if c = 128 ∧ 0 ≤ j ∧ j < k then m src j else m c j
theorem tsM_o {m : PM} {src c : Nat} {k j : Int} (h : ¬ (c = 128 ∧ 0 ≤ j ∧ j < k)) : tsM m src k c j = m c j := if_neg h
theorem tsM_s {m : PM} {src : Nat} {k : Int} (hs : ¬ src = 128) (hk : 0 ≤ k) : up (tsM m src k) 128 k (m src k) = tsM m src (k + 1) := by
  funext c j
  unfold tsM
  rw [up_e]
  by_cases h : c = 128 ∧ j = k
  · rw [if_pos h, if_pos (by omega), h.2]
  · rw [if_neg h]
    by_cases h2 : c = 128 ∧ 0 ≤ j ∧ j < k
    · rw [if_pos h2, if_pos (by omega)]
    · rw [if_neg h2, if_neg (by omega)]
end TKS
