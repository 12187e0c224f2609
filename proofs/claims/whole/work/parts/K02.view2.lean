/-! ===== the class's views: many, move, as contracts ===== -/
section KCV
variable {d : Nat} {μ : am_Mem} {m l : PM} {x i : Int} {v : Nat}
theorem kc_many (H : CS μ) (hv : v = 96 ∨ v = 101) (g1 : 0 ≤ x + 1 ∧ x + 1 < 5) (g2 : 0 ≤ x ∧ x < 5) : Wp d 114 (0, [some (.ref v), some (.int (zI x))], [], sA μ m l) (pI (fun y μ' => y = zI (m (v + 2) (x + 1) - m (v + 2) x) ∧ μ' = sA μ m l) noX) := K114_0 H hv ⟨g1, g2, rfl, rfl⟩
theorem kc_move (H : CS μ) (hv : v = 96 ∨ v = 101) (g1 : 0 ≤ x ∧ x < 5) (g2 : 0 ≤ m (v + 2) x + i ∧ m (v + 2) x + i < 1000) : Wp d 117 (0, [some (.ref v), some (.int (zI x)), some (.int (zI i))], [], sA μ m l) (pI (fun y μ' => y = zI (m (v + 1) (m (v + 2) x + i)) ∧ μ' = sA μ m l) noX) := K117_0 H hv ⟨g1, g2, rfl, rfl⟩
end KCV
