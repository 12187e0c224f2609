/-! ===== the class's names: how long, which sign, as contracts ===== -/
section KCN
variable {d : Nat} {μ : am_Mem} {m l : PM} {x i : Int} {a : Nat}
theorem kc_len (H : CS μ) (ha : a = 23 ∨ a = 43) (g1 : 0 ≤ x + 1 ∧ x + 1 < 1025) (g2 : 0 ≤ x ∧ x < 1025) : Wp d 51 (0, [some (.ref a), some (.int (zI x))], [], sA μ m l) (pI (fun y μ' => y = zI (m (a + 3) (x + 1) - m (a + 3) x) ∧ μ' = sA μ m l) noX) := K51_0 H ha ⟨g1, g2, rfl, rfl⟩
theorem kc_sgn (H : CS μ) (ha : a = 23 ∨ a = 43) (g1 : 0 ≤ x ∧ x < 1025) (g2 : 0 ≤ m (a + 3) x + i ∧ m (a + 3) x + i < 2058) : Wp d 53 (0, [some (.ref a), some (.int (zI x)), some (.int (zI i))], [], sA μ m l) (pI (fun y μ' => y = zI (m (a + 2) (m (a + 3) x + i)) ∧ μ' = sA μ m l) noX) := K53_0 H ha ⟨g1, g2, rfl, rfl⟩
end KCN
