/-! ===== the reference's atomHas, hasTerm ===== -/
section RC3
variable {d : Nat} {μ : am_Mem} {m l : PM}
theorem ah_5 (H : RS μ) {x1 x2 : Int} (g : GAt m x1) (g2 : iR x2) : ∀ (f : Nat) (k x3 : Int), 0 ≤ k → k + f = m 137 x1 → x3 = bP (∃ j, 0 ≤ j ∧ j < k ∧ hvP m (m 136 (4 * x1 + j)) x2) → Wp (d + 1) 187 (5, [some (.ref 125), some (.int (zI x1)), some (.int (zI x2)), some (.int (zI x3)), some (.int (zI k))], [], sA μ m l) (pI (fun y μ' => y = zI (bP (ahP m x1 x2)) ∧ μ' = sA μ m l) noX) := by
  obtain ⟨g0, g1, g3⟩ := g
  intro f
  induction f with
  | zero =>
    intro k x3 hk hf e
    have ek : k = m 137 x1 := by omega
    refine R187_5 H ⟨by omega, by unfold iR; omega, by unfold iR; omega, fun _ => ⟨?_, ?_, rfl⟩, fun z => absurd (by omega) z⟩
    · rw [e]; exact bP_b _
    · rw [e, ek]; rfl
  | succ f ih =>
    intro k x3 hk hf e
    refine R187_5 H ⟨by omega, by unfold iR; omega, by unfold iR; omega, fun z => absurd z (by omega), fun _ => ⟨by rw [e]; exact bP_R _, ⟨fun _ => trivial, fun _ => ⟨by omega, g3 k hk (by omega), g2, trivial⟩⟩, fun v1 e1 => ?_⟩⟩
    exact ih (k + 1) v1 (by omega) (by omega) (ex_step hk e e1)
theorem c_atomHas (H : RS μ) {x1 x2 : Int} (g : GAt m x1) (g2 : iR x2) : Wp (d + 1) 187 (0, [some (.ref 125), some (.int (zI x1)), some (.int (zI x2)), none, none], [], sA μ m l) (pI (fun y μ' => y = zI (bP (ahP m x1 x2)) ∧ μ' = sA μ m l) noX) := by
  refine R187_0 H ?_
  have g' := g.2.1
  refine ah_5 H g g2 (m 137 x1).toNat 0 0 (Int.le_refl _) (by omega) ?_
  rw [bP_0]
  rintro ⟨j, a, b, _⟩
  omega
theorem ht_5 (H : RS μ) {x1 x2 : Int} (g : GAa m x1) (g2 : GNa m x2) : ∀ (f : Nat) (k x3 : Int), 0 ≤ k → k + f = m 137 x1 → x3 = bP (∃ j, 0 ≤ j ∧ j < k ∧ alP m (m 136 (4 * x1 + j)) x2) → Wp (d + 1) 199 (5, [some (.ref 125), some (.int (zI x1)), some (.int (zI x2)), some (.int (zI x3)), some (.int (zI k))], [], sA μ m l) (pI (fun y μ' => y = zI (bP (htP m x1 x2)) ∧ μ' = sA μ m l) noX) := by
  obtain ⟨g0, g1, g3⟩ := g
  intro f
  induction f with
  | zero =>
    intro k x3 hk hf e
    have ek : k = m 137 x1 := by omega
    refine R199_5 H ⟨by omega, by unfold iR; omega, by unfold iR; omega, fun _ => ⟨?_, ?_, rfl⟩, fun z => absurd (by omega) z⟩
    · rw [e]; exact bP_b _
    · rw [e, ek]; rfl
  | succ f ih =>
    intro k x3 hk hf e
    refine R199_5 H ⟨by omega, by unfold iR; omega, by unfold iR; omega, fun z => absurd z (by omega), fun _ => ⟨by rw [e]; exact bP_R _, ⟨fun _ => trivial, fun _ => ⟨by omega, g3 k hk (by omega), g2, trivial⟩⟩, fun v1 e1 => ?_⟩⟩
    exact ih (k + 1) v1 (by omega) (by omega) (ex_step hk e e1)
theorem c_hasTerm (H : RS μ) {x1 x2 : Int} (g : GAa m x1) (g2 : GNa m x2) : Wp (d + 1) 199 (0, [some (.ref 125), some (.int (zI x1)), some (.int (zI x2)), none, none], [], sA μ m l) (pI (fun y μ' => y = zI (bP (htP m x1 x2)) ∧ μ' = sA μ m l) noX) := by
  refine R199_0 H ?_
  have g' := g.2.1
  refine ht_5 H g g2 (m 137 x1).toNat 0 0 (Int.le_refl _) (by omega) ?_
  rw [bP_0]
  rintro ⟨j, a, b, _⟩
  omega
end RC3
