/-! ===== the class's small checks ===== -/
/-- bit i of a long -/
def bitL (x i : Int) : Prop := ¬ zLAnd (zLUsh x i) 1 = 0
/-- a relation depends on another one, by the bits -/
def dpP (m l : PM) (x y : Int) : Prop := ¬ m 67 x = -1 ∧ ¬ m 67 y = -1 ∧ bitL (l 68 (m 67 x)) (m 67 y)
def GDp (m : PM) (x y : Int) : Prop := ((0 ≤ x ∧ x < 1024) ∧ -1 ≤ m 67 x ∧ m 67 x < 62) ∧ (0 ≤ y ∧ y < 1024) ∧ -1 ≤ m 67 y ∧ m 67 y < 62
def GNc (s : Nat) (m : PM) (x : Int) : Prop := (0 ≤ x ∧ x < 1024) ∧ (0 ≤ m (s + 9) x ∧ m (s + 9) x ≤ x) ∧ ∀ k, m (s + 9) x ≤ k → k ≤ x → iR (m (s + 6) k) ∧ iR (m (s + 7) k)
def acP (s : Nat) (m : PM) (x y : Int) : Prop := x - m (s + 9) x = y - m (s + 9) y ∧ ∀ k, 0 ≤ k → k ≤ x - m (s + 9) x → m (s + 6) (m (s + 9) x + k) = m (s + 6) (m (s + 9) y + k) ∧ m (s + 7) (m (s + 9) x + k) = m (s + 7) (m (s + 9) y + k)
section CK1
variable {d : Nat} {μ : am_Mem} {m l : PM} {s : Nat}
theorem k_posOf (H : CS μ) (hs : s = 22 ∨ s = 42) {x1 x2 : Int} (g : 0 ≤ (8 * x1) + x2 ∧ (8 * x1) + x2 < 480) : Wp d 69 (0, [some (.ref s), some (.int (zI x1)), some (.int (zI x2))], [], sA μ m l) (pI (fun y μ' => y = zI (m (s + 12) ((8 * x1) + x2)) ∧ μ' = sA μ m l) noX) := K69_0 H hs ⟨g, rfl, rfl⟩
theorem k_othOf (H : CS μ) (hs : s = 22 ∨ s = 42) {x1 x2 : Int} (g : 0 ≤ (8 * x1) + x2 ∧ (8 * x1) + x2 < 480) : Wp d 70 (0, [some (.ref s), some (.int (zI x1)), some (.int (zI x2))], [], sA μ m l) (pI (fun y μ' => y = zI (m (s + 15) ((8 * x1) + x2)) ∧ μ' = sA μ m l) noX) := K70_0 H hs ⟨g, rfl, rfl⟩
theorem k_headOf (H : CS μ) (hs : s = 22 ∨ s = 42) (hS : am_F μ 65 1 = s) {x1 : Int} (g : 0 ≤ x1 ∧ x1 < 60) (g2 : 0 ≤ m (s + 11) x1 ∧ m (s + 11) x1 < 1024) : Wp d 5 (0, [some (.ref 65), some (.int (zI x1))], [], sA μ m l) (pI (fun y μ' => y = zI (m (s + 6) (m (s + 11) x1)) ∧ μ' = sA μ m l) noX) := K5_0 H hs hS ⟨g, g2, rfl, rfl⟩
theorem k_isComing {x0 : Int} (g : iR x0) : Wp d 7 (0, [some (.int (zI x0))], [], sA μ m l) (pI (fun y μ' => y = zI (bP (x0 = 1 ∨ x0 = 3)) ∧ μ' = sA μ m l) noX) := by
  refine K7_0 ⟨g, fun v1 e1 => ⟨?_, rfl⟩⟩
  rw [e1]
  by_cases c1 : x0 = 1
  · rw [if_pos c1, bP_1 (Or.inl c1)]
  · rw [if_neg c1]
    by_cases c3 : x0 = 3
    · rw [if_neg (not_not_intro c3), bP_1 (Or.inr c3)]
    · rw [if_pos c3, bP_0]
      rintro (z | z)
      · exact c1 z
      · exact c3 z
theorem k_depends (H : CS μ) (hs : s = 22 ∨ s = 42) (hS : am_F μ 65 1 = s) {x1 x2 : Int} (g : GDp m x1 x2) : Wp d 12 (0, [some (.ref 65), some (.int (zI x1)), some (.int (zI x2))], [], sA μ m l) (pI (fun y μ' => y = zI (bP (dpP m l x1 x2)) ∧ μ' = sA μ m l) noX) := by
  obtain ⟨⟨g1, g2, g3⟩, g4, g5, g6⟩ := g
  refine K12_0 H hs hS ⟨g1, by unfold iR; omega, fun z => ⟨?_, rfl⟩, fun z => ⟨g4, by unfold iR; omega, fun z2 => ⟨by omega, lR_x _, fun v1 e1 => ⟨?_, rfl⟩⟩, fun z2 => ⟨?_, rfl⟩⟩⟩
  · rw [bP_0 (fun w => w.1 z)]
  · rw [e1]
    by_cases c : zLAnd (zLUsh (l 68 (m 67 x1)) (m 67 x2)) 1 = 0
    · rw [if_pos c, bP_0 (fun w => w.2.2 c)]
    · rw [if_neg c, bP_1 ⟨z, z2, c⟩]
  · rw [bP_0 (fun w => z2 w.2.1)]
theorem ac_23 (H : CS μ) (hs : s = 22 ∨ s = 42) {x1 x2 : Int} (g1 : GNc s m x1) (g2 : GNc s m x2) (he : x1 - m (s + 9) x1 = x2 - m (s + 9) x2) : ∀ (f : Nat) (k : Int) (o4 o5 : Option Value), 0 ≤ k → k + f = x1 - m (s + 9) x1 + 1 → (∀ j, 0 ≤ j → j < k → m (s + 6) (m (s + 9) x1 + j) = m (s + 6) (m (s + 9) x2 + j) ∧ m (s + 7) (m (s + 9) x1 + j) = m (s + 7) (m (s + 9) x2 + j)) → Wp d 71 (23, [some (.ref s), some (.int (zI x1)), some (.int (zI x2)), some (.int (zI k)), o4, o5], [], sA μ m l) (pI (fun y μ' => y = zI (bP (acP s m x1 x2)) ∧ μ' = sA μ m l) noX) := by
  obtain ⟨a1, a2, a3⟩ := g1
  obtain ⟨b1, b2, b3⟩ := g2
  intro f
  induction f with
  | zero =>
    intro k o4 o5 hk hf h
    refine K71_23 H hs ⟨a1, by unfold iR; omega, by unfold iR; omega, fun _ => ⟨?_, rfl⟩, fun z => absurd (by omega) z⟩
    rw [bP_1 ⟨he, fun j j0 j1 => h j j0 (by omega)⟩]
  | succ f ih =>
    intro k o4 o5 hk hf h
    have r1 := a3 (m (s + 9) x1 + k) (by omega) (by omega)
    have r2 := b3 (m (s + 9) x2 + k) (by omega) (by omega)
    refine K71_23 H hs ⟨a1, by unfold iR; omega, by unfold iR; omega, fun z => absurd z (by omega), fun _ => ⟨b1, by omega, by omega, r1.1, r2.1, fun z => ⟨?_, rfl⟩, fun z => ⟨r1.2, r2.2, fun z2 => ?_, fun z2 => ⟨?_, rfl⟩⟩⟩⟩
    · rw [bP_0 (fun w => z (w.2 k hk (by omega)).1)]
    · have e6 : m (s + 6) (m (s + 9) x1 + k) = m (s + 6) (m (s + 9) x2 + k) := Decidable.byContradiction z
      refine ih (k + 1) _ _ (by omega) (by omega) (fun j j0 j1 => ?_)
      by_cases c : j = k
      · rw [c]; exact ⟨e6, z2⟩
      · exact h j j0 (by omega)
    · rw [bP_0 (fun w => z2 (w.2 k hk (by omega)).2)]
theorem k_alike (H : CS μ) (hs : s = 22 ∨ s = 42) {x1 x2 : Int} (g1 : GNc s m x1) (g2 : GNc s m x2) : Wp d 71 (0, [some (.ref s), some (.int (zI x1)), some (.int (zI x2)), none, none, none], [], sA μ m l) (pI (fun y μ' => y = zI (bP (acP s m x1 x2)) ∧ μ' = sA μ m l) noX) := by
  have h1 := g1.1
  have h2 := g1.2.1
  have h3 := g2.1
  have h4 := g2.2.1
  refine K71_0 H hs ⟨h1, h3, by unfold iR; omega, by unfold iR; omega, fun z => ?_, fun z => ⟨?_, rfl⟩⟩
  · exact ac_23 H hs g1 g2 z (x1 - m (s + 9) x1 + 1).toNat 0 none none (Int.le_refl _) (by omega) (fun j j0 j1 => absurd j1 (by omega))
  · rw [bP_0 (fun w => z w.1)]
end CK1
