/-! ===== the reference's small checks: variables, like terms ===== -/
def GNd (m : PM) (x : Int) : Prop := 0 ≤ x ∧ x ≤ m 142 x ∧ m 142 x ≤ 1000 ∧ ∀ k, x ≤ k → k < m 142 x → iR (m 139 k)
def hvP (m : PM) (x v : Int) : Prop := ∃ k, x ≤ k ∧ k < m 142 x ∧ 0 ≤ m 139 k ∧ (v < 0 ∨ m 139 k = v)
def GAt (m : PM) (a : Int) : Prop := (0 ≤ a ∧ a < 600) ∧ (0 ≤ m 137 a ∧ m 137 a ≤ 4) ∧ ∀ k, 0 ≤ k → k < m 137 a → GNd m (m 136 (4 * a + k))
def ahP (m : PM) (a v : Int) : Prop := ∃ k, 0 ≤ k ∧ k < m 137 a ∧ hvP m (m 136 (4 * a + k)) v
section RC1
variable {d : Nat} {μ : am_Mem} {m l : PM}
theorem c_isHeadOf (H : RS μ) {x1 x2 : Int} (g1 : 0 ≤ x1 ∧ x1 < 61) (g2 : 0 ≤ m 131 x1 ∧ m 131 x1 < 600) (g3 : iR (m 135 (m 131 x1))) (g4 : iR x2) : Wp d 191 (0, [some (.ref 125), some (.int (zI x1)), some (.int (zI x2))], [], sA μ m l) (pI (fun y μ' => y = zI (bP (m 135 (m 131 x1) = x2)) ∧ μ' = sA μ m l) noX) := by
  refine R191_0 H ⟨g1, g2, g3, g4, fun v1 e1 => ⟨?_, rfl⟩⟩
  rw [e1]
  by_cases h : m 135 (m 131 x1) = x2
  · rw [if_neg (not_not_intro h), bP_1 h]
  · rw [if_pos h, bP_0 h]
theorem hv_5 (H : RS μ) {x1 x2 : Int} (g : GNd m x1) (g2 : iR x2) : ∀ (f : Nat) (k x3 : Int), x1 ≤ k → k + f = m 142 x1 → x3 = bP (∃ j, x1 ≤ j ∧ j < k ∧ 0 ≤ m 139 j ∧ (x2 < 0 ∨ m 139 j = x2)) → Wp d 188 (5, [some (.ref 125), some (.int (zI x1)), some (.int (zI x2)), some (.int (zI x3)), some (.int (zI k))], [], sA μ m l) (pI (fun y μ' => y = zI (bP (hvP m x1 x2)) ∧ μ' = sA μ m l) noX) := by
  obtain ⟨g0, g1, g3, g4⟩ := g
  intro f
  induction f with
  | zero =>
    intro k x3 hk hf e
    have ek : k = m 142 x1 := by omega
    refine R188_5 H ⟨by omega, by unfold iR; omega, by unfold iR; omega, fun _ => ⟨?_, ?_, rfl⟩, fun z => absurd (by omega) z⟩
    · rw [e]; exact bP_b _
    · rw [e, ek]; rfl
  | succ f ih =>
    intro k x3 hk hf e
    refine R188_5 H ⟨by omega, by unfold iR; omega, by unfold iR; omega, fun z => absurd z (by omega), fun _ => ⟨by rw [e]; exact bP_R _, ⟨fun _ => trivial, fun _ => ⟨by omega, g4 k hk (by omega), fun _ => trivial, fun _ => ⟨g2, trivial⟩⟩⟩, fun v1 e1 => ?_⟩⟩
    refine ih (k + 1) v1 (by omega) (by omega) ?_
    rw [e1, e]
    by_cases q : ∃ j, x1 ≤ j ∧ j < k ∧ 0 ≤ m 139 j ∧ (x2 < 0 ∨ m 139 j = x2)
    · rw [if_pos (by rw [bP_1 q]; decide), bP_1]
      obtain ⟨j, a, b, c⟩ := q
      exact ⟨j, a, by omega, c⟩
    · rw [if_neg (by rw [bP_0 q]; decide)]
      by_cases c1 : m 139 k < 0
      · rw [if_pos c1, bP_0]
        rintro ⟨j, a, b, c, w⟩
        by_cases ej : j = k
        · rw [ej] at c; omega
        · exact q ⟨j, a, by omega, c, w⟩
      · rw [if_neg c1]
        by_cases c2 : x2 < 0
        · rw [if_pos c2, bP_1]
          exact ⟨k, hk, by omega, by omega, Or.inl c2⟩
        · rw [if_neg c2]
          by_cases c3 : m 139 k = x2
          · rw [if_neg (not_not_intro c3), bP_1]
            exact ⟨k, hk, by omega, by omega, Or.inr c3⟩
          · rw [if_pos c3, bP_0]
            rintro ⟨j, a, b, c, w⟩
            by_cases ej : j = k
            · rw [ej] at w
              rcases w with w | w
              · exact c2 w
              · exact c3 w
            · exact q ⟨j, a, by omega, c, w⟩
theorem c_hasVariable (H : RS μ) {x1 x2 : Int} (g : GNd m x1) (g2 : iR x2) : Wp d 188 (0, [some (.ref 125), some (.int (zI x1)), some (.int (zI x2)), none, none], [], sA μ m l) (pI (fun y μ' => y = zI (bP (hvP m x1 x2)) ∧ μ' = sA μ m l) noX) := by
  refine R188_0 H ?_
  have g' := g
  obtain ⟨g0, g1, g3, g4⟩ := g'
  refine hv_5 H g g2 (m 142 x1 - x1).toNat x1 0 (Int.le_refl _) (by omega) ?_
  rw [bP_0]
  rintro ⟨j, a, b, _⟩
  omega
/-- what a loop over the terms of an atom finds -/
theorem ex_step {P : Int → Prop} {k v x3 : Int} (h0 : 0 ≤ k) (e : x3 = bP (∃ j, 0 ≤ j ∧ j < k ∧ P j)) (e1 : v = (if ¬ x3 = 0 then (1 : Int) else if (bP (P k)) = 0 then (0 : Int) else 1)) : v = bP (∃ j, 0 ≤ j ∧ j < k + 1 ∧ P j) := by
  rw [e1, e]
  by_cases q : ∃ j, 0 ≤ j ∧ j < k ∧ P j
  · rw [if_pos (by rw [bP_1 q]; decide), bP_1]
    obtain ⟨j, a, b, c⟩ := q
    exact ⟨j, a, by omega, c⟩
  · rw [if_neg (by rw [bP_0 q]; decide)]
    by_cases c1 : P k
    · rw [if_neg (by rw [bP_1 c1]; decide), bP_1]
      exact ⟨k, h0, by omega, c1⟩
    · rw [if_pos (by rw [bP_0 c1]), bP_0]
      rintro ⟨j, a, b, c⟩
      by_cases ej : j = k
      · rw [ej] at c; exact c1 c
      · exact q ⟨j, a, by omega, c⟩
end RC1
def GNa (m : PM) (x : Int) : Prop := 0 ≤ x ∧ x ≤ m 142 x ∧ m 142 x ≤ 1000 ∧ ∀ k, x ≤ k → k < m 142 x → iR (m 138 k) ∧ iR (m 139 k) ∧ iR (m 140 k)
def alP (m : PM) (x y : Int) : Prop := m 142 x - x = m 142 y - y ∧ ∀ k, 0 ≤ k → k < m 142 x - x → m 138 (x + k) = m 138 (y + k) ∧ m 139 (x + k) = m 139 (y + k) ∧ m 140 (x + k) = m 140 (y + k)
def htP (m : PM) (a y : Int) : Prop := ∃ k, 0 ≤ k ∧ k < m 137 a ∧ alP m (m 136 (4 * a + k)) y
def GAa (m : PM) (a : Int) : Prop := (0 ≤ a ∧ a < 600) ∧ (0 ≤ m 137 a ∧ m 137 a ≤ 4) ∧ ∀ k, 0 ≤ k → k < m 137 a → GNa m (m 136 (4 * a + k))
section RC2
variable {d : Nat} {μ : am_Mem} {m l : PM}
theorem al_28 (H : RS μ) {x1 x2 : Int} (g : GNa m x1) (g2 : GNa m x2) : ∀ (f : Nat) (k x3 : Int), 0 ≤ k → k + f = m 142 x1 - x1 → x3 = bP (m 142 x1 - x1 = m 142 x2 - x2 ∧ ∀ j, 0 ≤ j → j < k → m 138 (x1 + j) = m 138 (x2 + j) ∧ m 139 (x1 + j) = m 139 (x2 + j) ∧ m 140 (x1 + j) = m 140 (x2 + j)) → Wp d 200 (28, [some (.ref 125), some (.int (zI x1)), some (.int (zI x2)), some (.int (zI x3)), some (.int (zI k))], [], sA μ m l) (pI (fun y μ' => y = zI (bP (alP m x1 x2)) ∧ μ' = sA μ m l) noX) := by
  obtain ⟨g0, g1, g3, g4⟩ := g
  obtain ⟨h0, h1, h3, h4⟩ := g2
  intro f
  induction f with
  | zero =>
    intro k x3 hk hf e
    have ek : k = m 142 x1 - x1 := by omega
    refine R200_28 H ⟨by omega, by unfold iR; omega, by unfold iR; omega, fun _ => ⟨?_, ?_, rfl⟩, fun z => absurd (by omega) z⟩
    · rw [e]; exact bP_b _
    · rw [e, ek]; rfl
  | succ f ih =>
    intro k x3 hk hf e
    refine R200_28 H ⟨by omega, by unfold iR; omega, by unfold iR; omega, fun z => absurd z (by omega), fun _ => ⟨by rw [e]; exact bP_R _, fun z => ⟨Or.inl z, ?_, rfl⟩, fun z => ?_⟩⟩
    · rw [z, bP_0]
      rw [e] at z
      intro w
      exact bP_z.mp z ⟨w.1, fun j a b => w.2 j a (by omega)⟩
    · have q : m 142 x1 - x1 = m 142 x2 - x2 ∧ ∀ j, 0 ≤ j → j < k → m 138 (x1 + j) = m 138 (x2 + j) ∧ m 139 (x1 + j) = m 139 (x2 + j) ∧ m 140 (x1 + j) = m 140 (x2 + j) := by
        rw [e] at z
        exact Classical.byContradiction fun w => z (bP_z.mpr w)
      have r1 := g4 (x1 + k) (by omega) (by omega)
      have r2 := h4 (x2 + k) (by omega) (by omega)
      refine ⟨by omega, by omega, r1.1, r2.1, ⟨fun _ => trivial, fun _ => ⟨r1.2.1, r2.2.1, fun _ => trivial, fun _ => ⟨r1.2.2, r2.2.2, trivial⟩⟩⟩, fun v1 e1 => ?_⟩
      refine ih (k + 1) v1 (by omega) (by omega) ?_
      rw [e1]
      have no : ¬ (m 138 (x1 + k) = m 138 (x2 + k) ∧ m 139 (x1 + k) = m 139 (x2 + k) ∧ m 140 (x1 + k) = m 140 (x2 + k)) → (0 : Int) = bP (m 142 x1 - x1 = m 142 x2 - x2 ∧ ∀ j, 0 ≤ j → j < k + 1 → m 138 (x1 + j) = m 138 (x2 + j) ∧ m 139 (x1 + j) = m 139 (x2 + j) ∧ m 140 (x1 + j) = m 140 (x2 + j)) := by
        intro w
        rw [bP_0]
        intro u
        exact w (u.2 k hk (by omega))
      by_cases c1 : m 138 (x1 + k) = m 138 (x2 + k)
      · rw [if_neg (not_not_intro c1)]
        by_cases c2 : m 139 (x1 + k) = m 139 (x2 + k)
        · rw [if_neg (not_not_intro c2)]
          by_cases c3 : m 140 (x1 + k) = m 140 (x2 + k)
          · rw [if_neg (not_not_intro c3), bP_1]
            refine ⟨q.1, fun j a b => ?_⟩
            by_cases ej : j = k
            · rw [ej]; exact ⟨c1, c2, c3⟩
            · exact q.2 j a (by omega)
          · rw [if_pos c3]; exact no fun w => c3 w.2.2
        · rw [if_pos c2]; exact no fun w => c2 w.2.1
      · rw [if_pos c1]; exact no fun w => c1 w.1
theorem c_alike (H : RS μ) {x1 x2 : Int} (g : GNa m x1) (g2 : GNa m x2) : Wp d 200 (0, [some (.ref 125), some (.int (zI x1)), some (.int (zI x2)), none, none], [], sA μ m l) (pI (fun y μ' => y = zI (bP (alP m x1 x2)) ∧ μ' = sA μ m l) noX) := by
  have g' := g
  obtain ⟨g0, g1, g3, g4⟩ := g'
  have h' := g2
  obtain ⟨h0, h1, h3, h4⟩ := h'
  refine R200_0 H ⟨by omega, by omega, by unfold iR; omega, by unfold iR; omega, fun v1 e1 => ?_⟩
  refine al_28 H g g2 (m 142 x1 - x1).toNat 0 v1 (Int.le_refl _) (by omega) ?_
  rw [e1]
  by_cases c : m 142 x1 - x1 = m 142 x2 - x2
  · rw [if_neg (not_not_intro c), bP_1]
    exact ⟨c, fun j a b => by omega⟩
  · rw [if_pos c, bP_0]
    exact fun w => c w.1
end RC2
