/-! ===== the class's parser: takeVariable ===== -/
/-- the table of the rule's variables -/
def CV (m : PM) : Prop := 0 ≤ m 62 4 ∧ m 62 4 ≤ 8 ∧ (∀ i, 0 ≤ i → i < m 62 4 → iR (m 63 i)) ∧ ∀ i j, 0 ≤ i → i < j → j < m 62 4 → ¬ m 63 i = m 63 j
def cvN (m : PM) (x : Int) : Nat := rix (m 63) x (m 62 4).toNat 0
theorem cvN_no {m : PM} {x : Int} (h0 : 0 ≤ m 62 4) (h : ∀ j : Nat, (j : Int) < m 62 4 → ¬ m 63 j = x) : (cvN m x : Int) = m 62 4 := by
  have h1 := rix_le (m 63) x (m 62 4).toNat 0
  have h2 := rix_is (m 63) x (m 62 4).toNat 0
  have e : cvN m x = rix (m 63) x (m 62 4).toNat 0 := rfl
  rw [← e] at h1 h2
  by_cases q : (cvN m x : Int) < m 62 4
  · exact absurd (h2 (by omega)) (h _ q)
  · omega
theorem cvN_at {m : PM} {x b : Int} (hV : CV m) (h0 : 0 ≤ b) (h1 : b < m 62 4) (h2 : m 63 b = x) : (cvN m x : Int) = b := by
  have k1 := rix_le (m 63) x (m 62 4).toNat 0
  have k2 := rix_is (m 63) x (m 62 4).toNat 0
  have k3 := rix_no (m 63) x (m 62 4).toNat 0 b.toNat (Nat.zero_le _)
  have e : cvN m x = rix (m 63) x (m 62 4).toNat 0 := rfl
  rw [← e] at k1 k2 k3
  have eb : ((b.toNat : Nat) : Int) = b := Int.toNat_of_nonneg h0
  rw [eb] at k3
  have k4 : (cvN m x : Int) ≤ b := by
    by_cases q : b.toNat < cvN m x
    · exact absurd h2 (k3 q)
    · omega
  by_cases q : (cvN m x : Int) = b
  · exact q
  · have w := k2 (by omega)
    exact absurd (w.trans h2.symm) (hV.2.2.2 _ _ (by omega) (by omega) h1)
section CP4
variable {d : Nat} {Q : Option Value ⊕ Nat → am_Mem → Prop} {μ : am_Mem} {m l : PM} {s : Nat}
theorem tv_20 (H : CS μ) (hs : s = 22 ∨ s = 42) (hS : am_F μ 62 1 = s) {x : Int} (hx : iR x) (hV : CV m)
  (q1 : (cvN m x : Int) < m 62 4 → Q (.inl (some (.int (zI (cvN m x : Int))))) (sA μ (up m 62 2 (m 62 2 + 1)) l))
  (q2 : (cvN m x : Int) = m 62 4 → m 62 4 = 8 → Q (.inl (some (.int (zI (-1))))) (sA μ m l))
  (q3 : (cvN m x : Int) = m 62 4 → m 62 4 < 8 → Q (.inl (some (.int (zI (m 62 4))))) (sA μ (up (up (up m 63 (m 62 4) x) 62 4 (m 62 4 + 1)) 62 2 (m 62 2 + 1)) l)) :
  ∀ (f k : Nat), ((k + f : Nat) : Int) = m 62 4 → ∀ b : Int, ((b = m 62 4 ∧ ∀ j : Nat, j < k → ¬ m 63 j = x) ∨ (0 ≤ b ∧ b < k ∧ m 63 b = x)) → Wp d 59 (20, [some (.ref 62), some (.int (zI x)), some (.int (zI b)), some (.int (zI (k : Int)))], [], sA μ m l) Q := by
  obtain ⟨v0, v8, vr, vd⟩ := hV
  intro f
  induction f with
  | zero =>
    intro k hk b hb
    refine K59_20 H hs hS ⟨by unfold iR; omega, by unfold iR; omega, fun _ => ⟨by unfold iR; omega, fun n8 => ⟨fun ne => ?_, fun ne => ?_⟩, fun n8 => ?_⟩, fun z => absurd (by omega) z⟩
    · have hb : 0 ≤ b ∧ b < (k : Int) ∧ m 63 b = x := by
        rcases hb with ⟨e, _⟩ | e
        · exact absurd e ne
        · exact e
      have e := cvN_at ⟨v0, v8, vr, vd⟩ hb.1 (by omega) hb.2.2
      rw [← e]
      exact q1 (by omega)
    · have e : b = m 62 4 := Decidable.byContradiction ne
      have e' : (cvN m x : Int) = m 62 4 := cvN_no v0 (fun j hj => by
        rcases hb with ⟨_, w⟩ | w
        · exact w j (by omega)
        · omega)
      refine ⟨⟨by omega, by omega⟩, fun m1 e1 => ?_⟩
      rw [e1, e]
      exact q3 e' (by omega)
    · have e8 : b = 8 := Decidable.byContradiction n8
      have e : b = m 62 4 := by
        rcases hb with ⟨e, _⟩ | w
        · exact e
        · omega
      have e' : (cvN m x : Int) = m 62 4 := cvN_no v0 (fun j hj => by
        rcases hb with ⟨_, w⟩ | w
        · exact w j (by omega)
        · omega)
      exact q2 e' (by omega)
  | succ f ih =>
    intro k hk b hb
    refine K59_20 H hs hS ⟨by unfold iR; omega, by unfold iR; omega, fun z => absurd z (by omega), fun _ => ⟨⟨by omega, by omega⟩, vr _ (by omega) (by omega), hx, fun v2 e2 => ?_⟩⟩
    refine ih (k + 1) (by omega) v2 ?_
    by_cases q : m 63 (k : Int) = x
    · rw [if_neg (not_not_intro q)] at e2
      exact Or.inr ⟨by omega, by omega, by rw [e2]; exact q⟩
    · rw [if_pos q] at e2
      rcases hb with ⟨e, w⟩ | w
      · refine Or.inl ⟨e2.trans e, fun j hj => ?_⟩
        by_cases c : j = k
        · rw [c]; exact q
        · exact w j (by omega)
      · exact Or.inr ⟨by omega, by omega, by rw [e2]; exact w.2.2⟩
/-- takeVariable at the token p -/
theorem k_takeVar (H : CS μ) (hs : s = 22 ∨ s = 42) (hS : am_F μ 62 1 = s) {x : Int} (hp : 0 ≤ m 62 2 ∧ m 62 2 < 2001) (e : m 21 (m 62 2) = x) (hx : iR x) (hV : CV m)
  (q1 : (cvN m x : Int) < m 62 4 → Q (.inl (some (.int (zI (cvN m x : Int))))) (sA μ (up m 62 2 (m 62 2 + 1)) l))
  (q2 : (cvN m x : Int) = m 62 4 → m 62 4 = 8 → Q (.inl (some (.int (zI (-1))))) (sA μ m l))
  (q3 : (cvN m x : Int) = m 62 4 → m 62 4 < 8 → Q (.inl (some (.int (zI (m 62 4))))) (sA μ (up (up (up m 63 (m 62 4) x) 62 4 (m 62 4 + 1)) 62 2 (m 62 2 + 1)) l)) :
  Wp d 59 (0, [some (.ref 62), none, none, none], [], sA μ m l) Q := by
  refine K59_0 H hs hS ⟨hp, ?_⟩
  rw [e]
  exact tv_20 H hs hS hx hV q1 q2 q3 (m 62 4).toNat 0 (by have := hV.1; omega) _ (Or.inl ⟨rfl, fun j hj => absurd hj (Nat.not_lt_zero j)⟩)
/-- a variable that is new keeps the table -/
theorem CV_add {m' : PM} {x : Int} (hV : CV m) (hx : iR x) (h8 : m 62 4 < 8) (hn : (cvN m x : Int) = m 62 4) (e4 : m' 62 4 = m 62 4 + 1) (e : m' 63 (m 62 4) = x) (k : ∀ i, i < m 62 4 → m' 63 i = m 63 i) : CV m' := by
  obtain ⟨v0, v8, vr, vd⟩ := hV
  have no : ∀ i, 0 ≤ i → i < m 62 4 → ¬ m 63 i = x := fun i h0 h1 w => absurd (cvN_at ⟨v0, v8, vr, vd⟩ h0 h1 w) (by omega)
  refine ⟨by omega, by omega, fun i h0 h1 => ?_, fun i j h0 h1 h2 => ?_⟩
  · by_cases c : i = m 62 4
    · rw [c, e]; exact hx
    · rw [k i (by omega)]; exact vr i h0 (by omega)
  · rw [k i (by omega)]
    by_cases c : j = m 62 4
    · rw [c, e]; exact no i h0 (by omega)
    · rw [k j (by omega)]; exact vd i j h0 h1 (by omega)
end CP4
