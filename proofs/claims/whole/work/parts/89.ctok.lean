/-! ===== the class's tokens: skip, behindName, append ===== -/
/-- the class's text: signs in cell 17, as many as its tokens' length -/
def CX (m : PM) : Prop := 0 ≤ m 18 5 ∧ m 18 5 ≤ 2000 ∧ ∀ i, 0 ≤ m 17 i ∧ m 17 i ≤ 127
theorem CX_cg {m m' : PM} (h1 : m' 18 5 = m 18 5) (h2 : ∀ i, m' 17 i = m 17 i) (T : CX m) : CX m' := by
  unfold CX
  rw [h1]
  refine ⟨T.1, T.2.1, fun i => ?_⟩
  rw [h2 i]
  exact T.2.2 i
section CTK
variable {d : Nat} {Q : Option Value ⊕ Nat → am_Mem → Prop} {μ : am_Mem} {m l : PM} {x1 n : Int}
theorem cskip_4 (H : CS μ) (T : CX m) (hn : m 18 5 = n) : ∀ (k : Nat) (p : Int) (b : Bool) (o4 : Option Value), 0 ≤ p → p + k = n → Q (.inl (some (.int (zI (skp (m 17) k b p))))) (sA μ m l) → Wp d 105 (4, [some (.ref 18), some (.int (zI x1)), some (.int (zI (if b then 1 else 0))), some (.int (zI p)), o4], [], sA μ m l) Q := by
  have h1 := T.1
  have h2 := T.2.1
  intro k
  induction k with
  | zero =>
    intro p b o4 hp hk h
    refine K105_4 H ⟨by omega, by omega, fun _ => ?_, fun z => absurd (by omega) z⟩
    have e : m 18 5 = p := by omega
    rw [e]
    exact h
  | succ k ih =>
    intro p b o4 hp hk h
    have h3 := T.2.2 p
    have hx : iR (if b then 1 else 0) := by split <;> decide
    refine K105_4 H ⟨by omega, by omega, fun z => absurd z (by omega), fun _ => ⟨by omega, by omega, fun q10 => ⟨fun q59 => ⟨hx, fun z => ?_, fun z => ⟨fun q32 => ?_, fun q32 => ?_⟩⟩, fun q59 => ?_⟩, fun q10 => ?_⟩⟩
    · have hb : b = true := by
        cases b with
        | true => rfl
        | false => exact absurd rfl z
      subst hb
      have e : skp (m 17) (k + 1) true p = skp (m 17) k true (p + 1) := by
        show (if m 17 p = 10 then skp (m 17) k false (p + 1) else if m 17 p = 59 then skp (m 17) k true (p + 1) else if true = true then skp (m 17) k true (p + 1) else _) = _
        rw [if_neg q10, if_neg q59, if_pos rfl]
      rw [e] at h
      exact ih (p + 1) true _ (by omega) (by omega) h
    · have hb : b = false := by
        cases b with
        | true => exact absurd (by decide) z
        | false => rfl
      subst hb
      have e : skp (m 17) (k + 1) false p = skp (m 17) k false (p + 1) := by
        show (if m 17 p = 10 then skp (m 17) k false (p + 1) else if m 17 p = 59 then skp (m 17) k true (p + 1) else if false = true then skp (m 17) k true (p + 1) else if m 17 p = 32 then skp (m 17) k false (p + 1) else p) = _
        rw [if_neg q10, if_neg q59, if_neg (by decide), if_pos q32]
      rw [e] at h
      exact ih (p + 1) false _ (by omega) (by omega) h
    · have hb : b = false := by
        cases b with
        | true => exact absurd (by decide) z
        | false => rfl
      subst hb
      have e : skp (m 17) (k + 1) false p = p := by
        show (if m 17 p = 10 then skp (m 17) k false (p + 1) else if m 17 p = 59 then skp (m 17) k true (p + 1) else if false = true then skp (m 17) k true (p + 1) else if m 17 p = 32 then skp (m 17) k false (p + 1) else p) = _
        rw [if_neg q10, if_neg q59, if_neg (by decide), if_neg q32]
      rw [e] at h
      exact h
    · have q59' : m 17 p = 59 := Classical.not_not.mp q59
      have e : skp (m 17) (k + 1) b p = skp (m 17) k true (p + 1) := by
        show (if m 17 p = 10 then skp (m 17) k false (p + 1) else if m 17 p = 59 then skp (m 17) k true (p + 1) else _) = _
        rw [if_neg q10, if_pos q59']
      rw [e] at h
      exact ih (p + 1) true _ (by omega) (by omega) h
    · have q10' : m 17 p = 10 := Classical.not_not.mp q10
      have e : skp (m 17) (k + 1) b p = skp (m 17) k false (p + 1) := by
        show (if m 17 p = 10 then skp (m 17) k false (p + 1) else _) = _
        rw [if_pos q10']
      rw [e] at h
      exact ih (p + 1) false _ (by omega) (by omega) h
theorem k_skip (H : CS μ) (T : CX m) (g : 0 ≤ x1 ∧ x1 ≤ m 18 5) : Wp d 105 (0, [some (.ref 18), some (.int (zI x1)), none, none, none], [], sA μ m l) (pI (fun y μ' => y = zI (skP (m 17) (m 18 5) x1) ∧ μ' = sA μ m l) noX) :=
  K105_0 H (cskip_4 H T rfl (m 18 5 - x1).toNat x1 false none g.1 (by omega) ⟨rfl, rfl⟩)
theorem cbehind_2 (H : CS μ) (T : CX m) (hn : m 18 5 = n) : ∀ (k : Nat) (p : Int) (o3 o4 o5 : Option Value), 0 ≤ p → p + k = n → Q (.inl (some (.int (zI (nep (m 17) k p))))) (sA μ m l) → Wp d 108 (2, [some (.ref 18), some (.int (zI x1)), some (.int (zI p)), o3, o4, o5], [], sA μ m l) Q := by
  have h1 := T.1
  have h2 := T.2.1
  intro k
  induction k with
  | zero =>
    intro p o3 o4 o5 hp hk h
    refine K108_2 H ⟨by omega, by omega, fun _ => ?_, fun z => absurd (by omega) z⟩
    have e : m 18 5 = p := by omega
    rw [e]
    exact h
  | succ k ih =>
    intro p o3 o4 o5 hp hk h
    have h3 := T.2.2 p
    have hyes : ¬ nmV (m 17 p) = 0 → ∀ o3 o4 o5, Wp d 108 (2, [some (.ref 18), some (.int (zI x1)), some (.int (zI (p + 1))), o3, o4, o5], [], sA μ m l) Q := by
      intro q o3 o4 o5
      have e : nep (m 17) (k + 1) p = nep (m 17) k (p + 1) := by
        show (if nmV (m 17 p) = 0 then p else nep (m 17) k (p + 1)) = _
        rw [if_neg q]
      rw [e] at h
      exact ih (p + 1) _ _ _ (by omega) (by omega) h
    refine K108_2 H ⟨by omega, by omega, fun z => absurd z (by omega), fun _ => ⟨by omega, by omega, ?_⟩⟩
    intro v1 e1 v2 e2
    refine ⟨fun q1 => hyes ?_ _ _ _, fun q1 => ⟨fun q2 => hyes ?_ _ _ _, fun q2 => ⟨fun q3 => hyes ?_ _ _ _, fun q3 => ?_⟩⟩⟩
    · intro z
      unfold nmV at z
      by_cases y : 97 ≤ m 17 p ∧ m 17 p ≤ 122
      · rw [if_pos y] at z; omega
      · refine q1 (e1.trans ?_)
        by_cases y1 : m 17 p < 97
        · rw [if_pos y1]
        · rw [if_neg y1, if_pos (by omega)]
    · intro z
      unfold nmV at z
      by_cases y : 48 ≤ m 17 p ∧ m 17 p ≤ 57
      · rw [if_neg (by omega), if_pos y] at z; omega
      · refine q2 (e2.trans ?_)
        by_cases y1 : m 17 p < 48
        · rw [if_pos y1]
        · rw [if_neg y1, if_pos (by omega)]
    · rw [q3]
      decide
    · have q1' : v1 = 0 := Classical.not_not.mp q1
      have q2' : v2 = 0 := Classical.not_not.mp q2
      have y1 : ¬ (97 ≤ m 17 p ∧ m 17 p ≤ 122) := by
        intro z
        rw [e1, if_neg (by omega), if_neg (by omega)] at q1'
        omega
      have y2 : ¬ (48 ≤ m 17 p ∧ m 17 p ≤ 57) := by
        intro z
        rw [e2, if_neg (by omega), if_neg (by omega)] at q2'
        omega
      have e0 : nmV (m 17 p) = 0 := by
        unfold nmV
        rw [if_neg y1, if_neg y2, if_neg q3]
      have e : nep (m 17) (k + 1) p = p := by
        unfold nep
        rw [if_pos e0]
      rw [e] at h
      exact h
theorem k_behindName (H : CS μ) (T : CX m) (g : 0 ≤ x1 ∧ x1 ≤ m 18 5) : Wp d 108 (0, [some (.ref 18), some (.int (zI x1)), none, none, none, none], [], sA μ m l) (pI (fun y μ' => y = zI (neP (m 17) (m 18 5) x1) ∧ μ' = sA μ m l) noX) :=
  K108_0 H (cbehind_2 H T rfl (m 18 5 - x1).toNat x1 none none none g.1 (by omega) ⟨rfl, rfl⟩)
end CTK
