/-! ===== the reference's skip, nameEnd ===== -/
theorem up_r {m : PM} {c c' : Nat} {i v : Int} (h : ¬ c' = c) : up m c i v c' = m c' := funext fun _ => up_c h
/-- the first place that is neither blank nor line end nor in a comment; k places are looked at; c: in a comment -/
def skp (t : Int → Int) : Nat → Bool → Int → Int
  | 0, _, p => p
  | k + 1, c, p => if t p = 10 then skp t k false (p + 1) else if t p = 59 then skp t k true (p + 1) else if c then skp t k true (p + 1) else if t p = 32 then skp t k false (p + 1) else p
def skP (t : Int → Int) (n p : Int) : Int := skp t (n - p).toNat false p
/-- the next line end -/
def nlE (t : Int → Int) : Nat → Int → Int
  | 0, p => p
  | k + 1, p => if t p = 10 then p else nlE t k (p + 1)
theorem skp_le (t : Int → Int) : ∀ k c p, p ≤ skp t k c p ∧ skp t k c p ≤ p + k := by
  intro k
  induction k with
  | zero => intro c p; exact ⟨Int.le_refl _, by show p ≤ p + ((0 : Nat) : Int); omega⟩
  | succ k ih =>
    intro c p
    have h1 := ih false (p + 1)
    have h2 := ih true (p + 1)
    unfold skp
    repeat' split
    all_goals omega
theorem nlE_le (t : Int → Int) : ∀ k p, p ≤ nlE t k p ∧ nlE t k p ≤ p + k := by
  intro k
  induction k with
  | zero => intro p; exact ⟨Int.le_refl _, by show p ≤ p + ((0 : Nat) : Int); omega⟩
  | succ k ih =>
    intro p
    have h1 := ih (p + 1)
    unfold nlE
    split
    all_goals omega
/-- a comment goes to the line end -/
theorem skp_c (t : Int → Int) : ∀ k p, skp t k true p = skp t (p + k - nlE t k p).toNat false (nlE t k p) := by
  intro k
  induction k with
  | zero =>
    intro p
    have e : (p + ((0 : Nat) : Int) - nlE t 0 p).toNat = 0 := by show (p + ((0 : Nat) : Int) - p).toNat = 0; omega
    rw [e]
    rfl
  | succ k ih =>
    intro p
    by_cases h : t p = 10
    · have e : nlE t (k + 1) p = p := by unfold nlE; rw [if_pos h]
      rw [e]
      have e2 : (p + ((k + 1 : Nat) : Int) - p).toNat = k + 1 := by omega
      rw [e2]
      unfold skp
      rw [if_pos h, if_pos h]
    · have e : nlE t (k + 1) p = nlE t k (p + 1) := by
        show (if t p = 10 then p else nlE t k (p + 1)) = _
        rw [if_neg h]
      have e3 : skp t (k + 1) true p = skp t k true (p + 1) := by
        show (if t p = 10 then skp t k false (p + 1) else if t p = 59 then skp t k true (p + 1) else if true = true then skp t k true (p + 1) else _) = _
        rw [if_neg h]
        split
        · rfl
        · rfl
      rw [e, e3, ih (p + 1)]
      have e2 : (p + 1 + (k : Int) - nlE t k (p + 1)).toNat = (p + ((k + 1 : Nat) : Int) - nlE t k (p + 1)).toNat := by omega
      rw [e2]
theorem skP_r {m : PM} (T : TX m) {p : Int} (g : 0 ≤ p ∧ p ≤ m 125 8) : p ≤ skP (m 128) (m 125 8) p ∧ skP (m 128) (m 125 8) p ≤ m 125 8 := by
  have h := skp_le (m 128) (m 125 8 - p).toNat false p
  unfold skP
  omega
theorem skP_R {m : PM} (T : TX m) {p : Int} (g : 0 ≤ p ∧ p ≤ m 125 8) : iR (skP (m 128) (m 125 8) p) := by
  have h := skP_r T g
  have h2 := T.2.1
  omega
section SKP
variable {d : Nat} {Q : Option Value ⊕ Nat → am_Mem → Prop} {μ : am_Mem} {m l : PM} {x1 n : Int}
theorem skip_42 (H : RS μ) (T : TX m) (hn : m 125 8 = n) : ∀ (k : Nat) (p : Int), 0 ≤ p → p + k = n → Wp (d + 1) 159 (2, [some (.ref 125), some (.int (zI x1)), some (.int (zI (nlE (m 128) k p)))], [], sA μ m l) Q → Wp (d + 1) 159 (42, [some (.ref 125), some (.int (zI x1)), some (.int (zI p))], [], sA μ m l) Q := by
  have h1 := T.1
  have h2 := T.2.1
  intro k
  induction k with
  | zero =>
    intro p hp hk h
    refine R159_42 H ⟨by omega, by omega, fun _ => h, fun z => absurd (by omega) z⟩
  | succ k ih =>
    intro p hp hk h
    have h3 := T.2.2 p
    refine R159_42 H ⟨by omega, by omega, fun z => absurd z (by omega), fun z => ⟨by omega, by omega, fun q => ?_, fun q => ?_⟩⟩
    · have e : nlE (m 128) (k + 1) p = p := by unfold nlE; rw [if_pos q]
      rw [e] at h
      exact h
    · have e : nlE (m 128) (k + 1) p = nlE (m 128) k (p + 1) := by
        show (if m 128 p = 10 then p else nlE (m 128) k (p + 1)) = _
        rw [if_neg q]
      rw [e] at h
      exact ih (p + 1) (by omega) (by omega) h
theorem skip_2 (H : RS μ) (T : TX m) (hn : m 125 8 = n) : ∀ (b k : Nat) (p : Int), k ≤ b → 0 ≤ p → p + k = n → Q (.inl (some (.int (zI (skp (m 128) k false p))))) (sA μ m l) → Wp (d + 1) 159 (2, [some (.ref 125), some (.int (zI x1)), some (.int (zI p))], [], sA μ m l) Q := by
  have h1 := T.1
  have h2 := T.2.1
  intro b
  induction b with
  | zero =>
    intro k p hb hp hk h
    obtain rfl : k = 0 := by omega
    have e : sgn (m 128) (m 125 8) p = 0 := if_pos (by omega)
    refine R159_2 H ⟨T, by omega, ?_⟩
    rw [e]
    exact ⟨fun z => absurd z (by decide), fun _ => ⟨fun z => absurd z (by decide), fun _ => ⟨fun _ => h, fun z => absurd (by decide) z⟩⟩⟩
  | succ b ih =>
    intro k p hb hp hk h
    cases k with
    | zero => exact ih 0 p (by omega) hp hk h
    | succ k =>
      have h3 := T.2.2 p
      have e : sgn (m 128) (m 125 8) p = m 128 p := if_neg (by omega)
      refine R159_2 H ⟨T, by omega, ?_⟩
      rw [e]
      have hc : m 128 p = 59 → Wp (d + 1) 159 (42, [some (.ref 125), some (.int (zI x1)), some (.int (zI p))], [], sA μ m l) Q := by
        intro q
        refine skip_42 H T hn (k + 1) p hp hk ?_
        have e1 : nlE (m 128) (k + 1) p = nlE (m 128) k (p + 1) := by
          show (if m 128 p = 10 then p else nlE (m 128) k (p + 1)) = _
          rw [if_neg (by omega)]
        have e2 : skp (m 128) (k + 1) false p = skp (m 128) k true (p + 1) := by
          show (if m 128 p = 10 then _ else if m 128 p = 59 then skp (m 128) k true (p + 1) else _) = _
          rw [if_neg (by omega), if_pos q]
        have h4 := nlE_le (m 128) k (p + 1)
        rw [e2, skp_c] at h
        rw [e1]
        exact ih _ _ (by omega) (by omega) (by omega) h
      have hs : ¬ m 128 p = 59 → (m 128 p = 10 ∨ m 128 p = 32) → Wp (d + 1) 159 (2, [some (.ref 125), some (.int (zI x1)), some (.int (zI (p + 1)))], [], sA μ m l) Q := by
        intro q q2
        have e2 : skp (m 128) (k + 1) false p = skp (m 128) k false (p + 1) := by
          show (if m 128 p = 10 then skp (m 128) k false (p + 1) else if m 128 p = 59 then _ else if false = true then _ else if m 128 p = 32 then skp (m 128) k false (p + 1) else p) = _
          rcases q2 with q2 | q2
          · rw [if_pos q2]
          · rw [if_neg (by omega), if_neg q, if_neg (by decide), if_pos q2]
        rw [e2] at h
        exact ih k (p + 1) (by omega) (by omega) (by omega) h
      refine ⟨fun z => ⟨fun q => hs q (Or.inr z), fun q => hc (Classical.not_not.mp q)⟩, fun z => ⟨fun z2 => ⟨fun q => hs q (Or.inl z2), fun q => hc (Classical.not_not.mp q)⟩, fun z2 => ⟨fun q => ?_, fun q => ⟨fun q2 => absurd q2 q, fun q2 => hc (Classical.not_not.mp q2)⟩⟩⟩⟩
      have e2 : skp (m 128) (k + 1) false p = p := by
        show (if m 128 p = 10 then skp (m 128) k false (p + 1) else if m 128 p = 59 then _ else if false = true then _ else if m 128 p = 32 then skp (m 128) k false (p + 1) else p) = _
        rw [if_neg z2, if_neg q, if_neg (by decide), if_neg z]
      rw [e2] at h
      exact h
theorem c_skip (H : RS μ) (T : TX m) (g : 0 ≤ x1 ∧ x1 ≤ m 125 8) : Wp (d + 1) 159 (0, [some (.ref 125), some (.int (zI x1)), none], [], sA μ m l) (pI (fun y μ' => y = zI (skP (m 128) (m 125 8) x1) ∧ μ' = sA μ m l) noX) :=
  R159_0 H (skip_2 H T rfl _ (m 125 8 - x1).toNat x1 (Nat.le_refl _) g.1 (by omega) ⟨rfl, rfl⟩)
end SKP
/-- where the signs of names end, k places looked at -/
noncomputable def nep (t : Int → Int) : Nat → Int → Int
  | 0, p => p
  | k + 1, p => if nmV (t p) = 0 then p else nep t k (p + 1)
noncomputable def neP (t : Int → Int) (n p : Int) : Int := nep t (n - p).toNat p
theorem nep_le (t : Int → Int) : ∀ k p, p ≤ nep t k p ∧ nep t k p ≤ p + k := by
  intro k
  induction k with
  | zero => intro p; exact ⟨Int.le_refl _, by show p ≤ p + ((0 : Nat) : Int); omega⟩
  | succ k ih =>
    intro p
    have h1 := ih (p + 1)
    unfold nep
    split
    all_goals omega
theorem neP_r {m : PM} (T : TX m) {p : Int} (g : 0 ≤ p ∧ p ≤ m 125 8) : p ≤ neP (m 128) (m 125 8) p ∧ neP (m 128) (m 125 8) p ≤ m 125 8 := by
  have h := nep_le (m 128) (m 125 8 - p).toNat p
  unfold neP
  omega
theorem neP_R {m : PM} (T : TX m) {p : Int} (g : 0 ≤ p ∧ p ≤ m 125 8) : iR (neP (m 128) (m 125 8) p) := by
  have h := neP_r T g
  have h2 := T.2.1
  omega
section NEP
variable {d : Nat} {Q : Option Value ⊕ Nat → am_Mem → Prop} {μ : am_Mem} {m l : PM} {x1 n : Int}
theorem nameEnd_2 (H : RS μ) (T : TX m) (hn : m 125 8 = n) : ∀ (k : Nat) (p : Int), 0 ≤ p → p + k = n → Q (.inl (some (.int (zI (nep (m 128) k p))))) (sA μ m l) → Wp (d + 2) 162 (2, [some (.ref 125), some (.int (zI x1)), some (.int (zI p))], [], sA μ m l) Q := by
  have h1 := T.1
  have h2 := T.2.1
  intro k
  induction k with
  | zero =>
    intro p hp hk h
    have e : sgn (m 128) (m 125 8) p = 0 := if_pos (by omega)
    refine R162_2 H ⟨T, by omega, ?_⟩
    rw [e]
    exact ⟨fun _ => h, fun z => absurd (by decide) z⟩
  | succ k ih =>
    intro p hp hk h
    have e : sgn (m 128) (m 125 8) p = m 128 p := if_neg (by omega)
    refine R162_2 H ⟨T, by omega, ?_⟩
    rw [e]
    refine ⟨fun q => ?_, fun q => ?_⟩
    · have e2 : nep (m 128) (k + 1) p = p := by unfold nep; rw [if_pos q]
      rw [e2] at h
      exact h
    · have e2 : nep (m 128) (k + 1) p = nep (m 128) k (p + 1) := by
        show (if nmV (m 128 p) = 0 then p else nep (m 128) k (p + 1)) = _
        rw [if_neg q]
      rw [e2] at h
      exact ih (p + 1) (by omega) (by omega) h
theorem c_nameEnd (H : RS μ) (T : TX m) (g : 0 ≤ x1 ∧ x1 ≤ m 125 8) : Wp (d + 2) 162 (0, [some (.ref 125), some (.int (zI x1)), none], [], sA μ m l) (pI (fun y μ' => y = zI (neP (m 128) (m 125 8) x1) ∧ μ' = sA μ m l) noX) :=
  R162_0 H (nameEnd_2 H T rfl (m 125 8 - x1).toNat x1 g.1 (by omega) ⟨rfl, rfl⟩)
end NEP
