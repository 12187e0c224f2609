/-! ===== the class's parser: takeParts ===== -/
/-- takeTerm reads terms, so many parentheses being left -/
def SimC (t : Int → Int) (n : Int) (X : Int → List Int → Prop) (J s : Nat) (μ : am_Mem) (l : PM) (d dl : Nat) : Prop := ∀ (m : PM) (i : Nat) (vs : List (List Int)), CI t n X J s m i vs → Wp d 58 (0, [some (.ref 62), some (.int (zI (10 - (dl : Int)))), some (.int (zI 0)), none, none], [], sA μ m l) (pI (TmP t n X J s μ l m (dl + 1) (10 - (dl : Int) + 1) (pT t n dl i vs)) noX)
/-- the node of a name with parts -/
def ndC (w : List Int) : Rd (List (List Cd)) → Rd (List Cd)
  | .inl x => .inl x
  | .inr (ps, i', vs') => .inr ((ps.length, w) :: ps.flatten, i', vs')
theorem PcR_at {R : Int → List Cd → Prop} {r : Int → Int} {w : Int} : ∀ (ps : List (List Cd)) (j : Nat) (k : Int), PcR R r w j k ps → ∀ i : Nat, i < ps.length → ∃ x, r (w + ((j + i : Nat) : Int)) = x ∧ x + 1 ≤ k + (ps.flatten.length : Int) ∧ k ≤ x + 1 - ((ps.getD i []).length : Int) ∧ R x (ps.getD i []) ∧ (i = 0 → x + 1 - ((ps.getD i []).length : Int) = k) := by
  intro ps
  induction ps with
  | nil => intro j k _ i hi; exact absurd hi (Nat.not_lt_zero i)
  | cons p ps ih =>
    intro j k h i hi
    obtain ⟨a1, a2, a3⟩ := h
    have hl : ((p :: ps).flatten.length : Int) = p.length + ps.flatten.length := by simp
    have hl2 : (p :: ps).length = ps.length + 1 := rfl
    cases i with
    | zero => exact ⟨_, a1, by omega, by show k ≤ k + p.length - 1 + 1 - p.length; omega, a2, fun _ => by show k + p.length - 1 + 1 - (p.length : Int) = k; omega⟩
    | succ i =>
      obtain ⟨x, b1, b2, b3, b4, _⟩ := ih (j + 1) _ a3 i (by omega)
      refine ⟨x, by rw [← b1]; exact congrArg r (by omega), by omega, ?_, b4, fun z => absurd z (Nat.succ_ne_zero i)⟩
      show k ≤ x + 1 - ((ps.getD i []).length : Int)
      omega
/-- of a term's node: its bits and its lowest node -/
theorem TcR_top {X : Int → List Int → Prop} {s f : Nat} {m : PM} {k : Int} {cs : List Cd} (h : TcR X s f m k cs) : 1 ≤ cs.length ∧ m (s + 10) k = (vmC cs : Int) ∧ m (s + 9) k = k + 1 - (cs.length : Int) := by
  cases f with
  | zero => exact h.elim
  | succ f =>
    cases cs with
    | nil => exact h.elim
    | cons c rest =>
      obtain ⟨a, w⟩ := c
      unfold TcR at h
      simp only at h
      have hlen : (((a, w) :: rest : List Cd).length : Int) = rest.length + 1 := by simp
      exact ⟨by omega, h.1, by rw [h.2.1]; omega⟩
