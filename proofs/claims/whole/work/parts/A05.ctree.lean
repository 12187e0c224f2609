/-! ===== the class's terms: nodes after their parts ===== -/
/-- the parts in a row, from place w + j and node k on -/
def PcR (R : Int → List Cd → Prop) (r : Int → Int) (w : Int) : Nat → Int → List (List Cd) → Prop
  | _, _, [] => True
  | j, k, p :: ps => r (w + j) = k + p.length - 1 ∧ R (k + p.length - 1) p ∧ PcR R r w (j + 1) (k + p.length) ps
/-- the bits of the variables -/
def vmC : List Cd → Nat
  | [] => 0
  | c :: r => (if 5 ≤ c.1 then 2 ^ (c.1 - 5) else 0) ||| vmC r
/-- node k is this term's: its nodes end with k -/
def TcR (X : Int → List Int → Prop) (s : Nat) : Nat → PM → Int → List Cd → Prop
  | 0, _, _, _ => False
  | f + 1, m, k, cs => match cs with
    | [] => False
    | (a, w) :: rest => m (s + 10) k = (vmC ((a, w) :: rest) : Int) ∧ m (s + 9) k = k - (rest.length : Int) ∧ (if 5 ≤ a then rest = [] ∧ m (s + 6) k = 4 - (a : Int) ∧ m (s + 7) k = 0
      else ∃ ps : List (List Cd), ps.length = a ∧ ps.flatten = rest ∧ X (m (s + 6) k) w ∧ m (s + 7) k = a ∧ PcR (TcR X s f m) (m (s + 8)) (4 * k) 0 (k - (rest.length : Int)) ps)
theorem PcR_cg {R R' : Int → List Cd → Prop} {r r' : Int → Int} {w w' : Int} : ∀ (ps : List (List Cd)) (j : Nat) (k : Int), (∀ i : Nat, j ≤ i → i < j + ps.length → r' (w' + i) = r (w + i)) → (∀ x p, k ≤ x + 1 - (p.length : Int) → x + 1 ≤ k + (ps.flatten.length : Int) → R x p → R' x p) → PcR R r w j k ps → PcR R' r' w' j k ps := by
  intro ps
  induction ps with
  | nil => intro j k _ _ _; trivial
  | cons p ps ih =>
    intro j k h1 h2 h
    obtain ⟨a1, a2, a3⟩ := h
    have hl : ((p :: ps).flatten.length : Int) = p.length + ps.flatten.length := by simp
    have hl2 : (p :: ps).length = ps.length + 1 := rfl
    refine ⟨by rw [h1 j (by omega) (by omega)]; exact a1, h2 _ p (by omega) (by omega) a2, ih (j + 1) (k + p.length) (fun i hi1 hi2 => h1 i (by omega) (by omega)) (fun x q hx hq => h2 x q (by omega) (by omega)) a3⟩
theorem PcR_snoc {R : Int → List Cd → Prop} {r : Int → Int} {w : Int} {p : List Cd} : ∀ (ps : List (List Cd)) (j : Nat) (k : Int), PcR R r w j k ps → r (w + ((j + ps.length : Nat) : Int)) = k + (ps.flatten.length : Int) + p.length - 1 → R (k + (ps.flatten.length : Int) + p.length - 1) p → PcR R r w j k (ps ++ [p]) := by
  intro ps
  induction ps with
  | nil =>
    intro j k _ h1 h2
    have e : k + (([] : List (List Cd)).flatten.length : Int) = k := by simp
    rw [e] at h1 h2
    exact ⟨h1, h2, trivial⟩
  | cons q ps ih =>
    intro j k h h1 h2
    obtain ⟨a1, a2, a3⟩ := h
    have hl : ((q :: ps).flatten.length : Int) = q.length + ps.flatten.length := by simp
    have hl2 : (q :: ps).length = ps.length + 1 := rfl
    refine ⟨a1, a2, ih (j + 1) (k + q.length) a3 ?_ ?_⟩
    · have e : j + 1 + ps.length = j + (q :: ps).length := by omega
      rw [e, h1]
      omega
    · have e : k + (q.length : Int) + (ps.flatten.length : Int) = k + ((q :: ps).flatten.length : Int) := by omega
      rw [e]
      exact h2
theorem TcR_cg {X X' : Int → List Int → Prop} {s : Nat} {m m' : PM} (hX : ∀ x w, X x w → X' x w) : ∀ (f : Nat) (k : Int) (cs : List Cd), (∀ i, k - cs.length < i → i ≤ k → m' (s + 6) i = m (s + 6) i ∧ m' (s + 7) i = m (s + 7) i ∧ m' (s + 9) i = m (s + 9) i ∧ m' (s + 10) i = m (s + 10) i) → (∀ i, 4 * (k + 1 - cs.length) ≤ i → i < 4 * (k + 1) → m' (s + 8) i = m (s + 8) i) → TcR X s f m k cs → TcR X' s f m' k cs := by
  intro f
  induction f with
  | zero => intro k cs _ _ h; exact h
  | succ f ih =>
    intro k cs h1 h2 h
    cases cs with
    | nil => exact h
    | cons c rest =>
      obtain ⟨a, w⟩ := c
      have hlen : (((a, w) :: rest : List Cd).length : Int) = rest.length + 1 := by simp
      obtain ⟨b1, b2, b3, b4⟩ := h1 k (by omega) (by omega)
      unfold TcR at h ⊢
      simp only at h ⊢
      obtain ⟨z1, z2, h⟩ := h
      refine ⟨by rw [b4]; exact z1, by rw [b3]; exact z2, ?_⟩
      split
      · rename_i q
        rw [if_pos q] at h
        obtain ⟨c0, c1, c2⟩ := h
        exact ⟨c0, by rw [b1]; exact c1, by rw [b2]; exact c2⟩
      · rename_i q
        rw [if_neg q] at h
        obtain ⟨ps, e1, e2, e3, e4, e5⟩ := h
        have hfl : (ps.flatten.length : Int) = rest.length := by rw [e2]
        have hr : ps = [] ∨ ps.length = a := Or.inr e1
        by_cases a4 : a ≤ 4
        · refine ⟨ps, e1, e2, by rw [b1]; exact hX _ _ e3, by rw [b2]; exact e4, ?_⟩
          refine PcR_cg ps 0 _ (fun i _ hi => h2 _ (by omega) (by omega)) (fun x p hx hp hR => ih x p (fun i i1 i2 => h1 i (by omega) (by omega)) (fun i i1 i2 => h2 i (by omega) (by omega)) hR) e5
        · exact absurd a4 (by omega)
theorem vmC_app : ∀ (a b : List Cd), vmC (a ++ b) = vmC a ||| vmC b := by
  intro a
  induction a with
  | nil => intro b; exact (Nat.zero_or _).symm
  | cons c r ih =>
    intro b
    show _ ||| vmC (r ++ b) = (_ ||| vmC r) ||| vmC b
    rw [ih b, Nat.or_assoc]
/-- the bits of the parts, one part after the other -/
theorem orV_vm (v0 : Nat) (ps : List (List Cd)) : ∀ j : Nat, j ≤ ps.length → orV (fun i => vmC (ps.getD i [])) v0 j = v0 ||| vmC (ps.take j).flatten := by
  intro j
  induction j with
  | zero => intro _; exact (Nat.or_zero _).symm
  | succ j ih =>
    intro h
    show orV _ v0 j ||| vmC (ps.getD j []) = _
    have e : (ps.take (j + 1)).flatten = (ps.take j).flatten ++ ps.getD j [] := by
      rw [List.take_add_one, List.flatten_append, List.getD_eq_getElem?_getD, List.getElem?_eq_getElem (by omega)]
      simp
    rw [ih (by omega), e, vmC_app, Nat.or_assoc]
section CP6
variable {d : Nat} {Q : Option Value ⊕ Nat → am_Mem → Prop} {μ : am_Mem} {m l : PM} {s : Nat}
theorem k_close (H : CS μ) (hs : s = 22 ∨ s = 42) (hS : am_F μ 62 1 = s) (hp : 0 ≤ m 62 2 ∧ m 62 2 < 2001) (hi : iR (m 19 (m 62 2))) (q0 : ¬ m 19 (m 62 2) = 1 → Q (.inl (some (.int (zI 0)))) (sA μ m l)) (q1 : m 19 (m 62 2) = 1 → Q (.inl (some (.int (zI 1)))) (sA μ (up m 62 2 (m 62 2 + 1)) l)) : Wp d 61 (0, [some (.ref 62), none], [], sA μ m l) Q := by
  refine K61_0 H hs hS ⟨hp, hi, fun v1 e1 => ?_⟩
  by_cases c : m 19 (m 62 2) = 1
  · rw [if_neg (not_not_intro c)] at e1
    rw [e1]
    refine ⟨fun z => absurd z (by decide), fun _ m2 e2 => ?_⟩
    rw [e2]
    exact q1 c
  · rw [if_pos c] at e1
    rw [e1]
    exact ⟨fun _ => q0 c, fun z => absurd rfl z⟩
end CP6
