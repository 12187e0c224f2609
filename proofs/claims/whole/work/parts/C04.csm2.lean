/-! ===== the class's relations and terms ===== -/
def GAc (s : Nat) (m : PM) (a : Int) : Prop := (0 ≤ a ∧ a < 1024) ∧ (0 ≤ m (s + 7) a ∧ m (s + 7) a ≤ 4) ∧ ∀ k, 0 ≤ k → k < m (s + 7) a → GNc s m (m (s + 8) (4 * a + k))
def hcP (s : Nat) (m : PM) (a y : Int) : Prop := ∃ k, 0 ≤ k ∧ k < m (s + 7) a ∧ acP s m (m (s + 8) (4 * a + k)) y
section CK2
variable {d : Nat} {μ : am_Mem} {m l : PM} {s : Nat}
theorem k_relOf (H : CS μ) (hs : s = 22 ∨ s = 42) (hS : am_F μ 65 1 = s) {x1 x2 : Int} (g : 0 ≤ (8 * x1) + x2 ∧ (8 * x1) + x2 < 480) (g2 : 0 ≤ m (s + 12) ((8 * x1) + x2) ∧ m (s + 12) ((8 * x1) + x2) < 1024) : Wp (d + 1) 6 (0, [some (.ref 65), some (.int (zI x1)), some (.int (zI x2))], [], sA μ m l) (pI (fun y μ' => y = zI (m (s + 6) (m (s + 12) ((8 * x1) + x2))) ∧ μ' = sA μ m l) noX) := by
  refine K6_0 H hs hS ⟨g, fun v1 e1 => ?_⟩
  rw [e1]
  exact ⟨g2, rfl, rfl⟩
theorem k_orelOf (H : CS μ) (hs : s = 22 ∨ s = 42) (hS : am_F μ 65 1 = s) {x1 x2 : Int} (g : 0 ≤ (8 * x1) + x2 ∧ (8 * x1) + x2 < 480) (g2 : 0 ≤ m (s + 15) ((8 * x1) + x2) ∧ m (s + 15) ((8 * x1) + x2) < 1024) : Wp (d + 1) 8 (0, [some (.ref 65), some (.int (zI x1)), some (.int (zI x2))], [], sA μ m l) (pI (fun y μ' => y = zI (m (s + 6) (m (s + 15) ((8 * x1) + x2))) ∧ μ' = sA μ m l) noX) := by
  refine K8_0 H hs hS ⟨g, fun v1 e1 => ?_⟩
  rw [e1]
  exact ⟨g2, rfl, rfl⟩
theorem k_restsOn (H : CS μ) (hs : s = 22 ∨ s = 42) (hS : am_F μ 65 1 = s) {x1 x2 : Int} (g : GDp m x1 x2) : Wp (d + 1) 15 (0, [some (.ref 65), some (.int (zI x1)), some (.int (zI x2))], [], sA μ m l) (pI (fun y μ' => y = zI (bP (x1 = x2 ∨ dpP m l x1 x2)) ∧ μ' = sA μ m l) noX) := by
  have g' := g
  obtain ⟨⟨g1, g2, g3⟩, g4, g5, g6⟩ := g'
  refine K15_0 H hs hS ⟨by unfold iR; omega, by unfold iR; omega, ⟨fun _ => trivial, fun _ => ⟨g, trivial⟩⟩, fun v1 e1 => ⟨?_, rfl⟩⟩
  rw [e1]
  by_cases c : x1 = x2
  · rw [if_pos c, bP_1 (Or.inl c)]
  · rw [if_neg c]
    by_cases c2 : dpP m l x1 x2
    · rw [if_neg (by rw [bP_1 c2]; decide), bP_1 (Or.inr c2)]
    · rw [if_pos (by rw [bP_0 c2]), bP_0]
      rintro (z | z)
      · exact c z
      · exact c2 z
theorem hc_2 (H : CS μ) (hs : s = 22 ∨ s = 42) (hS : am_F μ 65 1 = s) {x1 x2 : Int} (g1 : GAc s m x1) (g2 : GNc s m x2) : ∀ (f : Nat) (k : Int), 0 ≤ k → k + f = m (s + 7) x1 → (¬ ∃ j, 0 ≤ j ∧ j < k ∧ acP s m (m (s + 8) (4 * x1 + j)) x2) → Wp (d + 1) 19 (2, [some (.ref 65), some (.int (zI x1)), some (.int (zI x2)), some (.int (zI k))], [], sA μ m l) (pI (fun y μ' => y = zI (bP (hcP s m x1 x2)) ∧ μ' = sA μ m l) noX) := by
  obtain ⟨a1, a2, a3⟩ := g1
  intro f
  induction f with
  | zero =>
    intro k hk hf h
    have ek : k = m (s + 7) x1 := by omega
    refine K19_2 H hs hS ⟨a1, by unfold iR; omega, by unfold iR; omega, fun _ => ⟨?_, rfl⟩, fun z => absurd (by omega) z⟩
    rw [bP_0]
    rw [ek] at h
    exact h
  | succ f ih =>
    intro k hk hf h
    refine K19_2 H hs hS ⟨a1, by unfold iR; omega, by unfold iR; omega, fun z => absurd z (by omega), fun _ => ⟨by omega, a3 k hk (by omega), g2, fun v1 e1 => ⟨fun z => ?_, fun z => ⟨?_, rfl⟩⟩⟩⟩
    · rw [e1] at z
      have z' := bP_z.mp z
      refine ih (k + 1) (by omega) (by omega) ?_
      rintro ⟨j, j0, j1, w⟩
      by_cases c : j = k
      · rw [c] at w; exact z' w
      · exact h ⟨j, j0, by omega, w⟩
    · rw [e1] at z
      have z' : acP s m (m (s + 8) (4 * x1 + k)) x2 := Classical.byContradiction fun w => z (bP_z.mpr w)
      rw [bP_1 ⟨k, hk, by omega, z'⟩]
theorem k_hasTerm (H : CS μ) (hs : s = 22 ∨ s = 42) (hS : am_F μ 65 1 = s) {x1 x2 : Int} (g1 : GAc s m x1) (g2 : GNc s m x2) : Wp (d + 1) 19 (0, [some (.ref 65), some (.int (zI x1)), some (.int (zI x2)), none], [], sA μ m l) (pI (fun y μ' => y = zI (bP (hcP s m x1 x2)) ∧ μ' = sA μ m l) noX) := by
  refine K19_0 H hs hS ?_
  have h := g1.2.1
  exact hc_2 H hs hS g1 g2 (m (s + 7) x1).toNat 0 (Int.le_refl _) (by omega) (fun ⟨j, j0, j1, _⟩ => by omega)
end CK2
/-! like terms are like nodes -/
/-- the form of a term's codes -/
def wfS : Nat → List Cd → Prop
  | 0, _ => False
  | f + 1, cs => match cs with
    | [] => False
    | (a, _) :: rest => if 5 ≤ a then rest = [] else ∃ ps : List (List Cd), ps.length = a ∧ ps.flatten = rest ∧ ∀ p, p ∈ ps → wfS f p
theorem wfS_list {f : Nat} (ih : ∀ (p q u v : List Cd), wfS f p → wfS f q → p ++ u = q ++ v → p = q ∧ u = v) : ∀ (ps qs : List (List Cd)) (u v : List Cd), ps.length = qs.length → (∀ p, p ∈ ps → wfS f p) → (∀ p, p ∈ qs → wfS f p) → ps.flatten ++ u = qs.flatten ++ v → ps = qs ∧ u = v := by
  intro ps
  induction ps with
  | nil =>
    intro qs u v hl _ _ h
    cases qs with
    | nil => exact ⟨rfl, h⟩
    | cons q qs => exact absurd hl (by simp)
  | cons p ps ihp =>
    intro qs u v hl h1 h2 h
    cases qs with
    | nil => exact absurd hl (by simp)
    | cons q qs =>
      have e : p ++ (ps.flatten ++ u) = q ++ (qs.flatten ++ v) := by
        have h' := h
        simp only [List.flatten_cons, List.append_assoc] at h'
        exact h'
      obtain ⟨e1, e2⟩ := ih p q _ _ (h1 p (by simp)) (h2 q (by simp)) e
      obtain ⟨e3, e4⟩ := ihp qs u v (by simpa using hl) (fun x hx => h1 x (by simp [hx])) (fun x hx => h2 x (by simp [hx])) e2
      rw [e1, e3]
      exact ⟨rfl, e4⟩
theorem wfS_pre : ∀ (f : Nat) (p q u v : List Cd), wfS f p → wfS f q → p ++ u = q ++ v → p = q ∧ u = v := by
  intro f
  induction f with
  | zero => intro p q u v h; exact absurd h (fun z => z)
  | succ f ih =>
    intro p q u v hp hq h
    cases p with
    | nil => exact absurd hp (fun z => z)
    | cons c rest =>
      cases q with
      | nil => exact absurd hq (fun z => z)
      | cons c' rest' =>
        obtain ⟨a, w⟩ := c
        obtain ⟨a', w'⟩ := c'
        have hc : (a, w) = (a', w') ∧ rest ++ u = rest' ++ v := by
          have h' : (a, w) :: (rest ++ u) = (a', w') :: (rest' ++ v) := h
          exact ⟨List.head_eq_of_cons_eq h', List.tail_eq_of_cons_eq h'⟩
        have ea : a = a' := congrArg Prod.fst hc.1
        unfold wfS at hp hq
        simp only at hp hq
        by_cases c5 : 5 ≤ a
        · rw [if_pos c5] at hp
          rw [if_pos (by omega)] at hq
          rw [hp, hq] at hc ⊢
          rw [hc.1]
          exact ⟨rfl, hc.2⟩
        · rw [if_neg c5] at hp
          rw [if_neg (by omega)] at hq
          obtain ⟨ps, p1, p2, p3⟩ := hp
          obtain ⟨qs, q1, q2, q3⟩ := hq
          have z := wfS_list ih ps qs u v (by omega) p3 q3 (by rw [p2, q2]; exact hc.2)
          rw [hc.1, ← p2, ← q2, z.1]
          exact ⟨rfl, z.2⟩
theorem PcR_all {R : Int → List Cd → Prop} {P : List Cd → Prop} {r : Int → Int} {w : Int} (h : ∀ x p, R x p → P p) : ∀ (ps : List (List Cd)) (j : Nat) (k : Int), PcR R r w j k ps → ∀ p, p ∈ ps → P p := by
  intro ps
  induction ps with
  | nil => intro j k _ p hp; exact absurd hp List.not_mem_nil
  | cons q ps ih =>
    intro j k hh p hp
    obtain ⟨a1, a2, a3⟩ := hh
    rcases List.mem_cons.mp hp with e | e
    · rw [e]; exact h _ _ a2
    · exact ih _ _ a3 p e
theorem TcR_wf {X : Int → List Int → Prop} {s : Nat} {m : PM} : ∀ (f : Nat) (k : Int) (cs : List Cd), TcR X s f m k cs → wfS f cs := by
  intro f
  induction f with
  | zero => intro k cs h; exact absurd h (fun z => z)
  | succ f ih =>
    intro k cs h
    cases cs with
    | nil => exact absurd h (fun z => z)
    | cons c rest =>
      obtain ⟨a, w⟩ := c
      unfold TcR at h
      unfold wfS
      simp only at h ⊢
      have h3 := h.2.2
      split
      · rename_i q
        rw [if_pos q] at h3
        exact h3.1
      · rename_i q
        rw [if_neg q] at h3
        obtain ⟨ps, e1, e2, e3, e4, e5⟩ := h3
        exact ⟨ps, e1, e2, PcR_all (fun x p hx => ih x p hx) ps 0 _ e5⟩
/-- the last part -/
theorem PcR_last {R : Int → List Cd → Prop} {r : Int → Int} {w : Int} {p : List Cd} : ∀ (ps : List (List Cd)) (j : Nat) (k : Int), PcR R r w j k (ps ++ [p]) → PcR R r w j k ps ∧ R (k + (ps.flatten.length : Int) + (p.length : Int) - 1) p := by
  intro ps
  induction ps with
  | nil =>
    intro j k h
    have h' : PcR R r w j k [p] := h
    refine ⟨trivial, ?_⟩
    rw [show k + (([] : List (List Cd)).flatten.length : Int) + (p.length : Int) - 1 = k + (p.length : Int) - 1 by simp]
    exact h'.2.1
  | cons q ps ih =>
    intro j k h
    obtain ⟨a1, a2, a3⟩ := h
    obtain ⟨b1, b2⟩ := ih (j + 1) _ a3
    have hl : ((q :: ps).flatten.length : Int) = q.length + ps.flatten.length := by simp
    refine ⟨⟨a1, a2, b1⟩, ?_⟩
    rw [hl, show k + ((q.length : Int) + (ps.flatten.length : Int)) + (p.length : Int) - 1 = k + (q.length : Int) + (ps.flatten.length : Int) + (p.length : Int) - 1 by omega]
    exact b2
/-- labels and numbers of parts alike over n nodes down from x and y -/
def Wnd (s : Nat) (m : PM) (x y : Int) (n : Int) : Prop := ∀ i, 0 ≤ i → i < n → m (s + 6) (x - i) = m (s + 6) (y - i) ∧ m (s + 7) (x - i) = m (s + 7) (y - i)
section WND
variable {X : Int → List Int → Prop} {s : Nat} {m : PM}
theorem wnd_list {f : Nat} (ih : ∀ (x y : Int) (p q : List Cd) (n : Int), TcR X s f m x p → TcR X s f m y q → (∀ c, c ∈ p → 5 ≤ c.1 → c.2 = []) → (∀ c, c ∈ q → 5 ≤ c.1 → c.2 = []) → (p.length : Int) ≤ n → (q.length : Int) ≤ n → Wnd s m x y n → p = q) : ∀ (N : Nat) (ps qs : List (List Cd)) (r r' : Int → Int) (w w' k k' n : Int), ps.length = N → qs.length = N → PcR (TcR X s f m) r w 0 k ps → PcR (TcR X s f m) r' w' 0 k' qs → (∀ c, c ∈ ps.flatten → 5 ≤ c.1 → c.2 = []) → (∀ c, c ∈ qs.flatten → 5 ≤ c.1 → c.2 = []) → (ps.flatten.length : Int) ≤ n → (qs.flatten.length : Int) ≤ n → Wnd s m (k + (ps.flatten.length : Int) - 1) (k' + (qs.flatten.length : Int) - 1) n → ps = qs := by
  intro N
  induction N with
  | zero =>
    intro ps qs r r' w w' k k' n h1 h2 _ _ _ _ _ _ _
    rw [List.eq_nil_of_length_eq_zero h1, List.eq_nil_of_length_eq_zero h2]
  | succ N ihN =>
    intro ps qs r r' w w' k k' n h1 h2 p1 p2 v1 v2 l1 l2 hw
    have np : ps ≠ [] := by intro z; rw [z] at h1; exact absurd h1 (by simp)
    have nq : qs ≠ [] := by intro z; rw [z] at h2; exact absurd h2 (by simp)
    obtain ⟨a, ep⟩ : ∃ a, ps = ps.dropLast ++ [a] := ⟨_, (List.dropLast_concat_getLast np).symm⟩
    obtain ⟨b, eq⟩ : ∃ b, qs = qs.dropLast ++ [b] := ⟨_, (List.dropLast_concat_getLast nq).symm⟩
    generalize ps.dropLast = ps0 at ep
    generalize qs.dropLast = qs0 at eq
    subst ep
    subst eq
    have f1 : ((ps0 ++ [a]).flatten.length : Int) = ps0.flatten.length + a.length := by simp
    have f2 : ((qs0 ++ [b]).flatten.length : Int) = qs0.flatten.length + b.length := by simp
    obtain ⟨c1, c2⟩ := PcR_last ps0 0 k p1
    obtain ⟨d1, d2⟩ := PcR_last qs0 0 k' p2
    have e1 : (ps0 ++ [a]).flatten = ps0.flatten ++ a := by simp
    have e2 : (qs0 ++ [b]).flatten = qs0.flatten ++ b := by simp
    rw [e1] at v1
    rw [e2] at v2
    rw [f1] at l1 hw
    rw [f2] at l2 hw
    have ea : a = b := ih _ _ a b n c2 d2 (fun c hc => v1 c (List.mem_append_right _ hc)) (fun c hc => v2 c (List.mem_append_right _ hc)) (by omega) (by omega) (by
      intro i i0 i1
      have z := hw i i0 i1
      rw [show k + ((ps0.flatten.length : Int) + (a.length : Int)) - 1 = k + (ps0.flatten.length : Int) + (a.length : Int) - 1 by omega, show k' + ((qs0.flatten.length : Int) + (b.length : Int)) - 1 = k' + (qs0.flatten.length : Int) + (b.length : Int) - 1 by omega] at z
      exact z)
    subst ea
    have e0 : ps0 = qs0 := ihN ps0 qs0 r r' w w' k k' (n - a.length) (by simpa using h1) (by simpa using h2) c1 d1 (fun c hc => v1 c (List.mem_append_left _ hc)) (fun c hc => v2 c (List.mem_append_left _ hc)) (by omega) (by omega) (by
      intro i i0 i1
      have z := hw (i + a.length) (by omega) (by omega)
      rw [show k + ((ps0.flatten.length : Int) + (a.length : Int)) - 1 - (i + (a.length : Int)) = k + (ps0.flatten.length : Int) - 1 - i by omega, show k' + ((qs0.flatten.length : Int) + (a.length : Int)) - 1 - (i + (a.length : Int)) = k' + (qs0.flatten.length : Int) - 1 - i by omega] at z
      exact z)
    rw [e0]
theorem wnd_eq (hX : XP X) : ∀ (f : Nat) (x y : Int) (p q : List Cd) (n : Int), TcR X s f m x p → TcR X s f m y q → (∀ c, c ∈ p → 5 ≤ c.1 → c.2 = []) → (∀ c, c ∈ q → 5 ≤ c.1 → c.2 = []) → (p.length : Int) ≤ n → (q.length : Int) ≤ n → Wnd s m x y n → p = q := by
  intro f
  induction f with
  | zero => intro x y p q n h; exact absurd h (fun z => z)
  | succ f ih =>
    intro x y p q n hp hq v1 v2 l1 l2 hw
    cases p with
    | nil => exact absurd hp (fun z => z)
    | cons c rest =>
      cases q with
      | nil => exact absurd hq (fun z => z)
      | cons c' rest' =>
        obtain ⟨a, w⟩ := c
        obtain ⟨a', w'⟩ := c'
        have len1 : (((a, w) :: rest : List Cd).length : Int) = rest.length + 1 := by simp
        have len2 : (((a', w') :: rest' : List Cd).length : Int) = rest'.length + 1 := by simp
        obtain ⟨t1, t2⟩ := hw 0 (Int.le_refl _) (by omega)
        rw [Int.sub_zero, Int.sub_zero] at t1 t2
        unfold TcR at hp hq
        simp only at hp hq
        obtain ⟨_, _, hp3⟩ := hp
        obtain ⟨_, _, hq3⟩ := hq
        by_cases c5 : 5 ≤ a
        · rw [if_pos c5] at hp3
          by_cases c5' : 5 ≤ a'
          · rw [if_pos c5'] at hq3
            have ea : a = a' := by omega
            have ew : w = [] := v1 (a, w) (by simp) c5
            have ew' : w' = [] := v2 (a', w') (by simp) c5'
            rw [hp3.1, hq3.1, ea, ew, ew']
          · rw [if_neg c5'] at hq3
            obtain ⟨qs, q1, q2, q3, q4, q5⟩ := hq3
            have := (hX.1 _ _ q3).1
            omega
        · rw [if_neg c5] at hp3
          obtain ⟨ps, p1, p2, p3, p4, p5⟩ := hp3
          by_cases c5' : 5 ≤ a'
          · rw [if_pos c5'] at hq3
            have := (hX.1 _ _ p3).1
            omega
          · rw [if_neg c5'] at hq3
            obtain ⟨qs, q1, q2, q3, q4, q5⟩ := hq3
            have ea : a = a' := by omega
            rw [t1] at p3
            have ew : w = w' := hX.2.1 _ _ _ p3 q3
            have e0 : ps = qs := by
              refine wnd_list ih ps.length ps qs _ _ _ _ _ _ (n - 1) rfl (by omega) p5 q5 (fun c hc => v1 c (by rw [p2] at hc; simp [hc])) (fun c hc => v2 c (by rw [q2] at hc; simp [hc])) (by rw [p2]; omega) (by rw [q2]; omega) ?_
              intro i i0 i1
              have z := hw (i + 1) (by omega) (by omega)
              rw [p2, q2, show x - (rest.length : Int) + (rest.length : Int) - 1 - i = x - (i + 1) by omega, show y - (rest'.length : Int) + (rest'.length : Int) - 1 - i = y - (i + 1) by omega]
              exact z
            rw [ea, ew, ← p2, ← q2, e0]
theorem eq_wlist {f : Nat} (ih : ∀ (x y : Int) (p : List Cd), TcR X s f m x p → TcR X s f m y p → Wnd s m x y p.length) : ∀ (N : Nat) (ps : List (List Cd)) (r r' : Int → Int) (w w' k k' : Int), ps.length = N → PcR (TcR X s f m) r w 0 k ps → PcR (TcR X s f m) r' w' 0 k' ps → Wnd s m (k + (ps.flatten.length : Int) - 1) (k' + (ps.flatten.length : Int) - 1) ps.flatten.length := by
  intro N
  induction N with
  | zero =>
    intro ps r r' w w' k k' h1 _ _ i i0 i1
    rw [List.eq_nil_of_length_eq_zero h1] at i1
    have : ((([] : List (List Cd)).flatten.length : Nat) : Int) = 0 := rfl
    omega
  | succ N ihN =>
    intro ps r r' w w' k k' h1 p1 p2 i i0 i1
    have np : ps ≠ [] := by intro z; rw [z] at h1; exact absurd h1 (by simp)
    obtain ⟨a, ep⟩ : ∃ a, ps = ps.dropLast ++ [a] := ⟨_, (List.dropLast_concat_getLast np).symm⟩
    generalize ps.dropLast = ps0 at ep
    subst ep
    have f1 : ((ps0 ++ [a]).flatten.length : Int) = ps0.flatten.length + a.length := by simp
    obtain ⟨c1, c2⟩ := PcR_last ps0 0 k p1
    obtain ⟨d1, d2⟩ := PcR_last ps0 0 k' p2
    rw [f1] at i1 ⊢
    by_cases c : i < a.length
    · have z := ih _ _ a c2 d2 i i0 c
      rw [show k + ((ps0.flatten.length : Int) + (a.length : Int)) - 1 = k + (ps0.flatten.length : Int) + (a.length : Int) - 1 by omega, show k' + ((ps0.flatten.length : Int) + (a.length : Int)) - 1 = k' + (ps0.flatten.length : Int) + (a.length : Int) - 1 by omega]
      exact z
    · have z := ihN ps0 r r' w w' k k' (by simpa using h1) c1 d1 (i - a.length) (by omega) (by omega)
      rw [show k + (ps0.flatten.length : Int) - 1 - (i - (a.length : Int)) = k + ((ps0.flatten.length : Int) + (a.length : Int)) - 1 - i by omega, show k' + (ps0.flatten.length : Int) - 1 - (i - (a.length : Int)) = k' + ((ps0.flatten.length : Int) + (a.length : Int)) - 1 - i by omega] at z
      exact z
theorem eq_wnd (hX : XP X) : ∀ (f : Nat) (x y : Int) (p : List Cd), TcR X s f m x p → TcR X s f m y p → Wnd s m x y p.length := by
  intro f
  induction f with
  | zero => intro x y p h; exact absurd h (fun z => z)
  | succ f ih =>
    intro x y p hp hq
    cases p with
    | nil => exact absurd hp (fun z => z)
    | cons c rest =>
      obtain ⟨a, w⟩ := c
      have len1 : (((a, w) :: rest : List Cd).length : Int) = rest.length + 1 := by simp
      unfold TcR at hp hq
      simp only at hp hq
      obtain ⟨_, _, hp3⟩ := hp
      obtain ⟨_, _, hq3⟩ := hq
      intro i i0 i1
      by_cases c5 : 5 ≤ a
      · rw [if_pos c5] at hp3 hq3
        have hr : rest.length = 0 := by rw [hp3.1]; rfl
        have ei : i = 0 := by omega
        rw [ei, Int.sub_zero, Int.sub_zero]
        exact ⟨by omega, by omega⟩
      · rw [if_neg c5] at hp3 hq3
        obtain ⟨ps, p1, p2, p3, p4, p5⟩ := hp3
        obtain ⟨qs, q1, q2, q3, q4, q5⟩ := hq3
        have e0 : ps = qs := by
          have z := wfS_list (wfS_pre f) ps qs [] [] (by omega) (PcR_all (fun x p hx => TcR_wf f x p hx) ps 0 _ p5) (PcR_all (fun x p hx => TcR_wf f x p hx) qs 0 _ q5) (by rw [p2, q2])
          exact z.1
        subst e0
        by_cases ei : i = 0
        · rw [ei, Int.sub_zero, Int.sub_zero]
          exact ⟨hX.2.2.1 _ _ _ p3 q3, by omega⟩
        · have z := eq_wlist ih ps.length ps _ _ _ _ _ _ rfl p5 q5 (i - 1) (by omega) (by rw [p2]; omega)
          rw [p2, show x - (rest.length : Int) + (rest.length : Int) - 1 - (i - 1) = x - i by omega, show y - (rest.length : Int) + (rest.length : Int) - 1 - (i - 1) = y - i by omega] at z
          exact z
/-- like nodes, like terms -/
theorem tc_al (hX : XP X) {f : Nat} {x y : Int} {p q : List Cd} (hp : TcR X s f m x p) (hq : TcR X s f m y q) (v1 : ∀ c, c ∈ p → 5 ≤ c.1 → c.2 = []) (v2 : ∀ c, c ∈ q → 5 ≤ c.1 → c.2 = []) : acP s m x y ↔ p = q := by
  obtain ⟨t1, t2, t3⟩ := TcR_top hp
  obtain ⟨u1, u2, u3⟩ := TcR_top hq
  unfold acP
  rw [t3, u3]
  constructor
  · rintro ⟨e1, e2⟩
    refine wnd_eq hX f x y p q p.length hp hq v1 v2 (Int.le_refl _) (by omega) (fun i i0 i1 => ?_)
    have z := e2 ((p.length : Int) - 1 - i) (by omega) (by omega)
    rw [show x + 1 - (p.length : Int) + ((p.length : Int) - 1 - i) = x - i by omega, show y + 1 - (q.length : Int) + ((p.length : Int) - 1 - i) = y - i by omega] at z
    exact z
  · intro e
    subst e
    refine ⟨by omega, fun k k0 k1 => ?_⟩
    have z := eq_wnd hX f x y p hp hq ((p.length : Int) - 1 - k) (by omega) (by omega)
    rw [show x - ((p.length : Int) - 1 - k) = x + 1 - (p.length : Int) + k by omega, show y - ((p.length : Int) - 1 - k) = y + 1 - (p.length : Int) + k by omega] at z
    exact z
end WND
