/-! ===== the reference's findRoles: its small loops ===== -/
section RFR
variable {d : Nat} {μ : am_Mem} {l : PM} {Q : Option Value ⊕ Nat → am_Mem → Prop} {x1 x2 x3 : Int}
/-- a role's text is kept -/
theorem fr_132 {m0 : PM} {L : List Int} {k : Nat} (H : RS μ) (hr : RwL m0 L) (hL : L.length ≤ 3000) (hk : k < 4) (e70 : m0 125 70 = (k : Int)) (hq : ∀ (m' : PM), m' 125 70 = (k : Int) + 1 → (∀ i : Nat, i < 3000 → m' 170 (3000 * (k : Int) + i) = L.getD i 0) → (∀ c j, ¬ ((c = 170 ∧ 3000 * (k : Int) ≤ j) ∨ (c = 125 ∧ j = 70)) → m' c j = m0 c j) → (∀ j, j < 3000 * (k : Int) → m' 170 j = m0 170 j) → ∀ o4 : Option Value, Wp (d + 3) 201 (11, [some (.ref 125), some (.int (zI (x1 + 1))), some (.int (zI x2)), some (.int (zI x3)), o4], [], sA μ m' l) Q) : ∀ (f i : Nat) (m : PM), i + f = 3000 → (∀ j : Nat, j < i → m 170 (3000 * (k : Int) + j) = L.getD j 0) → (∀ c j, ¬ (c = 170 ∧ 3000 * (k : Int) ≤ j) → m c j = m0 c j) → Wp (d + 3) 201 (132, [some (.ref 125), some (.int (zI x1)), some (.int (zI x2)), some (.int (zI x3)), some (.int (zI (i : Int)))], [], sA μ m l) Q := by
  intro f
  induction f with
  | zero =>
    intro i m hi g1 g2
    have e : m 125 70 = (k : Int) := by rw [g2 _ _ (by omega)]; exact e70
    refine R201_132 H ⟨⟨by omega, by omega⟩, fun _ => ?_, fun y => by omega⟩
    rw [e]
    rintro m1 rfl
    refine hq _ (up_s _ _ _ _) (fun j hj => by rw [up_c (by decide)]; exact g1 j (by omega)) (fun c j y => by rw [up_o (by omega)]; exact g2 c j (by omega)) (fun j hj => by rw [up_c (by decide)]; exact g2 _ _ (by omega)) _
  | succ f ih =>
    intro i m hi g1 g2
    have e : m 125 70 = (k : Int) := by rw [g2 _ _ (by omega)]; exact e70
    have e80 : m 125 80 = (L.length : Int) := by rw [g2 _ _ (by omega)]; exact hr.1
    refine R201_132 H ⟨⟨by omega, by omega⟩, fun y => by omega, fun _ => ⟨by rw [e80]; exact ⟨by omega, by omega⟩, ⟨fun _ => trivial, fun _ => ⟨⟨by omega, by omega⟩, trivial⟩⟩, ?_⟩⟩
    rw [e, e80]
    rintro v2 e2 v3 e3
    refine ⟨⟨by omega, by omega⟩, ?_⟩
    rintro m4 e4
    have ev : v3 = L.getD i 0 := by
      rw [e3]
      by_cases y : (L.length : Int) ≤ (i : Int)
      · rw [if_pos y, List.getD_eq_getElem?_getD, List.getElem?_eq_none (by omega)]
        rfl
      · rw [if_neg y, g2 _ _ (by omega)]
        exact hr.2 i (by omega)
    have z := ih (i + 1) m4 (by omega) (fun j hj => by
      by_cases y : j = i
      · rw [y, e4, e2, up_s]
        exact ev
      · rw [e4, up_i (by omega)]
        exact g1 j (by omega)) (fun c j y => by rw [e4, up_o (by omega)]; exact g2 c j y)
    exact z
/-- is the role there already -/
theorem fr_74 {m : PM} {k : Nat} (H : RS μ) (hk : k ≤ 4) (e70 : m 125 70 = (k : Int)) (hR : ∀ j, iR (m 175 j)) (hx : iR x2) (hq : Wp (d + 3) 201 (74, [some (.ref 125), some (.int (zI x1)), some (.int (zI x2)), some (.int (zI (bP (∃ j : Nat, j < k ∧ m 175 j = x2)))), some (.int (zI (k : Int)))], [], sA μ m l) Q) : ∀ (f i : Nat), i + f = k → Wp (d + 3) 201 (74, [some (.ref 125), some (.int (zI x1)), some (.int (zI x2)), some (.int (zI (bP (∃ j : Nat, j < i ∧ m 175 j = x2)))), some (.int (zI (i : Int)))], [], sA μ m l) Q := by
  intro f
  induction f with
  | zero =>
    intro i hi
    rw [show i = k by omega]
    exact hq
  | succ f ih =>
    intro i hi
    refine R201_74 H ⟨⟨by omega, by omega⟩, by rw [e70]; exact ⟨by omega, by omega⟩, fun y => by omega, fun _ => ⟨bP_R _, ⟨fun _ => trivial, fun _ => ⟨⟨by omega, by omega⟩, hR _, hx, trivial⟩⟩, ?_⟩⟩
    rintro v2 e2
    have ev : v2 = bP (∃ j : Nat, j < i + 1 ∧ m 175 j = x2) := by
      rw [e2]
      by_cases y : ∃ j : Nat, j < i ∧ m 175 j = x2
      · rw [if_pos (by rw [bP_1 y]; decide)]
        obtain ⟨j, j1, j2⟩ := y
        exact (bP_1 ⟨j, by omega, j2⟩).symm
      · rw [if_neg (fun w => w (bP_0 y))]
        by_cases z : m 175 (i : Int) = x2
        · rw [if_neg (fun w => w z)]
          exact (bP_1 ⟨i, by omega, z⟩).symm
        · rw [if_pos z]
          refine (bP_0 ?_).symm
          rintro ⟨j, j1, j2⟩
          by_cases w : j = i
          · rw [w] at j2
            exact z j2
          · exact y ⟨j, by omega, j2⟩
    rw [ev]
    exact ih (i + 1) (by omega)
end RFR
