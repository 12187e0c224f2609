/-! ===== the reference: noTerms, take ===== -/
theorem psC_len (cs : List (Nat × Atm)) : (psC cs).length ≤ cs.length := List.length_filter_le _ _
section RTK
variable {d : Nat} {μ : am_Mem} {l : PM} {Q : Option Value ⊕ Nat → am_Mem → Prop}
theorem c_noTerms {m : PM} (H : RS μ) (hR : ∀ j, iR (m 151 j)) : Wp d 202 (0, [some (.ref 125), none], [], sA μ m l) (pV (fun μ' => ∃ m', μ' = sA μ m' l ∧ TtI m' 0 ∧ TtU m' 0 ∧ ∀ c j, ¬ (c = 153 ∨ (c = 125 ∧ j = 42)) → m' c j = m c j) noX) := by
  have loop : ∀ (f i : Nat) (m' : PM), i + f = 262144 → (∀ j : Nat, j < i → m' 153 j = 0) → (∀ c j, ¬ (c = 153 ∨ (c = 125 ∧ j = 42)) → m' c j = m c j) → Wp d 202 (2, [some (.ref 125), some (.int (zI (i : Int)))], [], sA μ m' l) (pV (fun μ' => ∃ m', μ' = sA μ m' l ∧ TtI m' 0 ∧ TtU m' 0 ∧ ∀ c j, ¬ (c = 153 ∨ (c = 125 ∧ j = 42)) → m' c j = m c j) noX) := by
    intro f
    induction f with
    | zero =>
      intro i m' hi g1 g2
      refine R202_2 H ⟨⟨by omega, by omega⟩, fun _ => ⟨_, rfl, ⟨up_s _ _ _ _, by decide, fun j => by rw [up_c (by decide), g2 _ _ (by omega)]; exact hR j, fun t ht => absurd ht (Nat.not_lt_zero t), fun j hj => ?_, ?_⟩, fun t t' x ps ht => absurd ht (Nat.not_lt_zero t), fun c j y => by rw [up_o (by omega)]; exact g2 c j y⟩, fun y => by omega⟩
      · rw [up_c (by decide), g1 j (by omega)]
        exact ⟨Int.le_refl _, Int.le_refl _⟩
      · refine HT_congr (by decide) (fun j hj => ?_) (fun k hk => absurd hk (Nat.not_lt_zero k)) (HT_0 262144 (fun _ => 0))
        show 0 = (up m' 125 42 0 153 j).toNat
        rw [up_c (by decide), g1 j (by omega)]
        rfl
    | succ f ih =>
      intro i m' hi g1 g2
      refine R202_2 H ⟨⟨by omega, by omega⟩, fun y => by omega, fun _ => ⟨⟨by omega, by omega⟩, ?_⟩⟩
      rintro m1 rfl
      refine ih (i + 1) _ (by omega) (fun j hj => ?_) (fun c j y => by rw [up_c (by omega)]; exact g2 c j y)
      by_cases y : j = i
      · rw [y, up_s]
      · rw [up_i (by omega)]
        exact g1 j (by omega)
  refine R202_0 H ?_
  exact loop 262144 0 m (by omega) (fun j hj => absurd hj (Nat.not_lt_zero j)) (fun _ _ _ => rfl)
theorem take_s {cs : List (Nat × Atm)} {j : Nat} (h : j < cs.length) : cs.take (j + 1) = cs.take j ++ [cs.getD j cnD] := by
  rw [List.take_succ_eq_append_getElem h, List.getD_eq_getElem?_getD, List.getElem?_eq_getElem h]
  rfl
/-- the first j conditions' positive ones are laid out -/
def TkP (m m' : PM) (b : Int) (cs : List (Nat × Atm)) (j : Nat) : Prop := m' 125 58 = ((psC (cs.take j)).length : Int) ∧ ∀ i : Nat, i < (psC (cs.take j)).length → ∃ j' : Nat, j' < j ∧ cs.getD j' cnD = (psC (cs.take j)).getD i cnD ∧ m' 161 i = m 134 (b + j')
theorem c_take {m : PM} {rs : List Rul} {r : Nat} (H : RS μ) (hv : RV m rs) (hr : r < rs.length) : Wp d 203 (0, [some (.ref 125), some (.int (zI (r : Int))), none], [], sA μ m l) (pV (fun μ' => ∃ m', μ' = sA μ m' l ∧ TkP m m' (m 132 r) (rs.getD r ruD).2 (rs.getD r ruD).2.length ∧ (∀ v : Nat, v < 8 → m' 163 v = -1 ∧ m' 164 v = -1) ∧ ∀ c j, ¬ ((c = 125 ∧ j = 58) ∨ c = 161 ∨ c = 163 ∨ c = 164) → m' c j = m c j) noX) := by
  have n60 := (RV_n hv).2.1
  obtain ⟨_, ⟨b1, b2, b3⟩, _⟩ := RV_rule hv hr
  have hok : (rs.getD r ruD).2.length ≤ 8 := (hv.2.2.2.2.2 _ (by rw [List.getD_eq_getElem?_getD, List.getElem?_eq_getElem hr]; exact List.getElem_mem hr)).2.1
  generalize hcs : (rs.getD r ruD).2 = cs at *
  have last : ∀ (f v : Nat) (m' : PM), v + f = 8 → TkP m m' (m 132 r) cs cs.length → (∀ i : Nat, i < v → m' 163 i = -1 ∧ m' 164 i = -1) → (∀ c j, ¬ ((c = 125 ∧ j = 58) ∨ c = 161 ∨ c = 163 ∨ c = 164) → m' c j = m c j) → Wp d 203 (67, [some (.ref 125), some (.int (zI (r : Int))), some (.int (zI (v : Int)))], [], sA μ m' l) (pV (fun μ' => ∃ m', μ' = sA μ m' l ∧ TkP m m' (m 132 r) cs cs.length ∧ (∀ v : Nat, v < 8 → m' 163 v = -1 ∧ m' 164 v = -1) ∧ ∀ c j, ¬ ((c = 125 ∧ j = 58) ∨ c = 161 ∨ c = 163 ∨ c = 164) → m' c j = m c j) noX) := by
    intro f
    induction f with
    | zero =>
      intro v m' hvv g1 g2 g3
      refine R203_67 H ⟨⟨by omega, by omega⟩, fun _ => ⟨m', rfl, g1, fun i hi => g2 i (by omega), g3⟩, fun y => by omega⟩
    | succ f ih =>
      intro v m' hvv g1 g2 g3
      refine R203_67 H ⟨⟨by omega, by omega⟩, fun y => by omega, fun _ => ⟨⟨by omega, by omega⟩, ?_⟩⟩
      rintro m1 rfl
      refine ih (v + 1) _ (by omega) ?_ (fun i hi => ?_) (fun c j y => by rw [up_c (by omega), up_c (by omega)]; exact g3 c j y)
      · unfold TkP at g1 ⊢
        rw [up_c (by decide), up_c (by decide)]
        refine ⟨g1.1, fun i hi => ?_⟩
        rw [up_c (by decide), up_c (by decide)]
        exact g1.2 i hi
      · by_cases y : i = v
        · rw [y, up_s, up_c (by decide), up_s]
          exact ⟨rfl, rfl⟩
        · rw [up_i (by omega), up_c (by decide), up_c (by decide), up_i (by omega)]
          exact g2 i (by omega)
  have loop : ∀ (f j : Nat) (m' : PM), j + f = cs.length → TkP m m' (m 132 r) cs j → (∀ c j, ¬ ((c = 125 ∧ j = 58) ∨ c = 161) → m' c j = m c j) → Wp d 203 (12, [some (.ref 125), some (.int (zI (r : Int))), some (.int (zI (m 132 r + (j : Int))))], [], sA μ m' l) (pV (fun μ' => ∃ m', μ' = sA μ m' l ∧ TkP m m' (m 132 r) cs cs.length ∧ (∀ v : Nat, v < 8 → m' 163 v = -1 ∧ m' 164 v = -1) ∧ ∀ c j, ¬ ((c = 125 ∧ j = 58) ∨ c = 161 ∨ c = 163 ∨ c = 164) → m' c j = m c j) noX) := by
    intro f
    induction f with
    | zero =>
      intro j m' hj g1 g2
      have e132 : m' 132 ((r : Int) + 1) = m 132 r + (cs.length : Int) := by rw [g2 _ _ (by omega)]; exact b2
      have ej : j = cs.length := by omega
      refine R203_12 H ⟨⟨by omega, by omega⟩, ⟨by omega, by omega⟩, by rw [e132]; exact ⟨by omega, by omega⟩, fun _ => ?_, fun y => by omega⟩
      rw [ej] at g1
      exact last 8 0 m' (by omega) g1 (fun i hi => absurd hi (Nat.not_lt_zero i)) (fun c j y => g2 c j (by omega))
    | succ f ih =>
      intro j m' hj g1 g2
      have e132 : m' 132 ((r : Int) + 1) = m 132 r + (cs.length : Int) := by rw [g2 _ _ (by omega)]; exact b2
      have hc := RV_cond (r := r) (j := j) hv hr (by rw [hcs]; omega)
      rw [hcs] at hc
      have hs := hc.2.1
      have e133 : m' 133 (m 132 r + (j : Int)) = ((cs.getD j cnD).1 : Int) := by rw [g2 _ _ (by omega)]; exact hs
      have h3 : (cs.getD j cnD).1 ≤ 3 := by
        rcases hc.1.2 with y | y | y
        · omega
        · omega
        · have := y.1
          omega
      have hl := psC_len (cs.take j)
      have hlt : (cs.take j).length = j := by rw [List.length_take]; omega
      refine R203_12 H ⟨⟨by omega, by omega⟩, ⟨by omega, by omega⟩, by rw [e132]; exact ⟨by omega, by omega⟩, fun y => by omega, fun _ => ⟨⟨by omega, by omega⟩, by rw [e133]; exact ⟨by omega, by omega⟩, fun y => ?_, fun y => ⟨by rw [g1.1]; exact ⟨by omega, by omega⟩, ?_⟩⟩⟩
      · have e : psC (cs.take (j + 1)) = psC (cs.take j) := by
          rw [take_s (by omega)]
          have hb : ¬ (cs.getD j cnD).1 = 1 := by rw [e133] at y; omega
          exact psC_o (b := (cs.getD j cnD).1) hb _ (cs.getD j cnD).2
        have z := ih (j + 1) m' (by omega) (by
          unfold TkP at g1 ⊢
          rw [e]
          refine ⟨g1.1, fun i hi => ?_⟩
          obtain ⟨j', j1, j2⟩ := g1.2 i hi
          exact ⟨j', by omega, j2⟩) g2
        rw [show m 132 r + (j : Int) + 1 = m 132 r + ((j + 1 : Nat) : Int) by omega]
        exact z
      · rintro m1 e1
        rw [g1.1] at e1
        have e1c : (cs.getD j cnD).1 = 1 := by rw [e133] at y; omega
        have e : psC (cs.take (j + 1)) = psC (cs.take j) ++ [cs.getD j cnD] := by
          rw [take_s (by omega)]
          have ep : cs.getD j cnD = (1, (cs.getD j cnD).2) := Prod.ext e1c rfl
          rw [ep]
          exact psC_1 _ _
        have z := ih (j + 1) m1 (by omega) (by
          unfold TkP
          rw [e, List.length_append, List.length_singleton]
          refine ⟨by rw [e1, up_s]; omega, fun i hi => ?_⟩
          by_cases w : i = (psC (cs.take j)).length
          · refine ⟨j, by omega, ?_, ?_⟩
            · rw [w, getD_r]
            · rw [e1, up_c (by decide), w, up_s, g2 _ _ (by omega)]
          · obtain ⟨j', j1, j2, j3⟩ := g1.2 i (by omega)
            refine ⟨j', by omega, ?_, ?_⟩
            · rw [getD_l _ _ _ (by omega)]
              exact j2
            · rw [e1, up_c (by decide), up_i (by omega)]
              exact j3) (fun c i y => by rw [e1, up_o (by omega), up_c (by omega)]; exact g2 c i y)
        rw [show m 132 r + (j : Int) + 1 = m 132 r + ((j + 1 : Nat) : Int) by omega]
        exact z
  refine R203_0 H ⟨⟨by omega, by omega⟩, ?_⟩
  rintro m1 rfl
  have z := loop cs.length 0 (up m 125 58 0) (by omega) ⟨up_s _ _ _ _, fun i hi => absurd hi (Nat.not_lt_zero i)⟩ (fun c j y => up_o (by omega))
  rw [show m 132 r + ((0 : Nat) : Int) = m 132 r by omega] at z
  exact z
end RTK
