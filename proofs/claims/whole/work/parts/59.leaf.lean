/-! ===== the reference's reader: a term without parentheses is put ===== -/
/-- what is open on top: its number and how many parts it has; where its parts and their number stand -/
def Top (m : PM) (o w cnt : Int) (ct cc : Nat) : Prop := 1 ≤ o ∧ o ≤ 10 ∧ m 125 34 = o ∧ m 145 (o - 1) = w ∧ m 144 (o - 1) = cnt ∧ 0 ≤ cnt ∧ 0 ≤ w ∧ ((m 143 (o - 1) = 5 ∧ ct = 141 ∧ cc = 140 ∧ w < m 125 22 ∧ cnt < 4) ∨ (m 143 (o - 1) = 2 ∧ ct = 136 ∧ cc = 137 ∧ w < 600 ∧ cnt < 4) ∨ (m 143 (o - 1) = 4 ∧ ct = 136 ∧ cc = 137 ∧ w < 600 ∧ cnt < 2))
/-- where reading a term may write -/
abbrev ST (nd o w cnt : Int) (ct cc c : Nat) (i : Int) : Prop := (c = 125 ∧ (i = 9 ∨ i = 22 ∨ i = 28 ∨ i = 29 ∨ i = 30 ∨ i = 31 ∨ i = 34 ∨ i = 38)) ∨ c = 129 ∨ c = 130 ∨ c = 146 ∨ ((c = 138 ∨ c = 139 ∨ c = 140 ∨ c = 142) ∧ nd ≤ i) ∨ (c = 141 ∧ 4 * nd ≤ i) ∨ ((c = 143 ∨ c = 144 ∨ c = 145) ∧ o ≤ i) ∨ (c = 144 ∧ i = o - 1) ∨ (c = ct ∧ i = 4 * w + cnt) ∨ (c = cc ∧ i = w)
/-- a term has been read -/
def TP (f : Nat) (m m' : PM) (cs : List Cd) (o w cnt : Int) (ct cc : Nat) : Prop :=
  (∀ c i, ¬ ST (m 125 22) o w cnt ct cc c i → m' c i = m c i) ∧ m' 125 34 = o ∧ m' 125 22 = m 125 22 + cs.length ∧ m' ct (4 * w + cnt) = m 125 22 ∧ m' cc w = m cc w + 1 ∧ m' 144 (o - 1) = cnt + 1 ∧ TmR f m' (m 125 22) cs ∧ ∀ x w, nX m x w → nX m' x w
theorem belong_eq {m : PM} {o w cnt x : Int} {ct cc : Nat} (h34 : m 125 34 = o) (h145 : m 145 (o - 1) = w) (h144 : m 144 (o - 1) = cnt) (hp : (m 143 (o - 1) = 5 ∧ ct = 141 ∧ cc = 140) ∨ (¬ m 143 (o - 1) = 5 ∧ ct = 136 ∧ cc = 137)) : m_belong m x = up (up (up m ct (4 * w + cnt) x) cc w (m cc w + 1)) 144 (o - 1) (cnt + 1) := by
  unfold m_belong
  rw [h34, h144, h145]
  rcases hp with ⟨h, rfl, rfl⟩ | ⟨h, rfl, rfl⟩
  · rw [if_neg (fun z => z h)]
  · rw [if_pos h]
theorem Top_p {m : PM} {o w cnt : Int} {ct cc : Nat} (h : Top m o w cnt ct cc) : (m 143 (o - 1) = 5 ∧ ct = 141 ∧ cc = 140 ∧ w < m 125 22) ∨ (¬ m 143 (o - 1) = 5 ∧ ct = 136 ∧ cc = 137) := by
  rcases h.2.2.2.2.2.2.2 with ⟨a, b, c, d, _⟩ | ⟨a, b, c, d⟩ | ⟨a, b, c, d⟩
  · exact Or.inl ⟨a, b, c, d⟩
  · exact Or.inr ⟨by omega, b, c⟩
  · exact Or.inr ⟨by omega, b, c⟩
section LEAF
variable {t : Int → Int} {n : Int} {m mm : PM} {i : Nat} {vs vs' : List (List Int)} {o w cnt v x : Int} {ct cc f : Nat} {cd : Cd}
/-- the memory with a node more -/
noncomputable def leB (mm : PM) (v x : Int) : PM := m_belong (m_newNode mm v x) (mm 125 22 + 1 - 1)
theorem leB_eq (hT : Top m o w cnt ct cc) (hs : ∀ c i, ¬ (c = 129 ∨ c = 130 ∨ c = 146 ∨ (c = 125 ∧ (i = 9 ∨ i = 38))) → mm c i = m c i) : leB mm v x = up (up (up (up (up (up (up (up mm 138 (m 125 22) v) 139 (m 125 22) x) 140 (m 125 22) 0) 142 (m 125 22) (m 125 22 + 1)) 125 22 (m 125 22 + 1)) ct (4 * w + cnt) (m 125 22)) cc w (m cc w + 1)) 144 (o - 1) (cnt + 1) := by
  have hp := Top_p hT
  obtain ⟨h1, h2, h3, h4, h5, h6, h7, _⟩ := hT
  have e22 : mm 125 22 = m 125 22 := hs _ _ (by omega)
  have r1 : ∀ c i, ¬ c = 138 → ¬ c = 139 → ¬ c = 140 → ¬ c = 142 → ¬ (c = 125 ∧ i = 22) → m_newNode mm v x c i = mm c i := fun c i a b c' d e => k_newNode a b c' d e
  have f34 : m_newNode mm v x 125 34 = o := by rw [r1 _ _ (by decide) (by decide) (by decide) (by decide) (by decide), hs _ _ (by omega)]; exact h3
  have f145 : m_newNode mm v x 145 (o - 1) = w := by rw [r1 _ _ (by decide) (by decide) (by decide) (by decide) (by omega), hs _ _ (by omega)]; exact h4
  have f144 : m_newNode mm v x 144 (o - 1) = cnt := by rw [r1 _ _ (by decide) (by decide) (by decide) (by decide) (by omega), hs _ _ (by omega)]; exact h5
  have f143 : m_newNode mm v x 143 (o - 1) = m 143 (o - 1) := by rw [r1 _ _ (by decide) (by decide) (by decide) (by decide) (by omega), hs _ _ (by omega)]
  have fcc : m_newNode mm v x cc w = m cc w := by
    rcases hp with ⟨_, _, rfl, hw⟩ | ⟨_, _, rfl⟩
    · unfold m_newNode
      rw [e22, up_c (by decide), up_c (by decide), up_i (by omega), up_c (by decide), up_c (by decide), hs _ _ (by omega)]
    · rw [r1 _ _ (by decide) (by decide) (by decide) (by decide) (by omega), hs _ _ (by omega)]
  have hp2 : (m_newNode mm v x 143 (o - 1) = 5 ∧ ct = 141 ∧ cc = 140) ∨ (¬ m_newNode mm v x 143 (o - 1) = 5 ∧ ct = 136 ∧ cc = 137) := by
    rw [f143]
    rcases hp with ⟨a, b, c, _⟩ | h
    · exact Or.inl ⟨a, b, c⟩
    · exact Or.inr h
  unfold leB
  rw [belong_eq f34 f145 f144 hp2, fcc, e22]
  have e : m 125 22 + 1 - 1 = m 125 22 := by omega
  rw [e]
  unfold m_newNode
  rw [e22]
theorem leB_s (hT : Top m o w cnt ct cc) (hs : ∀ c i, ¬ (c = 129 ∨ c = 130 ∨ c = 146 ∨ (c = 125 ∧ (i = 9 ∨ i = 38))) → mm c i = m c i) : ∀ c i, ¬ ((c = 125 ∧ i = 22) ∨ ((c = 138 ∨ c = 139 ∨ c = 140 ∨ c = 142) ∧ i = m 125 22) ∨ (c = 144 ∧ i = o - 1) ∨ (c = ct ∧ i = 4 * w + cnt) ∨ (c = cc ∧ i = w)) → leB mm v x c i = mm c i := by
  intro c i h
  rw [leB_eq hT hs, up_o (by omega), up_o (by omega), up_o (by omega), up_o (by omega), up_o (by omega), up_o (by omega), up_o (by omega), up_o (by omega)]
theorem leaf_TP (hT : Top m o w cnt ct cc) (hs : ∀ c i, ¬ (c = 129 ∨ c = 130 ∨ c = 146 ∨ (c = 125 ∧ (i = 9 ∨ i = 38))) → mm c i = m c i) (hX : ∀ x w, nX m x w → nX mm x w) (hcd : (5 ≤ cd.1 ∧ v = -1 ∧ x = (cd.1 : Int) - 5) ∨ (cd.1 = 0 ∧ nX mm v cd.2 ∧ x = -1)) : TP (f + 1) m (adM (leB mm v x)) [cd] o w cnt ct cc := by
  have hp := Top_p hT
  have hS := leB_s (v := v) (x := x) hT hs
  have hE := leB_eq (v := v) (x := x) hT hs
  obtain ⟨h1, h2, h3, h4, h5, h6, h7, _⟩ := hT
  have kA : ∀ c i, ¬ (c = 125 ∧ (i = 28 ∨ i = 29 ∨ i = 30 ∨ i = 31)) → adM (leB mm v x) c i = leB mm v x c i := fun c i h => k_adM (by omega) (by omega) (by omega) (by omega)
  have hX2 : ∀ x' w', nX mm x' w' → nX (adM (leB mm v x)) x' w' := by
    intro x' w' h
    refine nX_cg ?_ (fun j => ?_) (fun j => ?_) h
    · rw [kA _ _ (by omega), hS _ _ (by rcases hp with ⟨_, rfl, rfl, _⟩ | ⟨_, rfl, rfl⟩ <;> omega)]
    · rw [kA _ _ (by omega), hS _ _ (by rcases hp with ⟨_, rfl, rfl, _⟩ | ⟨_, rfl, rfl⟩ <;> omega)]
    · rw [kA _ _ (by omega), hS _ _ (by rcases hp with ⟨_, rfl, rfl, _⟩ | ⟨_, rfl, rfl⟩ <;> omega)]
  refine ⟨fun c j h => ?_, ?_, ?_, ?_, ?_, ?_, ?_, fun x' w' h => hX2 x' w' (hX x' w' h)⟩
  · unfold ST at h
    rw [kA _ _ (by omega), hS _ _ (by omega), hs _ _ (by omega)]
  · rw [kA _ _ (by omega), hS _ _ (by rcases hp with ⟨_, rfl, rfl, _⟩ | ⟨_, rfl, rfl⟩ <;> omega), hs _ _ (by omega)]
    exact h3
  · rw [kA _ _ (by omega), hE]
    rcases hp with ⟨_, rfl, rfl, _⟩ | ⟨_, rfl, rfl⟩
    all_goals
      rw [up_c (by decide), up_c (by decide), up_c (by decide), up_s]
      rfl
  · rw [kA _ _ (by rcases hp with ⟨_, rfl, rfl, _⟩ | ⟨_, rfl, rfl⟩ <;> omega), hE]
    rcases hp with ⟨_, rfl, rfl, _⟩ | ⟨_, rfl, rfl⟩
    all_goals rw [up_c (by decide), up_c (by decide), up_s]
  · rw [kA _ _ (by rcases hp with ⟨_, rfl, rfl, _⟩ | ⟨_, rfl, rfl⟩ <;> omega), hE]
    rcases hp with ⟨_, rfl, rfl, _⟩ | ⟨_, rfl, rfl⟩
    all_goals rw [up_c (by decide), up_s]
  · rw [kA _ _ (by omega), hE, up_s]
  · have n138 : adM (leB mm v x) 138 (m 125 22) = v := by
      rw [kA _ _ (by omega), hE]
      rcases hp with ⟨_, rfl, rfl, _⟩ | ⟨_, rfl, rfl⟩
      all_goals rw [up_c (by decide), up_c (by decide), up_c (by decide), up_c (by decide), up_c (by decide), up_c (by decide), up_c (by decide), up_s]
    have n139 : adM (leB mm v x) 139 (m 125 22) = x := by
      rw [kA _ _ (by omega), hE]
      rcases hp with ⟨_, rfl, rfl, _⟩ | ⟨_, rfl, rfl⟩
      all_goals rw [up_c (by decide), up_c (by decide), up_c (by decide), up_c (by decide), up_c (by decide), up_c (by decide), up_s]
    have n140 : adM (leB mm v x) 140 (m 125 22) = 0 := by
      rw [kA _ _ (by omega), hE]
      rcases hp with ⟨_, rfl, rfl, _⟩ | ⟨_, rfl, rfl⟩
      · rw [up_c (by decide), up_i (by omega), up_c (by decide), up_c (by decide), up_c (by decide), up_s]
      · rw [up_c (by decide), up_c (by decide), up_c (by decide), up_c (by decide), up_c (by decide), up_s]
    have n142 : adM (leB mm v x) 142 (m 125 22) = m 125 22 + 1 := by
      rw [kA _ _ (by omega), hE]
      rcases hp with ⟨_, rfl, rfl, _⟩ | ⟨_, rfl, rfl⟩
      all_goals rw [up_c (by decide), up_c (by decide), up_c (by decide), up_c (by decide), up_s]
    obtain ⟨a, u⟩ := cd
    unfold TmR
    simp only
    rcases hcd with ⟨q1, q2, q3⟩ | ⟨q1, q2, q3⟩
    · rw [if_pos q1]
      exact ⟨trivial, by rw [n138]; exact q2, by rw [n139]; exact q3, n140, n142⟩
    · have q1' : a = 0 := q1
      rw [if_neg (by omega)]
      refine ⟨[], by rw [q1']; rfl, rfl, by rw [n138]; exact hX2 _ _ q2, by rw [n139]; exact q3, by rw [n140, q1']; rfl, by rw [n142]; rfl, trivial⟩
theorem leaf_BI (hB : BI t n m i vs) (hT : Top m o w cnt ct cc) (hs : ∀ c i, ¬ (c = 129 ∨ c = 130 ∨ c = 146 ∨ (c = 125 ∧ (i = 9 ∨ i = 38))) → mm c i = m c i) (hk : isN (tK t n i)) (hW : NmW mm) (hD : NmD mm) (h9 : mm 125 9 ≤ m 125 9 + 1 ∧ nmL mm = LsA (nmL m) (tW t n i)) (hv : mm 125 38 = (vs'.length : Int) ∧ vs'.length ≤ 8 ∧ ∀ j : Nat, j < vs'.length → nX mm (mm 146 j) (vs'.getD j [])) : BI t n (adM (leB mm v x)) (i + 1) vs' := by
  have hp := Top_p hT
  have hS := leB_s (v := v) (x := x) hT hs
  have hE := leB_eq (v := v) (x := x) hT hs
  obtain ⟨⟨b1, b2, b3⟩, ⟨b4, b5, b6, b7⟩, ⟨b8, b9, b10⟩, b11, b12, b13⟩ := hB
  have hnt : (nt t n (i + 1) : Int) = nt t n i + 1 := by
    show ((nt t n i + if isN (tK t n i) then 1 else 0 : Nat) : Int) = _
    rw [if_pos hk]
    omega
  have e9 : leB mm v x 125 9 = mm 125 9 := hS _ _ (by rcases hp with ⟨_, rfl, rfl, _⟩ | ⟨_, rfl, rfl⟩ <;> omega)
  have e129 : ∀ j, leB mm v x 129 j = mm 129 j := fun j => hS _ _ (by rcases hp with ⟨_, rfl, rfl, _⟩ | ⟨_, rfl, rfl⟩ <;> omega)
  have e130 : ∀ j, leB mm v x 130 j = mm 130 j := fun j => hS _ _ (by rcases hp with ⟨_, rfl, rfl, _⟩ | ⟨_, rfl, rfl⟩ <;> omega)
  have e128 : leB mm v x 128 = t := by
    funext j
    rw [hS _ _ (by rcases hp with ⟨_, rfl, rfl, _⟩ | ⟨_, rfl, rfl⟩ <;> omega), hs _ _ (by omega), b1]
  have e8 : leB mm v x 125 8 = n := by
    rw [hS _ _ (by rcases hp with ⟨_, rfl, rfl, _⟩ | ⟨_, rfl, rfl⟩ <;> omega), hs _ _ (by omega), b2]
  have e22 : leB mm v x 125 22 = m 125 22 + 1 := by
    rw [hE]
    rcases hp with ⟨_, rfl, rfl, _⟩ | ⟨_, rfl, rfl⟩
    all_goals rw [up_c (by decide), up_c (by decide), up_c (by decide), up_s]
  refine BI_adv e128 e8 (TX_cg (by rw [e8, b2]) (fun j => by rw [e128, b1]) b3) ?_ (NmW_cg e9 e129 e130 hW) (NmD_cg e9 e129 e130 hD) ⟨by rw [e9, hnt]; omega, by rw [nmL_cg e9 e129 e130, h9.2, b10.2, LsT_n hk]⟩ (by rw [e22, hnt]; omega) ⟨?_, hv.2.1, fun j hj => ?_⟩ ?_
  · rw [hS _ _ (by rcases hp with ⟨_, rfl, rfl, _⟩ | ⟨_, rfl, rfl⟩ <;> omega), hs _ _ (by omega), b7]
  · rw [hS _ _ (by rcases hp with ⟨_, rfl, rfl, _⟩ | ⟨_, rfl, rfl⟩ <;> omega)]
    exact hv.1
  · rw [hS _ _ (by rcases hp with ⟨_, rfl, rfl, _⟩ | ⟨_, rfl, rfl⟩ <;> omega)]
    exact nX_cg e9 e129 e130 (hv.2.2 j hj)
  · rw [hS _ _ (by rcases hp with ⟨_, rfl, rfl, _⟩ | ⟨_, rfl, rfl⟩ <;> omega), hs _ _ (by omega)]
    exact b13
end LEAF
