/-! ===== the reference's reader: the sheet ===== -/
section SIS
variable {t : Int → Int} {n : Int} {μ : am_Mem} {l : PM}
abbrev ruD : Rul := (([], []), [])
/-- the memory holds these rules -/
def ShR (m : PM) (rs : List Rul) : Prop :=
  m 125 12 = (rs.length : Int) ∧ m 132 0 = 0 ∧ m 125 15 = m 132 (rs.length : Int) ∧ (0 ≤ m 125 15 ∧ m 125 15 ≤ 8 * (rs.length : Int)) ∧ (0 ≤ m 125 18 ∧ m 125 18 ≤ 9 * (rs.length : Int)) ∧ ∀ r : Nat, r < rs.length → RuC m ((r : Int) + 1) (m 132 r) (rs.getD r ruD).1 (rs.getD r ruD).2 ∧ m 132 ((r : Int) + 1) = m 132 r + ((rs.getD r ruD).2.length : Int) ∧ 0 ≤ m 132 r ∧ m 132 ((r : Int) + 1) ≤ m 125 15
theorem ShR_add {m m' : PM} {rs : List Rul} {ru : Rul} (hnd : 0 ≤ m 125 22) (h : ShR m rs) (hp : RuP m m' ru) : ShR m' (rs ++ [ru]) := by
  obtain ⟨h1, h2, h3, h4, h5, h6⟩ := h
  obtain ⟨p1, p2, p3, p4, p5, p6, p7, p8, p9, p10⟩ := hp
  rw [h1] at p2 p6 p8 p9
  have hlen : ((rs ++ [ru]).length : Int) = rs.length + 1 := by simp
  have hX := p10
  have hK : ∀ a at_ d, 0 ≤ a ∧ a < m 125 18 → AtR m a at_ d (m 125 22) → AtR m' a at_ d (m' 125 22) := by
    intro a at_ d ha hA
    have hl := hA.2.1
    exact AtR_cg hX p7 (p9 _ _ (by unfold SA; omega)) (p9 _ _ (by unfold SA; omega)) (fun j j1 j2 => p9 _ _ (by unfold SA; omega)) (fun j j1 j2 => ⟨p9 _ _ (by unfold SA; omega), p9 _ _ (by unfold SA; omega), p9 _ _ (by unfold SA; omega), p9 _ _ (by unfold SA; omega)⟩) (fun j j1 j2 => p9 _ _ (by unfold SA; omega)) hA
  have k132 : ∀ r : Nat, r ≤ rs.length → m' 132 r = m 132 r := fun r hr => p9 _ _ (by unfold SA; omega)
  refine ⟨by rw [p2, hlen], (k132 0 (Nat.zero_le _)).trans h2, ?_, ?_, ?_, fun r hr => ?_⟩
  · rw [hlen, p3, p6]
  · rw [hlen, p3]; omega
  · rw [hlen, p5]; omega
  · by_cases z : r < rs.length
    · have e : (rs ++ [ru]).getD r ruD = rs.getD r ruD := by simp [List.getD_eq_getElem?_getD, List.getElem?_append_left z]
      obtain ⟨⟨⟨a1, a2, a3⟩, a4⟩, a5, a6, a7⟩ := h6 r z
      have e1 : m' 132 ((r : Int) + 1) = m 132 ((r : Int) + 1) := by
        have := k132 (r + 1) (by omega)
        have e0 : ((r + 1 : Nat) : Int) = (r : Int) + 1 := by omega
        rw [e0] at this
        exact this
      have er : (r : Int) + 1 - 1 = r := by omega
      have e131 : m' 131 ((r : Int) + 1 - 1) = m 131 ((r : Int) + 1 - 1) := p9 _ _ (by unfold SA; omega)
      rw [e, k132 r (by omega), e1]
      refine ⟨⟨?_, fun j hj => ?_⟩, a5, a6, by omega⟩
      · rw [e131]
        exact ⟨a1, by omega, hK _ _ _ ⟨a1, a2⟩ a3⟩
      · obtain ⟨s1, s2, s3, s4⟩ := a4 j hj
        have e133 : m' 133 (m 132 r + j) = m 133 (m 132 r + j) := p9 _ _ (by unfold SA; omega)
        have e134 : m' 134 (m 132 r + j) = m 134 (m 132 r + j) := p9 _ _ (by unfold SA; omega)
        rw [e133, e134]
        exact ⟨s1, s2, by omega, hK _ _ _ ⟨s2, s3⟩ s4⟩
    · have hr2 : r = rs.length := by simp at hr; omega
      have e : (rs ++ [ru]).getD r ruD = ru := by rw [hr2]; simp [List.getD_eq_getElem?_getD]
      rw [e, k132 r (by omega), hr2, ← h3]
      exact ⟨p8, p6, by omega, by rw [p6, p3]; omega⟩
theorem RuP_PCl {m m' : PM} {ru : Rul} (hR : 0 ≤ m 125 12) (hp : RuP m m' ru) : ∀ c j, ¬ PCl c j → m' c j = m c j := by
  intro c j q
  refine hp.2.2.2.2.2.2.2.2.1 c j ?_
  rintro (z | z)
  · exact SA_PCl (by omega) q z
  · exact q (Or.inr ⟨z.1, by omega⟩)
theorem simS (H : RS μ) (hn : 0 ≤ n ∧ n ≤ 2000) : ∀ (r i : Nat) (vs : List (List Int)) (rs : List Rul) (m : PM), rs.length + r = 60 → BI t n m i vs → m 125 34 = 0 → ShR m rs → match pSh t n r i rs with
      | .inl x => ∃ m', Rch μ l m m' ∧ Flt t n m m' x
      | .inr rs' => ∃ m' i' vs', Rch μ l m m' ∧ BI t n m' i' vs' ∧ tK t n i' = 0 ∧ ¬ rs' = [] ∧ m' 125 34 = 0 ∧ ShR m' rs' ∧ ∀ c j, ¬ PCl c j → m' c j = m c j := by
  intro r
  induction r with
  | zero =>
    intro i vs rs m hr hB h34 hS
    unfold pSh
    by_cases q : tK t n i = 0 ∧ ¬ rs = []
    · rw [if_pos q]
      exact ⟨m, i, vs, Rch.refl, hB, q.1, q.2, h34, hS, fun _ _ _ => rfl⟩
    · rw [if_neg q]
      have hne : ¬ rs = [] := fun z => by rw [z] at hr; simp at hr
      have hk : ¬ tK t n i = 0 := fun z => q ⟨z, hne⟩
      have hkR := tK_R t n i
      rw [← hB.2.1.1] at hkR
      have e12 := hS.1
      obtain ⟨m', hw, hF⟩ := bru_f (l := l) H hn hB (by omega) (Or.inl (by omega))
      exact ⟨m', rch_rule H hB.2.2.2.2.2 h34 (by omega) hkR (Or.inl (by rw [hB.2.1.1]; exact hk)) hw, hF⟩
  | succ r ih =>
    intro i vs rs m hr hB h34 hS
    unfold pSh
    by_cases q : tK t n i = 0 ∧ ¬ rs = []
    · rw [if_pos q]
      exact ⟨m, i, vs, Rch.refl, hB, q.1, q.2, h34, hS, fun _ _ _ => rfl⟩
    · rw [if_neg q]
      have e12 := hS.1
      have hk0 : ¬ tK t n i = 0 ∨ m 125 12 = 0 := by
        by_cases z : tK t n i = 0
        · right
          have : rs = [] := Classical.byContradiction fun y => q ⟨z, y⟩
          rw [e12, this]
          rfl
        · exact Or.inl z
      have hR0 : RB0 m := by
        obtain ⟨_, _, _, h4, h5, _⟩ := hS
        unfold RB0
        omega
      have h := simR (l := l) H hn hB hR0 h34 hk0
      generalize pRu t n i = res at h ⊢
      match res, h with
      | .inl x, h => exact h
      | .inr (ru, i1), h =>
        obtain ⟨m1, vs1, r1, hB1, hp⟩ := h
        have hpc := RuP_PCl hR0.1 hp
        have h3 := ih i1 vs1 (rs ++ [ru]) m1 (by simp; omega) hB1 hp.1 (ShR_add hB.2.2.2.1.1 hS hp)
        dsimp only
        generalize pSh t n r i1 (rs ++ [ru]) = res2 at h3 ⊢
        match res2, h3 with
        | .inl x, h3 =>
          obtain ⟨m', r2, hf⟩ := h3
          exact ⟨m', r1.trans r2, Flt_of hf hpc⟩
        | .inr rs', h3 =>
          obtain ⟨m', i', vs', r2, a1, a2, a3, a4, a5, a6⟩ := h3
          exact ⟨m', i', vs', r1.trans r2, a1, a2, a3, a4, a5, fun c j z => by rw [a6 c j z, hpc c j z]⟩
end SIS
