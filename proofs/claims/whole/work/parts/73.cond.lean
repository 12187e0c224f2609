/-! ===== the reference's reader: a condition, whole ===== -/
section CND
variable {t : Int → Int} {n : Int} {μ : am_Mem} {l : PM}
/-- a head, or a condition, of the rule that is open has been read -/
def CP (ms m' : PM) (at_ : Atm) (s : Int) (dd : Bool) : Prop :=
  (∀ c j, ¬ SA (ms 125 22) 0 (ms 125 18) (ms 125 15) (ms 125 12) c j → m' c j = ms c j) ∧ (m' 125 34 = 1 ∧ m' 143 0 = ms 143 0 ∧ m' 144 0 = ms 144 0 + 1) ∧ m' 125 18 = ms 125 18 + 1 ∧ ms 125 22 ≤ m' 125 22 ∧ AtR m' (ms 125 18) at_ dd (m' 125 22) ∧ (∀ x u, nX ms x u → nX m' x u) ∧ (s = 0 → m' 131 (ms 125 12 - 1) = ms 125 18 ∧ m' 125 15 = ms 125 15 ∧ m' 132 (ms 125 12) = ms 132 (ms 125 12)) ∧ (¬ s = 0 → m' 133 (ms 125 15) = s ∧ m' 134 (ms 125 15) = ms 125 18 ∧ m' 125 15 = ms 125 15 + 1 ∧ m' 132 (ms 125 12) = ms 125 15 + 1 ∧ m' 131 (ms 125 12 - 1) = ms 131 (ms 125 12 - 1))
theorem SA_o {nd o A C R : Int} {c : Nat} {j : Int} (ho : 0 ≤ o) (h : ¬ SA nd 0 A C R c j) : ¬ SA nd o A C R c j := SA_mono (Int.le_refl _) ho (Int.le_refl _) (Int.le_refl _) h
theorem SA_144 {nd A C R : Int} {c : Nat} {j : Int} (h : ¬ SA nd 0 A C R c j) : ¬ (c = 144 ∧ j = 0) := fun z => h (Or.inr (Or.inr (Or.inr (Or.inr (Or.inr (Or.inr (Or.inl ⟨Or.inr (Or.inl z.1), by omega⟩)))))))
theorem CP_AP {ms m' : PM} {at_ : Atm} {s k : Int} {dd : Bool} (h34 : ms 125 34 = 1) (hk : ms 144 0 = k) (h : AP (up ms 144 0 (k + 1)) m' at_ s dd) : CP ms m' at_ s dd := by
  obtain ⟨a1, a2, a3, a4, a5, a6, a7, a8⟩ := h
  have e : ∀ c j, ¬ (c = 144 ∧ j = 0) → up ms 144 0 (k + 1) c j = ms c j := fun c j q => up_o q
  have e0 : ∀ j, up ms 144 0 (k + 1) 125 j = ms 125 j := fun j => e _ _ (by omega)
  have e1 : up ms 144 0 (k + 1) 131 (ms 125 12 - 1) = ms 131 (ms 125 12 - 1) := e _ _ (by omega)
  have e2 : up ms 144 0 (k + 1) 132 (ms 125 12) = ms 132 (ms 125 12) := e _ _ (by omega)
  rw [e0, e0, e0, e0, e0] at a1
  rw [e0] at a2 a3 a4 a5
  rw [e0, e0, e0, e2] at a7
  rw [e0, e0, e0, e1] at a8
  rw [h34] at a1 a2
  refine ⟨fun c j q => ?_, ⟨a2, ?_, ?_⟩, a3, a4, a5, fun x u z => a6 x u (nX_cg (e _ _ (by omega)) (fun j => e _ _ (by omega)) (fun j => e _ _ (by omega)) z), a7, a8⟩
  · rw [a1 c j (SA_o (by omega) q), e c j (SA_144 q)]
  · rw [a1 143 0 (by unfold SA; omega), e _ _ (by omega)]
  · rw [a1 144 0 (by unfold SA; omega), up_s, hk]
theorem RB_cg {m m' : PM} (h1 : m' 125 12 = m 125 12) (h2 : m' 125 15 = m 125 15) (h3 : m' 125 18 = m 125 18) (h : RB m) : RB m' := by
  unfold RB
  rw [h1, h2, h3]
  exact h
theorem BI_up144 {ms : PM} {i : Nat} {vs : List (List Int)} {j k : Int} (hB : BI t n ms i vs) : BI t n (up ms 144 j k) i vs := BI_cg hB (fun c j' h => up_c (by omega))
theorem SA_PCl {nd o A C R : Int} {c : Nat} {j : Int} (hR : 1 ≤ R) (h : ¬ PCl c j) : ¬ SA nd o A C R c j := by
  intro z
  apply h
  clear h
  rcases z with z | z | z | z | ⟨z1, _⟩ | ⟨z1, _⟩ | ⟨z1, _⟩ | ⟨z1, _⟩ | ⟨z1, _⟩ | ⟨z1, _⟩ | ⟨z1, _⟩ | ⟨z1, _⟩
  · exact Or.inr ⟨z.1, by omega⟩
  all_goals exact Or.inl (by omega)
theorem close_nf (H : RS μ) {m : PM} {i : Nat} {vs : List (List Int)} {o what : Int} (hB : BI t n m i vs) (hF : Fr m o what 0) (h2 : tK t n i = 2) : ∃ m', Rch μ l m m' ∧ Flt t n m m' i := by
  obtain ⟨h1, h2', h3, h4, h5, h6, h7⟩ := hF
  have hR := tK_R t n i
  rw [← hB.2.1.1] at hR
  have h28 : m 125 28 = 2 := by rw [hB.2.1.1]; exact h2
  refine ⟨m_fail m 1 (m 125 29), ?_, fail_Flt hB.2.2.2.2.2 hB.2.1.2.1 (fun _ _ _ => rfl)⟩
  refine rch_part H hB.2.2.2.2.2 (by omega) (fun d => ?_)
  refine R171_0 (d := d + 1) H ⟨by omega, hR, fun z => absurd h28 z, fun _ => ?_⟩
  rintro v4 -
  refine ⟨fun μ' => μ' = sA μ (m_fail m 1 (m 125 29)) l, noX, ?_, fun μ' hp => ?_, fun _ _ z => z.elim⟩
  · refine R172_0 (d := d + 2) H ?_
    rw [h3, h4, h5]
    refine ⟨by omega, by omega, ⟨fun _ => ⟨by omega, trivial⟩, fun _ => ⟨by omega, trivial⟩⟩, ?_⟩
    rintro v1 - v2 - v3 e3
    have e3' : v3 = 0 := by
      rw [e3, if_pos (by omega), if_pos (by omega)]
    refine ⟨fun z => absurd e3' z, fun _ => ⟨by rw [hB.2.2.2.2.2]; omega, ?_⟩⟩
    rintro m9 rfl
    exact rfl
  · have hp' : μ' = sA μ (m_fail m 1 (m 125 29)) l := hp
    rw [hp']
    exact R171_26 H rfl
theorem pAt_2 {dl i : Nat} {vs : List (List Int)} (h : tK t n i = 2) : pAt t n dl i vs = .inl i := by
  unfold pAt
  rw [if_neg (fun z => by have := z.1; omega), if_neg (by omega)]
/-- a head -/
theorem sim_head (H : RS μ) (hn : 0 ≤ n ∧ n ≤ 2000) {i : Nat} {vs : List (List Int)} {ms : PM} (hB : BI t n ms i vs) (hR : RB ms) (hF : Fr ms 1 1 0) :
    match pAt t n 8 i vs with
      | .inl x => ∃ m', Rch μ l ms m' ∧ Flt t n ms m' x
      | .inr (a, i', vs') => ∃ m', Rch μ l ms m' ∧ BI t n m' i' vs' ∧ CP ms m' a 0 false := by
  by_cases h2 : tK t n i = 2
  · rw [pAt_2 h2]
    exact close_nf H hB hF h2
  · have e : ∀ j, up ms 144 0 (0 + 1) 125 j = ms 125 j := fun j => up_c (by decide)
    have h34 := hF.2.2.1
    have h := simA (l := l) (ms := ms) (s := 0) (dl := 8) H hn (BI_up144 (j := 0) (k := 0 + 1) hB) (RB_cg (e _) (e _) (e _) hR) (by rw [e, h34]; omega) (by decide) (fun z => absurd z (by decide)) (fun m' hw => part_a H hB hF h2 (by decide) (by decide) hw)
    generalize pAt t n 8 i vs = res at h ⊢
    match res, h with
    | .inl x, h =>
      obtain ⟨m', r, hf⟩ := h
      exact ⟨m', r, Flt_of hf (fun c j q => up_o (by omega))⟩
    | .inr (a, i', vs'), h =>
      obtain ⟨m', r, hb, hp⟩ := h
      exact ⟨m', r, hb, CP_AP h34 hF.2.2.2.2.1 hp⟩
end CND
