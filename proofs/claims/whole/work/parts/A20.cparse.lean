/-! ===== the class's parser: parse ===== -/
/-- the class's sheet holds these rules -/
def ShC (X : Int → List Int → Prop) (s : Nat) (m : PM) (rs : List Rul) : Prop := rs.length ≤ 60 ∧ (0 ≤ m s 6 ∧ m s 6 ≤ 1000) ∧ m s 13 = (rs.length : Int) ∧ ∀ r : Nat, r < rs.length → RuI X s m (r : Int) (rs.getD r (([], []), [])).1 (rs.getD r (([], []), [])).2
/-- what parsing does -/
def ShQ (t : Int → Int) (n : Int) (X : Int → List Int → Prop) (s : Nat) (m : PM) (N : Int) (q : Nat ⊕ List Rul) (x : Int) (m' : PM) : Prop :=
  (∀ c j, ¬ (WR s N 0 c j ∨ (c = s ∧ j = 13)) → m' c j = m c j) ∧ match q with
  | .inl e => x = tkP t n e
  | .inr rs => x = -1 ∧ ShC X s m' rs ∧ CovC X s m' N (m' s 6)
abbrev ShP (t : Int → Int) (n : Int) (X : Int → List Int → Prop) (s : Nat) (μ : am_Mem) (l m : PM) (N : Int) (q : Nat ⊕ List Rul) : Int32 → am_Mem → Prop := fun y μ' => ∃ (x : Int) (m' : PM), y = zI x ∧ μ' = sA μ m' l ∧ ShQ t n X s m N q x m'
section CPI
variable {t : Int → Int} {n : Int} {X : Int → List Int → Prop} {J : Nat} {d : Nat} {μ : am_Mem} {l : PM} {s : Nat}
theorem ps_12 {m0 : PM} {N : Int} (H : CS μ) (hs : s = 22 ∨ s = 42) (hS : am_F μ 62 1 = s) (hX : XP X) (hn : 0 ≤ n ∧ n ≤ 2000) : ∀ (q : Nat) (m : PM) (i : Nat) (acc : List Rul), acc.length + q = 60 → CB t n X J s m i → (acc = [] ∨ ¬ tK t n i = 0) → (∀ r : Nat, r < acc.length → RuI X s m (r : Int) (acc.getD r (([], []), [])).1 (acc.getD r (([], []), [])).2) → (∀ c j, ¬ (WR s N 0 c j ∨ (c = s ∧ j = 13)) → m c j = m0 c j) → N ≤ m s 6 → CovC X s m N (m s 6) →
  Wp (d + 27) 55 (12, [some (.ref 62), some (.ref s), some (.int (zI (acc.length : Int)))], [], sA μ m l) (pI (ShP t n X s μ l m0 N (pSh t n q i acc)) noX) := by
  intro q
  induction q with
  | zero =>
    intro m i acc hl h hne hR fr hN hcv
    obtain ⟨hT, h2, h3, h4⟩ := id h
    have hJ := hT.1
    refine K55_12 H hs hS ⟨by unfold iR; omega, fun _ => ⟨by omega, ?_⟩, fun z => absurd (by omega) z⟩
    have e : pSh t n 0 i acc = .inl i := by
      rw [pSh, if_neg]
      intro z
      rcases hne with w | w
      · exact z.2 w
      · exact w z.1
    rw [e]
    refine ⟨_, m, rfl, rfl, fr, ?_⟩
    show m 20 (m 62 2) = tkP t n i
    rw [h2]
    exact (hT.2.2.2 i h3).2.1
  | succ q ih =>
    intro m i acc hl h hne hR fr hN hcv
    obtain ⟨hT, h2, h3, h4⟩ := id h
    have hJ := hT.1
    have e : pSh t n (q + 1) i acc = (match pRu t n i with
      | .inl x => .inl x
      | .inr (ru, i') => pSh t n q i' (acc ++ [ru])) := by
      have no : ¬ (tK t n i = 0 ∧ ¬ acc = []) := by
        intro z
        rcases hne with w | w
        · exact z.2 w
        · exact w z.1
      rw [pSh, if_neg no]
      all_goals rfl
    rw [e]
    refine K55_12 H hs hS ⟨by unfold iR; omega, fun z => absurd z (by omega), fun _ => ⟨_, noX, k_takeRule H hs hS hX hn (by omega) h, fun y μ' hy => ?_, fun _ _ z => z.elim⟩⟩
    obtain ⟨x, m1, rfl, hx, rfl, hq1, hq2⟩ := hy
    have fr1 : ∀ c j, ¬ (WR s N 0 c j ∨ (c = s ∧ j = 13)) → m1 c j = m0 c j := fun c j w => by rw [hq1 c j (by omega)]; exact fr c j w
    have k1 : ∀ c j, ¬ WR s (m s 6) (acc.length : Int) c j → m1 c j = m c j := hq1
    cases qq : pRu t n i with
    | inl e0 =>
      rw [qq] at hq2
      obtain ⟨a1, a2, a3⟩ := hq2
      refine K55_23 H hs hS ⟨hx, fun z => absurd a1 z, fun _ => ⟨by omega, _, m1, rfl, rfl, fr1, ?_⟩⟩
      show m1 20 (m1 62 2) = tkP t n e0
      rw [a2, k1 _ _ (by omega)]
      exact (hT.2.2.2 e0 a3).2.1
    | inr y =>
      obtain ⟨ru, i'⟩ := y
      rw [qq] at hq2
      obtain ⟨a1, a2, a3, a4, a5⟩ := hq2
      refine K55_23 H hs hS ⟨hx, fun _ m2 e2 => ?_, fun z => absurd (by omega) z⟩
      have k2 : ∀ c j, ¬ (c = s ∧ j = 13) → m2 c j = m1 c j := fun c j w => by rw [e2]; exact up_o w
      have hB : CB t n X J s m2 i' := ⟨TkE_cg (fun j => k2 _ _ (by omega)) (fun j => k2 _ _ (by omega)) (fun j => k2 _ _ (by omega)) a2.1, by rw [k2 _ _ (by omega)]; exact a2.2.1, a2.2.2.1, by rw [k2 _ _ (by omega)]; exact a2.2.2.2⟩
      have hl1 : (acc ++ [ru]).length = acc.length + 1 := by simp
      have hR2 : ∀ r : Nat, r < (acc ++ [ru]).length → RuI X s m2 (r : Int) ((acc ++ [ru]).getD r (([], []), [])).1 ((acc ++ [ru]).getD r (([], []), [])).2 := by
        intro r hr
        have c2 : ∀ {h0 : Atm} {cs : List (Nat × Atm)}, RuI X s m1 (r : Int) h0 cs → RuI X s m2 (r : Int) h0 cs := fun z => RuI_cg (by rw [k2 _ _ (by omega)]; exact Int.le_refl _) (fun i _ => ⟨k2 _ _ (by omega), k2 _ _ (by omega), k2 _ _ (by omega), k2 _ _ (by omega)⟩) (fun i _ => k2 _ _ (by omega)) (k2 _ _ (by omega)) (k2 _ _ (by omega)) (k2 _ _ (by omega)) (fun j _ => k2 _ _ (by omega)) (fun j _ => k2 _ _ (by omega)) z
        by_cases c : r = acc.length
        · rw [c, getD_r]
          rw [c] at c2
          exact c2 a4
        · rw [getD_l _ _ _ (by omega)]
          refine c2 ?_
          exact RuI_cg a3 (fun i _ => ⟨k1 _ _ (by omega), k1 _ _ (by omega), k1 _ _ (by omega), k1 _ _ (by omega)⟩) (fun i _ => k1 _ _ (by omega)) (k1 _ _ (by omega)) (k1 _ _ (by omega)) (k1 _ _ (by omega)) (fun j _ => k1 _ _ (by omega)) (fun j _ => k1 _ _ (by omega)) (hR r (by omega))
      obtain ⟨hT2, h22, h32, h42⟩ := id hB
      have hc := ck_all t n i'
      have e19 : m2 19 (m2 62 2) = ckK (tK t n i') := by rw [h22]; exact (hT2.2.2.2 i' h32).1
      have fr2 : ∀ c j, ¬ (WR s N 0 c j ∨ (c = s ∧ j = 13)) → m2 c j = m0 c j := fun c j w => by rw [k2 c j (by omega)]; exact fr1 c j w
      have hcv2 : CovC X s m2 N (m2 s 6) := by
        rw [k2 s 6 (by omega)]
        refine CovC_cg (N := m1 s 6) (m := m1) (Int.le_refl _) (fun i _ => ⟨k2 _ _ (by omega), k2 _ _ (by omega), k2 _ _ (by omega), k2 _ _ (by omega)⟩) (fun i _ => k2 _ _ (by omega)) (fun k y1 y2 => ?_)
        by_cases y : k < m s 6
        · exact GdN_cg (N := m s 6) y (fun i _ => ⟨k1 _ _ (by omega), k1 _ _ (by omega), k1 _ _ (by omega), k1 _ _ (by omega)⟩) (fun i _ => k1 _ _ (by omega)) (hcv k y1 y)
        · exact a5 k (by omega) y2
      refine ⟨by omega, by rw [e19]; exact hc.2.2.2.2, fun z => ?_, fun z => ?_⟩
      · have nk : ¬ tK t n i' = 0 := fun w => z (by rw [e19]; exact (ck_5 t n i').2.mpr w)
        have hz := ih m2 i' (acc ++ [ru]) (by omega) hB (Or.inr nk) hR2 fr2 (by rw [k2 _ _ (by omega)]; omega) hcv2
        rw [hl1] at hz
        exact hz
      · have nk : tK t n i' = 0 := (ck_5 t n i').2.mp (by rw [← e19]; exact Decidable.byContradiction z)
        have e' : pSh t n q i' (acc ++ [ru]) = .inr (acc ++ [ru]) := by
          have hp : tK t n i' = 0 ∧ ¬ acc ++ [ru] = [] := ⟨nk, by simp⟩
          cases q with
          | zero => rw [pSh, if_pos hp]
          | succ q => rw [pSh, if_pos hp]
        have hl2 := nt_le (t := t) hn i'
        simp only [e']
        refine ⟨-1, m2, rfl, rfl, fr2, rfl, ⟨by omega, by omega, ?_, hR2⟩, hcv2⟩
        rw [e2, up_s, hl1]
        omega
end CPI
