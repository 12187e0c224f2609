/-! ===== the reference's reader: a rule with <= ===== -/
section CDS
variable {t : Int → Int} {n : Int} {μ : am_Mem} {l : PM}
/-- a condition more -/
theorem RuC_add {m m' : PM} {C0 : Int} {h : Atm} {cs : List (Nat × Atm)} {c : Nat × Atm} (hR : RB m) (hC : 0 ≤ C0) (h15 : m 125 15 = C0 + (cs.length : Int)) (h1 : 1 ≤ c.1) (hr : RuC m (m 125 12) C0 h cs) (hp : CP m m' c.2 c.1 (decide (c.1 = 3))) : RuC m' (m 125 12) C0 h (cs ++ [c]) := by
  obtain ⟨p1, p2, p3, p4, p5, p6, p7, p8⟩ := hp
  obtain ⟨q1, q2, q3, q4, q5⟩ := p8 (by omega)
  obtain ⟨⟨r1, r2, r3⟩, r4⟩ := hr
  refine ⟨⟨by rw [q5]; exact r1, by rw [q5, p3]; omega, by rw [q5]; exact AtR_SA ⟨r1, r2⟩ p1 p6 p4 r3⟩, fun j hj => ?_⟩
  by_cases z : j < cs.length
  · have e : (cs ++ [c]).getD j (0, ([], [])) = cs.getD j (0, ([], [])) := by simp [List.getD_eq_getElem?_getD, List.getElem?_append_left z]
    obtain ⟨s1, s2, s3, s4⟩ := r4 j z
    have e1 : m' 133 (C0 + j) = m 133 (C0 + j) := p1 _ _ (by unfold SA; omega)
    have e2 : m' 134 (C0 + j) = m 134 (C0 + j) := p1 _ _ (by unfold SA; omega)
    rw [e, e1, e2, p3]
    exact ⟨s1, s2, by omega, AtR_SA ⟨s2, s3⟩ p1 p6 p4 s4⟩
  · have hj2 : j = cs.length := by simp at hj; omega
    have e : (cs ++ [c]).getD j (0, ([], [])) = c := by rw [hj2]; simp [List.getD_eq_getElem?_getD]
    have e1 : C0 + (j : Int) = m 125 15 := by rw [h15, hj2]
    rw [e, e1, q1, q2, p3]
    exact ⟨rfl, hR.2.2.2.2.1, by omega, p5⟩
/-- conditions up to the rule's end; R, C0 as at the rule's beginning -/
theorem sim_conds (H : RS μ) (hn : 0 ≤ n ∧ n ≤ 2000) {R C0 nd0 A0 : Int} {h : Atm} {m0 : PM} (hC0 : 0 ≤ C0 ∧ C0 + 8 ≤ 490) (hA0 : 0 ≤ A0 ∧ A0 + 9 ≤ 590) (hR1 : 1 ≤ R ∧ R ≤ 60) :
    ∀ (r i : Nat) (vs : List (List Int)) (cs : List (Nat × Atm)) (m : PM), cs.length + r = 8 → BI t n m i vs → Fr m 1 1 ((cs.length : Int) + 1) → m 125 12 = R → m 125 15 = C0 + (cs.length : Int) → m 125 18 = A0 + 1 + (cs.length : Int) → m 132 R = C0 + (cs.length : Int) → nd0 ≤ m 125 22 → RuC m R C0 h cs → (∀ c j, ¬ SA nd0 0 A0 C0 R c j → m c j = m0 c j) → match pCs t n r i vs cs with
      | .inl x => ∃ m', Rch μ l m m' ∧ Flt t n m m' x
      | .inr (cs', i', vs') => ∃ m', Rch μ l m m' ∧ BI t n m' i' vs' ∧ m' 125 34 = 0 ∧ m' 125 12 = R ∧ m' 125 15 = C0 + (cs'.length : Int) ∧ m' 125 18 = A0 + 1 + (cs'.length : Int) ∧ cs'.length ≤ 8 ∧ m' 132 R = C0 + (cs'.length : Int) ∧ nd0 ≤ m' 125 22 ∧ RuC m' R C0 h cs' ∧ (∀ c j, ¬ SA nd0 0 A0 C0 R c j → m' c j = m0 c j) ∧ ∀ x u, nX m x u → nX m' x u := by
  have hclose : ∀ (i : Nat) (vs : List (List Int)) (cs : List (Nat × Atm)) (m : PM), cs.length ≤ 8 → BI t n m i vs → Fr m 1 1 ((cs.length : Int) + 1) → m 125 12 = R → m 125 15 = C0 + (cs.length : Int) → m 125 18 = A0 + 1 + (cs.length : Int) → m 132 R = C0 + (cs.length : Int) → nd0 ≤ m 125 22 → RuC m R C0 h cs → (∀ c j, ¬ SA nd0 0 A0 C0 R c j → m c j = m0 c j) → tK t n i = 2 → ∃ m', Rch μ l m m' ∧ BI t n m' (i + 1) vs ∧ m' 125 34 = 0 ∧ m' 125 12 = R ∧ m' 125 15 = C0 + (cs.length : Int) ∧ m' 125 18 = A0 + 1 + (cs.length : Int) ∧ cs.length ≤ 8 ∧ m' 132 R = C0 + (cs.length : Int) ∧ nd0 ≤ m' 125 22 ∧ RuC m' R C0 h cs ∧ (∀ c j, ¬ SA nd0 0 A0 C0 R c j → m' c j = m0 c j) ∧ ∀ x u, nX m x u → nX m' x u := by
    intro i vs cs m hl hB hF e12 e15 e18 e132 hnd hRu hs h2
    have g : ∀ c j, ¬ (c = 125 ∧ (j = 28 ∨ j = 29 ∨ j = 30 ∨ j = 31 ∨ j = 34)) → adM (up m 125 34 (1 - 1)) c j = m c j := by
      intro c j q
      rw [adM_o (by omega), up_o (by omega)]
    have gX : ∀ x u, nX m x u → nX (adM (up m 125 34 (1 - 1))) x u := fun x u z => nX_cg (g _ _ (by omega)) (fun j => g _ _ (by omega)) (fun j => g _ _ (by omega)) z
    have gA : ∀ a at_ d, AtR m a at_ d (m 125 22) → AtR (adM (up m 125 34 (1 - 1))) a at_ d (m 125 22) := fun a at_ d z => AtR_cg gX (Int.le_refl _) (g _ _ (by omega)) (g _ _ (by omega)) (fun j _ _ => g _ _ (by omega)) (fun j _ _ => ⟨g _ _ (by omega), g _ _ (by omega), g _ _ (by omega), g _ _ (by omega)⟩) (fun j _ _ => g _ _ (by omega)) z
    refine ⟨_, close_n H hn hB hF h2 (by omega), BI_skip (BI_cg hB (fun c j q => up_o (by omega))) (nN1 (Or.inr (Or.inl h2))), ?_, by rw [g _ _ (by omega)]; exact e12, by rw [g _ _ (by omega)]; exact e15, by rw [g _ _ (by omega)]; exact e18, hl, by rw [g _ _ (by omega)]; exact e132, by rw [g _ _ (by omega)]; exact hnd, ⟨?_, fun j hj => ?_⟩, fun c j q => ?_, gX⟩
    · rw [adM_o (by omega), up_s]
      decide
    · rw [g 131 _ (by omega), g 125 18 (by omega), g 125 22 (by omega)]
      exact ⟨hRu.1.1, hRu.1.2.1, gA _ _ _ hRu.1.2.2⟩
    · obtain ⟨s1, s2, s3, s4⟩ := hRu.2 j hj
      rw [g 133 _ (by omega), g 134 _ (by omega), g 125 18 (by omega), g 125 22 (by omega)]
      exact ⟨s1, s2, s3, gA _ _ _ s4⟩
    · rw [g c j (fun z => q (Or.inl ⟨z.1, by omega⟩)), hs c j q]
  intro r
  induction r with
  | zero =>
    intro i vs cs m hl hB hF e12 e15 e18 e132 hnd hRu hs
    unfold pCs
    by_cases h2 : tK t n i = 2
    · rw [if_pos h2]
      exact hclose i vs cs m (by omega) hB hF e12 e15 e18 e132 hnd hRu hs h2
    · rw [if_neg h2]
      exact part_n H hB hF h2 (by rw [if_pos rfl]; omega)
  | succ r ih =>
    intro i vs cs m hl hB hF e12 e15 e18 e132 hnd hRu hs
    unfold pCs
    by_cases h2 : tK t n i = 2
    · rw [if_pos h2]
      exact hclose i vs cs m (by omega) hB hF e12 e15 e18 e132 hnd hRu hs h2
    · rw [if_neg h2]
      have hRB : RB m := by unfold RB; omega
      have hc := sim_cond (l := l) H hn hB hRB hF (by omega) h2
      have h1 : ∀ c i' vs', pCo t n i vs = .inr (c, i', vs') → 1 ≤ c.1 := by
        intro c i' vs' e
        unfold pCo at e
        split at e
        · split at e
          · cases e
          · split at e
            · cases e
              show 1 ≤ 2
              decide
            · cases e
        · split at e
          · split at e
            · cases e
            · cases e
              show 1 ≤ 3
              decide
          · split at e
            · cases e
            · cases e
              exact Nat.le_refl 1
      generalize pCo t n i vs = res at hc h1 ⊢
      match res, hc, h1 with
      | .inl x, hc, _ => exact hc
      | .inr (c, i1, vs1), hc, h1 =>
        obtain ⟨m1, r1, hB1, hp⟩ := hc
        have hc1 := h1 c i1 vs1 rfl
        have hRu1 := RuC_add hRB hC0.1 e15 hc1 (by rw [e12]; exact hRu) hp
        rw [e12] at hRu1
        have hp0 := hp
        obtain ⟨p1, ⟨p21, p22, p23⟩, p3, p4, p5, p6, p7, p8⟩ := hp
        obtain ⟨q1, q2, q3, q4, q5⟩ := p8 (by omega)
        have hlen : ((cs ++ [c]).length : Int) = cs.length + 1 := by simp
        have hF1 : Fr m1 1 1 (((cs ++ [c]).length : Int) + 1) := ⟨by decide, by decide, p21, by have := hF.2.2.2.1; exact p22.trans this, by have := hF.2.2.2.2.1; rw [hlen]; show m1 144 0 = _; rw [p23]; have e0 : m 144 0 = (cs.length : Int) + 1 := this; omega, by omega, Or.inl ⟨rfl, by rw [hlen]; omega⟩⟩
        have hs1 : ∀ c' j', ¬ SA nd0 0 A0 C0 R c' j' → m1 c' j' = m0 c' j' := by
          intro c' j' q
          rw [p1 c' j' (by rw [e12]; exact SA_mono hnd (Int.le_refl _) (by omega) (by omega) q), hs c' j' q]
        have e121 : m1 125 12 = R := by rw [p1 125 12 (by unfold SA; omega)]; exact e12
        have h3 := ih i1 vs1 (cs ++ [c]) m1 (by simp; omega) hB1 hF1 e121 (by rw [q3, e15, hlen]; omega) (by rw [p3, e18, hlen]; omega) (by rw [← e12, q4, e15, hlen]; omega) (by omega) hRu1 hs1
        dsimp only
        generalize pCs t n r i1 vs1 (cs ++ [c]) = res2 at h3 ⊢
        match res2, h3 with
        | .inl x, h3 =>
          obtain ⟨m', r2, hf⟩ := h3
          exact ⟨m', r1.trans r2, Flt_of hf (fun c' j' q => p1 c' j' (SA_PCl (by omega) q))⟩
        | .inr (cs', i', vs'), h3 =>
          obtain ⟨m', r2, a1, a2, a3, a4, a5, a6, a7, a8, a9, a10, a11⟩ := h3
          exact ⟨m', r1.trans r2, a1, a2, a3, a4, a5, a6, a7, a8, a9, a10, fun x u z => a11 x u (p6 x u z)⟩
end CDS
