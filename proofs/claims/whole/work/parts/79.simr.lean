/-! ===== the reference's reader: all rules ===== -/
section SIR
variable {t : Int → Int} {n : Int} {μ : am_Mem} {l : PM}
theorem simR (H : RS μ) (hn : 0 ≤ n ∧ n ≤ 2000) {m : PM} {i : Nat} {vs : List (List Int)} (hB : BI t n m i vs) (hR : RB0 m) (h34 : m 125 34 = 0) (hk0 : ¬ tK t n i = 0 ∨ m 125 12 = 0) :
    match pRu t n i with
      | .inl x => ∃ m', Rch μ l m m' ∧ Flt t n m m' x
      | .inr (ru, i') => ∃ m' vs', Rch μ l m m' ∧ BI t n m' i' vs' ∧ RuP m m' ru := by
  have hkR := tK_R t n i
  rw [← hB.2.1.1] at hkR
  have hrr : ∀ m', (∀ d, Wp (d + 7) 163 (0, [some (.ref 125)], [], sA μ m l) (pV (fun μ' => μ' = sA μ m' l) noX)) → Rch μ l m m' := fun m' hw => rch_rule H hB.2.2.2.2.2 h34 (by omega) hkR (by rw [hB.2.1.1]; exact hk0) hw
  have hnd := hB.2.2.2.1
  unfold pRu
  by_cases h5 : tK t n i = 1 ∧ tK t n (i + 1) = 5
  · rw [if_pos h5]
    have hr := hrr _ (fun d => br_arrow H hn hB hR h34 h5.1 h5.2 d)
    have z12 : adM m 125 12 = m 125 12 := adM_o (by omega)
    have z15 : adM m 125 15 = m 125 15 := adM_o (by omega)
    have hE := nr_eq (h := -1) z12
    rw [z15] at hE
    have gs : ∀ c j, ¬ ((c = 125 ∧ (j = 28 ∨ j = 29 ∨ j = 30 ∨ j = 31 ∨ j = 12 ∨ j = 38)) ∨ (c = 131 ∧ j = m 125 12) ∨ (c = 132 ∧ j = m 125 12 + 1)) → m_newRule (adM m) (-1) c j = m c j := by
      intro c j q
      rw [hE, up_o (by omega), up_o (by omega), up_o (by omega), up_o (by omega), adM_o (by omega)]
    have g34 : m_newRule (adM m) (-1) 125 34 = 0 := by rw [gs _ _ (by omega)]; exact h34
    have g12 : m_newRule (adM m) (-1) 125 12 = m 125 12 + 1 := by rw [hE, up_c (by decide), up_s]
    have g132 : m_newRule (adM m) (-1) 132 (m 125 12 + 1) = m 125 15 := by rw [hE, up_s]
    have hBg : BI t n (adM (m_newRule (adM m) (-1))) (i + 2) [] := by
      have hB1 := BI_skip hB (nN1 (Or.inl h5.1))
      obtain ⟨⟨b1, b2, b3⟩, ⟨b4, b5, b6, b7⟩, ⟨b8, b9, b10⟩, b11, b12, b13⟩ := hB1
      have e9 : m_newRule (adM m) (-1) 125 9 = adM m 125 9 := by rw [gs _ _ (by omega), adM_o (by omega)]
      have e129 : ∀ j, m_newRule (adM m) (-1) 129 j = adM m 129 j := fun j => by rw [gs _ _ (by omega), adM_o (by omega)]
      have e130 : ∀ j, m_newRule (adM m) (-1) 130 j = adM m 130 j := fun j => by rw [gs _ _ (by omega), adM_o (by omega)]
      have hnt : (nt t n (i + 1) : Int) ≤ nt t n (i + 1 + 1) := by
        show (nt t n (i + 1) : Int) ≤ ((nt t n (i + 1) + if isN (tK t n (i + 1)) then 1 else 0 : Nat) : Int)
        split <;> omega
      have e128 : m_newRule (adM m) (-1) 128 = t := by
        funext j
        rw [gs _ _ (by omega), ← b1, adM_o (by omega)]
      have e8 : m_newRule (adM m) (-1) 125 8 = n := by rw [gs _ _ (by omega), ← b2, adM_o (by omega)]
      have e31 : m_newRule (adM m) (-1) 125 31 = adM m 125 31 := by rw [hE, up_c (by decide), up_i (by decide), up_i (by decide), up_c (by decide)]
      refine BI_adv (vs := []) e128 e8 (TX_cg (by rw [e8, b2]) (fun j => by rw [e128, b1]) b3) (by rw [e31]; exact b7) (NmW_cg e9 e129 e130 b8) (NmD_cg e9 e129 e130 b9) ⟨by rw [e9]; omega, by rw [nmL_cg e9 e129 e130, b10.2]; exact (LsT_s (nN1 (Or.inr (Or.inr h5.2)))).symm⟩ ?_ ⟨?_, by decide, fun j hj => absurd hj (by simp)⟩ ?_
      · have e22 : m_newRule (adM m) (-1) 125 22 = adM m 125 22 := by rw [gs _ _ (by omega), adM_o (by omega)]
        rw [e22]
        omega
      · rw [hE, up_c (by decide), up_i (by decide), up_s]
        rfl
      · have e32 : m_newRule (adM m) (-1) 125 32 = adM m 125 32 := by rw [gs _ _ (by omega), adM_o (by omega)]
        rw [e32]
        exact b13
    have hBa : BI t n (raM m) (i + 2) [] := BI_within hBg g34
    have hw : raM m = adM (up (up (up (up (m_newRule (adM m) (-1)) 143 0 1) 144 0 0) 145 0 (m 125 12)) 125 34 (0 + 1)) := by unfold raM; rw [within_eq g34]
    have ra : ∀ c j, ¬ ((c = 125 ∧ (j = 28 ∨ j = 29 ∨ j = 30 ∨ j = 31 ∨ j = 12 ∨ j = 38 ∨ j = 34)) ∨ (c = 131 ∧ j = m 125 12) ∨ (c = 132 ∧ j = m 125 12 + 1) ∨ ((c = 143 ∨ c = 144 ∨ c = 145) ∧ j = 0)) → raM m c j = m c j := by
      intro c j q
      rw [hw, adM_o (by omega), up_o (by omega), up_o (by omega), up_o (by omega), up_o (by omega), gs c j (by omega)]
    have r12 : raM m 125 12 = m 125 12 + 1 := by rw [hw, adM_o (by omega), up_i (by decide), up_c (by decide), up_c (by decide), up_c (by decide), g12]
    have r15 : raM m 125 15 = m 125 15 := ra _ _ (by omega)
    have r18 : raM m 125 18 = m 125 18 := ra _ _ (by omega)
    have r22 : raM m 125 22 = m 125 22 := ra _ _ (by omega)
    have r132 : raM m 132 (m 125 12 + 1) = m 125 15 := by rw [hw, adM_o (by omega), up_c (by decide), up_c (by decide), up_c (by decide), up_c (by decide), g132]
    have hFa : Fr (raM m) 1 1 0 := by
      refine ⟨by decide, by decide, ?_, ?_, ?_, by decide, Or.inl ⟨rfl, by decide⟩⟩
      · rw [hw, adM_o (by omega), up_s]
        decide
      · show raM m 143 0 = 1
        rw [hw, adM_o (by omega), up_c (by decide), up_c (by decide), up_c (by decide), up_s]
      · show raM m 144 0 = 0
        rw [hw, adM_o (by omega), up_c (by decide), up_c (by decide), up_s]
    have raX : ∀ x u, nX m x u → nX (raM m) x u := fun x u z => nX_cg (ra _ _ (by omega)) (fun j => ra _ _ (by omega)) (fun j => ra _ _ (by omega)) z
    have hRa : RB (raM m) := by unfold RB; rw [r12, r15, r18]; omega
    have hh := sim_head (l := l) H hn hBa hRa hFa
    have hPa : ∀ c j, ¬ PCl c j → raM m c j = m c j := fun c j q => ra c j (by omega)
    generalize pAt t n 8 (i + 2) [] = res at hh ⊢
    match res, hh with
    | .inl x, hh =>
      obtain ⟨m', r, hf⟩ := hh
      exact ⟨m', hr.trans r, Flt_of hf hPa⟩
    | .inr (h, i1, vs1), hh =>
      obtain ⟨m1, r1, hB1, hp⟩ := hh
      obtain ⟨p1, ⟨p21, p22, p23⟩, p3, p4, p5, p6, p7, -⟩ := hp
      rw [r12, r15, r18, r22] at p1
      rw [r18] at p3
      rw [r22] at p4
      rw [r18] at p5
      rw [r12, r15, r18] at p7
      obtain ⟨q1, q2, q3⟩ := p7 rfl
      have eR : m 125 12 + 1 - 1 = m 125 12 := by omega
      have hRu : RuC m1 (m 125 12 + 1) (m 125 15) h [] := ⟨by rw [q1]; exact ⟨by omega, by rw [p3]; omega, p5⟩, fun j hj => absurd hj (by simp)⟩
      have hc := sim_conds (l := l) (R := m 125 12 + 1) (C0 := m 125 15) (nd0 := m 125 22) (A0 := m 125 18) (h := h) (m0 := raM m) H hn (by omega) (by omega) (by omega) 8 i1 vs1 [] m1 rfl hB1 ⟨by decide, by decide, p21, by show m1 143 0 = 1; rw [p22]; exact hFa.2.2.2.1, by show m1 144 0 = _; rw [p23]; have e0 : raM m 144 0 = 0 := hFa.2.2.2.2.1; rw [e0]; rfl, by decide, Or.inl ⟨rfl, by decide⟩⟩ (by rw [p1 125 12 (by unfold SA; omega), r12]) (by rw [q2]; show m 125 15 = m 125 15 + ((0 : Nat) : Int); omega) (by rw [p3]; show m 125 18 + 1 = m 125 18 + 1 + ((0 : Nat) : Int); omega) (by rw [q3, r132]; show m 125 15 = m 125 15 + ((0 : Nat) : Int); omega) p4 hRu p1
      dsimp only
      have hP1 : ∀ c j, ¬ PCl c j → m1 c j = m c j := fun c j q => by rw [p1 c j (SA_PCl (by omega) q), hPa c j q]
      generalize pCs t n 8 i1 vs1 [] = res2 at hc ⊢
      match res2, hc with
      | .inl x, hc =>
        obtain ⟨m', r2, hf⟩ := hc
        exact ⟨m', (hr.trans r1).trans r2, Flt_of hf hP1⟩
      | .inr (cs, i2, vs2), hc =>
        obtain ⟨m', r2, a1, a2, a3, a4, a5, a6, a7, a8, a9, a10, a11⟩ := hc
        refine ⟨m', vs2, (hr.trans r1).trans r2, a1, a2, a3, a4, a6, a5, a7, a8, a9, fun c j q => ?_, fun x u z => a11 x u (p6 x u (raX x u z))⟩
        have qS : ¬ SA (m 125 22) 0 (m 125 18) (m 125 15) (m 125 12 + 1) c j := fun z => q (Or.inl z)
        have q12 : ¬ (c = 125 ∧ j = 12) := fun z => q (Or.inr z)
        rw [a10 c j qS, ra c j ?_]
        have t1 := SA_tok qS
        have t2 : ¬ (c = 125 ∧ (j = 34 ∨ j = 38)) := fun z => qS (Or.inl ⟨z.1, by omega⟩)
        have t3 : ¬ ((c = 143 ∨ c = 144 ∨ c = 145) ∧ 0 ≤ j) := fun z => qS (Or.inr (Or.inr (Or.inr (Or.inr (Or.inr (Or.inr (Or.inl z)))))))
        have t4 : ¬ (c = 131 ∧ j = m 125 12 + 1 - 1) := fun z => qS (Or.inr (Or.inr (Or.inr (Or.inr (Or.inr (Or.inr (Or.inr (Or.inl z))))))))
        have t5 : ¬ (c = 132 ∧ j = m 125 12 + 1) := fun z => qS (Or.inr (Or.inr (Or.inr (Or.inr (Or.inr (Or.inr (Or.inr (Or.inr (Or.inl z)))))))))
        clear qS q
        omega
  · rw [if_neg h5]
    unfold pAt
    -- a rule that is an atom alone
    have base : ∀ (m1 : PM) (h : Atm), (∀ c j, ¬ (SA (m 125 22) 0 (m 125 18) (m 125 15) (m 125 12 + 1) c j ∨ (c = 125 ∧ j = 12)) → m1 c j = m c j) → m1 125 34 = 0 → m1 125 12 = m 125 12 + 1 → m1 125 15 = m 125 15 → m1 125 18 = m 125 18 + 1 → m1 132 (m 125 12 + 1) = m 125 15 → m 125 22 ≤ m1 125 22 → m1 131 (m 125 12) = m 125 18 → AtR m1 (m 125 18) h false (m1 125 22) → (∀ x u, nX m x u → nX m1 x u) → RuP m m1 (h, []) := by
      intro m1 h s0 s1 s2 s3 s4 s5 s6 s7 s8 s9
      have eR : m 125 12 + 1 - 1 = m 125 12 := by omega
      refine ⟨s1, s2, by rw [s3]; show m 125 15 = m 125 15 + ((0 : Nat) : Int); omega, Nat.zero_le _, by rw [s4]; show m 125 18 + 1 = m 125 18 + 1 + ((0 : Nat) : Int); omega, by rw [s5]; show m 125 15 = m 125 15 + ((0 : Nat) : Int); omega, s6, ⟨by rw [eR, s7]; exact ⟨by omega, by omega, s8⟩, fun j hj => absurd hj (by simp)⟩, s0, s9⟩
    have setS : ∀ c j, ¬ (SA (m 125 22) 0 (m 125 18) (m 125 15) (m 125 12 + 1) c j ∨ (c = 125 ∧ j = 12)) → ¬ (c = 129 ∨ c = 130 ∨ (c = 125 ∧ (j = 9 ∨ j = 12 ∨ j = 18 ∨ j = 38 ∨ j = 28 ∨ j = 29 ∨ j = 30 ∨ j = 31)) ∨ (c = 131 ∧ j = m 125 12) ∨ (c = 132 ∧ j = m 125 12 + 1) ∨ ((c = 135 ∨ c = 137) ∧ j = m 125 18)) := by
      intro c j q z
      apply q
      rcases z with z | z | z | z | z | z
      · exact Or.inl (Or.inr (Or.inl z))
      · exact Or.inl (Or.inr (Or.inr (Or.inl z)))
      · by_cases y : j = 12
        · exact Or.inr ⟨z.1, y⟩
        · exact Or.inl (Or.inl ⟨z.1, by clear q; omega⟩)
      · exact Or.inl (Or.inr (Or.inr (Or.inr (Or.inr (Or.inr (Or.inr (Or.inr (Or.inl ⟨z.1, by clear q; omega⟩))))))))
      · exact Or.inl (Or.inr (Or.inr (Or.inr (Or.inr (Or.inr (Or.inr (Or.inr (Or.inr (Or.inl z)))))))))
      · exact Or.inl (Or.inr (Or.inr (Or.inr (Or.inr (Or.inr (Or.inr (Or.inr (Or.inr (Or.inr (Or.inr (Or.inl ⟨z.1, by clear q; omega⟩)))))))))))
    by_cases hp : pln t n i
    · rw [if_pos hp]
      obtain ⟨n1, n2, n3⟩ := rn_BI hn hB (Or.inl hp.1)
      obtain ⟨c1, c2, c3, c4, c5, c6, c7, c8, c9, c129, c130, ctk⟩ := rn_f (m := m) (m0 := m) (fun _ _ _ => rfl)
      have e22 : adM (rnM m) 125 22 = m 125 22 := by rw [adM_o (by omega), c1 _ _ (by omega)]
      refine ⟨adM (rnM m), [], hrr _ (fun d => br_name H hn hB hR hp d), n1, base _ _ (fun c j q => ?_) ?_ ?_ ?_ ?_ ?_ ?_ ?_ ⟨?_, Nat.zero_le _, ?_, m 125 22, by omega, ?_, trivial⟩ n3⟩
      · have := setS c j q
        rw [adM_o (by clear q; omega), c1 c j this]
      · rw [adM_o (by omega), c1 _ _ (by omega)]; exact h34
      · rw [adM_o (by omega), c2]
      · rw [adM_o (by omega), c1 _ _ (by omega)]
      · rw [adM_o (by omega), c3]
      · rw [adM_o (by omega), c6]
      · rw [e22]; omega
      · rw [adM_o (by omega), c5]
      · show nX _ (adM (rnM m) 135 (m 125 18)) (tW t n i)
        rw [adM_o (by omega), c7]
        exact n2
      · rw [adM_o (by omega), c8]
        rfl
      · rw [e22]
        show m 125 22 + ((0 : Nat) : Int) ≤ m 125 22
        omega
    · rw [if_neg hp]
      by_cases h1 : tK t n i = 1
      · rw [if_pos h1]
        by_cases hp1 : pln t n (i + 1)
        · rw [if_pos hp1]
          have hr := hrr _ (fun d => br_open H hn hB hR h34 h1 hp1 d)
          obtain ⟨n1, n2, n3⟩ := rn_BI hn (BI_skip hB (nN1 (Or.inl h1))) (Or.inl hp1.1)
          obtain ⟨c1, c2, c3, c4, c5, c6, c7, c8, c9, c129, c130, ctk⟩ := rn_f (m := adM m) (m0 := m) (fun _ _ q => adM_o q)
          generalize hg : rnM (adM m) = g at hr n1 n2 n3 c1 c2 c3 c4 c5 c6 c7 c8 c9 c129 c130 ctk
          have g34 : g 125 34 = 0 := by rw [c1 _ _ (by omega)]; exact h34
          have w1 : ∀ c j, ¬ (((c = 143 ∨ c = 144 ∨ c = 145) ∧ j = 0) ∨ (c = 125 ∧ (j = 34 ∨ j = 28 ∨ j = 29 ∨ j = 30 ∨ j = 31))) → adM (m_within g 2 (m 125 18)) c j = g c j := by
            intro c j q
            rw [adM_o (by omega), within_eq g34, up_o (by omega), up_o (by omega), up_o (by omega), up_o (by omega)]
          have hI : PI2 t n (9 + 1) (adM (m_within g 2 (m 125 18))) (i + 2) [] 2 1 (m 125 18) 136 137 (m 125 22) [] := by
            refine ⟨BI_within n1 g34, ⟨by decide, by decide, ?_, ?_, ?_, ?_, by omega⟩, ?_, ?_, trivial, Or.inr ⟨Or.inl rfl, rfl, rfl, by omega, hnd.1⟩⟩
            · rw [adM_o (by omega), within_eq g34, up_s]
              decide
            · show adM (m_within g 2 (m 125 18)) 143 0 = 2
              rw [adM_o (by omega), within_eq g34, up_c (by decide), up_c (by decide), up_c (by decide), up_s]
            · show adM (m_within g 2 (m 125 18)) 145 0 = m 125 18
              rw [adM_o (by omega), within_eq g34, up_c (by decide), up_s]
            · show adM (m_within g 2 (m 125 18)) 144 0 = _
              rw [adM_o (by omega), within_eq g34, up_c (by decide), up_c (by decide), up_s]
              rfl
            · rw [w1 _ _ (by omega), c8]
              rfl
            · rw [w1 _ _ (by omega), c1 _ _ (by omega)]
              show m 125 22 = m 125 22 + ((0 : Nat) : Int)
              omega
          have hAt := atom_parts (l := l) H hn (Or.inl rfl) hI (by decide) 1 4 rfl rfl
          have hXw : ∀ x u, nX (adM g) x u → nX (adM (m_within g 2 (m 125 18))) x u := fun x u z => nX_cg (by rw [w1 _ _ (by omega), adM_o (by omega)]) (fun j => by rw [w1 _ _ (by omega), adM_o (by omega)]) (fun j => by rw [w1 _ _ (by omega), adM_o (by omega)]) z
          unfold pPa
          generalize pPs (tK t n) (pT t n 9) 1 4 (i + 2) [] [] = res at hAt ⊢
          match res, hAt with
          | .inl x, hAt =>
            obtain ⟨m', r2, hF⟩ := hAt
            refine ⟨m', hr.trans r2, Flt_of hF (fun c j q => ?_)⟩
            rw [w1 c j (by omega), c1 c j (by omega)]
          | .inr (ps, i', vs'), hAt =>
            obtain ⟨m3, r3, hB3, q1, q2, q3, q4, q5, q6, q7⟩ := hAt
            have s0 : ∀ c j, ¬ SPl (m 125 22) 1 (m 125 18) 136 137 c j → ¬ (((c = 143 ∨ c = 144 ∨ c = 145) ∧ j = 0) ∨ (c = 125 ∧ (j = 34 ∨ j = 28 ∨ j = 29 ∨ j = 30 ∨ j = 31))) → m3 c j = g c j := fun c j z1 z2 => by rw [q1 c j z1, w1 c j z2]
            refine ⟨m3, vs', hr.trans r3, hB3, base _ _ (fun c j q => ?_) q2 ?_ ?_ ?_ ?_ (by rw [q3]; omega) ?_ ⟨?_, q7, q4, m 125 22, hnd.1, by rw [q3]; exact Int.le_refl _, q5⟩ (fun x u z => q6 x u (hXw x u (n3 x u (nX_cg (adM_o (by omega)) (fun j => adM_o (by omega)) (fun j => adM_o (by omega)) z))))⟩
            · have qS : ¬ SA (m 125 22) 0 (m 125 18) (m 125 15) (m 125 12 + 1) c j := fun z => q (Or.inl z)
              have t1 := setS c j q
              have t3 : ¬ ((c = 143 ∨ c = 144 ∨ c = 145) ∧ 0 ≤ j) := fun z => qS (Or.inr (Or.inr (Or.inr (Or.inr (Or.inr (Or.inr (Or.inl z)))))))
              have t4 : ¬ (c = 125 ∧ j = 34) := fun z => qS (Or.inl ⟨z.1, by clear qS q; omega⟩)
              rw [s0 c j (SPl_SA (o := 1) (by decide) qS) (by clear qS q; omega), c1 c j t1]
            · rw [s0 _ _ (by unfold SPl; omega) (by omega), c2]
            · rw [s0 _ _ (by unfold SPl; omega) (by omega), c1 _ _ (by omega)]
            · rw [s0 _ _ (by unfold SPl; omega) (by omega), c3]
            · rw [s0 _ _ (by unfold SPl; omega) (by omega), c6]
            · rw [s0 _ _ (by unfold SPl; omega) (by omega), c5]
            · show nX m3 (m3 135 (m 125 18)) (tW t n (i + 1))
              rw [s0 135 _ (by unfold SPl; omega) (by omega), c7]
              exact q6 _ _ (hXw _ _ n2)
        · rw [if_neg hp1]
          obtain ⟨m', hw, hF⟩ := bru_f3 (l := l) H hn hB hR h34 h1 (fun z => h5 ⟨h1, z⟩) hp1
          exact ⟨m', hrr _ hw, hF⟩
      · rw [if_neg h1]
        obtain ⟨m', hw, hF⟩ := bru_f (l := l) H hn hB (by omega) (Or.inr ⟨hp, h1⟩)
        exact ⟨m', hrr _ hw, hF⟩
end SIR
