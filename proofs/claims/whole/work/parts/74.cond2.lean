/-! ===== the reference's reader: not, distinct, all conditions ===== -/
section CN2
variable {t : Int → Int} {n : Int} {μ : am_Mem} {l : PM}
theorem not_state {m : PM} (h34 : m 125 34 = 1) : (∀ c j, ¬ (((c = 143 ∨ c = 144 ∨ c = 145) ∧ j = 1) ∨ (c = 125 ∧ (j = 28 ∨ j = 29 ∨ j = 30 ∨ j = 31 ∨ j = 34))) → adM (m_within (adM m) 3 0) c j = m c j) ∧ adM (m_within (adM m) 3 0) 125 34 = 2 ∧ adM (m_within (adM m) 3 0) 143 1 = 3 ∧ adM (m_within (adM m) 3 0) 144 1 = 0 := by
  have g34 : adM m 125 34 = 1 := by rw [adM_o (by omega)]; exact h34
  rw [within_eq g34]
  refine ⟨fun c j q => ?_, ?_, ?_, ?_⟩
  · rw [adM_o (by omega), up_o (by omega), up_o (by omega), up_o (by omega), up_o (by omega), adM_o (by omega)]
  · rw [adM_o (by omega), up_s]
    decide
  · rw [adM_o (by omega), up_c (by decide), up_c (by decide), up_c (by decide), up_s]
  · rw [adM_o (by omega), up_c (by decide), up_c (by decide), up_s]
theorem CP_not {ms m3 : PM} {a : Atm} {k : Int} (h34 : ms 125 34 = 1) (hk : ms 144 0 = k) (h : AP (up (adM (m_within (adM (up ms 144 0 (k + 1))) 3 0)) 144 1 (0 + 1)) m3 a 2 false) : CP ms (adM (up m3 125 34 (2 - 1))) a 2 false := by
  have e34 : up ms 144 0 (k + 1) 125 34 = 1 := by rw [up_c (by decide)]; exact h34
  obtain ⟨n1, n2, n3, n4⟩ := not_state e34
  generalize hm1 : adM (m_within (adM (up ms 144 0 (k + 1))) 3 0) = m1 at h n1 n2 n3 n4
  have f1 : ∀ c j, ¬ (((c = 143 ∨ c = 144 ∨ c = 145) ∧ j = 1) ∨ (c = 125 ∧ (j = 28 ∨ j = 29 ∨ j = 30 ∨ j = 31 ∨ j = 34)) ∨ (c = 144 ∧ j = 0)) → up m1 144 1 (0 + 1) c j = ms c j := by
    intro c j q
    rw [up_o (by omega), n1 c j (by omega), up_o (by omega)]
  have f12 := f1 125 12 (by omega)
  have f15 := f1 125 15 (by omega)
  have f18 := f1 125 18 (by omega)
  have f22 := f1 125 22 (by omega)
  have f34 : up m1 144 1 (0 + 1) 125 34 = 2 := by rw [up_c (by decide)]; exact n2
  obtain ⟨a1, a2, a3, a4, a5, a6, a7, a8⟩ := h
  rw [f12, f15, f18, f22, f34] at a1
  rw [f34] at a2
  rw [f18] at a3
  rw [f22] at a4
  rw [f18] at a5
  rw [f12, f15, f18, f1 131 _ (by omega)] at a8
  have g : ∀ c j, ¬ (c = 125 ∧ (j = 28 ∨ j = 29 ∨ j = 30 ∨ j = 31 ∨ j = 34)) → adM (up m3 125 34 (2 - 1)) c j = m3 c j := by
    intro c j q
    rw [adM_o (by omega), up_o (by omega)]
  have gX : ∀ x u, nX m3 x u → nX (adM (up m3 125 34 (2 - 1))) x u := fun x u z => nX_cg (g _ _ (by omega)) (fun j => g _ _ (by omega)) (fun j => g _ _ (by omega)) z
  obtain ⟨q1, q2, q3, q4, q5⟩ := a8 (by decide)
  refine ⟨fun c j q => ?_, ⟨?_, ?_, ?_⟩, by rw [g _ _ (by omega)]; exact a3, by rw [g _ _ (by omega)]; exact a4, ?_, fun x u z => gX x u (a6 x u (nX_cg (f1 _ _ (by omega)) (fun j => f1 _ _ (by omega)) (fun j => f1 _ _ (by omega)) z)), fun z => absurd z (by decide), fun _ => ⟨by rw [g _ _ (by omega)]; exact q1, by rw [g _ _ (by omega)]; exact q2, by rw [g _ _ (by omega)]; exact q3, by rw [g _ _ (by omega)]; exact q4, by rw [g _ _ (by omega)]; exact q5⟩⟩
  · have t1 := SA_tok q
    have t2 : ¬ (c = 125 ∧ j = 34) := fun z => q (Or.inl ⟨z.1, by omega⟩)
    have t3 : ¬ ((c = 143 ∨ c = 144 ∨ c = 145) ∧ 0 ≤ j) := fun z => q (Or.inr (Or.inr (Or.inr (Or.inr (Or.inr (Or.inr (Or.inl z)))))))
    rw [g c j (by clear q; omega), a1 c j (SA_o (by omega) q), f1 c j (by clear q; omega)]
  · rw [adM_o (by omega), up_s]
    decide
  · rw [g _ _ (by omega), a1 143 0 (by unfold SA; omega), f1 143 0 (by omega)]
  · rw [g _ _ (by omega), a1 144 0 (by unfold SA; omega), up_i (by decide), n1 144 0 (by omega), up_s, hk]
  · rw [g 125 22 (by omega)]
    exact AtR_cg gX (Int.le_refl _) (g _ _ (by omega)) (g _ _ (by omega)) (fun j _ _ => g _ _ (by omega)) (fun j _ _ => ⟨g _ _ (by omega), g _ _ (by omega), g _ _ (by omega), g _ _ (by omega)⟩) (fun j _ _ => g _ _ (by omega)) a5
theorem sim_not (H : RS μ) (hn : 0 ≤ n ∧ n ≤ 2000) {i : Nat} {vs : List (List Int)} {ms : PM} {k : Int} (hB : BI t n ms i vs) (hR : RB ms) (hF : Fr ms 1 1 k) (hk : 1 ≤ k ∧ k ≤ 8) (h1 : tK t n i = 1) (h3 : tK t n (i + 1) = 3) (hw : tW t n (i + 1) = wdL.getD 0 []) :
    match (match pAt t n 7 (i + 2) vs with | .inl x => (.inl x : Rd (Nat × Atm)) | .inr (a, i', vs') => if tK t n i' = 2 then .inr ((2, a), i' + 1, vs') else .inl i') with
      | .inl x => ∃ m', Rch μ l ms m' ∧ Flt t n ms m' x
      | .inr (c, i', vs') => ∃ m', Rch μ l ms m' ∧ BI t n m' i' vs' ∧ CP ms m' c.2 c.1 (decide (c.1 = 3)) := by
  have h34 := hF.2.2.1
  have h144 := hF.2.2.2.2.1
  have e : ∀ j, up ms 144 0 (k + 1) 125 j = ms 125 j := fun j => up_c (by decide)
  have hBu := BI_up144 (j := 0) (k := k + 1) hB
  have hr1 : Rch μ l ms (adM (m_within (adM (up ms 144 0 (k + 1))) 3 0)) := part_a (s := 1) H hB hF (by omega) (by rw [if_pos rfl]; omega) (by rw [if_neg (by decide), if_neg (by omega)]) (fun d => ba_not H hn hBu h1 (by rw [e]; omega) h3 hw d)
  have hB1 : BI t n (adM (m_within (adM (up ms 144 0 (k + 1))) 3 0)) (i + 2) vs := BI_within (o := 1) (BI_skip (BI_skip hBu (nN1 (Or.inl h1))) (fun _ => by rw [hw]; decide)) (by rw [adM_o (by omega), e]; exact h34)
  obtain ⟨n1, n2, n3, n4⟩ := not_state (m := up ms 144 0 (k + 1)) (by rw [e]; exact h34)
  have hF1 : Fr (adM (m_within (adM (up ms 144 0 (k + 1))) 3 0)) 2 3 0 := ⟨by decide, by decide, n2, n3, n4, by decide, Or.inr ⟨rfl, by decide⟩⟩
  have hfl : ∀ c j, ¬ PCl c j → adM (m_within (adM (up ms 144 0 (k + 1))) 3 0) c j = ms c j := by
    intro c j q
    rw [n1 c j (by omega), up_o (by omega)]
  by_cases h2 : tK t n (i + 2) = 2
  · rw [pAt_2 h2]
    obtain ⟨m', r, hf⟩ := close_nf (l := l) H hB1 hF1 h2
    exact ⟨m', hr1.trans r, Flt_of hf hfl⟩
  · have hR1 : RB (up (adM (m_within (adM (up ms 144 0 (k + 1))) 3 0)) 144 1 (0 + 1)) := RB_cg (by rw [up_c (by decide), n1 _ _ (by omega), e]) (by rw [up_c (by decide), n1 _ _ (by omega), e]) (by rw [up_c (by decide), n1 _ _ (by omega), e]) hR
    have h := simA (l := l) (ms := adM (m_within (adM (up ms 144 0 (k + 1))) 3 0)) (s := 2) (dl := 7) H hn (BI_up144 (j := 1) (k := 0 + 1) hB1) hR1 (by rw [up_c (by decide), n2]; omega) (by decide) (fun z => absurd z (by decide)) (fun m' hw' => part_a H hB1 hF1 h2 (by decide) (by decide) hw')
    generalize pAt t n 7 (i + 2) vs = res at h ⊢
    match res, h with
    | .inl x, h =>
      obtain ⟨m', r, hf⟩ := h
      exact ⟨m', hr1.trans r, Flt_of hf (fun c j q => by rw [up_o (by omega), hfl c j q])⟩
    | .inr (a, i', vs'), h =>
      obtain ⟨m3, r, hb, hp⟩ := h
      have f34 : m3 125 34 = 2 := by rw [hp.2.1, up_c (by decide)]; exact n2
      have u34 : up (adM (m_within (adM (up ms 144 0 (k + 1))) 3 0)) 144 1 (0 + 1) 125 34 = 2 := by rw [up_c (by decide)]; exact n2
      have f143 : m3 143 1 = 3 := by
        rw [hp.1 143 1 (by unfold SA; rw [u34]; omega), up_c (by decide)]
        exact n3
      have f144 : m3 144 1 = 1 := by
        rw [hp.1 144 1 (by unfold SA; rw [u34]; omega), up_s]
        decide
      have hF3 : Fr m3 2 3 1 := ⟨by decide, by decide, f34, f143, f144, by decide, Or.inr ⟨rfl, by decide⟩⟩
      have hfl3 : ∀ c j, ¬ PCl c j → m3 c j = ms c j := by
        intro c j q
        rw [hp.1 c j (SA_PCl hR1.1 q), up_o (by omega), hfl c j q]
      dsimp only
      by_cases hz : tK t n i' = 2
      · rw [if_pos hz]
        exact ⟨_, (hr1.trans r).trans (close_n H hn hb hF3 hz (by decide)), BI_skip (BI_cg hb (fun c j q => up_o (by omega))) (nN1 (Or.inr (Or.inl hz))), CP_not h34 h144 hp⟩
      · rw [if_neg hz]
        obtain ⟨m', r', hf⟩ := part_n (l := l) H hb hF3 hz (by decide)
        exact ⟨m', (hr1.trans r).trans r', Flt_of hf hfl3⟩
end CN2
