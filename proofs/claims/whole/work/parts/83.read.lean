/-! ===== the reference's readSigns ===== -/
theorem wk_all : ∀ y, y ∈ [20974, 690895867172, 176626, 665033, 185940, 628196, 12623020, 680110, 394727, (413870246068 : Int)] → WK y := by decide +kernel
theorem wl_all : wl 13 20974 = wdL.getD 0 [] ∧ wl 13 690895867172 = wdL.getD 1 [] ∧ wl 13 176626 = wdL.getD 2 [] ∧ wl 13 665033 = wdL.getD 3 [] ∧ wl 13 185940 = wdL.getD 4 [] ∧ wl 13 628196 = wdL.getD 5 [] ∧ wl 13 12623020 = wdL.getD 6 [] ∧ wl 13 680110 = wdL.getD 7 [] ∧ wl 13 394727 = wdL.getD 8 [] ∧ wl 13 413870246068 = wdL.getD 9 [] := by decide +kernel
theorem wd_inj : ∀ j, j < 10 → ∀ k, k < 10 → wdL.getD j [] = wdL.getD k [] → j = k := by decide +kernel
theorem wd_ok : ∀ w, w ∈ wdL → w.length ≤ 16 ∧ ∀ j : Nat, j < w.length → iR (w.getD j 0) := by decide +kernel
/-- the memory with the words -/
def wdM (m : PM) : PM := fdN (up m 125 9 0) wdL
section RDS
variable {t : Int → Int} {n : Int} {μ : am_Mem} {l : PM}
theorem wdM_f (m : PM) : NmW (wdM m) ∧ NmD (wdM m) ∧ wdM m 125 9 = 10 ∧ ∀ c i, ¬ (c = 129 ∨ c = 130 ∨ (c = 125 ∧ i = 9)) → wdM m c i = m c i := by
  have h0 : NmT (up m 125 9 0) 0 := ⟨up_s _ _ _ _, by decide, fun k hk => absurd hk (Nat.not_lt_zero k)⟩
  obtain ⟨a1, a2, a3, a4⟩ := fdN_f wdL (up m 125 9 0) 0 h0 (by decide) wd_ok
  have e9 : wdM m 125 9 = 10 := a1.1
  have e : (wdM m 125 9).toNat = 10 := by rw [e9]; rfl
  have hn : ∀ j, j < 10 → nmR (wdM m) j = wdL.getD j [] := by
    intro j hj
    have := a3 j hj
    rw [Nat.zero_add] at this
    exact this
  refine ⟨by unfold NmW; rw [e]; exact a1, ⟨fun j k hj hk z => ?_, by rw [e9]; decide, hn⟩, e9, fun c i q => by unfold wdM; rw [a4 c i q, up_o (by omega)]⟩
  rw [e9] at hj hk
  rw [hn j (by omega), hn k (by omega)] at z
  exact wd_inj j (by omega) k (by omega) z
theorem c_words (H : RS μ) {m : PM} (d : Nat) : Wp (d + 1) 156 (0, [some (.ref 125)], [], sA μ m l) (pV (fun μ' => μ' = sA μ (wdM m) l) noX) := by
  obtain ⟨w0, w1, w2, w3, w4, w5, w6, w7, w8, w9⟩ := wl_all
  have k9 : ∀ (g : PM) (w : List Int), adN g w 125 9 = g 125 9 + 1 := fun g w => up_s _ _ _ _
  refine R156_0 H ?_
  intro m1 e1
  have q1 : m1 125 9 = 0 := by rw [e1, up_s]
  refine ⟨wk_all _ (by decide), by omega, ?_⟩
  intro m2 e2
  have q2 : m2 125 9 = 1 := by rw [e2, k9, q1]; decide
  refine ⟨wk_all _ (by decide), by omega, ?_⟩
  intro m3 e3
  have q3 : m3 125 9 = 2 := by rw [e3, k9, q2]; decide
  refine ⟨wk_all _ (by decide), by omega, ?_⟩
  intro m4 e4
  have q4 : m4 125 9 = 3 := by rw [e4, k9, q3]; decide
  refine ⟨wk_all _ (by decide), by omega, ?_⟩
  intro m5 e5
  have q5 : m5 125 9 = 4 := by rw [e5, k9, q4]; decide
  refine ⟨wk_all _ (by decide), by omega, ?_⟩
  intro m6 e6
  have q6 : m6 125 9 = 5 := by rw [e6, k9, q5]; decide
  refine ⟨wk_all _ (by decide), by omega, ?_⟩
  intro m7 e7
  have q7 : m7 125 9 = 6 := by rw [e7, k9, q6]; decide
  refine ⟨wk_all _ (by decide), by omega, ?_⟩
  intro m8 e8
  have q8 : m8 125 9 = 7 := by rw [e8, k9, q7]; decide
  refine ⟨wk_all _ (by decide), by omega, ?_⟩
  intro m9 e9
  have q9 : m9 125 9 = 8 := by rw [e9, k9, q8]; decide
  refine ⟨wk_all _ (by decide), by omega, ?_⟩
  intro m10 e10
  have q10 : m10 125 9 = 9 := by rw [e10, k9, q9]; decide
  refine ⟨wk_all _ (by decide), by omega, ?_⟩
  intro m11 e11
  show _ = _
  have : m11 = wdM m := by
    rw [e11, e10, e9, e8, e7, e6, e5, e4, e3, e2, e1, w0, w1, w2, w3, w4, w5, w6, w7, w8, w9]
    rfl
  rw [this]
theorem wdM_L (m : PM) : nmL (wdM m) = wdL := by
  obtain ⟨-, hD, e9, -⟩ := wdM_f m
  unfold nmL
  rw [e9]
  have e := hD.2.2
  show [nmR (wdM m) 0, nmR (wdM m) 1, nmR (wdM m) 2, nmR (wdM m) 3, nmR (wdM m) 4, nmR (wdM m) 5, nmR (wdM m) 6, nmR (wdM m) 7, nmR (wdM m) 8, nmR (wdM m) 9] = _
  rw [e 0 (by decide), e 1 (by decide), e 2 (by decide), e 3 (by decide), e 4 (by decide), e 5 (by decide), e 6 (by decide), e 7 (by decide), e 8 (by decide), e 9 (by decide)]
  rfl
theorem adM_tok0 {m : PM} (h1 : m 128 = t) (h2 : m 125 8 = n) (h3 : m 125 31 = 0) : adM m 125 28 = tK t n 0 ∧ adM m 125 29 = tkP t n 0 ∧ adM m 125 30 = tF t n 0 ∧ adM m 125 31 = tE t n 0 := by
  have e : skP (m 128) (m 125 8) (m 125 31) = tkP t n 0 := by rw [h1, h2, h3]; rfl
  unfold adM
  rw [e, h1, h2]
  refine ⟨up_s _ _ _ _, ?_, ?_, ?_⟩
  · rw [up_i (by decide), up_i (by decide), up_i (by decide), up_s]
  · rw [up_i (by decide), up_i (by decide), up_s]; rfl
  · rw [up_i (by decide), up_s]; rfl
/-- the memory as the loop begins -/
noncomputable def rsM (m : PM) : PM := adM (up (up (up (up (up (up (up (up (up (wdM m) 125 32 0) 125 33 (-1)) 125 12 0) 125 15 0) 132 0 0) 125 18 0) 125 22 0) 125 34 0) 125 31 0)
theorem rsM_BI {m : PM} (hT : TX m) (ht : m 128 = t) (hn : m 125 8 = n) : BI t n (up (rsM m) 125 38 0) 0 [] ∧ rsM m 125 34 = 0 ∧ ShR (rsM m) [] ∧ (∀ c j, ¬ PCl c j → rsM m c j = m c j) ∧ rsM m 125 33 = -1 := by
  obtain ⟨w1, w2, w3, w4⟩ := wdM_f m
  generalize hg : up (up (up (up (up (up (up (up (up (wdM m) 125 32 0) 125 33 (-1)) 125 12 0) 125 15 0) 132 0 0) 125 18 0) 125 22 0) 125 34 0) 125 31 0 = g
  have hrs : rsM m = adM g := by unfold rsM; rw [hg]
  have g0 : ∀ c j, ¬ ((c = 125 ∧ (j = 32 ∨ j = 33 ∨ j = 12 ∨ j = 15 ∨ j = 18 ∨ j = 22 ∨ j = 34 ∨ j = 31)) ∨ (c = 132 ∧ j = 0)) → g c j = wdM m c j := by
    intro c j q
    rw [← hg, up_o (by omega), up_o (by omega), up_o (by omega), up_o (by omega), up_o (by omega), up_o (by omega), up_o (by omega), up_o (by omega), up_o (by omega)]
  have v31 : g 125 31 = 0 := by rw [← hg, up_s]
  have v34 : g 125 34 = 0 := by rw [← hg, up_i (by decide), up_s]
  have v22 : g 125 22 = 0 := by rw [← hg, up_i (by decide), up_i (by decide), up_s]
  have v18 : g 125 18 = 0 := by rw [← hg, up_i (by decide), up_i (by decide), up_i (by decide), up_s]
  have v132 : g 132 0 = 0 := by rw [← hg, up_c (by decide), up_c (by decide), up_c (by decide), up_c (by decide), up_s]
  have v15 : g 125 15 = 0 := by rw [← hg, up_i (by decide), up_i (by decide), up_i (by decide), up_i (by decide), up_c (by decide), up_s]
  have v12 : g 125 12 = 0 := by rw [← hg, up_i (by decide), up_i (by decide), up_i (by decide), up_i (by decide), up_c (by decide), up_i (by decide), up_s]
  have v33 : g 125 33 = -1 := by rw [← hg, up_i (by decide), up_i (by decide), up_i (by decide), up_i (by decide), up_c (by decide), up_i (by decide), up_i (by decide), up_s]
  have v32 : g 125 32 = 0 := by rw [← hg, up_i (by decide), up_i (by decide), up_i (by decide), up_i (by decide), up_c (by decide), up_i (by decide), up_i (by decide), up_i (by decide), up_s]
  have e128 : g 128 = t := by
    funext j
    rw [g0 _ _ (by omega), w4 _ _ (by omega), ht]
  have e8 : g 125 8 = n := by rw [g0 _ _ (by omega), w4 _ _ (by omega), hn]
  have kA : ∀ c j, ¬ (c = 125 ∧ (j = 28 ∨ j = 29 ∨ j = 30 ∨ j = 31)) → adM g c j = g c j := fun c j q => adM_o q
  rw [hrs]
  obtain ⟨t1, t2, t3, t4⟩ := adM_tok0 e128 e8 v31
  have u0 : ∀ c j, ¬ (c = 125 ∧ j = 38) → up (adM g) 125 38 0 c j = adM g c j := fun c j q => up_o q
  have f9 : up (adM g) 125 38 0 125 9 = wdM m 125 9 := by rw [u0 _ _ (by omega), kA _ _ (by omega), g0 _ _ (by omega)]
  have f129 : ∀ j, up (adM g) 125 38 0 129 j = wdM m 129 j := fun j => by rw [u0 _ _ (by omega), kA _ _ (by omega), g0 _ _ (by omega)]
  have f130 : ∀ j, up (adM g) 125 38 0 130 j = wdM m 130 j := fun j => by rw [u0 _ _ (by omega), kA _ _ (by omega), g0 _ _ (by omega)]
  have h8 : up (adM g) 125 38 0 125 8 = m 125 8 := by rw [u0 _ _ (by omega), kA _ _ (by omega), e8, hn]
  have h128 : up (adM g) 125 38 0 128 = t := by
    funext j
    rw [u0 _ _ (by omega), kA _ _ (by omega), e128]
  refine ⟨⟨⟨h128, by rw [h8]; exact hn, TX_cg h8 (fun j => by rw [h128, ht]) hT⟩, ⟨by rw [u0 _ _ (by omega)]; exact t1, by rw [u0 _ _ (by omega)]; exact t2, by rw [u0 _ _ (by omega)]; exact t3, by rw [u0 _ _ (by omega)]; exact t4⟩, ⟨NmW_cg f9 f129 f130 w1, NmD_cg f9 f129 f130 w2, ⟨?_, by rw [nmL_cg f9 f129 f130]; exact wdM_L m⟩⟩, ?_, ⟨up_s _ _ _ _, by decide, fun j hj => absurd hj (by simp)⟩, ?_⟩, ?_, ⟨?_, ?_, ?_, ?_, ?_, fun r hr => absurd hr (by simp)⟩, fun c j q => ?_, ?_⟩
  · rw [f9, w3]
    show (10 : Int) ≤ 10 + ((0 : Nat) : Int)
    decide
  · rw [u0 _ _ (by omega), kA _ _ (by omega), v22]
    show (0 : Int) ≤ 0 ∧ (0 : Int) ≤ ((0 : Nat) : Int)
    decide
  · rw [u0 _ _ (by omega), kA _ _ (by omega), v32]
  · rw [kA _ _ (by omega), v34]
  · rw [kA _ _ (by omega), v12]
    rfl
  · rw [kA _ _ (by omega), v132]
  · rw [kA _ _ (by omega), v15]
    show (0 : Int) = adM g 132 0
    rw [kA _ _ (by omega), v132]
  · rw [kA _ _ (by omega), v15]
    decide
  · rw [kA _ _ (by omega), v18]
    decide
  · rw [kA _ _ (by omega), g0 c j (by omega), w4 c j (by omega)]
  · rw [kA _ _ (by omega), v33]
end RDS
