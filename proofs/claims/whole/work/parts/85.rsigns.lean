/-! ===== the reference's readSigns, whole ===== -/
section RSG
variable {μ : am_Mem} {l : PM}
theorem rs_exit (H : RS μ) {m : PM} {d : Nat} {Q : Option Value ⊕ Nat → am_Mem → Prop} (hk : iR (m 125 28)) (h : m 125 32 = 1 ∨ (m 125 32 = 0 ∧ m 125 34 = 0 ∧ m 125 28 = 0 ∧ 0 < m 125 12 ∧ m 125 12 ≤ 60)) (hq : Q (.inl none) (sA μ m l)) : Wp (d + 8) 155 (55, [some (.ref 125)], [], sA μ m l) Q := by
  rcases h with h | ⟨h1, h2, h3, h4, h5⟩
  · exact R155_55 H ⟨by omega, fun _ => hq, fun z => absurd h (by omega)⟩
  · exact R155_55 H ⟨by omega, fun _ => hq, fun _ => ⟨by omega, fun z => absurd z (by omega), fun _ => ⟨hk, fun z => absurd h3 z, fun _ => ⟨by omega, fun _ => hq, fun z => absurd z (by omega)⟩⟩⟩⟩
theorem pSh_len {t : Int → Int} {n : Int} : ∀ (r i : Nat) (acc rs : List Rul), pSh t n r i acc = .inr rs → rs.length ≤ acc.length + r := by
  intro r
  induction r with
  | zero =>
    intro i acc rs h
    unfold pSh at h
    split at h
    · cases h; exact Nat.le_refl _
    · cases h
  | succ r ih =>
    intro i acc rs h
    unfold pSh at h
    split at h
    · cases h; omega
    · split at h
      · cases h
      · have := ih _ _ _ h
        simp at this
        omega
theorem c_readSigns (H : RS μ) {m : PM} (hT : TX m) : match pSh (m 128) (m 125 8) 60 0 [] with
    | .inl x => ∃ m', (∀ d, Wp (d + 8) 155 (0, [some (.ref 125)], [], sA μ m l) (pV (fun μ' => μ' = sA μ m' l) noX)) ∧ m' 125 32 = 1 ∧ m' 125 33 = tkP (m 128) (m 125 8) x ∧ ∀ c j, ¬ PCl c j → m' c j = m c j
    | .inr rs => ∃ m', (∀ d, Wp (d + 8) 155 (0, [some (.ref 125)], [], sA μ m l) (pV (fun μ' => μ' = sA μ m' l) noX)) ∧ m' 125 32 = 0 ∧ ¬ rs = [] ∧ rs.length ≤ 60 ∧ ShR m' rs ∧ NmW m' ∧ NmD m' ∧ (m' 125 9 ≤ 1010 ∧ 0 ≤ m' 125 22 ∧ m' 125 22 ≤ 1000) ∧ (∃ i, tK (m 128) (m 125 8) i = 0 ∧ nmL m' = LsT (m 128) (m 125 8) i) ∧ ∀ c j, ¬ PCl c j → m' c j = m c j := by
  have hn : 0 ≤ m 125 8 ∧ m 125 8 ≤ 2000 := ⟨hT.1, hT.2.1⟩
  obtain ⟨b1, b2, b3, b4, b5⟩ := rsM_BI hT rfl rfl
  obtain ⟨w1, w2, w3, w4⟩ := wdM_f m
  have hstart : ∀ m', Rch μ l (rsM m) m' → ∀ d Q, Wp (d + 8) 155 (55, [some (.ref 125)], [], sA μ m' l) Q → Wp (d + 8) 155 (0, [some (.ref 125)], [], sA μ m l) Q := by
    intro m' hr d Q hq
    refine R155_0 H ⟨_, _, c_words H (d + 6), fun μ' hp => ?_, fun _ _ z => z.elim⟩
    have hp' : μ' = sA μ (wdM m) l := hp
    rw [hp']
    refine R155_4 H ?_
    intro m1 e1 m2 e2 m3 e3 m4 e4
    have f4 : m4 125 31 = 0 := by rw [e4, up_s]
    have f8 : m4 125 8 = m 125 8 := by
      rw [e4, e3, e2, e1]
      simp only [up_e]
      simp
      exact w4 _ _ (by omega)
    refine ⟨TX_cg (w4 _ _ (by omega)) (fun j => w4 _ _ (by omega)) hT, by rw [f4, f8]; omega, ?_⟩
    intro m5 e5
    have e : m5 = rsM m := by
      rw [e5, e4, e3, e2, e1]
      rfl
    rw [e]
    exact hr d Q hq
  have h := simSw (l := l) H hn 60 0 [] (rsM m) rfl (BIw_of b1) b2 b3
  have hl60 : ∀ rs, pSh (m 128) (m 125 8) 60 0 [] = .inr rs → rs.length ≤ 60 := fun rs e => by
    have := pSh_len 60 0 [] rs e
    simpa using this
  generalize pSh (m 128) (m 125 8) 60 0 [] = res at h hl60 ⊢
  match res, h, hl60 with
  | .inl x, h, _ =>
    obtain ⟨m', hr, f1, f2, f3⟩ := h
    refine ⟨m', fun d => hstart m' hr d _ ?_, f1, f2, fun c j q => by rw [f3 c j q, b4 c j q]⟩
    exact R155_55 H ⟨by omega, fun _ => rfl, fun z => absurd f1 (by omega)⟩
  | .inr rs, h, hl60 =>
    have hl := hl60 rs rfl
    obtain ⟨m', i', hr, hB, hk, hne, h34, hS, hf⟩ := h
    have hnt := nt_le (t := m 128) hn i'
    obtain ⟨⟨c1, c2, c3⟩, ⟨c4, c5, c6, c7⟩, ⟨c8, c9, c10⟩, c11, -, c15⟩ := hB
    have hlen : 0 < rs.length := List.length_pos_iff.mpr hne
    have h12 := hS.1
    refine ⟨m', fun d => hstart m' hr d _ ?_, c15, hne, hl, hS, c8, c9, by omega, ⟨i', hk, c10.2⟩, fun c j q => by rw [hf c j q, b4 c j q]⟩
    exact R155_55 H ⟨by omega, fun z => absurd c15 z, fun _ => ⟨by omega, fun z => absurd z (by omega), fun _ => ⟨by rw [c4, hk]; decide, fun z => absurd (c4.trans hk) z, fun _ => ⟨by omega, fun _ => rfl, fun z => absurd (by omega) z⟩⟩⟩⟩
end RSG
