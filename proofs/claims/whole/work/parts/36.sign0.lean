/-! ===== sign without a sheet; the start's invariant ===== -/
section SG0
variable {L i d : Nat} {xs : Nat → Int32} {μ : am_Mem} {a0 a1 a2 : Int32}
theorem r0_sign (hk : am_kd μ 125 = (1, 12)) (h4 : am_A μ 125 4 = 0) : Wp d 252 (0, [some (.ref 125), some (.int a0), some (.int a1), some (.int a2), none, none, none], [], μ) (pI (fun y μ' => y = Int32.ofInt 0 ∧ μ' = am_pA μ 125 0 (Int32.ofInt 1)) noX) := by
  refine b252_0 hk (fun _ => ?_) (fun h => absurd h4 h)
  have h43 : ∀ x4 s0, Wp d 252 (43, [some (.ref 125), some (.int a0), some (.int a1), some (.int a2), some (.int x4), none, none], [.int s0], μ) (pI (fun y μ' => y = Int32.ofInt 0 ∧ μ' = am_pA μ 125 0 (Int32.ofInt 1)) noX) := by
    intro x4 s0
    refine b252_43 hk (fun h => absurd h4 h) (fun _ => b252_53 (b252_76 hk hk (fun h => ?_) (fun _ => b252_86 ⟨rfl, rfl⟩)))
    rw [rA, if_pos ⟨rfl, rfl⟩] at h
    exact absurd h (by decide)
  refine b252_23 (b252_24 (fun _ => b252_38 (h43 _ _)) (fun _ => ?_))
  exact b252_31 hk (fun _ => b252_42 (h43 _ _)) (fun _ => b252_38 (h43 _ _))
theorem none_sign (hF : lawF L xs μ) (h6 : am_A μ 16 6 = 0) (h4 : am_A μ 125 4 = 0) : lawC L xs (d + 2) i 10 (PostN μ) μ := by
  refine w277 hF.2.2.1 (c0_sign hF.2.2.1 h6) (fun y μ' h => h.elim) (fun e μ' h => ?_)
  obtain ⟨rfl, rfl⟩ := h
  refine Or.inl ⟨rfl, lawF_same hF rfl (fun j => rfl), ?_⟩
  refine Wp.mono (r0_sign (μ := am_nX μ) hF.2.2.2.1 h4) fun o μ2 h2 => ?_
  cases o with
  | inr e => exact h2.elim
  | inl v =>
    obtain ⟨y, rfl, rfl, rfl⟩ := pI_r h2
    exact ⟨lawF_same hF rfl (fun j => by rw [rA, if_neg (by omega)]; rfl), Or.inl rfl, by rw [rA, if_pos ⟨rfl, rfl⟩], fun q => absurd q (by decide)⟩
/-- neither has a sheet, a state, or states -/
def NoSh (μ : am_Mem) : Prop := am_A μ 16 6 = 0 ∧ am_A μ 16 12 = Int32.ofInt (-1) ∧ am_A μ 16 17 = Int32.ofInt 0 ∧ am_A μ 125 4 = 0 ∧ am_A μ 125 72 = 0 ∧ am_A μ 125 81 = 0 ∧ am_A μ 16 2 = am_A μ 125 3
theorem start_text : TextI (mT L xs 186 TF 2475969) := ⟨0, by omega, ⟨rfl, rfl, rfl⟩, ⟨rfl, rfl, rfl⟩, fun j hj => absurd hj (by omega)⟩
theorem start_nosh : NoSh (mT L xs 186 TF 2475969) := ⟨rfl, rfl, rfl, rfl, rfl, rfl, rfl⟩
theorem NoSh_T {μ' : am_Mem} (h : NoSh μ) (hs : SameT μ μ') : NoSh μ' := by
  obtain ⟨h1, h2, h3, h4, h5, h6, h7⟩ := h
  have e : ∀ r j, ¬ wT r j → am_A μ' r j = am_A μ r j := fun r j hw => (hs.1 r j hw).1
  refine ⟨?_, ?_, ?_, ?_, ?_, ?_, ?_⟩
  · rw [e _ _ (by unfold wT; omega)]; exact h1
  · rw [e _ _ (by unfold wT; omega)]; exact h2
  · rw [e _ _ (by unfold wT; omega)]; exact h3
  · rw [e _ _ (by unfold wT; omega)]; exact h4
  · rw [e _ _ (by unfold wT; omega)]; exact h5
  · rw [e _ _ (by unfold wT; omega)]; exact h6
  · rw [e _ _ (by unfold wT; omega), e _ _ (by unfold wT; omega)]; exact h7
theorem PostN_A {μ' : am_Mem} (h : PostN μ μ') : ∀ r j, ¬ (r = 125 ∧ (j = 0 ∨ j = 75)) → am_A μ' r j = am_A μ r j := by
  intro r j hr
  rcases h with rfl | rfl
  · rw [rA, if_neg (fun q => hr ⟨q.1, Or.inl q.2⟩)]; rfl
  · rw [rA, if_neg (fun q => hr ⟨q.1, Or.inl q.2⟩), rA, if_neg (fun q => hr ⟨q.1, Or.inr q.2⟩)]; rfl
theorem PostN_k {μ' : am_Mem} (h : PostN μ μ') : am_kd μ' = am_kd μ ∧ am_F μ' = am_F μ ∧ am_L μ' = am_L μ ∧ am_n μ' = am_n μ + 1 ∧ am_sl μ' = am_sl μ + 6 := by
  rcases h with rfl | rfl
  · exact ⟨rfl, rfl, rfl, rfl, rfl⟩
  · exact ⟨rfl, rfl, rfl, rfl, rfl⟩
theorem NoSh_N {μ' : am_Mem} (h : NoSh μ) (hs : PostN μ μ') : NoSh μ' := by
  obtain ⟨h1, h2, h3, h4, h5, h6, h7⟩ := h
  have e := PostN_A hs
  refine ⟨?_, ?_, ?_, ?_, ?_, ?_, ?_⟩
  · rw [e _ _ (by omega)]; exact h1
  · rw [e _ _ (by omega)]; exact h2
  · rw [e _ _ (by omega)]; exact h3
  · rw [e _ _ (by omega)]; exact h4
  · rw [e _ _ (by omega)]; exact h5
  · rw [e _ _ (by omega)]; exact h6
  · rw [e _ _ (by omega), e _ _ (by omega)]; exact h7
theorem TextI_N {μ' : am_Mem} (h : TextI μ) (hs : PostN μ μ') : TextI μ' := by
  obtain ⟨n, h1, ⟨h2, h3, h4⟩, ⟨h5, h6, h7⟩, h8⟩ := h
  have e := PostN_A hs
  obtain ⟨k1, k2, -⟩ := PostN_k hs
  refine ⟨n, h1, ⟨by rw [k2]; exact h2, by rw [k1]; exact h3, ?_⟩, ⟨by rw [k2]; exact h5, by rw [k1]; exact h6, ?_⟩, fun j hj => ?_⟩
  · rw [e _ _ (by omega)]; exact h4
  · rw [e _ _ (by omega)]; exact h7
  · rw [e _ _ (by omega), e _ _ (by omega)]; exact h8 j hj
theorem cs2_mono {D kw kr : Nat} {W R : am_Mem → List (Option Value)} {I I' : am_Mem → Prop} (hI : ∀ μ', I μ' → I' μ') (h : cs2 L xs D kw kr W R I μ) : cs2 L xs D kw kr W R I' μ := by
  refine Wp.mono h fun o μ1 h1 => ?_
  cases o with
  | inr e => exact h1
  | inl v =>
    obtain ⟨k, rfl, hF, h2⟩ := pI_r h1
    refine ⟨hF, Wp.mono h2 fun o μ2 h3 => ?_⟩
    cases o with
    | inr e => exact h3
    | inl v =>
      obtain ⟨y, rfl, h4, h5, h6⟩ := pI_r h3
      exact ⟨h4, hI _ h5, h6⟩
theorem cs2z_mono {D kw kr : Nat} {W R : am_Mem → List (Option Value)} {I I' : am_Mem → Prop} (hI : ∀ μ', I μ' → I' μ') (h : cs2z L xs D kw kr W R I μ) : cs2z L xs D kw kr W R I' μ := by
  refine Wp.mono h fun o μ1 h1 => ?_
  cases o with
  | inr e => exact h1
  | inl v =>
    obtain ⟨k, rfl, hF, h2⟩ := pI_r h1
    refine ⟨hF, Wp.mono h2 fun o μ2 h3 => ?_⟩
    cases o with
    | inr e => exact h3
    | inl v =>
      obtain ⟨y, rfl, h4, h5, h6⟩ := pI_r h3
      exact ⟨h4, hI _ h5, h6⟩
theorem cs2i_mono {D kw kr : Nat} {W R : am_Mem → List (Option Value)} {I I' : am_Mem → Prop} (hI : ∀ μ', I μ' → I' μ') (h : cs2i L xs D kw kr W R I μ) : cs2i L xs D kw kr W R I' μ := by
  refine Wp.mono h fun o μ1 h1 => ?_
  cases o with
  | inr e => exact h1
  | inl v =>
    obtain ⟨k, rfl, hF, h2⟩ := pI_r h1
    refine ⟨hF, Wp.mono h2 fun o μ2 h3 => ?_⟩
    cases o with
    | inr e => exact h3
    | inl v =>
      obtain ⟨y, rfl, h4, h5, h6⟩ := pI_r h3
      exact ⟨h4, hI _ h5, h6⟩
theorem cs2v_mono {D kw kr : Nat} {W R : am_Mem → List (Option Value)} {I I' : am_Mem → Prop} (hI : ∀ μ', I μ' → I' μ') (h : cs2v L xs D kw kr W R I μ) : cs2v L xs D kw kr W R I' μ := by
  refine Wp.mono h fun o μ1 h1 => ?_
  cases o with
  | inr e => exact h1
  | inl v =>
    obtain ⟨k, rfl, hF, h2⟩ := pI_r h1
    refine ⟨hF, Wp.mono h2 fun o μ2 h3 => ?_⟩
    cases o with
    | inr e => exact h3
    | inl v =>
      obtain ⟨rfl, h4, h5, h6⟩ := pV_r h3
      exact ⟨h4, hI _ h5, h6⟩
theorem lawC_mono {D : Nat} {I I' : am_Mem → Prop} (hI : ∀ μ', I μ' → I' μ') : ∀ c, lawC L xs D i c I μ → lawC L xs D i c I' μ := fun c => match c with
  | 0 => fun h => by
    simp only [lawC] at h ⊢
    exact cs2_mono hI h
  | 1 => fun h => by
    simp only [lawC] at h ⊢
    exact cs2v_mono hI h
  | 2 => fun h => by
    simp only [lawC] at h ⊢
    exact cs2i_mono hI h
  | 3 => fun h => by
    simp only [lawC] at h ⊢
    exact cs2i_mono hI h
  | 4 => fun h => by
    simp only [lawC] at h ⊢
    exact cs2_mono hI h
  | 5 => fun h => by
    simp only [lawC] at h ⊢
    exact cs2_mono hI h
  | 6 => fun h => by
    simp only [lawC] at h ⊢
    exact cs2_mono hI h
  | 7 => fun h => by
    simp only [lawC] at h ⊢
    exact cs2z_mono hI h
  | 8 => fun h => by
    simp only [lawC] at h ⊢
    exact cs2_mono hI h
  | 9 => fun h => by
    simp only [lawC] at h ⊢
    exact cs2_mono hI h
  | 10 => fun h => by
    simp only [lawC] at h ⊢
    exact cs2_mono hI h
  | 11 => fun h => by
    simp only [lawC] at h ⊢
    exact cs2_mono hI h
  | 12 => fun h => by
    simp only [lawC] at h ⊢
    exact cs2_mono hI h
  | 13 => fun h => by
    simp only [lawC] at h ⊢
    exact cs2_mono hI h
  | 14 => fun h => by
    simp only [lawC] at h ⊢
    exact cs2_mono hI h
  | 15 => fun h => by
    simp only [lawC] at h ⊢
    exact cs2_mono hI h
  | 16 => fun h => by
    simp only [lawC] at h ⊢
    exact cs2_mono hI h
  | n + 17 => fun h => hI _ h
/-- every call but read, as long as there is no sheet -/
theorem case_nosh (hF : lawF L xs μ) (hi : 4 * i + 4 ≤ L) (hL : L ≤ 2048) (hT : TextI μ) (hN : NoSh μ) : ∀ c, ¬ c = 2 → lawC L xs (d + 2) i c (fun μ' => TextI μ' ∧ NoSh μ' ∧ am_n μ' ≤ am_n μ + 1 ∧ am_sl μ' ≤ am_sl μ + 6) μ := by
  obtain ⟨h1, h2, h3, h4, h5, h6, h7⟩ := id hN
  have h3n : ¬ am_A μ 16 17 = Int32.ofInt 1 := by rw [h3]; decide
  have fT : ∀ μ', SameT μ μ' ∧ TextI μ' → TextI μ' ∧ NoSh μ' ∧ am_n μ' ≤ am_n μ + 1 ∧ am_sl μ' ≤ am_sl μ + 6 := fun μ' h => ⟨h.2, NoSh_T hN h.1, h.1.2.2.2⟩
  have fN : ∀ μ', PostN μ μ' → TextI μ' ∧ NoSh μ' ∧ am_n μ' ≤ am_n μ + 1 ∧ am_sl μ' ≤ am_sl μ + 6 := fun μ' h => ⟨TextI_N hT h, NoSh_N hN h, Nat.le_of_eq (PostN_k h).2.2.2.1, Nat.le_of_eq (PostN_k h).2.2.2.2⟩
  intro c hc
  match c, hc with
  | 0, _ => exact lawC_mono fT 0 (case_put (d := d + 1) hF hi hL hT)
  | 1, _ => exact lawC_mono fT 1 (case_end (d := d + 1) hF hi hL hT)
  | 2, hc => exact absurd rfl hc
  | 3, _ => exact lawC_mono (fun μ' h => fT μ' ⟨h.1, h.2 hT⟩) 3 (case_fault hF h7)
  | 4, _ => exact lawC_mono fN 4 (none_sheet hF h1 h4)
  | 5, _ => exact lawC_mono fN 5 (none_start hF h1 h4)
  | 6, _ => exact lawC_mono fN 6 (none_moves hF h2 h5)
  | 7, _ => exact lawC_mono fN 7 (none_terminal hF h2 h5)
  | 8, _ => exact lawC_mono fN 8 (none_goal hF h2 h5)
  | 9, _ => exact lawC_mono fN 9 (none_play hF h2 h5)
  | 10, _ => exact lawC_mono fN 10 (none_sign hF h1 h4)
  | 11, _ => exact lawC_mono fN 11 (none_explore hF h1 h4)
  | 12, _ => exact lawC_mono fN 12 (none_defect hF h3n h6)
  | 13, _ => exact lawC_mono fN 13 (none_state hF h3n h6)
  | 14, _ => exact lawC_mono fN 14 (none_next hF h3n h6)
  | 15, _ => exact lawC_mono fN 15 (none_value hF h3n h6)
  | 16, _ => exact lawC_mono fN 16 (none_best hF h3n h6)
  | n + 17, _ => exact ⟨hT, hN, Nat.le_succ _, Nat.le_add_right _ _⟩
end SG0
