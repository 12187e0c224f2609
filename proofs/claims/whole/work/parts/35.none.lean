/-! ===== printed: calls that are refused at once, by both ===== -/
/-- the memory behind such a call: a throw was made, thrown is 1; explore has set isWorked to false -/
def PostN (μ μ' : am_Mem) : Prop := μ' = am_pA (am_nX μ) 125 0 (Int32.ofInt 1) ∨ μ' = am_pA (am_pA (am_nX μ) 125 75 (Int32.ofInt 0)) 125 0 (Int32.ofInt 1)
section NON
variable {L i d : Nat} {xs : Nat → Int32} {μ : am_Mem}
theorem none_sheet (hF : lawF L xs μ) (h6 : am_A μ 16 6 = 0) (h4 : am_A μ 125 4 = 0) : lawC L xs (d + 2) i 4 (PostN μ) μ := by
  refine w271 hF.2.2.1 (c0_sheet hF.2.2.1 h6) (fun y μ' h => h.elim) (fun e μ' h => ?_)
  obtain ⟨rfl, rfl⟩ := h
  refine Or.inl ⟨rfl, lawF_same hF rfl (fun j => rfl), ?_⟩
  refine Wp.mono (r0_sheet (d := d + 1) (μ := am_nX μ) hF.2.2.2.1 h4) fun o μ2 h2 => ?_
  cases o with
  | inr e => exact h2.elim
  | inl v =>
    obtain ⟨y, rfl, rfl, rfl⟩ := pI_r h2
    exact ⟨lawF_same hF rfl (fun j => by rw [rA, if_neg (by omega)]; rfl), Or.inl rfl, by rw [rA, if_pos ⟨rfl, rfl⟩], fun q => absurd q (by decide)⟩
theorem none_start (hF : lawF L xs μ) (h6 : am_A μ 16 6 = 0) (h4 : am_A μ 125 4 = 0) : lawC L xs (d + 2) i 5 (PostN μ) μ := by
  refine w272 hF.2.2.1 (c0_start hF.2.2.1 h6) (fun y μ' h => h.elim) (fun e μ' h => ?_)
  obtain ⟨rfl, rfl⟩ := h
  refine Or.inl ⟨rfl, lawF_same hF rfl (fun j => rfl), ?_⟩
  refine Wp.mono (r0_start (d := d + 1) (μ := am_nX μ) hF.2.2.2.1 h4) fun o μ2 h2 => ?_
  cases o with
  | inr e => exact h2.elim
  | inl v =>
    obtain ⟨y, rfl, rfl, rfl⟩ := pI_r h2
    exact ⟨lawF_same hF rfl (fun j => by rw [rA, if_neg (by omega)]; rfl), Or.inl rfl, by rw [rA, if_pos ⟨rfl, rfl⟩], fun q => absurd q (by decide)⟩
theorem none_moves (hF : lawF L xs μ) (h12 : am_A μ 16 12 = Int32.ofInt (-1)) (h72 : am_A μ 125 72 = 0) : lawC L xs (d + 2) i 6 (PostN μ) μ := by
  refine w273 hF.2.2.1 (c0_moves hF.2.2.1 h12) (fun y μ' h => h.elim) (fun e μ' h => ?_)
  obtain ⟨rfl, rfl⟩ := h
  refine Or.inl ⟨rfl, lawF_same hF rfl (fun j => rfl), ?_⟩
  refine Wp.mono (r0_moves (d := d + 1) (μ := am_nX μ) hF.2.2.2.1 h72) fun o μ2 h2 => ?_
  cases o with
  | inr e => exact h2.elim
  | inl v =>
    obtain ⟨y, rfl, rfl, rfl⟩ := pI_r h2
    exact ⟨lawF_same hF rfl (fun j => by rw [rA, if_neg (by omega)]; rfl), Or.inl rfl, by rw [rA, if_pos ⟨rfl, rfl⟩], fun q => absurd q (by decide)⟩
theorem none_terminal (hF : lawF L xs μ) (h12 : am_A μ 16 12 = Int32.ofInt (-1)) (h72 : am_A μ 125 72 = 0) : lawC L xs (d + 2) i 7 (PostN μ) μ := by
  refine w274 hF.2.2.1 (c0_terminal hF.2.2.1 h12) (fun y μ' h => h.elim) (fun e μ' h => ?_)
  obtain ⟨rfl, rfl⟩ := h
  refine Or.inl ⟨rfl, lawF_same hF rfl (fun j => rfl), ?_⟩
  refine Wp.mono (r0_terminal (d := d + 1) (μ := am_nX μ) hF.2.2.2.1 h72) fun o μ2 h2 => ?_
  cases o with
  | inr e => exact h2.elim
  | inl v =>
    obtain ⟨y, rfl, rfl, rfl⟩ := pI_r h2
    exact ⟨lawF_same hF rfl (fun j => by rw [rA, if_neg (by omega)]; rfl), Or.inl rfl, by rw [rA, if_pos ⟨rfl, rfl⟩], fun q => absurd q (by decide)⟩
theorem none_goal (hF : lawF L xs μ) (h12 : am_A μ 16 12 = Int32.ofInt (-1)) (h72 : am_A μ 125 72 = 0) : lawC L xs (d + 2) i 8 (PostN μ) μ := by
  refine w275 hF.2.2.1 (c0_goal hF.2.2.1 h12) (fun y μ' h => h.elim) (fun e μ' h => ?_)
  obtain ⟨rfl, rfl⟩ := h
  refine Or.inl ⟨rfl, lawF_same hF rfl (fun j => rfl), ?_⟩
  refine Wp.mono (r0_goal (d := d + 1) (μ := am_nX μ) hF.2.2.2.1 h72) fun o μ2 h2 => ?_
  cases o with
  | inr e => exact h2.elim
  | inl v =>
    obtain ⟨y, rfl, rfl, rfl⟩ := pI_r h2
    exact ⟨lawF_same hF rfl (fun j => by rw [rA, if_neg (by omega)]; rfl), Or.inl rfl, by rw [rA, if_pos ⟨rfl, rfl⟩], fun q => absurd q (by decide)⟩
theorem none_play (hF : lawF L xs μ) (h12 : am_A μ 16 12 = Int32.ofInt (-1)) (h72 : am_A μ 125 72 = 0) : lawC L xs (d + 2) i 9 (PostN μ) μ := by
  refine w276 hF.2.2.1 (c0_play hF.2.2.1 h12) (fun y μ' h => h.elim) (fun e μ' h => ?_)
  obtain ⟨rfl, rfl⟩ := h
  refine Or.inl ⟨rfl, lawF_same hF rfl (fun j => rfl), ?_⟩
  refine Wp.mono (r0_play (d := d + 1) (μ := am_nX μ) hF.2.2.2.1 h72) fun o μ2 h2 => ?_
  cases o with
  | inr e => exact h2.elim
  | inl v =>
    obtain ⟨y, rfl, rfl, rfl⟩ := pI_r h2
    exact ⟨lawF_same hF rfl (fun j => by rw [rA, if_neg (by omega)]; rfl), Or.inl rfl, by rw [rA, if_pos ⟨rfl, rfl⟩], fun q => absurd q (by decide)⟩
theorem none_explore (hF : lawF L xs μ) (h6 : am_A μ 16 6 = 0) (h4 : am_A μ 125 4 = 0) : lawC L xs (d + 2) i 11 (PostN μ) μ := by
  refine w278 hF.2.2.1 (c0_explore hF.2.2.1 h6) (fun y μ' h => h.elim) (fun e μ' h => ?_)
  obtain ⟨rfl, rfl⟩ := h
  refine Or.inl ⟨rfl, lawF_same hF rfl (fun j => rfl), ?_⟩
  refine Wp.mono (r0_explore (d := d + 1) (μ := am_nX μ) hF.2.2.2.1 h4) fun o μ2 h2 => ?_
  cases o with
  | inr e => exact h2.elim
  | inl v =>
    obtain ⟨y, rfl, rfl, rfl⟩ := pI_r h2
    exact ⟨lawF_same hF rfl (fun j => by rw [rA, if_neg (by omega), rA, if_neg (by omega)]; rfl), Or.inr rfl, by rw [rA, if_pos ⟨rfl, rfl⟩], fun q => absurd q (by decide)⟩
theorem none_defect (hF : lawF L xs μ) (h17 : ¬ am_A μ 16 17 = Int32.ofInt 1) (h81 : am_A μ 125 81 = 0) : lawC L xs (d + 2) i 12 (PostN μ) μ := by
  refine w279 hF.2.2.1 (c0_defect hF.2.2.1 h17) (fun y μ' h => h.elim) (fun e μ' h => ?_)
  obtain ⟨rfl, rfl⟩ := h
  refine Or.inl ⟨rfl, lawF_same hF rfl (fun j => rfl), ?_⟩
  refine Wp.mono (r0_defect (d := d + 1) (μ := am_nX μ) hF.2.2.2.1 h81) fun o μ2 h2 => ?_
  cases o with
  | inr e => exact h2.elim
  | inl v =>
    obtain ⟨y, rfl, rfl, rfl⟩ := pI_r h2
    exact ⟨lawF_same hF rfl (fun j => by rw [rA, if_neg (by omega)]; rfl), Or.inl rfl, by rw [rA, if_pos ⟨rfl, rfl⟩], fun q => absurd q (by decide)⟩
theorem none_state (hF : lawF L xs μ) (h17 : ¬ am_A μ 16 17 = Int32.ofInt 1) (h81 : am_A μ 125 81 = 0) : lawC L xs (d + 2) i 13 (PostN μ) μ := by
  refine w280 hF.2.2.1 (c0_state hF.2.2.1 h17) (fun y μ' h => h.elim) (fun e μ' h => ?_)
  obtain ⟨rfl, rfl⟩ := h
  refine Or.inl ⟨rfl, lawF_same hF rfl (fun j => rfl), ?_⟩
  refine Wp.mono (r0_state (d := d + 1) (μ := am_nX μ) hF.2.2.2.1 h81) fun o μ2 h2 => ?_
  cases o with
  | inr e => exact h2.elim
  | inl v =>
    obtain ⟨y, rfl, rfl, rfl⟩ := pI_r h2
    exact ⟨lawF_same hF rfl (fun j => by rw [rA, if_neg (by omega)]; rfl), Or.inl rfl, by rw [rA, if_pos ⟨rfl, rfl⟩], fun q => absurd q (by decide)⟩
theorem none_next (hF : lawF L xs μ) (h17 : ¬ am_A μ 16 17 = Int32.ofInt 1) (h81 : am_A μ 125 81 = 0) : lawC L xs (d + 2) i 14 (PostN μ) μ := by
  refine w281 hF.2.2.1 (c0_next hF.2.2.1 h17) (fun y μ' h => h.elim) (fun e μ' h => ?_)
  obtain ⟨rfl, rfl⟩ := h
  refine Or.inl ⟨rfl, lawF_same hF rfl (fun j => rfl), ?_⟩
  refine Wp.mono (r0_next (d := d + 1) (μ := am_nX μ) hF.2.2.2.1 h81) fun o μ2 h2 => ?_
  cases o with
  | inr e => exact h2.elim
  | inl v =>
    obtain ⟨y, rfl, rfl, rfl⟩ := pI_r h2
    exact ⟨lawF_same hF rfl (fun j => by rw [rA, if_neg (by omega)]; rfl), Or.inl rfl, by rw [rA, if_pos ⟨rfl, rfl⟩], fun q => absurd q (by decide)⟩
theorem none_value (hF : lawF L xs μ) (h17 : ¬ am_A μ 16 17 = Int32.ofInt 1) (h81 : am_A μ 125 81 = 0) : lawC L xs (d + 2) i 15 (PostN μ) μ := by
  refine w282 hF.2.2.1 (c0_value hF.2.2.1 h17) (fun y μ' h => h.elim) (fun e μ' h => ?_)
  obtain ⟨rfl, rfl⟩ := h
  refine Or.inl ⟨rfl, lawF_same hF rfl (fun j => rfl), ?_⟩
  refine Wp.mono (r0_value (d := d + 1) (μ := am_nX μ) hF.2.2.2.1 h81) fun o μ2 h2 => ?_
  cases o with
  | inr e => exact h2.elim
  | inl v =>
    obtain ⟨y, rfl, rfl, rfl⟩ := pI_r h2
    exact ⟨lawF_same hF rfl (fun j => by rw [rA, if_neg (by omega)]; rfl), Or.inl rfl, by rw [rA, if_pos ⟨rfl, rfl⟩], fun q => absurd q (by decide)⟩
theorem none_best (hF : lawF L xs μ) (h17 : ¬ am_A μ 16 17 = Int32.ofInt 1) (h81 : am_A μ 125 81 = 0) : lawC L xs (d + 2) i 16 (PostN μ) μ := by
  refine w283 hF.2.2.1 (c0_best hF.2.2.1 h17) (fun y μ' h => h.elim) (fun e μ' h => ?_)
  obtain ⟨rfl, rfl⟩ := h
  refine Or.inl ⟨rfl, lawF_same hF rfl (fun j => rfl), ?_⟩
  refine Wp.mono (r0_best (d := d + 1) (μ := am_nX μ) hF.2.2.2.1 h81) fun o μ2 h2 => ?_
  cases o with
  | inr e => exact h2.elim
  | inl v =>
    obtain ⟨y, rfl, rfl, rfl⟩ := pI_r h2
    exact ⟨lawF_same hF rfl (fun j => by rw [rA, if_neg (by omega)]; rfl), Or.inl rfl, by rw [rA, if_pos ⟨rfl, rfl⟩], fun q => absurd q (by decide)⟩
end NON
