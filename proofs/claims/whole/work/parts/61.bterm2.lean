/-! ===== the reference's beginTerm: variables, parentheses, faults ===== -/
/-- where reading may write at all -/
abbrev PCl (c : Nat) (i : Int) : Prop := (129 ≤ c ∧ c ≤ 146) ∨ (c = 125 ∧ (i = 9 ∨ i = 12 ∨ i = 15 ∨ i = 18 ∨ i = 22 ∨ i = 28 ∨ i = 29 ∨ i = 30 ∨ i = 31 ∨ i = 32 ∨ i = 33 ∨ i = 34 ∨ i = 38))
/-- a fault has been found at token x -/
def Flt (t : Int → Int) (n : Int) (m m' : PM) (x : Nat) : Prop := m' 125 32 = 1 ∧ m' 125 33 = tkP t n x ∧ ∀ c i, ¬ PCl c i → m' c i = m c i
theorem fail_Flt {t : Int → Int} {n : Int} {m mm : PM} {x : Nat} (h1 : mm 125 32 = 0) (h2 : mm 125 29 = tkP t n x) (hs : ∀ c i, ¬ PCl c i → mm c i = m c i) : Flt t n m (m_fail mm 1 (mm 125 29)) x := by
  have e : m_fail mm 1 (mm 125 29) = up (up mm 125 32 1) 125 33 (mm 125 29) := if_neg (fun z => z h1)
  rw [e]
  refine ⟨by rw [up_i (by decide), up_s], by rw [up_s]; exact h2, fun c i h => ?_⟩
  rw [up_o (by omega), up_o (by omega), hs c i h]
theorem rix_nix {r : Int → Int} {x : Int} {nm : Nat → List Int} {w : List Int} : ∀ (f k : Nat), (∀ j : Nat, k ≤ j → j < k + f → (r j = x ↔ nm j = w)) → rix r x f k = nix nm w f k := by
  intro f
  induction f with
  | zero => intro k _; rfl
  | succ f ih =>
    intro k h
    have h0 := h k (Nat.le_refl _) (by omega)
    have h1 := ih (k + 1) (fun j a b => h j (by omega) (by omega))
    unfold rix nix
    by_cases q : r k = x
    · rw [if_pos q, if_pos (h0.mp q)]
    · rw [if_neg q, if_neg (fun z => q (h0.mpr z)), h1]
section BT2
variable {t : Int → Int} {n : Int} {m mm : PM} {i : Nat} {vs vs' : List (List Int)} {o w cnt v x : Int} {ct cc f : Nat} {μ : am_Mem} {l : PM}
/-- a variable's number, and the table with it -/
theorem BI_var (hn : 0 ≤ n ∧ n ≤ 2000) (hB : BI t n m i vs) (hk : tK t n i = 4) :
    VrT (nmM m (m 125 30) (m 125 31)) ∧ vrN (nmM m (m 125 30) (m 125 31)) (nmI m (m 125 30) (m 125 31)) = vrx vs (tW t n i) := by
  obtain ⟨a1, a2, a3, a4, a5⟩ := BI_name hn hB (Or.inr hk)
  have hnt := nt_le (t := t) hn i
  obtain ⟨⟨b1, b2, b3⟩, ⟨b4, b5, b6, b7⟩, ⟨b8, b9, b10⟩, b11, ⟨b12, b13, b14⟩, b15⟩ := hB
  have r38 : nmM m (m 125 30) (m 125 31) 125 38 = m 125 38 := k_nmM (by decide) (by decide) (by decide)
  have r32 : nmM m (m 125 30) (m 125 31) 125 32 = m 125 32 := k_nmM (by decide) (by decide) (by decide)
  have r146 : ∀ j, nmM m (m 125 30) (m 125 31) 146 j = m 146 j := fun j => k_nmM (by decide) (by decide) (by omega)
  refine ⟨⟨by rw [r38, b12]; omega, by rw [r38, b12]; omega, fun j h1 h2 => ?_, by rw [r32, b15]; omega⟩, ?_⟩
  · rw [r38, b12] at h2
    have := b14 j.toNat (by omega)
    have e : ((j.toNat : Nat) : Int) = j := by omega
    rw [e] at this
    rw [r146]
    have z1 := this.1
    have z2 := this.2.1
    omega
  · unfold vrN vrx
    rw [r38, b12]
    have e : ((vs.length : Int)).toNat = vs.length := by omega
    rw [e]
    refine rix_nix _ 0 (fun j _ hj => ?_)
    rw [r146]
    exact nX_inj a3 (a5 _ _ (b14 j (by omega))) a1
theorem bt_var (H : RS μ) (hn : 0 ≤ n ∧ n ≤ 2000) (hB : BI t n m i vs) (hT : Top m o w cnt ct cc) (hk : tK t n i = 4) (d : Nat) : Wp (d + 5) 178 (0, [some (.ref 125), none], [], sA μ m l) (pV (fun μ' => μ' = sA μ (adM (leB (vrM (nmM m (m 125 30) (m 125 31)) (nmI m (m 125 30) (m 125 31))) (-1) (vrI (nmM m (m 125 30) (m 125 31)) (nmI m (m 125 30) (m 125 31))))) l) noX) := by
  obtain ⟨a1, a2, a3, a4, a5⟩ := BI_name hn hB (Or.inr hk)
  obtain ⟨hV, -⟩ := BI_var hn hB hk
  have hg := BI_gN hn hB (Or.inr hk)
  have hnt := nt_le (t := t) hn i
  have h31 := BI_31 hn.1 hB
  have hpp := Top_p hT
  have hB0 := hB
  obtain ⟨⟨b1, b2, b3⟩, ⟨b4, b5, b6, b7⟩, ⟨b8, b9, b10⟩, b11, ⟨b12, b13, b14⟩, b15⟩ := hB
  have hR := tK_R t n i
  rw [← b4] at hR
  have hk4 : m 125 28 = 4 := b4.trans hk
  have hV0 : VrT m := VrT_cg (m := nmM m (m 125 30) (m 125 31)) (m' := m) (k_nmM (by decide) (by decide) (by decide)).symm (k_nmM (by decide) (by decide) (by decide)).symm (fun j => (k_nmM (by decide) (by decide) (by omega)).symm) hV
  refine R178_0 H ⟨hR, fun z => absurd hk4 z, fun _ => ⟨b3, b8, hg, ?_⟩⟩
  rintro m1 rfl v2 rfl
  refine ⟨hV0, ?_⟩
  rintro m3 rfl
  by_cases hf : vrM (nmM m (m 125 30) (m 125 31)) (nmI m (m 125 30) (m 125 31)) 125 32 = 0
  · have hs : ∀ c i, ¬ (c = 129 ∨ c = 130 ∨ c = 146 ∨ (c = 125 ∧ (i = 9 ∨ i = 38))) → vrM (nmM m (m 125 30) (m 125 31)) (nmI m (m 125 30) (m 125 31)) c i = m c i := by
      intro c j h
      rw [← nmM_hs (m := m) (a := m 125 30) (b := m 125 31) c j h]
      unfold vrM at hf ⊢
      split
      · rfl
      · rename_i q
        rw [if_neg q] at hf
        split
        · rename_i q2
          rw [if_pos q2] at hf
          exfalso
          have e : m_fail (nmM m (m 125 30) (m 125 31)) 1 (nmM m (m 125 30) (m 125 31) 125 29) = up (up (nmM m (m 125 30) (m 125 31)) 125 32 1) 125 33 (nmM m (m 125 30) (m 125 31) 125 29) := if_neg (fun z => z (by rw [k_nmM (by decide) (by decide) (by decide)]; exact b15))
          rw [e, up_i (by decide), up_s] at hf
          omega
        · rw [up_o (by omega), up_c (by omega)]
    have hS := leB_s (v := -1) (x := vrI (nmM m (m 125 30) (m 125 31)) (nmI m (m 125 30) (m 125 31))) hT hs
    refine bt_tail (C := fun m17 v16 => (0 ≤ m17 125 31 ∧ m17 125 31 ≤ m17 125 8) ∧ (∀ m18 : PM, m18 = adM m17 → pV (fun μ' => μ' = sA μ (adM (leB (vrM (nmM m (m 125 30) (m 125 31)) (nmI m (m 125 30) (m 125 31))) (-1) (vrI (nmM m (m 125 30) (m 125 31)) (nmI m (m 125 30) (m 125 31))))) l) noX (.inl none) (sA μ m18 l))) hT hs (by omega) ?_
    refine ⟨?_, fun m18 e18 => ?_⟩
    · rw [hS _ _ (by rcases hpp with ⟨_, rfl, rfl, _⟩ | ⟨_, rfl, rfl⟩ <;> omega), hS _ _ (by rcases hpp with ⟨_, rfl, rfl, _⟩ | ⟨_, rfl, rfl⟩ <;> omega), hs _ _ (by omega), hs _ _ (by omega)]
      exact h31
    · show _ = _
      rw [e18]
  · have q : ¬ (vrN (nmM m (m 125 30) (m 125 31)) (nmI m (m 125 30) (m 125 31)) : Int) < nmM m (m 125 30) (m 125 31) 125 38 := by
      intro z
      refine hf ?_
      unfold vrM
      rw [if_pos z, k_nmM (by decide) (by decide) (by decide)]
      exact b15
    have q2 : nmM m (m 125 30) (m 125 31) 125 38 = 8 := by
      refine Classical.byContradiction fun z => hf ?_
      unfold vrM
      rw [if_neg q, if_neg z, up_i (by decide), up_c (by decide), k_nmM (by decide) (by decide) (by decide)]
      exact b15
    have eM : vrM (nmM m (m 125 30) (m 125 31)) (nmI m (m 125 30) (m 125 31)) = up (up (nmM m (m 125 30) (m 125 31)) 125 32 1) 125 33 (nmM m (m 125 30) (m 125 31) 125 29) := by
      unfold vrM
      rw [if_neg q, if_pos q2]
      exact if_neg (fun z => z (by rw [k_nmM (by decide) (by decide) (by decide)]; exact b15))
    -- the same memory, its fault and place put first
    have hT2 : Top (up (up m 125 32 1) 125 33 (nmM m (m 125 30) (m 125 31) 125 29)) o w cnt ct cc := by
      unfold Top at hT ⊢
      simp only [up_e]
      simpa using hT
    have hs2 : ∀ c i, ¬ (c = 129 ∨ c = 130 ∨ c = 146 ∨ (c = 125 ∧ (i = 9 ∨ i = 38))) → vrM (nmM m (m 125 30) (m 125 31)) (nmI m (m 125 30) (m 125 31)) c i = up (up m 125 32 1) 125 33 (nmM m (m 125 30) (m 125 31) 125 29) c i := by
      intro c j h
      rw [eM]
      simp only [up_e]
      rw [nmM_hs c j h]
    have hS := leB_s (v := -1) (x := vrI (nmM m (m 125 30) (m 125 31)) (nmI m (m 125 30) (m 125 31))) hT2 hs2
    have e22 : up (up m 125 32 1) 125 33 (nmM m (m 125 30) (m 125 31) 125 29) 125 22 = m 125 22 := by rw [up_i (by decide), up_i (by decide)]
    refine bt_tail (C := fun m17 v16 => (0 ≤ m17 125 31 ∧ m17 125 31 ≤ m17 125 8) ∧ (∀ m18 : PM, m18 = adM m17 → pV (fun μ' => μ' = sA μ (adM (leB (vrM (nmM m (m 125 30) (m 125 31)) (nmI m (m 125 30) (m 125 31))) (-1) (vrI (nmM m (m 125 30) (m 125 31)) (nmI m (m 125 30) (m 125 31))))) l) noX (.inl none) (sA μ m18 l))) hT2 hs2 (by rw [e22]; omega) ?_
    refine ⟨?_, fun m18 e18 => ?_⟩
    · rw [hS _ _ (by rcases hpp with ⟨_, rfl, rfl, _⟩ | ⟨_, rfl, rfl⟩ <;> omega), hS _ _ (by rcases hpp with ⟨_, rfl, rfl, _⟩ | ⟨_, rfl, rfl⟩ <;> omega), hs2 _ _ (by omega), hs2 _ _ (by omega), up_i (by decide), up_i (by decide), up_i (by decide), up_i (by decide)]
      exact h31
    · show _ = _
      rw [e18]
end BT2
