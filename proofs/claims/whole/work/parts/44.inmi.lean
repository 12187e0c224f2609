/-! ===== the class's names: with a new name they are still names ===== -/
theorem NmA_mono {μ : am_Mem} {a p f s c : Nat} {fr : Nat → Nat} (h : NmA μ a p f s c fr) : ∀ m k, k + m ≤ c → fr k ≤ fr (k + m) := by
  intro m
  induction m with
  | zero => intro k _; exact Nat.le_refl _
  | succ m ih =>
    intro k hk
    have h1 := ih k (by omega)
    have h2 := h.2.2.2.2.2.2.2.2.2.2.2.1 (k + m) (by omega)
    have e : k + (m + 1) = k + m + 1 := by omega
    rw [e]
    omega
/-- where the names begin, one more -/
def frN (fr : Nat → Nat) (c n : Nat) : Nat → Nat := fun k => if k = c + 1 then fr c + n else fr k
section INM
variable {a p f s c t b n t0 m : Nat} {μ : am_Mem} {fr : Nat → Nat}
theorem inM_A (e q r j : Nat) : am_A (inM μ a p f s t b n c e q) r j = if r = s ∧ j = q then nI (c + 1) else if r = a ∧ j = 4 then nI (c + 1) else if r = f ∧ j = c + 1 then nI (e + n) else if r = p then poG (am_A μ p) (am_A μ t) e b n j else am_A μ r j := by
  unfold inM
  rw [rA, rA, rA, rW]
theorem inM_I (h : NmI μ a p f s c fr) (hc : c < 1024) (hap : ¬ a = p) (hfp : ¬ f = p) (hsp : ¬ s = p) (haf : ¬ a = f) (has : ¬ a = s) (hfs : ¬ f = s) (hpo : fr c + n ≤ 2058) (h0 : t0 < 2048) (hm : m < 2048) (et : nmP (fun j => am_A μ t (b + j)) n = nI t0) (hz : (am_A μ s ((t0 + m) % 2048)).toNatClampNeg = 0) (hnz : ∀ m', m' < m → ¬ (am_A μ s ((t0 + m') % 2048)).toNatClampNeg = 0) :
    NmI (inM μ a p f s t b n c (fr c) ((t0 + m) % 2048)) a p f s (c + 1) (frN fr c n) := by
  obtain ⟨hA, hv, hH⟩ := h
  have hmono := NmA_mono hA
  obtain ⟨h1, h2, h3, h4, h5, h8, h9, h10, h11, h12, h13, h14, h15⟩ := hA
  have pS : ∀ j, am_A (inM μ a p f s t b n c (fr c) ((t0 + m) % 2048)) s j = if j = (t0 + m) % 2048 then nI (c + 1) else am_A μ s j := by
    intro j
    rw [inM_A]
    by_cases q : j = (t0 + m) % 2048
    · rw [if_pos ⟨rfl, q⟩, if_pos q]
    · rw [if_neg (fun z => q z.2), if_neg q, if_neg (fun z => has z.1.symm), if_neg (fun z => hfs z.1.symm), if_neg hsp]
  have pP : ∀ j, am_A (inM μ a p f s t b n c (fr c) ((t0 + m) % 2048)) p j = poG (am_A μ p) (am_A μ t) (fr c) b n j := by
    intro j
    rw [inM_A, if_neg (fun z => hsp z.1.symm), if_neg (fun z => hap z.1.symm), if_neg (fun z => hfp z.1.symm), if_pos rfl]
  have pF : ∀ j, am_A (inM μ a p f s t b n c (fr c) ((t0 + m) % 2048)) f j = if j = c + 1 then nI (fr c + n) else am_A μ f j := by
    intro j
    rw [inM_A, if_neg (fun z => hfs z.1), if_neg (fun z => haf z.1.symm)]
    by_cases q : j = c + 1
    · rw [if_pos ⟨rfl, q⟩, if_pos q]
    · rw [if_neg (fun z => q z.2), if_neg q, if_neg hfp]
  refine ⟨⟨h1, h2, h3, h4, h5, h8, h9, h10, ?_, by omega, fun k hk => ?_, fun k hk => ?_, ?_⟩, fun i hi => ?_, ?_⟩
  · rw [inM_A, if_neg (fun z => has z.1), if_pos ⟨rfl, rfl⟩]
  · rw [pF]
    unfold frN
    by_cases q : k = c + 1
    · rw [if_pos q, if_pos q]
    · rw [if_neg q, if_neg q]
      exact h13 k (by omega)
  · unfold frN
    by_cases q : k = c
    · rw [if_neg (by omega), if_pos (by omega), q]
      omega
    · rw [if_neg (by omega), if_neg (by omega)]
      exact h14 k (by omega)
  · unfold frN
    rw [if_pos rfl]
    exact hpo
  · rw [pS]
    by_cases q : i = (t0 + m) % 2048
    · exact ⟨c + 1, Nat.le_refl _, by rw [if_pos q]⟩
    · obtain ⟨v, v1, v2⟩ := hv i hi
      exact ⟨v, by omega, by rw [if_neg q]; exact v2⟩
  · refine HT_congr (by omega) (fun i hi => ?_) (fun k hk => ?_) (HT_add hH (t := t0) (m := m) (by omega) hm hz hnz)
    · show (if i = (t0 + m) % 2048 then c + 1 else (am_A μ s i).toNatClampNeg) = _
      rw [pS]
      by_cases q : i = (t0 + m) % 2048
      · rw [if_pos q, if_pos q, nI_clamp (by omega)]
      · rw [if_neg q, if_neg q]
    · show (if k = c then t0 else (nmP (fun j => am_A μ p (fr k + j)) (fr (k + 1) - fr k)).toNatClampNeg) = (nmP (fun j => am_A (inM μ a p f s t b n c (fr c) ((t0 + m) % 2048)) p (frN fr c n k + j)) (frN fr c n (k + 1) - frN fr c n k)).toNatClampNeg
      by_cases q : k = c
      · rw [if_pos q]
        have e1 : frN fr c n k = fr c := by unfold frN; rw [if_neg (by omega), q]
        have e2 : frN fr c n (k + 1) = fr c + n := by unfold frN; rw [if_pos (by omega)]
        rw [e1, e2, Nat.add_sub_cancel_left]
        have e3 : nmP (fun j => am_A (inM μ a p f s t b n c (fr c) ((t0 + m) % 2048)) p (fr c + j)) n = nmP (fun j => am_A μ t (b + j)) n := by
          unfold nmP
          rw [nmS_eq n (fun j hj => by
            show am_A (inM μ a p f s t b n c (fr c) ((t0 + m) % 2048)) p (fr c + j) = am_A μ t (b + j)
            rw [pP]
            unfold poG
            rw [if_pos (by omega), Nat.add_sub_cancel_left])]
        rw [e3, et, nI_clamp (by omega)]
      · rw [if_neg q]
        have e1 : frN fr c n k = fr k := by unfold frN; rw [if_neg (by omega)]
        have e2 : frN fr c n (k + 1) = fr (k + 1) := by unfold frN; rw [if_neg (by omega)]
        have hle : fr (k + 1) ≤ fr c := by
          have := hmono (c - (k + 1)) (k + 1) (by omega)
          rw [show k + 1 + (c - (k + 1)) = c by omega] at this
          exact this
        have h14k := h14 k (by omega)
        rw [e1, e2]
        have e3 : nmP (fun j => am_A (inM μ a p f s t b n c (fr c) ((t0 + m) % 2048)) p (fr k + j)) (fr (k + 1) - fr k) = nmP (fun j => am_A μ p (fr k + j)) (fr (k + 1) - fr k) := by
          unfold nmP
          rw [nmS_eq (fr (k + 1) - fr k) (fun j hj => by
            show am_A (inM μ a p f s t b n c (fr c) ((t0 + m) % 2048)) p (fr k + j) = am_A μ p (fr k + j)
            rw [pP]
            unfold poG
            rw [if_neg (by omega)])]
        rw [e3]
end INM
