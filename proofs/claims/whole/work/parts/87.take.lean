/-! ===== the reference's takeSheet ===== -/
section TKS
variable {d : Nat} {Q : Option Value ⊕ Nat → am_Mem → Prop} {μ : am_Mem} {l : PM}
/-- the sheet's row with the first k signs of another -/
def tsM (m : PM) (src : Nat) (k : Int) : PM := fun c j => if c = 128 ∧ 0 ≤ j ∧ j < k then m src j else m c j
theorem tsM_o {m : PM} {src c : Nat} {k j : Int} (h : ¬ (c = 128 ∧ 0 ≤ j ∧ j < k)) : tsM m src k c j = m c j := if_neg h
theorem tsM_s {m : PM} {src : Nat} {k : Int} (hs : ¬ src = 128) (hk : 0 ≤ k) : up (tsM m src k) 128 k (m src k) = tsM m src (k + 1) := by
  funext c j
  unfold tsM
  rw [up_e]
  by_cases h : c = 128 ∧ j = k
  · rw [if_pos h, if_pos (by omega), h.2]
  · rw [if_neg h]
    by_cases h2 : c = 128 ∧ 0 ≤ j ∧ j < k
    · rw [if_pos h2, if_pos (by omega)]
    · rw [if_neg h2, if_neg (by omega)]
theorem take_21 (H : RS μ) {m : PM} {b n : Int} {src : Nat} (hb : b = 0 ∧ src = 126 ∨ b = 1 ∧ src = 127) (hn : m 125 8 = n) (h0 : 0 ≤ n ∧ n ≤ 2000) (hq : Q (.inl none) (sA μ (tsM m src n) l)) : ∀ (r : Nat) (k : Int), 0 ≤ k → k + r = n → Wp d 154 (21, [some (.ref 125), some (.int (zI b)), some (.int (zI k))], [], sA μ (tsM m src k) l) Q := by
  have hs : ¬ src = 128 := by omega
  intro r
  induction r with
  | zero =>
    intro k hk hr
    have e : k = n := by omega
    rw [e]
    have e8 : tsM m src n 125 8 = n := by rw [tsM_o (by omega)]; exact hn
    refine R154_21 H ⟨by omega, by rw [e8]; omega, fun _ => hq, fun z => absurd (by rw [e8]; omega) z⟩
  | succ r ih =>
    intro k hk hr
    have e8 : tsM m src k 125 8 = n := by rw [tsM_o (by omega)]; exact hn
    refine R154_21 H ⟨by omega, by rw [e8]; omega, fun z => absurd z (by rw [e8]; omega), fun _ => ⟨by omega, ⟨fun _ => ⟨by omega, trivial⟩, fun _ => ⟨by omega, trivial⟩⟩, ?_⟩⟩
    intro v1 e1
    have ev : v1 = m src k := by
      rw [e1]
      rcases hb with ⟨q, rfl⟩ | ⟨q, rfl⟩
      · rw [if_pos q, tsM_o (by omega)]
      · rw [if_neg (by omega), tsM_o (by omega)]
    refine ⟨by omega, ?_⟩
    rintro m2 rfl
    rw [ev, tsM_s hs hk]
    exact ih (k + 1) (by omega) (by omega)
theorem c_takeSheet (H : RS μ) {m : PM} {b n : Int} {src : Nat} (hb : b = 0 ∧ src = 126 ∧ m 125 2 = n ∨ b = 1 ∧ src = 127 ∧ m 125 6 = n) (h0 : 0 ≤ n ∧ n ≤ 2000) : Wp d 154 (0, [some (.ref 125), some (.int (zI b)), none], [], sA μ m l) (pV (fun μ' => μ' = sA μ (tsM (up m 125 8 n) src n) l) noX) := by
  refine R154_0 H ⟨by omega, ?_⟩
  intro v1 e1
  have ev : v1 = n := by
    rw [e1]
    rcases hb with ⟨q, _, q2⟩ | ⟨q, _, q2⟩
    · rw [if_pos q]; exact q2
    · rw [if_neg (by omega)]; exact q2
  rintro m2 rfl
  rw [ev]
  have := take_21 (d := d) (l := l) (μ := μ) (Q := pV (fun μ' => μ' = sA μ (tsM (up m 125 8 n) src n) l) noX) H (m := up m 125 8 n) (b := b) (n := n) (src := src) (by omega) (up_s _ _ _ _) h0 rfl n.toNat 0 (Int.le_refl _) (by omega)
  have e : tsM (up m 125 8 n) src 0 = up m 125 8 n := by
    funext c j
    exact tsM_o (by omega)
  rw [e] at this
  exact this
end TKS
