/-! ===== Arrays.fill of ints ===== -/
theorem rW (μ : am_Mem) (a : Nat) (g : Nat → Int32) (r j : Nat) : am_A (am_wA μ a g) r j = if r = a then g j else am_A μ r j := by
  show am_u1 (am_A μ) a g r j = _
  unfold am_u1
  by_cases h : r = a
  · rw [if_pos h, if_pos h]
  · rw [if_neg h, if_neg h]
theorem wA_pA (μ : am_Mem) (a k : Nat) (g : Nat → Int32) (v : Int32) : am_pA (am_wA μ a g) a k v = am_wA μ a (fun j => if j = k then v else g j) := by
  refine am_mem_eq rfl rfl (fun r => rfl) (fun r j => ?_) (fun r j => rfl) (fun r j => rfl)
  rw [rA, rW, rW]
  by_cases h : r = a
  · rw [if_pos h, if_pos h]
    by_cases q : j = k
    · rw [if_pos ⟨h, q⟩, if_pos q]
    · rw [if_neg (fun z => q z.2), if_neg q]
  · rw [if_neg (fun z => h z.1), if_neg h, if_neg h]
theorem wA_id (μ : am_Mem) (a : Nat) : am_wA μ a (am_A μ a) = μ := by
  refine am_mem_eq rfl rfl (fun r => rfl) (fun r j => ?_) (fun r j => rfl) (fun r j => rfl)
  rw [rW]
  by_cases h : r = a
  · rw [if_pos h, h]
  · rw [if_neg h]
theorem wA_ext {μ : am_Mem} {a : Nat} {g g' : Nat → Int32} (h : ∀ j, g j = g' j) : am_wA μ a g = am_wA μ a g' := by
  rw [show g = g' from funext h]
section FIL
variable {d a n : Nat} {μ : am_Mem} {v : Int32}
theorem fill_l (hk : am_kd μ a = (2, n)) (hn : n < 2 ^ 31) : ∀ m i, i + m = n → Wp d 290 (5, [some (.ref a), some (.int v), some (.int (nI i)), some (.int (nI n))], [], am_wA μ a (fun j => if j < i then v else am_A μ a j)) (pV (fun μ' => μ' = am_wA μ a (fun j => if j < n then v else am_A μ a j)) noX) := by
  intro m
  induction m with
  | zero =>
    intro i hi
    obtain rfl : i = n := by omega
    exact b290_5 (fun _ => b290_20 rfl) (fun h => absurd (nI_le (Nat.le_refl i) hn) h)
  | succ m ih =>
    intro i hi
    have hin : i < n := by omega
    refine b290_5 (fun h => absurd h (nI_ge hin hn)) (fun _ => ?_)
    have hk' : am_kd (am_wA μ a (fun j => if j < i then v else am_A μ a j)) a = (2, n) := hk
    refine b290_10 (by rw [hk']) (by rw [hk']; exact nI_inn hin hn) ?_
    rw [nI_clamp (by omega), wA_pA, ni1]
    have e : am_wA μ a (fun j => if j = i then v else if j < i then v else am_A μ a j) = am_wA μ a (fun j => if j < i + 1 then v else am_A μ a j) := by
      refine wA_ext fun j => ?_
      by_cases q : j = i
      · rw [if_pos q, if_pos (by omega)]
      · rw [if_neg q]
        by_cases q2 : j < i
        · rw [if_pos q2, if_pos (by omega)]
        · rw [if_neg q2, if_neg (by omega)]
    rw [e]
    exact ih (i + 1) (by omega)
/-- Arrays.fill(int[], int) -/
theorem c_fill (hk : am_kd μ a = (2, n)) (hn : n < 2 ^ 31) : Wp d 290 (0, [some (.ref a), some (.int v), none, none], [], μ) (pV (fun μ' => μ' = am_wA μ a (fun j => if j < n then v else am_A μ a j)) noX) := by
  refine b290_0 (by rw [hk]; exact ⟨(by show 2 ≤ 2; omega), (by show 2 ≤ 10; omega), (by show ¬ 2 = 9; omega)⟩) ?_
  rw [hk]
  have h := fill_l (d := d) (v := v) hk hn n 0 (by omega)
  have e : am_wA μ a (fun j => if j < 0 then v else am_A μ a j) = μ := by
    have : am_wA μ a (fun j => if j < 0 then v else am_A μ a j) = am_wA μ a (am_A μ a) := wA_ext fun j => if_neg (by omega)
    rw [this, wA_id]
  rw [e] at h
  exact h
end FIL
