/-! ===== put, end, fault of the reference ===== -/
/-! ===== Int32 by its bits: bt x i ===== -/
def bt (x : Int32) (i : Nat) : Bool := x.toBitVec.getLsbD i
theorem b_ext {x y : Int32} (h : ∀ i, i < 32 → bt x i = bt y i) : x = y := Int32.toBitVec_inj.mp (BitVec.eq_of_getLsbD_eq (fun i hi => h i hi))
theorem b_or (x y : Int32) (i : Nat) : bt (x ||| y) i = (bt x i || bt y i) := by unfold bt; rw [Int32.toBitVec_or, BitVec.getLsbD_or]
theorem b_and (x y : Int32) (i : Nat) : bt (x &&& y) i = (bt x i && bt y i) := by unfold bt; rw [Int32.toBitVec_and, BitVec.getLsbD_and]
theorem b_xor (x y : Int32) (i : Nat) : bt (x ^^^ y) i = (bt x i ^^ bt y i) := by unfold bt; rw [Int32.toBitVec_xor, BitVec.getLsbD_xor]
theorem b_big {x : Int32} {i : Nat} (h : 32 ≤ i) : bt x i = false := BitVec.getLsbD_of_ge _ _ h
theorem b_255 (i : Nat) : bt 255 i = decide (i < 8) := by
  rcases Nat.lt_or_ge i 32 with h | h
  · exact (by decide +kernel : ∀ i, i < 32 → bt 255 i = decide (i < 8)) i h
  · rw [b_big h, decide_eq_false (by omega)]
theorem b_65535 (i : Nat) : bt 65535 i = decide (i < 16) := by
  rcases Nat.lt_or_ge i 32 with h | h
  · exact (by decide +kernel : ∀ i, i < 32 → bt 65535 i = decide (i < 16)) i h
  · rw [b_big h, decide_eq_false (by omega)]
theorem b_m1 : ∀ i, i < 32 → bt (-1) i = true := by decide +kernel
theorem b_0 (i : Nat) : bt 0 i = false := BitVec.getLsbD_zero
theorem s_l : ∀ n, n < 32 → ((nI n &&& 31).toBitVec.smod 32).toNat = n := by decide +kernel
theorem s_u : ∀ n, n < 32 → (((nI n).toUInt32 &&& Int32.toUInt32 31).toBitVec % 32).toNat = n := by decide +kernel
theorem b_shl (n : Nat) (hn : n < 32) (x : Int32) {i : Nat} (hi : i < 32) : bt (x <<< (nI n &&& 31)) i = (decide (n ≤ i) && bt x (i - n)) := by
  unfold bt
  rw [Int32.toBitVec_shiftLeft]
  show (x.toBitVec <<< ((nI n &&& 31).toBitVec.smod 32).toNat).getLsbD i = _
  rw [s_l n hn, BitVec.getLsbD_shiftLeft]
  rcases Nat.lt_or_ge i n with h | h
  · simp [h, Nat.not_le.mpr h]
  · simp [hi, h, Nat.not_lt.mpr h]
theorem b_ushr (n : Nat) (hn : n < 32) (x : Int32) (i : Nat) : bt ((x.toUInt32 >>> ((nI n).toUInt32 &&& Int32.toUInt32 31)).toInt32) i = bt x (n + i) := by
  show (x.toUInt32 >>> ((nI n).toUInt32 &&& Int32.toUInt32 31)).toBitVec.getLsbD i = x.toUInt32.toBitVec.getLsbD (n + i)
  rw [UInt32.toBitVec_shiftRight]
  show (x.toUInt32.toBitVec >>> (((nI n).toUInt32 &&& Int32.toUInt32 31).toBitVec % 32).toNat).getLsbD i = _
  rw [s_u n hn, BitVec.getLsbD_ushiftRight]
theorem b_sshr (n : Nat) (hn : n < 32) (x : Int32) {i : Nat} (hi : i < 32) : bt (x >>> (nI n &&& 31)) i = if n + i < 32 then bt x (n + i) else bt x 31 := by
  unfold bt
  rw [Int32.toBitVec_shiftRight]
  show (x.toBitVec.sshiftRight ((nI n &&& 31).toBitVec.smod 32).toNat).getLsbD i = _
  rw [s_l n hn, BitVec.getLsbD_sshiftRight, BitVec.msb_eq_getLsbD_last]
  simp [hi]
/-- byte i of a number, as the reference takes it -/
theorem sgB_r (a : Int32) : ∀ i, i < 4 → (a >>> ((((Int8.ofInt 8).toInt32) * nI i) &&& 31)) &&& ((Int16.ofInt 255).toInt32) = sgB a i := by
  intro i hi
  have e1 : ((Int8.ofInt 8).toInt32) * nI i = nI (8 * i) := by
    match i, hi with
    | 0, _ => decide
    | 1, _ => decide
    | 2, _ => decide
    | 3, _ => decide
    | n + 4, h => omega
  have e2 : (Int16.ofInt 255).toInt32 = 255 := by decide
  unfold sgB
  rw [e1, e2]
  refine b_ext fun k hk => ?_
  rw [b_and, b_and, b_255, b_sshr (8 * i) (by omega) a hk, b_ushr (8 * i) (by omega) a k]
  by_cases h8 : k < 8
  · rw [if_pos (by omega)]
  · rw [decide_eq_false h8, Bool.and_false, Bool.and_false]
theorem lg_neg (x y : Int64) : lg_cmp x y < 0 ↔ x < y := by
  unfold lg_cmp
  rw [Int64.lt_iff_toInt_lt]
  constructor
  · intro h
    split at h
    · exact absurd h (by decide)
    · rename_i h1
      split at h
      · exact absurd h (by decide)
      · rename_i h2
        have h1 : ¬ y.toInt < x.toInt := fun q => h1 (Int64.lt_iff_toInt_lt.mpr q)
        have h3 : ¬ x.toInt = y.toInt := fun e => h2 (Int64.toInt_inj.mp e)
        omega
  · intro h
    split
    · rename_i h1
      have h1 : y.toInt < x.toInt := Int64.lt_iff_toInt_lt.mp h1
      omega
    · split
      · rename_i h2
        rw [h2] at h
        omega
      · decide
theorem lg_pos (x y : Int64) : 0 < lg_cmp x y ↔ y < x := by
  unfold lg_cmp
  constructor
  · intro h
    repeat' split at h
    all_goals first | exact absurd h (by decide) | assumption | (rename_i q1 q2; exact Int64.lt_of_le_of_ne (Int64.not_lt.mp q1) (fun e => q2 e.symm)) | (simp_all; done)
  · intro h
    repeat' split
    all_goals first | decide | contradiction | (rename_i q; exact absurd q (Int64.not_lt.mpr (Int64.le_of_lt h))) | simp_all
section RPUT
variable {d : Nat} {μ : am_Mem} {a x1 x2 x3 : Int32} {y0 y2 y4 : Int64} {Q : Option Value ⊕ Nat → am_Mem → Prop}
/-- in: whether a number lies between two -/
theorem r_in : Wp d 150 (0, [some (.long y0), none, some (.long y2), none, some (.long y4), none], [], μ) (pI (fun z μ' => μ' = μ ∧ ((z = Int32.ofInt 1 ∧ ¬ y0 < y2 ∧ ¬ y4 < y0) ∨ (z = Int32.ofInt 0 ∧ (y0 < y2 ∨ y4 < y0)))) noX) := by
  refine b150_0 (fun h => ?_) (fun h => ?_)
  · exact b150_17 (b150_18 (by decide) ⟨rfl, Or.inr ⟨rfl, Or.inl ((lg_neg y0 y2).mp h)⟩⟩)
  · refine b150_6 (fun h2 => ?_) (fun h2 => ?_)
    · exact b150_17 (b150_18 (by decide) ⟨rfl, Or.inr ⟨rfl, Or.inr ((lg_pos y0 y4).mp h2)⟩⟩)
    · exact b150_13 (b150_18 (by decide) ⟨rfl, Or.inl ⟨rfl, fun q => h ((lg_neg y0 y2).mpr q), fun q => h2 ((lg_pos y0 y4).mpr q)⟩⟩)
/-- which is refused: 1, 2, 3, or 0 -/
def rfN (x1 x2 x3 : Int32) : Int32 := if x1 = 0 then if x2 = 0 then if x3 = 0 then Int32.ofInt 0 else Int32.ofInt 3 else Int32.ofInt 2 else Int32.ofInt 1
theorem rf26 {v : Int32} (hk : am_kd μ 125 = (1, 12)) (hv : v = Int32.ofInt 0 ∨ v = Int32.ofInt 1 ∨ v = Int32.ofInt 2 ∨ v = Int32.ofInt 3) : Wp d 151 (26, [some (.ref 125), some (.int x1), some (.int x2), some (.int x3)], [.int v, .ref 125], μ) (pI (fun y μ' => μ' = am_pA μ 125 0 v ∧ y = if v = Int32.ofInt 0 then Int32.ofInt 0 else Int32.ofInt 1) noX) := by
  refine b151_26 hk hk (fun h => ?_) (fun h => ?_)
  · rw [rA, if_pos ⟨rfl, rfl⟩] at h
    refine b151_40 (b151_41 (by decide) ⟨rfl, ?_⟩)
    rcases hv with rfl | rfl | rfl | rfl
    · rfl
    · exact absurd h (by decide)
    · exact absurd h (by decide)
    · exact absurd h (by decide)
  · rw [rA, if_pos ⟨rfl, rfl⟩] at h
    refine b151_36 (b151_41 (by decide) ⟨rfl, ?_⟩)
    rcases hv with rfl | rfl | rfl | rfl
    · exact absurd (by decide) h
    · rfl
    · rfl
    · rfl
theorem r_refuse (hk : am_kd μ 125 = (1, 12)) : Wp d 151 (0, [some (.ref 125), some (.int x1), some (.int x2), some (.int x3)], [], μ) (pI (fun y μ' => μ' = am_pA μ 125 0 (rfN x1 x2 x3) ∧ y = if rfN x1 x2 x3 = Int32.ofInt 0 then Int32.ofInt 0 else Int32.ofInt 1) noX) := by
  unfold rfN
  refine b151_0 (fun h1 => ?_) (fun h1 => ?_)
  · rw [if_pos h1]
    refine b151_9 (fun h2 => ?_) (fun h2 => ?_)
    · rw [if_pos h2]
      refine b151_17 (fun h3 => ?_) (fun h3 => ?_)
      · rw [if_pos h3]
        exact b151_25 (rf26 hk (Or.inl rfl))
      · rw [if_neg h3]
        exact b151_21 (rf26 hk (Or.inr (Or.inr (Or.inr rfl))))
    · rw [if_neg h2]
      exact b151_13 (rf26 hk (Or.inr (Or.inr (Or.inl rfl))))
  · rw [if_neg h1]
    exact b151_5 (rf26 hk (Or.inr (Or.inl rfl)))
/-- fault -/
theorem r_fault (hk : am_kd μ 125 = (1, 12)) : Wp d 209 (0, [some (.ref 125)], [], μ) (pI (fun y μ' => y = am_A μ 125 3 ∧ μ' = am_pA μ 125 0 (Int32.ofInt 0)) noX) := by
  refine b209_0 hk hk ⟨?_, rfl⟩
  rw [rA, if_neg (by decide)]
theorem c_fault (hk : am_kd μ 16 = (1, 11)) : Wp d 120 (0, [some (.ref 16)], [], μ) (pI (fun y μ' => y = am_A μ 16 2 ∧ μ' = μ) noX) := b120_0 hk ⟨rfl, rfl⟩
/-- end -/
theorem c_end (hk : am_kd μ 16 = (1, 11)) : Wp d 122 (0, [some (.ref 16), some (.int a)], [], μ) (pV (fun μ' => ¬ a < 0 ∧ a ≤ am_A μ 16 1 ∧ μ' = am_pA μ 16 1 a) (fun e μ' => e = 0 ∧ μ' = am_nX μ ∧ ¬ (¬ a < 0 ∧ a ≤ am_A μ 16 1))) := by
  refine b122_0 (fun h => b122_12 ⟨rfl, rfl, fun q => q.1 h⟩) (fun h => ?_)
  refine b122_4 hk (fun h2 => b122_22 hk ⟨h, h2, rfl⟩) (fun h2 => b122_12 ⟨rfl, rfl, fun q => h2 q.2⟩)
theorem r_end (hk : am_kd μ 125 = (1, 12)) : Wp (d + 1) 152 (0, [some (.ref 125), some (.int a)], [], μ) (pV (fun μ' => (¬ a.toInt64 < Int64.ofNat 0 ∧ ¬ (am_A μ 125 2).toInt64 < a.toInt64 ∧ μ' = am_pA (am_pA μ 125 0 (Int32.ofInt 0)) 125 2 a) ∨ ((a.toInt64 < Int64.ofNat 0 ∨ (am_A μ 125 2).toInt64 < a.toInt64) ∧ μ' = am_pA μ 125 0 (Int32.ofInt 1))) noX) := by
  refine b152_0 hk r_in (fun z μ' hz => ?_) (fun _ _ h => h.elim)
  obtain ⟨rfl, hz⟩ := hz
  rcases hz with ⟨rfl, h1, h2⟩ | ⟨rfl, h1⟩
  · refine b152_12 (fun _ => ?_) (fun h => absurd (by decide) h)
    refine b152_19 (b152_20 hk (r_refuse hk) (fun y μ'' hy => ?_) (fun _ _ h => h.elim))
    obtain ⟨rfl, rfl⟩ := hy
    refine b152_25 (fun h => absurd h (by decide)) (fun _ => b152_28 hk (b152_33 (Or.inl ⟨h1, h2, ?_⟩)))
    rfl
  · refine b152_12 (fun h => absurd h (by decide)) (fun _ => ?_)
    refine b152_15 (b152_20 hk (r_refuse hk) (fun y μ'' hy => ?_) (fun _ _ h => h.elim))
    obtain ⟨rfl, rfl⟩ := hy
    refine b152_25 (fun _ => b152_33 (Or.inr ⟨h1, ?_⟩)) (fun h => absurd (by decide) h)
    rfl
end RPUT
