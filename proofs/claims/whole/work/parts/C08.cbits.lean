/-! ===== bits of longs; the class's maskOf, fill of longs ===== -/
/-- bit i of a long -/
def bL (x : Int) (i : Nat) : Bool := (zL x).toBitVec.getLsbD i
theorem bL_or (a b : Int) (i : Nat) : bL (zLOr a b) i = (bL a i || bL b i) := by
  unfold bL zLOr
  rw [zL_rev]
  show ((zL a).toBitVec ||| (zL b).toBitVec).getLsbD i = _
  exact BitVec.getLsbD_or
theorem bL_nat (a : Nat) (i : Nat) : bL (a : Int) i = (decide (i < 64) && a.testBit i) := by
  unfold bL
  show (BitVec.ofInt 64 (a : Int)).getLsbD i = _
  rw [BitVec.ofInt_natCast, BitVec.getLsbD_ofNat]
theorem shl_v : ∀ b : Fin 62, zLShl 1 ((b.val : Nat) : Int) = ((2 ^ b.val : Nat) : Int) := by decide +kernel
theorem bL_shl {b i : Nat} (hb : b < 62) (hi : i < 64) : bL (zLShl 1 (b : Int)) i = decide (b = i) := by
  rw [shl_v ⟨b, hb⟩, bL_nat, decide_eq_true (show i < 64 by omega), Bool.true_and, Nat.testBit_two_pow]
theorem bL_0 (i : Nat) : bL 0 i = false := by
  have h := bL_nat 0 i
  rw [Nat.zero_testBit, Bool.and_false] at h
  exact h
def shA (i : Int) : UInt64 := (zI i).toInt64.toUInt64 &&& Int64.toUInt64 63
theorem shA_v : ∀ i : Fin 62, ((shA ((i.val : Nat) : Int)) % 64).toBitVec.toNat = i.val := by decide +kernel
theorem bitL_iff {x : Int} {i : Nat} (h : i < 62) : bitL x (i : Int) ↔ bL x i = true := by
  have e : zLAnd (zLUsh x (i : Int)) 1 = ((((zL x).toUInt64 >>> shA (i : Int)).toInt64) &&& zL 1).toInt := by
    unfold zLAnd zLUsh
    rw [zL_rev]
    rfl
  have hb : ((((zL x).toUInt64 >>> shA (i : Int)).toInt64)).toBitVec.getLsbD 0 = bL x i := by
    show ((zL x).toBitVec >>> ((shA (i : Int)) % 64).toBitVec.toNat).getLsbD 0 = bL x i
    rw [shA_v ⟨i, h⟩, BitVec.getLsbD_ushiftRight, Nat.add_zero]
    rfl
  generalize ((zL x).toUInt64 >>> shA (i : Int)).toInt64 = W at e hb
  unfold bitL
  rw [e, ← hb]
  have key : (W &&& zL 1).toInt = 0 ↔ W.toBitVec &&& 1#64 = 0#64 := by
    constructor
    · intro z
      have z2 : W &&& zL 1 = zL 0 := by rw [← zL_rev (W &&& zL 1), z]
      exact congrArg Int64.toBitVec z2
    · intro z
      have z2 : W &&& zL 1 = zL 0 := Int64.toBitVec.inj z
      rw [z2]
      decide
  rw [key]
  constructor
  · intro z
    cases q : W.toBitVec.getLsbD 0 with
    | true => rfl
    | false =>
      refine absurd (BitVec.eq_of_getLsbD_eq fun j hj => ?_) z
      rw [BitVec.getLsbD_and, BitVec.getLsbD_one, BitVec.getLsbD_zero]
      by_cases c : j = 0
      · rw [c, q, Bool.false_and]
      · rw [decide_eq_false c, Bool.and_false, Bool.and_false]
  · intro z w
    have y : (W.toBitVec &&& 1#64).getLsbD 0 = (0#64).getLsbD 0 := by rw [w]
    rw [BitVec.getLsbD_and, z, BitVec.getLsbD_zero] at y
    exact absurd y (by decide)
section CBT
variable {d : Nat} {Q : Option Value ⊕ Nat → am_Mem → Prop} {μ : am_Mem} {m l : PM} {ar n1 : Nat} {v : Int}
theorem lfill_6 (hk1 : am_kd μ ar = (6, n1)) (h1 : n1 ≤ 2000000) (hq : Q (.inl none) (sA μ m (flM l ar n1 v))) : ∀ (r k : Nat), k + r = n1 → Wp d 291 (6, [some (.ref ar), some (.long (zL v)), none, some (.int (zI k)), some (.int (zI (n1 : Int)))], [], sA μ m (flM l ar k v)) Q := by
  intro r
  induction r with
  | zero =>
    intro k hk
    obtain rfl : k = n1 := by omega
    exact K291_6 hk1 h1 ⟨by unfold iR; omega, by unfold iR; omega, fun _ => hq, fun z => absurd (Int.le_refl _) z⟩
  | succ r ih =>
    intro k hk
    refine K291_6 hk1 h1 ⟨by unfold iR; omega, by unfold iR; omega, fun z => absurd z (by omega), fun _ => ⟨by omega, ?_⟩⟩
    rintro l1 rfl
    rw [flM_s (by omega)]
    have e : ((k : Int) + 1) = ((k + 1 : Nat) : Int) := by omega
    rw [e]
    exact ih (k + 1) (by omega)
theorem k_lfill (hk1 : am_kd μ ar = (6, n1)) (h1 : n1 ≤ 2000000) : Wp d 291 (0, [some (.ref ar), some (.long (zL v)), none, none, none], [], sA μ m l) (pV (fun μ' => μ' = sA μ m (flM l ar n1 v)) noX) := by
  refine K291_0 hk1 h1 ?_
  have z := lfill_6 (d := d) (l := l) (m := m) (v := v) (Q := pV (fun μ' => μ' = sA μ m (flM l ar n1 v)) noX) hk1 h1 rfl n1 0 (by omega)
  have e : flM l ar ((0 : Nat) : Int) v = l := by
    funext x j
    exact flM_o (by omega)
  rw [e] at z
  exact z
/-- maskOf: the bit of a relation -/
theorem k_maskOf (H : CS μ) {x : Int} (hx : 0 ≤ x ∧ x < 1024) (hb : -1 ≤ m 67 x ∧ m 67 x < 62) : Wp d 10 (0, [some (.ref 65), some (.int (zI x))], [], sA μ m l) (pL (fun y μ' => ∃ t : Int, y = zL t ∧ μ' = sA μ m l ∧ ∀ i : Nat, i < 64 → (bL t i = true ↔ m 67 x = (i : Int))) noX) := by
  have F3 : am_F (sA μ m l) 65 3 = 67 := cF_65_3 H
  have K67 : am_kd (sA μ m l) 67 = (2, 1024) := cK_67 H
  have ix : ¬ ((zI x) < 0 ∨ (am_kd (sA μ m l) (am_F (sA μ m l) 65 3)).2 ≤ (zI x).toNatClampNeg) := by
    rw [F3]
    exact ixE (n := 1024) K67 (zr x) hx (by decide) (by decide)
  have rd : am_A (sA μ m l) (am_F (sA μ m l) 65 3) (zI x).toNatClampNeg = zI (m 67 x) := rdE (n := 1024) (mr μ m l) F3 (zr x) hx (by decide)
  refine b10_0 (cK_65 H) (by rw [F3]; decide) (by rw [F3, K67]; exact Or.inl rfl) ix (fun q => ?_) (fun q => ?_)
  · rw [rd] at q
    have q' : ¬ m 67 x = -1 := (neE (zr (m 67 x)) (zr (-1)) (by unfold iR; omega) (by decide)).mp q
    refine b10_14 (cK_65 H) (by rw [F3]; decide) (by rw [F3, K67]; exact Or.inl rfl) ix (b10_22 ?_)
    rw [rd]
    refine ⟨zLShl 1 (m 67 x), lshlE (show Int64.ofNat 1 = zL 1 by decide) (zr (m 67 x)), rfl, fun i hi => ?_⟩
    have e : m 67 x = (((m 67 x).toNat : Nat) : Int) := by omega
    rw [e, bL_shl (by omega) hi, decide_eq_true_iff]
    omega
  · rw [rd] at q
    have q' : m 67 x = -1 := Decidable.byContradiction fun z => q ((neE (zr (m 67 x)) (zr (-1)) (by unfold iR; omega) (by decide)).mpr z)
    refine b10_10 (b10_22 ?_)
    refine ⟨0, by decide, rfl, fun i hi => ?_⟩
    rw [bL_0, q']
    exact ⟨fun z => absurd z (by decide), fun z => by omega⟩
end CBT
