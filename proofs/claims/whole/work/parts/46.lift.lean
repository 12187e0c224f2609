/-! ===== ints and longs of the memory as whole numbers ===== -/
def zI (z : Int) : Int32 := Int32.ofInt z
def zL (z : Int) : Int64 := Int64.ofInt z
abbrev PM : Type := Nat → Int → Int
abbrev iR (a : Int) : Prop := -2147483648 ≤ a ∧ a ≤ 2147483647
abbrev lR (a : Int) : Prop := -9223372036854775808 ≤ a ∧ a ≤ 9223372036854775807
/-- one place written -/
def up (m : PM) (c : Nat) (i v : Int) : PM := fun c' i' => if c' = c ∧ i' = i then v else m c' i'
/-- a memory with these ints and longs -/
def sA (μ : am_Mem) (m l : PM) : am_Mem := (am_n μ, am_sl μ, am_kd μ, fun c j => zI (m c j), fun c j => zL (l c j), am_F μ)
theorem up_s (m : PM) (c : Nat) (i v : Int) : up m c i v c i = v := if_pos ⟨rfl, rfl⟩
theorem up_o {m : PM} {c c' : Nat} {i i' v : Int} (h : ¬ (c' = c ∧ i' = i)) : up m c i v c' i' = m c' i' := if_neg h
theorem up_c {m : PM} {c c' : Nat} {i i' v : Int} (h : ¬ c' = c) : up m c i v c' i' = m c' i' := if_neg fun z => h z.1
theorem up_i {m : PM} {c c' : Nat} {i i' v : Int} (h : ¬ i' = i) : up m c i v c' i' = m c' i' := if_neg fun z => h z.2
theorem up_e (m : PM) (c : Nat) (i v : Int) (c' : Nat) (i' : Int) : up m c i v c' i' = if c' = c ∧ i' = i then v else m c' i' := rfl
theorem zI_toInt {a : Int} (h : iR a) : (zI a).toInt = a := Int32.toInt_ofInt_of_le (by omega) (by omega)
theorem zL_toInt {a : Int} (h : lR a) : (zL a).toInt = a := Int64.toInt_ofInt_of_le (by omega) (by omega)
theorem zI_rev (x : Int32) : zI x.toInt = x := Int32.ofInt_toInt x
theorem zL_rev (x : Int64) : zL x.toInt = x := Int64.ofInt_toInt x
theorem iR_x (x : Int32) : iR x.toInt := by
  have h1 := x.toInt_lt
  have h2 := x.le_toInt
  omega
theorem zr (a : Int) : zI a = zI a := rfl
theorem zlr (a : Int) : zL a = zL a := rfl
theorem z0 : (0 : Int32) = zI 0 := by decide
section ZZ
variable {x y : Int32} {a b n : Int} {u w : Int64}
theorem addE (p : x = zI a) (q : y = zI b) : x + y = zI (a + b) := by rw [p, q]; exact (Int32.ofInt_add a b).symm
theorem subE (p : x = zI a) (q : y = zI b) : x - y = zI (a - b) := by rw [p, q]; exact (Int32.ofInt_sub a b).symm
theorem mulE (p : x = zI a) (q : y = zI b) : x * y = zI (a * b) := by rw [p, q]; exact (Int32.ofInt_mul a b).symm
theorem negE (p : x = zI a) : -x = zI (-a) := by rw [p]; exact (Int32.ofInt_neg a).symm
theorem laddE (p : u = zL a) (q : w = zL b) : u + w = zL (a + b) := by rw [p, q]; exact (Int64.ofInt_add a b).symm
theorem lsubE (p : u = zL a) (q : w = zL b) : u - w = zL (a - b) := by rw [p, q]; exact (Int64.ofInt_sub a b).symm
theorem lmulE (p : u = zL a) (q : w = zL b) : u * w = zL (a * b) := by rw [p, q]; exact (Int64.ofInt_mul a b).symm
def zAnd (a b : Int) : Int := (zI a &&& zI b).toInt
def zOr (a b : Int) : Int := (zI a ||| zI b).toInt
def zXor (a b : Int) : Int := (zI a ^^^ zI b).toInt
def zShl (a b : Int) : Int := (zI a <<< (zI b &&& 31)).toInt
def zShr (a b : Int) : Int := (zI a >>> (zI b &&& 31)).toInt
def zUsh (a b : Int) : Int := (((zI a).toUInt32 >>> ((zI b).toUInt32 &&& Int32.toUInt32 31)).toInt32).toInt
def zDiv (a b : Int) : Int := (zI a / zI b).toInt
def zLAnd (a b : Int) : Int := (zL a &&& zL b).toInt
def zLOr (a b : Int) : Int := (zL a ||| zL b).toInt
def zLShl (a b : Int) : Int := (zL a <<< ((zI b).toInt64 &&& 63)).toInt
def zLShr (a b : Int) : Int := (zL a >>> ((zI b).toInt64 &&& 63)).toInt
def zLUsh (a b : Int) : Int := (((zL a).toUInt64 >>> ((zI b).toInt64.toUInt64 &&& Int64.toUInt64 63)).toInt64).toInt
def zLDiv (a b : Int) : Int := (zL a / zL b).toInt
theorem andE (p : x = zI a) (q : y = zI b) : x &&& y = zI (zAnd a b) := by rw [p, q]; exact (zI_rev _).symm
theorem orE (p : x = zI a) (q : y = zI b) : x ||| y = zI (zOr a b) := by rw [p, q]; exact (zI_rev _).symm
theorem xorE (p : x = zI a) (q : y = zI b) : x ^^^ y = zI (zXor a b) := by rw [p, q]; exact (zI_rev _).symm
theorem shlE (p : x = zI a) (q : y = zI b) : x <<< (y &&& 31) = zI (zShl a b) := by rw [p, q]; exact (zI_rev _).symm
theorem shrE (p : x = zI a) (q : y = zI b) : x >>> (y &&& 31) = zI (zShr a b) := by rw [p, q]; exact (zI_rev _).symm
theorem ushE (p : x = zI a) (q : y = zI b) : (x.toUInt32 >>> (y.toUInt32 &&& Int32.toUInt32 31)).toInt32 = zI (zUsh a b) := by rw [p, q]; exact (zI_rev _).symm
theorem divE (p : x = zI a) (q : y = zI b) : x / y = zI (zDiv a b) := by rw [p, q]; exact (zI_rev _).symm
theorem landE (p : u = zL a) (q : w = zL b) : u &&& w = zL (zLAnd a b) := by rw [p, q]; exact (zL_rev _).symm
theorem lorE (p : u = zL a) (q : w = zL b) : u ||| w = zL (zLOr a b) := by rw [p, q]; exact (zL_rev _).symm
theorem lshlE (p : u = zL a) (q : y = zI b) : u <<< (y.toInt64 &&& 63) = zL (zLShl a b) := by rw [p, q]; exact (zL_rev _).symm
theorem lshrE (p : u = zL a) (q : y = zI b) : u >>> (y.toInt64 &&& 63) = zL (zLShr a b) := by rw [p, q]; exact (zL_rev _).symm
theorem lushE (p : u = zL a) (q : y = zI b) : (u.toUInt64 >>> (y.toInt64.toUInt64 &&& Int64.toUInt64 63)).toInt64 = zL (zLUsh a b) := by rw [p, q]; exact (zL_rev _).symm
theorem ldivE (p : u = zL a) (q : w = zL b) : u / w = zL (zLDiv a b) := by rw [p, q]; exact (zL_rev _).symm
theorem eqE (p : x = zI a) (q : y = zI b) (ra : iR a) (rb : iR b) : x = y ↔ a = b := by
  rw [p, q]
  constructor
  · intro h
    have := congrArg Int32.toInt h
    rwa [zI_toInt ra, zI_toInt rb] at this
  · intro h
    rw [h]
theorem neE (p : x = zI a) (q : y = zI b) (ra : iR a) (rb : iR b) : ¬ x = y ↔ ¬ a = b := not_congr (eqE p q ra rb)
theorem ltE (p : x = zI a) (q : y = zI b) (ra : iR a) (rb : iR b) : x < y ↔ a < b := by
  rw [p, q, Int32.lt_iff_toInt_lt, zI_toInt ra, zI_toInt rb]
theorem leE (p : x = zI a) (q : y = zI b) (ra : iR a) (rb : iR b) : x ≤ y ↔ a ≤ b := by
  rw [p, q, Int32.le_iff_toInt_le, zI_toInt ra, zI_toInt rb]
theorem minE (p : x = zI a) (q : y = zI b) (ra : iR a) (rb : iR b) : (if y < x then y else x) = zI (if b < a then b else a) := by
  by_cases h : b < a
  · rw [if_pos h, if_pos ((ltE q p rb ra).mpr h), q]
  · rw [if_neg h, if_neg (fun z => h ((ltE q p rb ra).mp z)), p]
theorem i2lE (p : x = zI a) (ra : iR a) : x.toInt64 = zL a := by
  rw [p]
  exact Int32.toInt64_ofInt ra.1 ra.2
theorem l2iE (p : u = zL a) : u.toInt32 = zI a := by
  rw [p]
  exact Int64.toInt32_ofInt
theorem i2bE (p : x = zI a) (g : -128 ≤ a ∧ a ≤ 127) : x.toInt8.toInt32 = zI a := by
  have h : Int32.toInt8 (Int32.ofInt a) = Int8.ofInt a := Int32.toInt8_ofInt
  rw [p]
  show (Int32.toInt8 (Int32.ofInt a)).toInt32 = _
  rw [h]
  exact Int8.toInt32_ofInt g.1 g.2
theorem i2sE (p : x = zI a) (g : -32768 ≤ a ∧ a ≤ 32767) : x.toInt16.toInt32 = zI a := by
  have h : Int32.toInt16 (Int32.ofInt a) = Int16.ofInt a := Int32.toInt16_ofInt
  rw [p]
  show (Int32.toInt16 (Int32.ofInt a)).toInt32 = _
  rw [h]
  exact Int16.toInt32_ofInt g.1 g.2
theorem lcE_lt (p : u = zL a) (q : w = zL b) (ra : lR a) (rb : lR b) : lg_cmp u w < 0 ↔ a < b := by
  rw [lg_neg, p, q, Int64.lt_iff_toInt_lt, zL_toInt ra, zL_toInt rb]
theorem lcE_gt (p : u = zL a) (q : w = zL b) (ra : lR a) (rb : lR b) : 0 < lg_cmp u w ↔ b < a := by
  rw [lg_pos, p, q, Int64.lt_iff_toInt_lt, zL_toInt ra, zL_toInt rb]
theorem lcE_ge (p : u = zL a) (q : w = zL b) (ra : lR a) (rb : lR b) : 0 ≤ lg_cmp u w ↔ b ≤ a := by
  have h := lcE_lt p q ra rb
  have h2 : 0 ≤ lg_cmp u w ↔ ¬ lg_cmp u w < 0 := Int32.not_lt.symm
  rw [h2, h]
  omega
theorem lcE_le (p : u = zL a) (q : w = zL b) (ra : lR a) (rb : lR b) : lg_cmp u w ≤ 0 ↔ a ≤ b := by
  have h := lcE_gt p q ra rb
  have h2 : lg_cmp u w ≤ 0 ↔ ¬ 0 < lg_cmp u w := Int32.not_lt.symm
  rw [h2, h]
  omega
theorem lcE_eq (p : u = zL a) (q : w = zL b) (ra : lR a) (rb : lR b) : lg_cmp u w = 0 ↔ a = b := by
  have h1 := lcE_ge p q ra rb
  have h2 := lcE_le p q ra rb
  constructor
  · intro h
    have z1 := h1.mp (by rw [h]; decide)
    have z2 := h2.mp (by rw [h]; decide)
    omega
  · intro h
    exact Int32.le_antisymm (h2.mpr (by omega)) (h1.mpr (by omega))
theorem lcE_ne (p : u = zL a) (q : w = zL b) (ra : lR a) (rb : lR b) : ¬ lg_cmp u w = 0 ↔ ¬ a = b := not_congr (lcE_eq p q ra rb)
theorem iR_lR (h : iR a) : lR a := ⟨by omega, by omega⟩
theorem clE (p : x = zI a) (g : 0 ≤ a ∧ a < n) (hn : n ≤ 2147483648) : ((x.toNatClampNeg : Nat) : Int) = a := by
  have h : (Int32.ofInt a).toNatClampNeg = a.toNat := Int32.toNatClampNeg_ofInt_of_le (by omega) (by omega)
  rw [p]
  show (((Int32.ofInt a).toNatClampNeg : Nat) : Int) = a
  rw [h]
  omega
theorem iR_ite {c : Prop} [Decidable c] (ha : iR a) (hb : iR b) : iR (if c then a else b) := by
  split
  · exact ha
  · exact hb
end ZZ
theorem c16 : ∀ n : Fin 65536, (Int32.ofInt ((n.val : Nat) : Int)).toUInt32.toUInt16.toUInt32.toInt32 = Int32.ofInt ((n.val : Nat) : Int) := by
  intro n
  apply Int32.toBitVec.inj
  apply BitVec.eq_of_toNat_eq
  have := n.isLt
  simp
  omega
theorem ncE {x : Int32} {a : Int} (p : x = zI a) (g : 0 ≤ a ∧ a ≤ 65535) : x.toUInt32.toUInt16.toUInt32.toInt32 = zI a := by
  have h := c16 ⟨a.toNat, by omega⟩
  have e : ((a.toNat : Nat) : Int) = a := by omega
  simp only [e] at h
  rw [p]
  exact h
