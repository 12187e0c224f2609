/-! ===== Long.bitCount ===== -/
/-- how many of the first bits are set -/
def cB (x : Nat) : Nat → Nat
  | 0 => 0
  | n + 1 => cB x n + (if x.testBit n = true then 1 else 0)
theorem cB_add (x a : Nat) : ∀ b : Nat, cB x (a + b) = cB x a + cB (x / 2 ^ a) b := by
  intro b
  induction b with
  | zero => rfl
  | succ b ih =>
    show cB x (a + b) + (if x.testBit (a + b) = true then 1 else 0) = cB x a + (cB (x / 2 ^ a) b + (if (x / 2 ^ a).testBit b = true then 1 else 0))
    rw [ih, Nat.testBit_div_two_pow, Nat.add_comm b a]
    omega
theorem cB_cg {x y : Nat} : ∀ n : Nat, (∀ i, i < n → x.testBit i = y.testBit i) → cB x n = cB y n := by
  intro n
  induction n with
  | zero => intro _; rfl
  | succ n ih =>
    intro h
    unfold cB
    rw [ih (fun i hi => h i (by omega)), h n (by omega)]
theorem cB_mod (x : Nat) : cB x 8 = cB (x % 256) 8 := cB_cg 8 fun i hi => by
  rw [show 256 = 2 ^ 8 from rfl, Nat.testBit_mod_two_pow, decide_eq_true hi, Bool.true_and]
theorem cB_le (x : Nat) : ∀ n : Nat, cB x n ≤ n := by
  intro n
  induction n with
  | zero => exact Nat.le_refl _
  | succ n ih =>
    unfold cB
    split <;> omega
/-- fewer bits, the less of them -/
theorem cB_mono {x y : Nat} : ∀ n : Nat, (∀ i, i < n → x.testBit i = true → y.testBit i = true) → cB x n ≤ cB y n := by
  intro n
  induction n with
  | zero => intro _; exact Nat.le_refl _
  | succ n ih =>
    intro h
    have z := ih (fun i hi => h i (by omega))
    have hn := h n (by omega)
    unfold cB
    by_cases c : x.testBit n = true
    · rw [if_pos c, if_pos (hn c)]; omega
    · rw [if_neg c]
      split <;> omega
theorem cB_lt {x y j : Nat} : ∀ n : Nat, (∀ i, i < n → x.testBit i = true → y.testBit i = true) → j < n → ¬ x.testBit j = true → y.testBit j = true → cB x n < cB y n := by
  intro n
  induction n with
  | zero => intro _ h; exact absurd h (Nat.not_lt_zero j)
  | succ n ih =>
    intro h hj h1 h2
    unfold cB
    by_cases c : j = n
    · rw [← c, if_neg h1, if_pos h2]
      have := cB_mono (x := x) (y := y) j (fun i hi => h i (by omega))
      omega
    · have z := ih (fun i hi => h i (by omega)) (by omega) h1 h2
      have hn := h n (by omega)
      by_cases cx : x.testBit n = true
      · rw [if_pos cx, if_pos (hn cx)]; omega
      · rw [if_neg cx]
        split <;> omega
/-! bytes -/
def pb1 (q : Nat) : Nat := q - ((q / 2) &&& 85)
def pb2 (q : Nat) : Nat := (q &&& 51) + ((q / 4) &&& 51)
def pb3 (q : Nat) : Nat := (q + q / 16) &&& 15
theorem pb_ok : ∀ q : Fin 256, (q.val / 2) &&& 85 ≤ q.val ∧ pb1 q.val < 256 ∧ pb2 (pb1 q.val) < 256 ∧ pb2 (pb1 q.val) % 16 ≤ 4 ∧ (pb2 (pb1 q.val) / 16) % 16 ≤ 4 ∧ pb3 (pb2 (pb1 q.val)) = cB q.val 8 := by decide +kernel
theorem pb_85 : ∀ (q : Fin 256) (t : Fin 2), (q.val / 2 + 128 * t.val) &&& 85 = (q.val / 2) &&& 85 := by decide +kernel
theorem pb_51 : ∀ (q : Fin 256) (t : Fin 4), (q.val / 4 + 64 * t.val) &&& 51 = (q.val / 4) &&& 51 := by decide +kernel
theorem pb_51l : ∀ q : Fin 256, pb2 q.val < 256 := by decide +kernel
/-- so many bytes alike -/
def mk8 (c : Nat) : Nat → Nat
  | 0 => 0
  | k + 1 => c + 256 * mk8 c k
theorem and_split (x c : Nat) (hc : c < 256) (k : Nat) : x &&& mk8 c (k + 1) = ((x % 256) &&& c) + 256 * ((x / 256) &&& mk8 c k) := by
  have e1 : (x &&& mk8 c (k + 1)) % 2 ^ 8 = (x % 2 ^ 8) &&& (mk8 c (k + 1) % 2 ^ 8) := Nat.and_mod_two_pow
  have e2 : (x &&& mk8 c (k + 1)) / 2 ^ 8 = (x / 2 ^ 8) &&& (mk8 c (k + 1) / 2 ^ 8) := Nat.and_div_two_pow
  have m1 : mk8 c (k + 1) % 2 ^ 8 = c := by
    show (c + 256 * mk8 c k) % 256 = c
    omega
  have m2 : mk8 c (k + 1) / 2 ^ 8 = mk8 c k := by
    show (c + 256 * mk8 c k) / 256 = mk8 c k
    omega
  rw [m1] at e1
  rw [m2] at e2
  have e1' : (x &&& mk8 c (k + 1)) % 256 = (x % 256) &&& c := e1
  have e2' : (x &&& mk8 c (k + 1)) / 256 = (x / 256) &&& mk8 c k := e2
  omega
def PW1 (k x : Nat) : Nat := x - ((x / 2) &&& mk8 85 k)
def PW2 (k x : Nat) : Nat := (x &&& mk8 51 k) + ((x / 4) &&& mk8 51 k)
def PW3 (k x : Nat) : Nat := (x + x / 16) &&& mk8 15 k
theorem PW1_s (k x : Nat) (hy : ((x / 256) / 2) &&& mk8 85 k ≤ x / 256) : PW1 (k + 1) x = pb1 (x % 256) + 256 * PW1 k (x / 256) := by
  unfold PW1 pb1
  have hq := (pb_ok ⟨x % 256, by omega⟩).1
  have ht := pb_85 ⟨x % 256, by omega⟩ ⟨(x / 256) % 2, by omega⟩
  simp only at hq ht
  rw [and_split _ 85 (by decide), show (x / 2) % 256 = (x % 256) / 2 + 128 * ((x / 256) % 2) by omega, ht, show (x / 2) / 256 = (x / 256) / 2 by omega]
  generalize (x % 256) / 2 &&& 85 = A at *
  generalize (x / 256) / 2 &&& mk8 85 k = B at *
  omega
theorem PW1_le : ∀ (k x : Nat), (x / 2) &&& mk8 85 k ≤ x := by
  intro k
  induction k with
  | zero => intro x; show (x / 2) &&& 0 ≤ x; rw [Nat.and_zero]; exact Nat.zero_le _
  | succ k ih =>
    intro x
    have hq := (pb_ok ⟨x % 256, by omega⟩).1
    have ht := pb_85 ⟨x % 256, by omega⟩ ⟨(x / 256) % 2, by omega⟩
    simp only at hq ht
    have hy := ih (x / 256)
    rw [and_split _ 85 (by decide), show (x / 2) % 256 = (x % 256) / 2 + 128 * ((x / 256) % 2) by omega, ht, show (x / 2) / 256 = (x / 256) / 2 by omega]
    generalize (x % 256) / 2 &&& 85 = A at *
    generalize (x / 256) / 2 &&& mk8 85 k = B at *
    omega
theorem PW2_s (k x : Nat) : PW2 (k + 1) x = pb2 (x % 256) + 256 * PW2 k (x / 256) := by
  unfold PW2 pb2
  have ht := pb_51 ⟨x % 256, by omega⟩ ⟨(x / 256) % 4, by omega⟩
  simp only at ht
  rw [and_split x 51 (by decide), and_split (x / 4) 51 (by decide), show (x / 4) % 256 = (x % 256) / 4 + 64 * ((x / 256) % 4) by omega, ht, show (x / 4) / 256 = (x / 256) / 4 by omega]
  omega
/-- all nibbles are 4 at most -/
def Nb : Nat → Nat → Prop
  | 0, x => x = 0
  | k + 1, x => x % 16 ≤ 4 ∧ (x / 16) % 16 ≤ 4 ∧ Nb k (x / 256)
theorem Nb_0 {k x : Nat} (h : Nb k x) : x % 16 ≤ 4 := by
  cases k with
  | zero => have h' : x = 0 := h; rw [h']; decide
  | succ k => exact h.1
theorem and15 (x : Nat) : x &&& 15 = x % 16 := Nat.and_two_pow_sub_one_eq_mod x 4
theorem PW3_s {k x : Nat} (h : Nb (k + 1) x) : PW3 (k + 1) x = pb3 (x % 256) + 256 * PW3 k (x / 256) := by
  unfold PW3 pb3
  obtain ⟨h1, h2, h3⟩ := h
  have h4 := Nb_0 h3
  have hd : x / 16 / 16 = x / 256 := Nat.div_div_eq_div_mul x 16 16
  rw [and_split _ 15 (by decide), and15, and15, show (x + x / 16) / 256 = x / 256 + (x / 256) / 16 by omega]
  omega
theorem PW_all : ∀ (k x : Nat), x < 256 ^ k → Nb k (PW2 k (PW1 k x)) ∧ ∀ j, PW3 (k + j) (PW2 k (PW1 k x)) = PW3 (k + j) (PW2 k (PW1 k x)) := by
  intro k
  induction k with
  | zero =>
    intro x hx
    refine ⟨?_, fun _ => rfl⟩
    show (PW1 0 x &&& 0) + ((PW1 0 x / 4) &&& 0) = 0
    rw [Nat.and_zero, Nat.and_zero]
  | succ k ih =>
    intro x hx
    refine ⟨?_, fun _ => rfl⟩
    have hx2 : x / 256 < 256 ^ k := by
      rw [Nat.pow_succ] at hx
      exact Nat.div_lt_of_lt_mul (by rw [Nat.mul_comm]; exact hx)
    obtain ⟨q1, q2, q3, q4, q5, q6⟩ := pb_ok ⟨x % 256, by omega⟩
    simp only at q1 q2 q3 q4 q5 q6
    have e1 := PW1_s k x (PW1_le k (x / 256))
    have e2 := PW2_s k (PW1 (k + 1) x)
    rw [e1, show (pb1 (x % 256) + 256 * PW1 k (x / 256)) % 256 = pb1 (x % 256) by omega, show (pb1 (x % 256) + 256 * PW1 k (x / 256)) / 256 = PW1 k (x / 256) by omega] at e2
    rw [e1, e2]
    refine ⟨by omega, by omega, ?_⟩
    rw [show (pb2 (pb1 (x % 256)) + 256 * PW2 k (PW1 k (x / 256))) / 256 = PW2 k (PW1 k (x / 256)) by omega]
    exact (ih (x / 256) hx2).1
theorem PW_s {k x : Nat} (hx : x < 256 ^ (k + 1)) : PW3 (k + 1) (PW2 (k + 1) (PW1 (k + 1) x)) = cB (x % 256) 8 + 256 * PW3 k (PW2 k (PW1 k (x / 256))) := by
  have hN := (PW_all (k + 1) x hx).1
  obtain ⟨q1, q2, q3, q4, q5, q6⟩ := pb_ok ⟨x % 256, by omega⟩
  simp only at q1 q2 q3 q4 q5 q6
  have e1 := PW1_s k x (PW1_le k (x / 256))
  have e2 := PW2_s k (PW1 (k + 1) x)
  rw [e1, show (pb1 (x % 256) + 256 * PW1 k (x / 256)) % 256 = pb1 (x % 256) by omega, show (pb1 (x % 256) + 256 * PW1 k (x / 256)) / 256 = PW1 k (x / 256) by omega] at e2
  rw [PW3_s hN, e1, e2, show (pb2 (pb1 (x % 256)) + 256 * PW2 k (PW1 k (x / 256))) % 256 = pb2 (pb1 (x % 256)) by omega, show (pb2 (pb1 (x % 256)) + 256 * PW2 k (PW1 k (x / 256))) / 256 = PW2 k (PW1 k (x / 256)) by omega, q6]
/-- the bytes' numbers of bits -/
theorem PW_8 {x : Nat} (hx : x < 2 ^ 64) : ∃ c0 c1 c2 c3 c4 c5 c6 c7 : Nat, PW3 8 (PW2 8 (PW1 8 x)) = c0 + 256 * (c1 + 256 * (c2 + 256 * (c3 + 256 * (c4 + 256 * (c5 + 256 * (c6 + 256 * c7)))))) ∧ (c0 ≤ 8 ∧ c1 ≤ 8 ∧ c2 ≤ 8 ∧ c3 ≤ 8 ∧ c4 ≤ 8 ∧ c5 ≤ 8 ∧ c6 ≤ 8 ∧ c7 ≤ 8) ∧ cB x 64 = c0 + c1 + c2 + c3 + c4 + c5 + c6 + c7 := by
  have st : ∀ k y, y < 256 ^ (k + 1) → y / 256 < 256 ^ k := fun k y hy => by
    rw [Nat.pow_succ] at hy
    exact Nat.div_lt_of_lt_mul (by rw [Nat.mul_comm]; exact hy)
  have h0 : x < 256 ^ 8 := hx
  have h1 := st 7 _ h0
  have h2 := st 6 _ h1
  have h3 := st 5 _ h2
  have h4 := st 4 _ h3
  have h5 := st 3 _ h4
  have h6 := st 2 _ h5
  have h7 := st 1 _ h6
  have bs : ∀ (y n : Nat), cB y (8 + n) = cB (y % 256) 8 + cB (y / 256) n := fun y n => by rw [cB_add, cB_mod]
  refine ⟨_, _, _, _, _, _, _, _, ?_, ⟨cB_le (x % 256) 8, cB_le (x / 256 % 256) 8, cB_le (x / 256 / 256 % 256) 8, cB_le (x / 256 / 256 / 256 % 256) 8, cB_le (x / 256 / 256 / 256 / 256 % 256) 8, cB_le (x / 256 / 256 / 256 / 256 / 256 % 256) 8, cB_le (x / 256 / 256 / 256 / 256 / 256 / 256 % 256) 8, cB_le (x / 256 / 256 / 256 / 256 / 256 / 256 / 256 % 256) 8⟩, ?_⟩
  · rw [PW_s h0, PW_s h1, PW_s h2, PW_s h3, PW_s h4, PW_s h5, PW_s h6, PW_s h7]
    have z : PW3 0 (PW2 0 (PW1 0 (x / 256 / 256 / 256 / 256 / 256 / 256 / 256 / 256))) = 0 := Nat.and_zero _
    rw [z]
    omega
  · rw [show 64 = 8 + 56 from rfl, bs, show 56 = 8 + 48 from rfl, bs, show 48 = 8 + 40 from rfl, bs, show 40 = 8 + 32 from rfl, bs, show 32 = 8 + 24 from rfl, bs, show 24 = 8 + 16 from rfl, bs, show 16 = 8 + 8 from rfl, bs, cB_mod (x / 256 / 256 / 256 / 256 / 256 / 256 / 256)]
    omega
/-! the machine's longs -/
def tn (y : Int64) : Nat := y.toBitVec.toNat
theorem tn_lt (y : Int64) : tn y < 2 ^ 64 := y.toBitVec.isLt
theorem tn_and (a b : Int64) : tn (a &&& b) = tn a &&& tn b := BitVec.toNat_and _ _
theorem tn_add {a b : Int64} (h : tn a + tn b < 2 ^ 64) : tn (a + b) = tn a + tn b := by
  show (a.toBitVec + b.toBitVec).toNat = _
  rw [BitVec.toNat_add]
  exact Nat.mod_eq_of_lt h
theorem tn_sub {a b : Int64} (h : tn b ≤ tn a) : tn (a - b) = tn a - tn b := by
  show (a.toBitVec - b.toBitVec).toNat = _
  exact BitVec.toNat_sub_of_le h
theorem tn_ush {a : Int64} {s : UInt64} {k : Nat} (h : (s % 64).toBitVec.toNat = k) : tn ((a.toUInt64 >>> s).toInt64) = tn a / 2 ^ k := by
  show (a.toBitVec >>> (s % 64).toBitVec.toNat).toNat = _
  rw [h, BitVec.toNat_ushiftRight, Nat.shiftRight_eq_div_pow]
  rfl
theorem sum2 {S e0 e1 e2 e3 e4 e5 e6 e7 : Nat} (h : e0 ≤ 16 ∧ e1 ≤ 16) (hS : S = e0 + 256 * (e1 + 256 * (e2 + 256 * (e3 + 256 * (e4 + 256 * (e5 + 256 * (e6 + 256 * e7))))))) : S + S / 65536 = (e0 + e2) + 256 * ((e1 + e3) + 256 * ((e2 + e4) + 256 * ((e3 + e5) + 256 * ((e4 + e6) + 256 * ((e5 + e7) + 256 * (e6 + 256 * e7)))))) := by
  generalize hT : e2 + 256 * (e3 + 256 * (e4 + 256 * (e5 + 256 * (e6 + 256 * e7)))) = T at hS
  have z : S / 65536 = T := by omega
  rw [z, hS, ← hT]
  omega
theorem sum3 {S f0 f1 f2 f3 f4 f5 f6 f7 : Nat} (h : f0 ≤ 32 ∧ f1 ≤ 32 ∧ f2 ≤ 32 ∧ f3 ≤ 32) (hS : S = f0 + 256 * (f1 + 256 * (f2 + 256 * (f3 + 256 * (f4 + 256 * (f5 + 256 * (f6 + 256 * f7))))))) : ∃ Y, S + S / 4294967296 = (f0 + f4) + 256 * Y := by
  generalize hT : f4 + 256 * (f5 + 256 * (f6 + 256 * f7)) = T at hS
  have z : S / 4294967296 = T := by omega
  refine ⟨f1 + 256 * (f2 + 256 * (f3 + 256 * T)) + (f5 + 256 * (f6 + 256 * f7)), ?_⟩
  rw [z, hS, ← hT]
  omega
section CPP
variable {d : Nat} {M : am_Mem}
theorem k_bitCount (y : Int64) : Wp d 294 (0, [some (.long y), none], [], M) (pI (fun r μ' => r = zI ((cB (tn y) 64 : Nat) : Int) ∧ μ' = M) noX) := by
  have s1 : ((((Int32.ofInt 1).toInt64.toUInt64 &&& Int64.toUInt64 63)) % 64).toBitVec.toNat = 1 := by decide
  have s2 : ((((Int32.ofInt 2).toInt64.toUInt64 &&& Int64.toUInt64 63)) % 64).toBitVec.toNat = 2 := by decide
  have s4 : ((((Int32.ofInt 4).toInt64.toUInt64 &&& Int64.toUInt64 63)) % 64).toBitVec.toNat = 4 := by decide
  have s8 : (((((Int8.ofInt 8).toInt32).toInt64.toUInt64 &&& Int64.toUInt64 63)) % 64).toBitVec.toNat = 8 := by decide
  have s16 : (((((Int8.ofInt 16).toInt32).toInt64.toUInt64 &&& Int64.toUInt64 63)) % 64).toBitVec.toNat = 16 := by decide
  have s32 : (((((Int8.ofInt 32).toInt32).toInt64.toUInt64 &&& Int64.toUInt64 63)) % 64).toBitVec.toNat = 32 := by decide
  have c5 : tn (6148914691236517205 : Int64) = mk8 85 8 := by decide
  have c3 : tn (3689348814741910323 : Int64) = mk8 51 8 := by decide
  have c1 : tn (1085102592571150095 : Int64) = mk8 15 8 := by decide
  have hy := tn_lt y
  obtain ⟨a0, a1, a2, a3, a4, a5, a6, a7, e8, ⟨b0, b1, b2, b3, b4, b5, b6, b7⟩, eS⟩ := PW_8 hy
  have t1 : tn (((y.toUInt64 >>> ((Int32.ofInt 1).toInt64.toUInt64 &&& Int64.toUInt64 63)).toInt64) &&& (6148914691236517205 : Int64)) = (tn y / 2) &&& mk8 85 8 := by
    rw [tn_and, tn_ush s1, c5]
  have t2 : tn (y - (((y.toUInt64 >>> ((Int32.ofInt 1).toInt64.toUInt64 &&& Int64.toUInt64 63)).toInt64) &&& (6148914691236517205 : Int64))) = PW1 8 (tn y) := by
    rw [tn_sub (by rw [t1]; exact PW1_le 8 _), t1]
    rfl
  refine b294_0 ?_
  generalize y - (((y.toUInt64 >>> ((Int32.ofInt 1).toInt64.toUInt64 &&& Int64.toUInt64 63)).toInt64) &&& (6148914691236517205 : Int64)) = y1 at t2 ⊢
  have m51 : mk8 51 8 < 2 ^ 63 := by decide
  have t3 : tn ((y1 &&& (3689348814741910323 : Int64)) + (((y1.toUInt64 >>> ((Int32.ofInt 2).toInt64.toUInt64 &&& Int64.toUInt64 63)).toInt64) &&& (3689348814741910323 : Int64))) = PW2 8 (PW1 8 (tn y)) := by
    have l1 : tn y1 &&& mk8 51 8 ≤ mk8 51 8 := Nat.and_le_right
    have l2 : tn y1 / 2 ^ 2 &&& mk8 51 8 ≤ mk8 51 8 := Nat.and_le_right
    have z1 : tn (y1 &&& (3689348814741910323 : Int64)) = tn y1 &&& mk8 51 8 := by rw [tn_and, c3]
    have z2 : tn (((y1.toUInt64 >>> ((Int32.ofInt 2).toInt64.toUInt64 &&& Int64.toUInt64 63)).toInt64) &&& (3689348814741910323 : Int64)) = tn y1 / 2 ^ 2 &&& mk8 51 8 := by rw [tn_and, tn_ush s2, c3]
    rw [tn_add (by rw [z1, z2]; omega), z1, z2, t2]
    rfl
  generalize (y1 &&& (3689348814741910323 : Int64)) + (((y1.toUInt64 >>> ((Int32.ofInt 2).toInt64.toUInt64 &&& Int64.toUInt64 63)).toInt64) &&& (3689348814741910323 : Int64)) = y2 at t3 ⊢
  have l2 : PW2 8 (PW1 8 (tn y)) ≤ 2 * mk8 51 8 := by
    have l1 : PW1 8 (tn y) &&& mk8 51 8 ≤ mk8 51 8 := Nat.and_le_right
    have l3 : PW1 8 (tn y) / 4 &&& mk8 51 8 ≤ mk8 51 8 := Nat.and_le_right
    unfold PW2
    omega
  have m51' : 2 * mk8 51 8 + (2 * mk8 51 8) / 16 < 2 ^ 64 := by decide
  refine b294_26 ?_
  have z4 : tn ((y2.toUInt64 >>> ((Int32.ofInt 4).toInt64.toUInt64 &&& Int64.toUInt64 63)).toInt64) = tn y2 / 16 := tn_ush s4
  have t4 : tn ((y2 + ((y2.toUInt64 >>> ((Int32.ofInt 4).toInt64.toUInt64 &&& Int64.toUInt64 63)).toInt64)) &&& (1085102592571150095 : Int64)) = PW3 8 (PW2 8 (PW1 8 (tn y))) := by
    rw [tn_and, tn_add (by rw [z4, t3]; omega), z4, t3, c1]
    rfl
  generalize (y2 + ((y2.toUInt64 >>> ((Int32.ofInt 4).toInt64.toUInt64 &&& Int64.toUInt64 63)).toInt64)) &&& (1085102592571150095 : Int64) = y3 at t4 ⊢
  rw [e8] at t4
  have z8 : tn ((y3.toUInt64 >>> (((Int8.ofInt 8).toInt32).toInt64.toUInt64 &&& Int64.toUInt64 63)).toInt64) = tn y3 / 256 := tn_ush s8
  have t5 : tn (y3 + ((y3.toUInt64 >>> (((Int8.ofInt 8).toInt32).toInt64.toUInt64 &&& Int64.toUInt64 63)).toInt64)) = (a0 + a1) + 256 * ((a1 + a2) + 256 * ((a2 + a3) + 256 * ((a3 + a4) + 256 * ((a4 + a5) + 256 * ((a5 + a6) + 256 * ((a6 + a7) + 256 * a7)))))) := by
    rw [tn_add (by rw [z8, t4]; omega), z8, t4]
    omega
  generalize y3 + ((y3.toUInt64 >>> (((Int8.ofInt 8).toInt32).toInt64.toUInt64 &&& Int64.toUInt64 63)).toInt64) = y4 at t5 ⊢
  refine b294_43 ?_
  have z16 : tn ((y4.toUInt64 >>> (((Int8.ofInt 16).toInt32).toInt64.toUInt64 &&& Int64.toUInt64 63)).toInt64) = tn y4 / 65536 := tn_ush s16
  have hs2 := sum2 (S := tn y4) ⟨by omega, by omega⟩ t5
  have t6 : tn (y4 + ((y4.toUInt64 >>> (((Int8.ofInt 16).toInt32).toInt64.toUInt64 &&& Int64.toUInt64 63)).toInt64)) = tn y4 + tn y4 / 65536 := by
    rw [tn_add (by rw [z16, hs2]; clear hs2 t5 t4 e8 eS; omega), z16]
  rw [hs2] at t6
  generalize y4 + ((y4.toUInt64 >>> (((Int8.ofInt 16).toInt32).toInt64.toUInt64 &&& Int64.toUInt64 63)).toInt64) = y5 at t6 ⊢
  have z32 : tn ((y5.toUInt64 >>> (((Int8.ofInt 32).toInt32).toInt64.toUInt64 &&& Int64.toUInt64 63)).toInt64) = tn y5 / 4294967296 := tn_ush s32
  obtain ⟨Y, hs3⟩ := sum3 (S := tn y5) ⟨by omega, by omega, by omega, by omega⟩ t6
  have hb5 : tn y5 < 4611686018427387904 := by
    rw [t6]
    clear hs3 hs2 t6 t5 t4 e8 eS
    omega
  have t7 : tn (y5 + ((y5.toUInt64 >>> (((Int8.ofInt 32).toInt32).toInt64.toUInt64 &&& Int64.toUInt64 63)).toInt64)) = tn y5 + tn y5 / 4294967296 := by
    rw [tn_add (by rw [z32]; clear hs3 hs2 t6 t5 t4 e8 eS; omega), z32]
  rw [hs3] at t7
  generalize y5 + ((y5.toUInt64 >>> (((Int8.ofInt 32).toInt32).toInt64.toUInt64 &&& Int64.toUInt64 63)).toInt64) = y6 at t7 ⊢
  refine ⟨?_, rfl⟩
  apply Int32.toBitVec.inj
  apply BitVec.eq_of_toNat_eq
  have hN : cB (tn y) 64 ≤ 64 := cB_le _ _
  rw [zI_bv (by omega)]
  show (y6.toBitVec.signExtend 32 &&& ((Int8.ofInt 127).toInt32).toBitVec).toNat = _
  rw [BitVec.signExtend_eq_setWidth_of_le _ (by decide), BitVec.toNat_and, BitVec.toNat_setWidth, show ((Int8.ofInt 127).toInt32).toBitVec.toNat = 2 ^ 7 - 1 by decide, Nat.and_two_pow_sub_one_eq_mod]
  have t8 : y6.toBitVec.toNat = (a0 + a1 + (a2 + a3) + (a4 + a5 + (a6 + a7))) + 256 * Y := t7
  rw [t8, eS]
  clear hs3 hs2 t8 t7 t6 t5 t4 e8 eS hb5 hN z32 z16 z8 z4
  omega
end CPP
