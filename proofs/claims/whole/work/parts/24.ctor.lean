/-! ===== printed: the constructors, in memories wholly known ===== -/
abbrev mWrd : mC := (5, 58, am_wrdL, [], [])
theorem mT_n {L n sl : Nat} {xs : Nat → Int32} {T : List mC} : am_n (mT L xs n T sl) = n := rfl
theorem kN0 : Int32.toNatClampNeg ((Int16.ofInt 2000).toInt32) = 2000 := by decide
theorem kN1 : Int32.toNatClampNeg ((Int16.ofInt 2001).toInt32) = 2001 := by decide
theorem kN2 : Int32.toNatClampNeg (((Int16.ofInt 2000).toInt32) + (nI 58)) = 2058 := by decide
theorem kN3 : Int32.toNatClampNeg ((Int16.ofInt 1025).toInt32) = 1025 := by decide
theorem kN4 : Int32.toNatClampNeg ((Int16.ofInt 2048).toInt32) = 2048 := by decide
theorem kN5 : Int32.toNatClampNeg ((Int16.ofInt 1024).toInt32) = 1024 := by decide
theorem kN6 : Int32.toNatClampNeg ((Int16.ofInt 4096).toInt32) = 4096 := by decide
theorem kN7 : Int32.toNatClampNeg ((Int8.ofInt 60).toInt32) = 60 := by decide
theorem kN8 : Int32.toNatClampNeg ((Int16.ofInt 480).toInt32) = 480 := by decide
theorem kN9 : Int32.toNatClampNeg ((Int8.ofInt 61).toInt32) = 61 := by decide
theorem kN10 : Int32.toNatClampNeg ((Int8.ofInt 8).toInt32) = 8 := by decide
theorem kN11 : Int32.toNatClampNeg ((Int8.ofInt 44).toInt32) = 44 := by decide
theorem kN12 : Int32.toNatClampNeg ((Int8.ofInt 62).toInt32) = 62 := by decide
theorem kN13 : Int32.toNatClampNeg ((Int16.ofInt 1000).toInt32) = 1000 := by decide
theorem kN14 : Int32.toNatClampNeg ((Int16.ofInt 4000).toInt32) = 4000 := by decide
theorem kN15 : Int32.toNatClampNeg (Int32.ofInt 4) = 4 := by decide
theorem kN16 : Int32.toNatClampNeg ((Int16.ofInt 16384).toInt32) = 16384 := by decide
theorem kN17 : Int32.toNatClampNeg ((Int16.ofInt 8192).toInt32) = 8192 := by decide
theorem kN18 : Int32.toNatClampNeg (Int32.ofInt 5) = 5 := by decide
theorem kN19 : Int32.toNatClampNeg ((Int16.ofInt 9120).toInt32) = 9120 := by decide
theorem kN20 : Int32.toNatClampNeg ((Int16.ofInt 302).toInt32) = 302 := by decide
theorem kN21 : Int32.toNatClampNeg ((Int16.ofInt 301).toInt32) = 301 := by decide
theorem kN22 : Int32.toNatClampNeg ((Int8.ofInt 79).toInt32) = 79 := by decide
theorem kN23 : Int32.toNatClampNeg ((Int8.ofInt 19).toInt32) = 19 := by decide
theorem kN24 : Int32.toNatClampNeg ((Int16.ofInt 300).toInt32) = 300 := by decide
theorem kN25 : Int32.toNatClampNeg ((Int16.ofInt 12000).toInt32) = 12000 := by decide
theorem kN26 : Int32.toNatClampNeg ((Int16.ofInt 17600).toInt32) = 17600 := by decide
theorem kN27 : Int32.toNatClampNeg ((Int16.ofInt 1100).toInt32) = 1100 := by decide
theorem kN28 : Int32.toNatClampNeg ((Int16.ofInt 500).toInt32) = 500 := by decide
theorem kN29 : Int32.toNatClampNeg ((Int16.ofInt 600).toInt32) = 600 := by decide
theorem kN30 : Int32.toNatClampNeg ((Int16.ofInt 2400).toInt32) = 2400 := by decide
theorem kN31 : Int32.toNatClampNeg ((Int16.ofInt 4400).toInt32) = 4400 := by decide
theorem kN32 : Int32.toNatClampNeg ((Int8.ofInt 11).toInt32) = 11 := by decide
theorem kN33 : Int32.toNatClampNeg ((130000 : Int32)) = 130000 := by decide
theorem kN34 : Int32.toNatClampNeg ((520000 : Int32)) = 520000 := by decide
theorem kN35 : Int32.toNatClampNeg ((262144 : Int32)) = 262144 := by decide
theorem kN36 : Int32.toNatClampNeg ((Int16.ofInt 1001).toInt32) = 1001 := by decide
theorem kN37 : Int32.toNatClampNeg ((Int16.ofInt 4004).toInt32) = 4004 := by decide
theorem kN38 : Int32.toNatClampNeg ((Int8.ofInt 9).toInt32) = 9 := by decide
theorem kN39 : Int32.toNatClampNeg ((887880 : Int32)) = 887880 := by decide
theorem kN40 : Int32.toNatClampNeg ((196196 : Int32)) = 196196 := by decide
theorem kN41 : Int32.toNatClampNeg ((Int16.ofInt 3000).toInt32) = 3000 := by decide
def Tc0 : List mC := [(1, 11, [], [], [])]
def Tc1 : List mC := [(1, 11, [0, Int32.ofInt 0, Int32.ofInt (-1)], [], [17]), (5, 2000, [], [], []), (1, 9, [], [], [])]
def Tc2 : List mC := [(1, 11, [0, Int32.ofInt 0, Int32.ofInt (-1)], [], [17]), (5, 2000, [], [], []), (1, 9, [0, 0, 0, Int32.ofInt 0, 0, Int32.ofInt 0], [], [19, 20, 21, 15, 17]), (2, 2001, [], [], []), (2, 2001, [], [], []), (2, 2001, [], [], [])]
set_option maxHeartbeats 2000000 in
set_option maxRecDepth 20000 in
theorem ctor0 {L d : Nat} {xs : Nat → Int32} : Wp (d + 0) 103 (0, [some (.ref 18), some (.ref 17)], [], mT L xs 19 Tc1 2025) (pV (fun μ' => μ' = mT L xs 22 Tc2 8028) noX) := by
  refine b103_0 rfl (Nat.ne_of_beq_eq_false rfl) ?_
  try simp only [mT_n]
  try simp only [mT_n, kN0, kN1, kN2, kN3, kN4, kN5, kN6, kN7, kN8, kN9, kN10, kN11, kN12, kN13, kN14, kN15, kN16, kN17, kN18, kN19, kN20, kN21, kN22, kN23, kN24, kN25, kN26, kN27, kN28, kN29, kN30, kN31, kN32, kN33, kN34, kN35, kN36, kN37, kN38, kN39, kN40, kN41]
  rw [mT_nA, mT_pR]
  refine b103_13 rfl (Nat.ne_of_beq_eq_false rfl) ?_
  try simp only [mT_n]
  try simp only [mT_n, kN0, kN1, kN2, kN3, kN4, kN5, kN6, kN7, kN8, kN9, kN10, kN11, kN12, kN13, kN14, kN15, kN16, kN17, kN18, kN19, kN20, kN21, kN22, kN23, kN24, kN25, kN26, kN27, kN28, kN29, kN30, kN31, kN32, kN33, kN34, kN35, kN36, kN37, kN38, kN39, kN40, kN41]
  rw [mT_nA, mT_pR]
  refine b103_22 rfl (Nat.ne_of_beq_eq_false rfl) ?_
  try simp only [mT_n]
  try simp only [mT_n, kN0, kN1, kN2, kN3, kN4, kN5, kN6, kN7, kN8, kN9, kN10, kN11, kN12, kN13, kN14, kN15, kN16, kN17, kN18, kN19, kN20, kN21, kN22, kN23, kN24, kN25, kN26, kN27, kN28, kN29, kN30, kN31, kN32, kN33, kN34, kN35, kN36, kN37, kN38, kN39, kN40, kN41]
  rw [mT_nA, mT_pR]
  refine b103_31 rfl rfl rfl (Nat.ne_of_beq_eq_false rfl) ?_
  try simp only [mT_n]
  try simp only [mT_n, kN0, kN1, kN2, kN3, kN4, kN5, kN6, kN7, kN8, kN9, kN10, kN11, kN12, kN13, kN14, kN15, kN16, kN17, kN18, kN19, kN20, kN21, kN22, kN23, kN24, kN25, kN26, kN27, kN28, kN29, kN30, kN31, kN32, kN33, kN34, kN35, kN36, kN37, kN38, kN39, kN40, kN41]
  rw [mT_pA, mT_pA, mT_pR]
  refine b103_46 ?_
  show _ = mT L xs 22 Tc2 8028
  all_goals first | rfl | decide | exact ⟨_, rfl⟩
def Tc3 : List mC := [(1, 11, [0, Int32.ofInt 0, Int32.ofInt (-1)], [], [17, 15, 15, 18]), (5, 2000, [], [], []), (1, 9, [0, 0, 0, Int32.ofInt 0, 0, Int32.ofInt 0], [], [19, 20, 21, 15, 17]), (2, 2001, [], [], []), (2, 2001, [], [], []), (2, 2001, [], [], []), (1, 5, [], [], [])]
def Tc4 : List mC := [(1, 11, [0, Int32.ofInt 0, Int32.ofInt (-1)], [], [17, 15, 15, 18]), (5, 2000, [], [], []), (1, 9, [0, 0, 0, Int32.ofInt 0, 0, Int32.ofInt 0], [], [19, 20, 21, 15, 17]), (2, 2001, [], [], []), (2, 2001, [], [], []), (2, 2001, [], [], []), (1, 5, [], [], []), (1, 3, [], [], [])]
def Tc5 : List mC := [(1, 11, [0, Int32.ofInt 0, Int32.ofInt (-1)], [], [17, 15, 15, 18]), (5, 2000, [], [], []), (1, 9, [0, 0, 0, Int32.ofInt 0, 0, Int32.ofInt 0], [], [19, 20, 21, 15, 17]), (2, 2001, [], [], []), (2, 2001, [], [], []), (2, 2001, [], [], []), (1, 5, [], [], []), (1, 3, [], [], []), mWrd]
def Tc6 : List mC := [(1, 11, [0, Int32.ofInt 0, Int32.ofInt (-1)], [], [17, 15, 15, 18]), (5, 2000, [], [], []), (1, 9, [0, 0, 0, Int32.ofInt 0, 0, Int32.ofInt 0], [], [19, 20, 21, 15, 17]), (2, 2001, [], [], []), (2, 2001, [], [], []), (2, 2001, [], [], []), (1, 5, [], [], []), (1, 3, [], [], [24]), mWrd]
def Tc7 : List mC := [(1, 11, [0, Int32.ofInt 0, Int32.ofInt (-1)], [], [17, 15, 15, 18]), (5, 2000, [], [], []), (1, 9, [0, 0, 0, Int32.ofInt 0, 0, Int32.ofInt 0], [], [19, 20, 21, 15, 17]), (2, 2001, [], [], []), (2, 2001, [], [], []), (2, 2001, [], [], []), (1, 5, [], [], []), (1, 3, [0, 0, 0, 0, Int32.ofInt 0], [], [24, 25, 26, 27]), mWrd, (5, 2058, [], [], []), (2, 1025, [], [], []), (2, 2048, [], [], [])]
set_option maxHeartbeats 2000000 in
set_option maxRecDepth 20000 in
theorem ctor1 {L d : Nat} {xs : Nat → Int32} : Wp (d + 3) 47 (0, [some (.ref 23)], [], mT L xs 24 Tc4 8052) (pV (fun μ' => μ' = mT L xs 28 Tc7 13241) noX) := by
  refine b47_0 (P := fun r μ' => r = 24 ∧ μ' = mT L xs 25 Tc5 8110) (X := noX) ?_ ?_ (fun _ _ h => h.elim)
  · exact c_toCharArray (by decide)
  rintro r μ' ⟨rfl, rfl⟩
  refine b47_10 rfl (Nat.ne_of_beq_eq_false rfl) (P := fun x μ' => x = nI 58 ∧ μ' = mT L xs 25 Tc6 8110) (X := noX) ?_ ?_ (fun _ _ h => h.elim)
  · try simp only [mT_n]
    try simp only [mT_n, kN0, kN1, kN2, kN3, kN4, kN5, kN6, kN7, kN8, kN9, kN10, kN11, kN12, kN13, kN14, kN15, kN16, kN17, kN18, kN19, kN20, kN21, kN22, kN23, kN24, kN25, kN26, kN27, kN28, kN29, kN30, kN31, kN32, kN33, kN34, kN35, kN36, kN37, kN38, kN39, kN40, kN41]
    rw [mT_pR]
    · exact c_length
    all_goals first | rfl | decide | exact ⟨_, rfl⟩
  rintro x μ' ⟨rfl, rfl⟩
  refine b47_22 (by decide) rfl (Nat.ne_of_beq_eq_false rfl) ?_
  try simp only [mT_n]
  try simp only [mT_n, kN0, kN1, kN2, kN3, kN4, kN5, kN6, kN7, kN8, kN9, kN10, kN11, kN12, kN13, kN14, kN15, kN16, kN17, kN18, kN19, kN20, kN21, kN22, kN23, kN24, kN25, kN26, kN27, kN28, kN29, kN30, kN31, kN32, kN33, kN34, kN35, kN36, kN37, kN38, kN39, kN40, kN41]
  rw [mT_nA, mT_pR]
  refine b47_28 rfl (Nat.ne_of_beq_eq_false rfl) ?_
  try simp only [mT_n]
  try simp only [mT_n, kN0, kN1, kN2, kN3, kN4, kN5, kN6, kN7, kN8, kN9, kN10, kN11, kN12, kN13, kN14, kN15, kN16, kN17, kN18, kN19, kN20, kN21, kN22, kN23, kN24, kN25, kN26, kN27, kN28, kN29, kN30, kN31, kN32, kN33, kN34, kN35, kN36, kN37, kN38, kN39, kN40, kN41]
  rw [mT_nA, mT_pR]
  refine b47_37 rfl (Nat.ne_of_beq_eq_false rfl) ?_
  try simp only [mT_n]
  try simp only [mT_n, kN0, kN1, kN2, kN3, kN4, kN5, kN6, kN7, kN8, kN9, kN10, kN11, kN12, kN13, kN14, kN15, kN16, kN17, kN18, kN19, kN20, kN21, kN22, kN23, kN24, kN25, kN26, kN27, kN28, kN29, kN30, kN31, kN32, kN33, kN34, kN35, kN36, kN37, kN38, kN39, kN40, kN41]
  rw [mT_nA, mT_pR]
  refine b47_46 rfl ?_
  show _ = mT L xs 28 Tc7 13241
  try simp only [mT_n]
  try simp only [mT_n, kN0, kN1, kN2, kN3, kN4, kN5, kN6, kN7, kN8, kN9, kN10, kN11, kN12, kN13, kN14, kN15, kN16, kN17, kN18, kN19, kN20, kN21, kN22, kN23, kN24, kN25, kN26, kN27, kN28, kN29, kN30, kN31, kN32, kN33, kN34, kN35, kN36, kN37, kN38, kN39, kN40, kN41]
  rw [mT_pA]
  all_goals first | rfl | decide | exact ⟨_, rfl⟩
def Tc8 : List mC := [(1, 11, [0, Int32.ofInt 0, Int32.ofInt (-1)], [], [17, 15, 15, 18]), (5, 2000, [], [], []), (1, 9, [0, 0, 0, Int32.ofInt 0, 0, Int32.ofInt 0], [], [19, 20, 21, 15, 17]), (2, 2001, [], [], []), (2, 2001, [], [], []), (2, 2001, [], [], []), (1, 5, [0, 0, 0, 0, 0, 0, Int32.ofInt 0], [], [23, 28, 29, 30, 31, 32, 15, 33, 34, 35, 36, 37, 38]), (1, 3, [0, 0, 0, 0, Int32.ofInt 0], [], [24, 25, 26, 27]), mWrd, (5, 2058, [], [], []), (2, 1025, [], [], []), (2, 2048, [], [], []), (2, 1024, [], [], []), (2, 1024, [], [], []), (2, 4096, [], [], []), (2, 1024, [], [], []), (2, 1024, [], [], []), (2, 60, [], [], []), (2, 480, [], [], []), (2, 60, [], [], []), (2, 480, [], [], []), (2, 480, [], [], []), (2, 60, [], [], [])]
def Tc9 : List mC := [(1, 11, [0, Int32.ofInt 0, Int32.ofInt (-1)], [], [17, 15, 15, 18]), (5, 2000, [], [], []), (1, 9, [0, 0, 0, Int32.ofInt 0, 0, Int32.ofInt 0], [], [19, 20, 21, 15, 17]), (2, 2001, [], [], []), (2, 2001, [], [], []), (2, 2001, [], [], []), (1, 5, [0, 0, 0, 0, 0, 0, Int32.ofInt 0, 0, 0, 0, 0, 0, 0, Int32.ofInt 0, 0, 0, 0, Int32.ofInt 0, Int32.ofInt 0], [], [23, 28, 29, 30, 31, 32, 15, 33, 34, 35, 36, 37, 38, 15, 39, 40, 41]), (1, 3, [0, 0, 0, 0, Int32.ofInt 0], [], [24, 25, 26, 27]), mWrd, (5, 2058, [], [], []), (2, 1025, [], [], []), (2, 2048, [], [], []), (2, 1024, [], [], []), (2, 1024, [], [], []), (2, 4096, [], [], []), (2, 1024, [], [], []), (2, 1024, [], [], []), (2, 60, [], [], []), (2, 480, [], [], []), (2, 60, [], [], []), (2, 480, [], [], []), (2, 480, [], [], []), (2, 60, [], [], []), (2, 60, [], [], []), (2, 61, [], [], []), (2, 60, [], [], [])]
set_option maxHeartbeats 2000000 in
set_option maxRecDepth 20000 in
theorem ctor2 {L d : Nat} {xs : Nat → Int32} : Wp (d + 4) 64 (0, [some (.ref 22)], [], mT L xs 23 Tc3 8047) (pV (fun μ' => μ' = mT L xs 42 Tc9 23234) noX) := by
  refine b64_0 (P := fun μ' => μ' = mT L xs 28 Tc7 13241) ?_ ?_
  · try simp only [mT_n]
    try simp only [mT_n, kN0, kN1, kN2, kN3, kN4, kN5, kN6, kN7, kN8, kN9, kN10, kN11, kN12, kN13, kN14, kN15, kN16, kN17, kN18, kN19, kN20, kN21, kN22, kN23, kN24, kN25, kN26, kN27, kN28, kN29, kN30, kN31, kN32, kN33, kN34, kN35, kN36, kN37, kN38, kN39, kN40, kN41]
    rw [mT_nO]
    · exact ctor1
    all_goals first | rfl | decide | exact ⟨_, rfl⟩
  rintro μ' rfl
  refine b64_12 rfl (Nat.ne_of_beq_eq_false rfl) rfl (Nat.ne_of_beq_eq_false rfl) ?_
  try simp only [mT_n]
  try simp only [mT_n, kN0, kN1, kN2, kN3, kN4, kN5, kN6, kN7, kN8, kN9, kN10, kN11, kN12, kN13, kN14, kN15, kN16, kN17, kN18, kN19, kN20, kN21, kN22, kN23, kN24, kN25, kN26, kN27, kN28, kN29, kN30, kN31, kN32, kN33, kN34, kN35, kN36, kN37, kN38, kN39, kN40, kN41]
  rw [mT_pR, mT_nA, mT_pR]
  refine b64_24 rfl (Nat.ne_of_beq_eq_false rfl) ?_
  try simp only [mT_n]
  try simp only [mT_n, kN0, kN1, kN2, kN3, kN4, kN5, kN6, kN7, kN8, kN9, kN10, kN11, kN12, kN13, kN14, kN15, kN16, kN17, kN18, kN19, kN20, kN21, kN22, kN23, kN24, kN25, kN26, kN27, kN28, kN29, kN30, kN31, kN32, kN33, kN34, kN35, kN36, kN37, kN38, kN39, kN40, kN41]
  rw [mT_nA, mT_pR]
  refine b64_33 rfl (Nat.ne_of_beq_eq_false rfl) ?_
  try simp only [mT_n]
  try simp only [mT_n, kN0, kN1, kN2, kN3, kN4, kN5, kN6, kN7, kN8, kN9, kN10, kN11, kN12, kN13, kN14, kN15, kN16, kN17, kN18, kN19, kN20, kN21, kN22, kN23, kN24, kN25, kN26, kN27, kN28, kN29, kN30, kN31, kN32, kN33, kN34, kN35, kN36, kN37, kN38, kN39, kN40, kN41]
  rw [mT_nA, mT_pR]
  refine b64_42 rfl (Nat.ne_of_beq_eq_false rfl) ?_
  try simp only [mT_n]
  try simp only [mT_n, kN0, kN1, kN2, kN3, kN4, kN5, kN6, kN7, kN8, kN9, kN10, kN11, kN12, kN13, kN14, kN15, kN16, kN17, kN18, kN19, kN20, kN21, kN22, kN23, kN24, kN25, kN26, kN27, kN28, kN29, kN30, kN31, kN32, kN33, kN34, kN35, kN36, kN37, kN38, kN39, kN40, kN41]
  rw [mT_nA, mT_pR]
  refine b64_51 rfl (Nat.ne_of_beq_eq_false rfl) ?_
  try simp only [mT_n]
  try simp only [mT_n, kN0, kN1, kN2, kN3, kN4, kN5, kN6, kN7, kN8, kN9, kN10, kN11, kN12, kN13, kN14, kN15, kN16, kN17, kN18, kN19, kN20, kN21, kN22, kN23, kN24, kN25, kN26, kN27, kN28, kN29, kN30, kN31, kN32, kN33, kN34, kN35, kN36, kN37, kN38, kN39, kN40, kN41]
  rw [mT_nA, mT_pR]
  refine b64_60 rfl rfl (Nat.ne_of_beq_eq_false rfl) ?_
  try simp only [mT_n]
  try simp only [mT_n, kN0, kN1, kN2, kN3, kN4, kN5, kN6, kN7, kN8, kN9, kN10, kN11, kN12, kN13, kN14, kN15, kN16, kN17, kN18, kN19, kN20, kN21, kN22, kN23, kN24, kN25, kN26, kN27, kN28, kN29, kN30, kN31, kN32, kN33, kN34, kN35, kN36, kN37, kN38, kN39, kN40, kN41]
  rw [mT_pA, mT_nA, mT_pR]
  refine b64_73 rfl (Nat.ne_of_beq_eq_false rfl) ?_
  try simp only [mT_n]
  try simp only [mT_n, kN0, kN1, kN2, kN3, kN4, kN5, kN6, kN7, kN8, kN9, kN10, kN11, kN12, kN13, kN14, kN15, kN16, kN17, kN18, kN19, kN20, kN21, kN22, kN23, kN24, kN25, kN26, kN27, kN28, kN29, kN30, kN31, kN32, kN33, kN34, kN35, kN36, kN37, kN38, kN39, kN40, kN41]
  rw [mT_nA, mT_pR]
  refine b64_82 rfl (Nat.ne_of_beq_eq_false rfl) ?_
  try simp only [mT_n]
  try simp only [mT_n, kN0, kN1, kN2, kN3, kN4, kN5, kN6, kN7, kN8, kN9, kN10, kN11, kN12, kN13, kN14, kN15, kN16, kN17, kN18, kN19, kN20, kN21, kN22, kN23, kN24, kN25, kN26, kN27, kN28, kN29, kN30, kN31, kN32, kN33, kN34, kN35, kN36, kN37, kN38, kN39, kN40, kN41]
  rw [mT_nA, mT_pR]
  refine b64_90 rfl (Nat.ne_of_beq_eq_false rfl) ?_
  try simp only [mT_n]
  try simp only [mT_n, kN0, kN1, kN2, kN3, kN4, kN5, kN6, kN7, kN8, kN9, kN10, kN11, kN12, kN13, kN14, kN15, kN16, kN17, kN18, kN19, kN20, kN21, kN22, kN23, kN24, kN25, kN26, kN27, kN28, kN29, kN30, kN31, kN32, kN33, kN34, kN35, kN36, kN37, kN38, kN39, kN40, kN41]
  rw [mT_nA, mT_pR]
  refine b64_99 rfl (Nat.ne_of_beq_eq_false rfl) ?_
  try simp only [mT_n]
  try simp only [mT_n, kN0, kN1, kN2, kN3, kN4, kN5, kN6, kN7, kN8, kN9, kN10, kN11, kN12, kN13, kN14, kN15, kN16, kN17, kN18, kN19, kN20, kN21, kN22, kN23, kN24, kN25, kN26, kN27, kN28, kN29, kN30, kN31, kN32, kN33, kN34, kN35, kN36, kN37, kN38, kN39, kN40, kN41]
  rw [mT_nA, mT_pR]
  refine b64_108 rfl (Nat.ne_of_beq_eq_false rfl) ?_
  try simp only [mT_n]
  try simp only [mT_n, kN0, kN1, kN2, kN3, kN4, kN5, kN6, kN7, kN8, kN9, kN10, kN11, kN12, kN13, kN14, kN15, kN16, kN17, kN18, kN19, kN20, kN21, kN22, kN23, kN24, kN25, kN26, kN27, kN28, kN29, kN30, kN31, kN32, kN33, kN34, kN35, kN36, kN37, kN38, kN39, kN40, kN41]
  rw [mT_nA, mT_pR]
  change Wp _ 64 (116, _, _, mT L xs 39 Tc8 23053) _
  refine b64_116 rfl rfl (Nat.ne_of_beq_eq_false rfl) ?_
  try simp only [mT_n]
  try simp only [mT_n, kN0, kN1, kN2, kN3, kN4, kN5, kN6, kN7, kN8, kN9, kN10, kN11, kN12, kN13, kN14, kN15, kN16, kN17, kN18, kN19, kN20, kN21, kN22, kN23, kN24, kN25, kN26, kN27, kN28, kN29, kN30, kN31, kN32, kN33, kN34, kN35, kN36, kN37, kN38, kN39, kN40, kN41]
  rw [mT_pA, mT_nA, mT_pR]
  refine b64_129 rfl (Nat.ne_of_beq_eq_false rfl) ?_
  try simp only [mT_n]
  try simp only [mT_n, kN0, kN1, kN2, kN3, kN4, kN5, kN6, kN7, kN8, kN9, kN10, kN11, kN12, kN13, kN14, kN15, kN16, kN17, kN18, kN19, kN20, kN21, kN22, kN23, kN24, kN25, kN26, kN27, kN28, kN29, kN30, kN31, kN32, kN33, kN34, kN35, kN36, kN37, kN38, kN39, kN40, kN41]
  rw [mT_nA, mT_pR]
  refine b64_137 rfl (Nat.ne_of_beq_eq_false rfl) ?_
  try simp only [mT_n]
  try simp only [mT_n, kN0, kN1, kN2, kN3, kN4, kN5, kN6, kN7, kN8, kN9, kN10, kN11, kN12, kN13, kN14, kN15, kN16, kN17, kN18, kN19, kN20, kN21, kN22, kN23, kN24, kN25, kN26, kN27, kN28, kN29, kN30, kN31, kN32, kN33, kN34, kN35, kN36, kN37, kN38, kN39, kN40, kN41]
  rw [mT_nA, mT_pR]
  refine b64_145 rfl rfl ?_
  show _ = mT L xs 42 Tc9 23234
  try simp only [mT_n]
  try simp only [mT_n, kN0, kN1, kN2, kN3, kN4, kN5, kN6, kN7, kN8, kN9, kN10, kN11, kN12, kN13, kN14, kN15, kN16, kN17, kN18, kN19, kN20, kN21, kN22, kN23, kN24, kN25, kN26, kN27, kN28, kN29, kN30, kN31, kN32, kN33, kN34, kN35, kN36, kN37, kN38, kN39, kN40, kN41]
  rw [mT_pA, mT_pA]
  all_goals first | rfl | decide | exact ⟨_, rfl⟩
def Tc10 : List mC := [(1, 11, [0, Int32.ofInt 0, Int32.ofInt (-1)], [], [17, 15, 15, 18, 22]), (5, 2000, [], [], []), (1, 9, [0, 0, 0, Int32.ofInt 0, 0, Int32.ofInt 0], [], [19, 20, 21, 15, 17]), (2, 2001, [], [], []), (2, 2001, [], [], []), (2, 2001, [], [], []), (1, 5, [0, 0, 0, 0, 0, 0, Int32.ofInt 0, 0, 0, 0, 0, 0, 0, Int32.ofInt 0, 0, 0, 0, Int32.ofInt 0, Int32.ofInt 0], [], [23, 28, 29, 30, 31, 32, 15, 33, 34, 35, 36, 37, 38, 15, 39, 40, 41]), (1, 3, [0, 0, 0, 0, Int32.ofInt 0], [], [24, 25, 26, 27]), mWrd, (5, 2058, [], [], []), (2, 1025, [], [], []), (2, 2048, [], [], []), (2, 1024, [], [], []), (2, 1024, [], [], []), (2, 4096, [], [], []), (2, 1024, [], [], []), (2, 1024, [], [], []), (2, 60, [], [], []), (2, 480, [], [], []), (2, 60, [], [], []), (2, 480, [], [], []), (2, 480, [], [], []), (2, 60, [], [], []), (2, 60, [], [], []), (2, 61, [], [], []), (2, 60, [], [], []), (1, 5, [], [], [])]
def Tc11 : List mC := [(1, 11, [0, Int32.ofInt 0, Int32.ofInt (-1)], [], [17, 15, 15, 18, 22]), (5, 2000, [], [], []), (1, 9, [0, 0, 0, Int32.ofInt 0, 0, Int32.ofInt 0], [], [19, 20, 21, 15, 17]), (2, 2001, [], [], []), (2, 2001, [], [], []), (2, 2001, [], [], []), (1, 5, [0, 0, 0, 0, 0, 0, Int32.ofInt 0, 0, 0, 0, 0, 0, 0, Int32.ofInt 0, 0, 0, 0, Int32.ofInt 0, Int32.ofInt 0], [], [23, 28, 29, 30, 31, 32, 15, 33, 34, 35, 36, 37, 38, 15, 39, 40, 41]), (1, 3, [0, 0, 0, 0, Int32.ofInt 0], [], [24, 25, 26, 27]), mWrd, (5, 2058, [], [], []), (2, 1025, [], [], []), (2, 2048, [], [], []), (2, 1024, [], [], []), (2, 1024, [], [], []), (2, 4096, [], [], []), (2, 1024, [], [], []), (2, 1024, [], [], []), (2, 60, [], [], []), (2, 480, [], [], []), (2, 60, [], [], []), (2, 480, [], [], []), (2, 480, [], [], []), (2, 60, [], [], []), (2, 60, [], [], []), (2, 61, [], [], []), (2, 60, [], [], []), (1, 5, [], [], []), (1, 3, [], [], [])]
def Tc12 : List mC := [(1, 11, [0, Int32.ofInt 0, Int32.ofInt (-1)], [], [17, 15, 15, 18, 22]), (5, 2000, [], [], []), (1, 9, [0, 0, 0, Int32.ofInt 0, 0, Int32.ofInt 0], [], [19, 20, 21, 15, 17]), (2, 2001, [], [], []), (2, 2001, [], [], []), (2, 2001, [], [], []), (1, 5, [0, 0, 0, 0, 0, 0, Int32.ofInt 0, 0, 0, 0, 0, 0, 0, Int32.ofInt 0, 0, 0, 0, Int32.ofInt 0, Int32.ofInt 0], [], [23, 28, 29, 30, 31, 32, 15, 33, 34, 35, 36, 37, 38, 15, 39, 40, 41]), (1, 3, [0, 0, 0, 0, Int32.ofInt 0], [], [24, 25, 26, 27]), mWrd, (5, 2058, [], [], []), (2, 1025, [], [], []), (2, 2048, [], [], []), (2, 1024, [], [], []), (2, 1024, [], [], []), (2, 4096, [], [], []), (2, 1024, [], [], []), (2, 1024, [], [], []), (2, 60, [], [], []), (2, 480, [], [], []), (2, 60, [], [], []), (2, 480, [], [], []), (2, 480, [], [], []), (2, 60, [], [], []), (2, 60, [], [], []), (2, 61, [], [], []), (2, 60, [], [], []), (1, 5, [], [], []), (1, 3, [], [], []), mWrd]
def Tc13 : List mC := [(1, 11, [0, Int32.ofInt 0, Int32.ofInt (-1)], [], [17, 15, 15, 18, 22]), (5, 2000, [], [], []), (1, 9, [0, 0, 0, Int32.ofInt 0, 0, Int32.ofInt 0], [], [19, 20, 21, 15, 17]), (2, 2001, [], [], []), (2, 2001, [], [], []), (2, 2001, [], [], []), (1, 5, [0, 0, 0, 0, 0, 0, Int32.ofInt 0, 0, 0, 0, 0, 0, 0, Int32.ofInt 0, 0, 0, 0, Int32.ofInt 0, Int32.ofInt 0], [], [23, 28, 29, 30, 31, 32, 15, 33, 34, 35, 36, 37, 38, 15, 39, 40, 41]), (1, 3, [0, 0, 0, 0, Int32.ofInt 0], [], [24, 25, 26, 27]), mWrd, (5, 2058, [], [], []), (2, 1025, [], [], []), (2, 2048, [], [], []), (2, 1024, [], [], []), (2, 1024, [], [], []), (2, 4096, [], [], []), (2, 1024, [], [], []), (2, 1024, [], [], []), (2, 60, [], [], []), (2, 480, [], [], []), (2, 60, [], [], []), (2, 480, [], [], []), (2, 480, [], [], []), (2, 60, [], [], []), (2, 60, [], [], []), (2, 61, [], [], []), (2, 60, [], [], []), (1, 5, [], [], []), (1, 3, [], [], [44]), mWrd]
def Tc14 : List mC := [(1, 11, [0, Int32.ofInt 0, Int32.ofInt (-1)], [], [17, 15, 15, 18, 22]), (5, 2000, [], [], []), (1, 9, [0, 0, 0, Int32.ofInt 0, 0, Int32.ofInt 0], [], [19, 20, 21, 15, 17]), (2, 2001, [], [], []), (2, 2001, [], [], []), (2, 2001, [], [], []), (1, 5, [0, 0, 0, 0, 0, 0, Int32.ofInt 0, 0, 0, 0, 0, 0, 0, Int32.ofInt 0, 0, 0, 0, Int32.ofInt 0, Int32.ofInt 0], [], [23, 28, 29, 30, 31, 32, 15, 33, 34, 35, 36, 37, 38, 15, 39, 40, 41]), (1, 3, [0, 0, 0, 0, Int32.ofInt 0], [], [24, 25, 26, 27]), mWrd, (5, 2058, [], [], []), (2, 1025, [], [], []), (2, 2048, [], [], []), (2, 1024, [], [], []), (2, 1024, [], [], []), (2, 4096, [], [], []), (2, 1024, [], [], []), (2, 1024, [], [], []), (2, 60, [], [], []), (2, 480, [], [], []), (2, 60, [], [], []), (2, 480, [], [], []), (2, 480, [], [], []), (2, 60, [], [], []), (2, 60, [], [], []), (2, 61, [], [], []), (2, 60, [], [], []), (1, 5, [], [], []), (1, 3, [0, 0, 0, 0, Int32.ofInt 0], [], [44, 45, 46, 47]), mWrd, (5, 2058, [], [], []), (2, 1025, [], [], []), (2, 2048, [], [], [])]
set_option maxHeartbeats 2000000 in
set_option maxRecDepth 20000 in
theorem ctor3 {L d : Nat} {xs : Nat → Int32} : Wp (d + 3) 47 (0, [some (.ref 43)], [], mT L xs 44 Tc11 23258) (pV (fun μ' => μ' = mT L xs 48 Tc14 28447) noX) := by
  refine b47_0 (P := fun r μ' => r = 44 ∧ μ' = mT L xs 45 Tc12 23316) (X := noX) ?_ ?_ (fun _ _ h => h.elim)
  · exact c_toCharArray (by decide)
  rintro r μ' ⟨rfl, rfl⟩
  refine b47_10 rfl (Nat.ne_of_beq_eq_false rfl) (P := fun x μ' => x = nI 58 ∧ μ' = mT L xs 45 Tc13 23316) (X := noX) ?_ ?_ (fun _ _ h => h.elim)
  · try simp only [mT_n]
    try simp only [mT_n, kN0, kN1, kN2, kN3, kN4, kN5, kN6, kN7, kN8, kN9, kN10, kN11, kN12, kN13, kN14, kN15, kN16, kN17, kN18, kN19, kN20, kN21, kN22, kN23, kN24, kN25, kN26, kN27, kN28, kN29, kN30, kN31, kN32, kN33, kN34, kN35, kN36, kN37, kN38, kN39, kN40, kN41]
    rw [mT_pR]
    · exact c_length
    all_goals first | rfl | decide | exact ⟨_, rfl⟩
  rintro x μ' ⟨rfl, rfl⟩
  refine b47_22 (by decide) rfl (Nat.ne_of_beq_eq_false rfl) ?_
  try simp only [mT_n]
  try simp only [mT_n, kN0, kN1, kN2, kN3, kN4, kN5, kN6, kN7, kN8, kN9, kN10, kN11, kN12, kN13, kN14, kN15, kN16, kN17, kN18, kN19, kN20, kN21, kN22, kN23, kN24, kN25, kN26, kN27, kN28, kN29, kN30, kN31, kN32, kN33, kN34, kN35, kN36, kN37, kN38, kN39, kN40, kN41]
  rw [mT_nA, mT_pR]
  refine b47_28 rfl (Nat.ne_of_beq_eq_false rfl) ?_
  try simp only [mT_n]
  try simp only [mT_n, kN0, kN1, kN2, kN3, kN4, kN5, kN6, kN7, kN8, kN9, kN10, kN11, kN12, kN13, kN14, kN15, kN16, kN17, kN18, kN19, kN20, kN21, kN22, kN23, kN24, kN25, kN26, kN27, kN28, kN29, kN30, kN31, kN32, kN33, kN34, kN35, kN36, kN37, kN38, kN39, kN40, kN41]
  rw [mT_nA, mT_pR]
  refine b47_37 rfl (Nat.ne_of_beq_eq_false rfl) ?_
  try simp only [mT_n]
  try simp only [mT_n, kN0, kN1, kN2, kN3, kN4, kN5, kN6, kN7, kN8, kN9, kN10, kN11, kN12, kN13, kN14, kN15, kN16, kN17, kN18, kN19, kN20, kN21, kN22, kN23, kN24, kN25, kN26, kN27, kN28, kN29, kN30, kN31, kN32, kN33, kN34, kN35, kN36, kN37, kN38, kN39, kN40, kN41]
  rw [mT_nA, mT_pR]
  refine b47_46 rfl ?_
  show _ = mT L xs 48 Tc14 28447
  try simp only [mT_n]
  try simp only [mT_n, kN0, kN1, kN2, kN3, kN4, kN5, kN6, kN7, kN8, kN9, kN10, kN11, kN12, kN13, kN14, kN15, kN16, kN17, kN18, kN19, kN20, kN21, kN22, kN23, kN24, kN25, kN26, kN27, kN28, kN29, kN30, kN31, kN32, kN33, kN34, kN35, kN36, kN37, kN38, kN39, kN40, kN41]
  rw [mT_pA]
  all_goals first | rfl | decide | exact ⟨_, rfl⟩
def Tc15 : List mC := [(1, 11, [0, Int32.ofInt 0, Int32.ofInt (-1)], [], [17, 15, 15, 18, 22]), (5, 2000, [], [], []), (1, 9, [0, 0, 0, Int32.ofInt 0, 0, Int32.ofInt 0], [], [19, 20, 21, 15, 17]), (2, 2001, [], [], []), (2, 2001, [], [], []), (2, 2001, [], [], []), (1, 5, [0, 0, 0, 0, 0, 0, Int32.ofInt 0, 0, 0, 0, 0, 0, 0, Int32.ofInt 0, 0, 0, 0, Int32.ofInt 0, Int32.ofInt 0], [], [23, 28, 29, 30, 31, 32, 15, 33, 34, 35, 36, 37, 38, 15, 39, 40, 41]), (1, 3, [0, 0, 0, 0, Int32.ofInt 0], [], [24, 25, 26, 27]), mWrd, (5, 2058, [], [], []), (2, 1025, [], [], []), (2, 2048, [], [], []), (2, 1024, [], [], []), (2, 1024, [], [], []), (2, 4096, [], [], []), (2, 1024, [], [], []), (2, 1024, [], [], []), (2, 60, [], [], []), (2, 480, [], [], []), (2, 60, [], [], []), (2, 480, [], [], []), (2, 480, [], [], []), (2, 60, [], [], []), (2, 60, [], [], []), (2, 61, [], [], []), (2, 60, [], [], []), (1, 5, [0, 0, 0, 0, 0, 0, Int32.ofInt 0], [], [43, 48, 49, 50, 51, 52, 15, 53, 54, 55, 56, 57, 58]), (1, 3, [0, 0, 0, 0, Int32.ofInt 0], [], [44, 45, 46, 47]), mWrd, (5, 2058, [], [], []), (2, 1025, [], [], []), (2, 2048, [], [], []), (2, 1024, [], [], []), (2, 1024, [], [], []), (2, 4096, [], [], []), (2, 1024, [], [], []), (2, 1024, [], [], []), (2, 60, [], [], []), (2, 480, [], [], []), (2, 60, [], [], []), (2, 480, [], [], []), (2, 480, [], [], []), (2, 60, [], [], [])]
def Tc16 : List mC := [(1, 11, [0, Int32.ofInt 0, Int32.ofInt (-1)], [], [17, 15, 15, 18, 22]), (5, 2000, [], [], []), (1, 9, [0, 0, 0, Int32.ofInt 0, 0, Int32.ofInt 0], [], [19, 20, 21, 15, 17]), (2, 2001, [], [], []), (2, 2001, [], [], []), (2, 2001, [], [], []), (1, 5, [0, 0, 0, 0, 0, 0, Int32.ofInt 0, 0, 0, 0, 0, 0, 0, Int32.ofInt 0, 0, 0, 0, Int32.ofInt 0, Int32.ofInt 0], [], [23, 28, 29, 30, 31, 32, 15, 33, 34, 35, 36, 37, 38, 15, 39, 40, 41]), (1, 3, [0, 0, 0, 0, Int32.ofInt 0], [], [24, 25, 26, 27]), mWrd, (5, 2058, [], [], []), (2, 1025, [], [], []), (2, 2048, [], [], []), (2, 1024, [], [], []), (2, 1024, [], [], []), (2, 4096, [], [], []), (2, 1024, [], [], []), (2, 1024, [], [], []), (2, 60, [], [], []), (2, 480, [], [], []), (2, 60, [], [], []), (2, 480, [], [], []), (2, 480, [], [], []), (2, 60, [], [], []), (2, 60, [], [], []), (2, 61, [], [], []), (2, 60, [], [], []), (1, 5, [0, 0, 0, 0, 0, 0, Int32.ofInt 0, 0, 0, 0, 0, 0, 0, Int32.ofInt 0, 0, 0, 0, Int32.ofInt 0, Int32.ofInt 0], [], [43, 48, 49, 50, 51, 52, 15, 53, 54, 55, 56, 57, 58, 15, 59, 60, 61]), (1, 3, [0, 0, 0, 0, Int32.ofInt 0], [], [44, 45, 46, 47]), mWrd, (5, 2058, [], [], []), (2, 1025, [], [], []), (2, 2048, [], [], []), (2, 1024, [], [], []), (2, 1024, [], [], []), (2, 4096, [], [], []), (2, 1024, [], [], []), (2, 1024, [], [], []), (2, 60, [], [], []), (2, 480, [], [], []), (2, 60, [], [], []), (2, 480, [], [], []), (2, 480, [], [], []), (2, 60, [], [], []), (2, 60, [], [], []), (2, 61, [], [], []), (2, 60, [], [], [])]
set_option maxHeartbeats 2000000 in
set_option maxRecDepth 20000 in
theorem ctor4 {L d : Nat} {xs : Nat → Int32} : Wp (d + 4) 64 (0, [some (.ref 42)], [], mT L xs 43 Tc10 23253) (pV (fun μ' => μ' = mT L xs 62 Tc16 38440) noX) := by
  refine b64_0 (P := fun μ' => μ' = mT L xs 48 Tc14 28447) ?_ ?_
  · try simp only [mT_n]
    try simp only [mT_n, kN0, kN1, kN2, kN3, kN4, kN5, kN6, kN7, kN8, kN9, kN10, kN11, kN12, kN13, kN14, kN15, kN16, kN17, kN18, kN19, kN20, kN21, kN22, kN23, kN24, kN25, kN26, kN27, kN28, kN29, kN30, kN31, kN32, kN33, kN34, kN35, kN36, kN37, kN38, kN39, kN40, kN41]
    rw [mT_nO]
    · exact ctor3
    all_goals first | rfl | decide | exact ⟨_, rfl⟩
  rintro μ' rfl
  refine b64_12 rfl (Nat.ne_of_beq_eq_false rfl) rfl (Nat.ne_of_beq_eq_false rfl) ?_
  try simp only [mT_n]
  try simp only [mT_n, kN0, kN1, kN2, kN3, kN4, kN5, kN6, kN7, kN8, kN9, kN10, kN11, kN12, kN13, kN14, kN15, kN16, kN17, kN18, kN19, kN20, kN21, kN22, kN23, kN24, kN25, kN26, kN27, kN28, kN29, kN30, kN31, kN32, kN33, kN34, kN35, kN36, kN37, kN38, kN39, kN40, kN41]
  rw [mT_pR, mT_nA, mT_pR]
  refine b64_24 rfl (Nat.ne_of_beq_eq_false rfl) ?_
  try simp only [mT_n]
  try simp only [mT_n, kN0, kN1, kN2, kN3, kN4, kN5, kN6, kN7, kN8, kN9, kN10, kN11, kN12, kN13, kN14, kN15, kN16, kN17, kN18, kN19, kN20, kN21, kN22, kN23, kN24, kN25, kN26, kN27, kN28, kN29, kN30, kN31, kN32, kN33, kN34, kN35, kN36, kN37, kN38, kN39, kN40, kN41]
  rw [mT_nA, mT_pR]
  refine b64_33 rfl (Nat.ne_of_beq_eq_false rfl) ?_
  try simp only [mT_n]
  try simp only [mT_n, kN0, kN1, kN2, kN3, kN4, kN5, kN6, kN7, kN8, kN9, kN10, kN11, kN12, kN13, kN14, kN15, kN16, kN17, kN18, kN19, kN20, kN21, kN22, kN23, kN24, kN25, kN26, kN27, kN28, kN29, kN30, kN31, kN32, kN33, kN34, kN35, kN36, kN37, kN38, kN39, kN40, kN41]
  rw [mT_nA, mT_pR]
  refine b64_42 rfl (Nat.ne_of_beq_eq_false rfl) ?_
  try simp only [mT_n]
  try simp only [mT_n, kN0, kN1, kN2, kN3, kN4, kN5, kN6, kN7, kN8, kN9, kN10, kN11, kN12, kN13, kN14, kN15, kN16, kN17, kN18, kN19, kN20, kN21, kN22, kN23, kN24, kN25, kN26, kN27, kN28, kN29, kN30, kN31, kN32, kN33, kN34, kN35, kN36, kN37, kN38, kN39, kN40, kN41]
  rw [mT_nA, mT_pR]
  refine b64_51 rfl (Nat.ne_of_beq_eq_false rfl) ?_
  try simp only [mT_n]
  try simp only [mT_n, kN0, kN1, kN2, kN3, kN4, kN5, kN6, kN7, kN8, kN9, kN10, kN11, kN12, kN13, kN14, kN15, kN16, kN17, kN18, kN19, kN20, kN21, kN22, kN23, kN24, kN25, kN26, kN27, kN28, kN29, kN30, kN31, kN32, kN33, kN34, kN35, kN36, kN37, kN38, kN39, kN40, kN41]
  rw [mT_nA, mT_pR]
  refine b64_60 rfl rfl (Nat.ne_of_beq_eq_false rfl) ?_
  try simp only [mT_n]
  try simp only [mT_n, kN0, kN1, kN2, kN3, kN4, kN5, kN6, kN7, kN8, kN9, kN10, kN11, kN12, kN13, kN14, kN15, kN16, kN17, kN18, kN19, kN20, kN21, kN22, kN23, kN24, kN25, kN26, kN27, kN28, kN29, kN30, kN31, kN32, kN33, kN34, kN35, kN36, kN37, kN38, kN39, kN40, kN41]
  rw [mT_pA, mT_nA, mT_pR]
  refine b64_73 rfl (Nat.ne_of_beq_eq_false rfl) ?_
  try simp only [mT_n]
  try simp only [mT_n, kN0, kN1, kN2, kN3, kN4, kN5, kN6, kN7, kN8, kN9, kN10, kN11, kN12, kN13, kN14, kN15, kN16, kN17, kN18, kN19, kN20, kN21, kN22, kN23, kN24, kN25, kN26, kN27, kN28, kN29, kN30, kN31, kN32, kN33, kN34, kN35, kN36, kN37, kN38, kN39, kN40, kN41]
  rw [mT_nA, mT_pR]
  refine b64_82 rfl (Nat.ne_of_beq_eq_false rfl) ?_
  try simp only [mT_n]
  try simp only [mT_n, kN0, kN1, kN2, kN3, kN4, kN5, kN6, kN7, kN8, kN9, kN10, kN11, kN12, kN13, kN14, kN15, kN16, kN17, kN18, kN19, kN20, kN21, kN22, kN23, kN24, kN25, kN26, kN27, kN28, kN29, kN30, kN31, kN32, kN33, kN34, kN35, kN36, kN37, kN38, kN39, kN40, kN41]
  rw [mT_nA, mT_pR]
  refine b64_90 rfl (Nat.ne_of_beq_eq_false rfl) ?_
  try simp only [mT_n]
  try simp only [mT_n, kN0, kN1, kN2, kN3, kN4, kN5, kN6, kN7, kN8, kN9, kN10, kN11, kN12, kN13, kN14, kN15, kN16, kN17, kN18, kN19, kN20, kN21, kN22, kN23, kN24, kN25, kN26, kN27, kN28, kN29, kN30, kN31, kN32, kN33, kN34, kN35, kN36, kN37, kN38, kN39, kN40, kN41]
  rw [mT_nA, mT_pR]
  refine b64_99 rfl (Nat.ne_of_beq_eq_false rfl) ?_
  try simp only [mT_n]
  try simp only [mT_n, kN0, kN1, kN2, kN3, kN4, kN5, kN6, kN7, kN8, kN9, kN10, kN11, kN12, kN13, kN14, kN15, kN16, kN17, kN18, kN19, kN20, kN21, kN22, kN23, kN24, kN25, kN26, kN27, kN28, kN29, kN30, kN31, kN32, kN33, kN34, kN35, kN36, kN37, kN38, kN39, kN40, kN41]
  rw [mT_nA, mT_pR]
  refine b64_108 rfl (Nat.ne_of_beq_eq_false rfl) ?_
  try simp only [mT_n]
  try simp only [mT_n, kN0, kN1, kN2, kN3, kN4, kN5, kN6, kN7, kN8, kN9, kN10, kN11, kN12, kN13, kN14, kN15, kN16, kN17, kN18, kN19, kN20, kN21, kN22, kN23, kN24, kN25, kN26, kN27, kN28, kN29, kN30, kN31, kN32, kN33, kN34, kN35, kN36, kN37, kN38, kN39, kN40, kN41]
  rw [mT_nA, mT_pR]
  change Wp _ 64 (116, _, _, mT L xs 59 Tc15 38259) _
  refine b64_116 rfl rfl (Nat.ne_of_beq_eq_false rfl) ?_
  try simp only [mT_n]
  try simp only [mT_n, kN0, kN1, kN2, kN3, kN4, kN5, kN6, kN7, kN8, kN9, kN10, kN11, kN12, kN13, kN14, kN15, kN16, kN17, kN18, kN19, kN20, kN21, kN22, kN23, kN24, kN25, kN26, kN27, kN28, kN29, kN30, kN31, kN32, kN33, kN34, kN35, kN36, kN37, kN38, kN39, kN40, kN41]
  rw [mT_pA, mT_nA, mT_pR]
  refine b64_129 rfl (Nat.ne_of_beq_eq_false rfl) ?_
  try simp only [mT_n]
  try simp only [mT_n, kN0, kN1, kN2, kN3, kN4, kN5, kN6, kN7, kN8, kN9, kN10, kN11, kN12, kN13, kN14, kN15, kN16, kN17, kN18, kN19, kN20, kN21, kN22, kN23, kN24, kN25, kN26, kN27, kN28, kN29, kN30, kN31, kN32, kN33, kN34, kN35, kN36, kN37, kN38, kN39, kN40, kN41]
  rw [mT_nA, mT_pR]
  refine b64_137 rfl (Nat.ne_of_beq_eq_false rfl) ?_
  try simp only [mT_n]
  try simp only [mT_n, kN0, kN1, kN2, kN3, kN4, kN5, kN6, kN7, kN8, kN9, kN10, kN11, kN12, kN13, kN14, kN15, kN16, kN17, kN18, kN19, kN20, kN21, kN22, kN23, kN24, kN25, kN26, kN27, kN28, kN29, kN30, kN31, kN32, kN33, kN34, kN35, kN36, kN37, kN38, kN39, kN40, kN41]
  rw [mT_nA, mT_pR]
  refine b64_145 rfl rfl ?_
  show _ = mT L xs 62 Tc16 38440
  try simp only [mT_n]
  try simp only [mT_n, kN0, kN1, kN2, kN3, kN4, kN5, kN6, kN7, kN8, kN9, kN10, kN11, kN12, kN13, kN14, kN15, kN16, kN17, kN18, kN19, kN20, kN21, kN22, kN23, kN24, kN25, kN26, kN27, kN28, kN29, kN30, kN31, kN32, kN33, kN34, kN35, kN36, kN37, kN38, kN39, kN40, kN41]
  rw [mT_pA, mT_pA]
  all_goals first | rfl | decide | exact ⟨_, rfl⟩
def Tc17 : List mC := [(1, 11, [0, Int32.ofInt 0, Int32.ofInt (-1), 0, 0, 0, Int32.ofInt 0], [], [17, 15, 15, 18, 22, 42]), (5, 2000, [], [], []), (1, 9, [0, 0, 0, Int32.ofInt 0, 0, Int32.ofInt 0], [], [19, 20, 21, 15, 17]), (2, 2001, [], [], []), (2, 2001, [], [], []), (2, 2001, [], [], []), (1, 5, [0, 0, 0, 0, 0, 0, Int32.ofInt 0, 0, 0, 0, 0, 0, 0, Int32.ofInt 0, 0, 0, 0, Int32.ofInt 0, Int32.ofInt 0], [], [23, 28, 29, 30, 31, 32, 15, 33, 34, 35, 36, 37, 38, 15, 39, 40, 41]), (1, 3, [0, 0, 0, 0, Int32.ofInt 0], [], [24, 25, 26, 27]), mWrd, (5, 2058, [], [], []), (2, 1025, [], [], []), (2, 2048, [], [], []), (2, 1024, [], [], []), (2, 1024, [], [], []), (2, 4096, [], [], []), (2, 1024, [], [], []), (2, 1024, [], [], []), (2, 60, [], [], []), (2, 480, [], [], []), (2, 60, [], [], []), (2, 480, [], [], []), (2, 480, [], [], []), (2, 60, [], [], []), (2, 60, [], [], []), (2, 61, [], [], []), (2, 60, [], [], []), (1, 5, [0, 0, 0, 0, 0, 0, Int32.ofInt 0, 0, 0, 0, 0, 0, 0, Int32.ofInt 0, 0, 0, 0, Int32.ofInt 0, Int32.ofInt 0], [], [43, 48, 49, 50, 51, 52, 15, 53, 54, 55, 56, 57, 58, 15, 59, 60, 61]), (1, 3, [0, 0, 0, 0, Int32.ofInt 0], [], [44, 45, 46, 47]), mWrd, (5, 2058, [], [], []), (2, 1025, [], [], []), (2, 2048, [], [], []), (2, 1024, [], [], []), (2, 1024, [], [], []), (2, 4096, [], [], []), (2, 1024, [], [], []), (2, 1024, [], [], []), (2, 60, [], [], []), (2, 480, [], [], []), (2, 60, [], [], []), (2, 480, [], [], []), (2, 480, [], [], []), (2, 60, [], [], []), (2, 60, [], [], []), (2, 61, [], [], []), (2, 60, [], [], []), (1, 4, [], [], [])]
def Tc18 : List mC := [(1, 11, [0, Int32.ofInt 0, Int32.ofInt (-1), 0, 0, 0, Int32.ofInt 0], [], [17, 15, 15, 18, 22, 42]), (5, 2000, [], [], []), (1, 9, [0, 0, 0, Int32.ofInt 0, 0, Int32.ofInt 0], [], [19, 20, 21, 15, 17]), (2, 2001, [], [], []), (2, 2001, [], [], []), (2, 2001, [], [], []), (1, 5, [0, 0, 0, 0, 0, 0, Int32.ofInt 0, 0, 0, 0, 0, 0, 0, Int32.ofInt 0, 0, 0, 0, Int32.ofInt 0, Int32.ofInt 0], [], [23, 28, 29, 30, 31, 32, 15, 33, 34, 35, 36, 37, 38, 15, 39, 40, 41]), (1, 3, [0, 0, 0, 0, Int32.ofInt 0], [], [24, 25, 26, 27]), mWrd, (5, 2058, [], [], []), (2, 1025, [], [], []), (2, 2048, [], [], []), (2, 1024, [], [], []), (2, 1024, [], [], []), (2, 4096, [], [], []), (2, 1024, [], [], []), (2, 1024, [], [], []), (2, 60, [], [], []), (2, 480, [], [], []), (2, 60, [], [], []), (2, 480, [], [], []), (2, 480, [], [], []), (2, 60, [], [], []), (2, 60, [], [], []), (2, 61, [], [], []), (2, 60, [], [], []), (1, 5, [0, 0, 0, 0, 0, 0, Int32.ofInt 0, 0, 0, 0, 0, 0, 0, Int32.ofInt 0, 0, 0, 0, Int32.ofInt 0, Int32.ofInt 0], [], [43, 48, 49, 50, 51, 52, 15, 53, 54, 55, 56, 57, 58, 15, 59, 60, 61]), (1, 3, [0, 0, 0, 0, Int32.ofInt 0], [], [44, 45, 46, 47]), mWrd, (5, 2058, [], [], []), (2, 1025, [], [], []), (2, 2048, [], [], []), (2, 1024, [], [], []), (2, 1024, [], [], []), (2, 4096, [], [], []), (2, 1024, [], [], []), (2, 1024, [], [], []), (2, 60, [], [], []), (2, 480, [], [], []), (2, 60, [], [], []), (2, 480, [], [], []), (2, 480, [], [], []), (2, 60, [], [], []), (2, 60, [], [], []), (2, 61, [], [], []), (2, 60, [], [], []), (1, 4, [0, 0, Int32.ofInt 0, 0, Int32.ofInt 0], [], [18, 42, 15, 63, 15, 64]), (2, 8, [], [], []), (2, 44, [], [], [])]
set_option maxHeartbeats 2000000 in
set_option maxRecDepth 20000 in
theorem ctor5 {L d : Nat} {xs : Nat → Int32} : Wp (d + 0) 54 (0, [some (.ref 62), some (.ref 18), some (.ref 42)], [], mT L xs 63 Tc17 38446) (pV (fun μ' => μ' = mT L xs 65 Tc18 38498) noX) := by
  refine b54_0 rfl rfl (Nat.ne_of_beq_eq_false rfl) ?_
  try simp only [mT_n]
  try simp only [mT_n, kN0, kN1, kN2, kN3, kN4, kN5, kN6, kN7, kN8, kN9, kN10, kN11, kN12, kN13, kN14, kN15, kN16, kN17, kN18, kN19, kN20, kN21, kN22, kN23, kN24, kN25, kN26, kN27, kN28, kN29, kN30, kN31, kN32, kN33, kN34, kN35, kN36, kN37, kN38, kN39, kN40, kN41]
  rw [mT_pA, mT_nA, mT_pR]
  refine b54_17 rfl rfl (Nat.ne_of_beq_eq_false rfl) ?_
  try simp only [mT_n]
  try simp only [mT_n, kN0, kN1, kN2, kN3, kN4, kN5, kN6, kN7, kN8, kN9, kN10, kN11, kN12, kN13, kN14, kN15, kN16, kN17, kN18, kN19, kN20, kN21, kN22, kN23, kN24, kN25, kN26, kN27, kN28, kN29, kN30, kN31, kN32, kN33, kN34, kN35, kN36, kN37, kN38, kN39, kN40, kN41]
  rw [mT_pA, mT_nA, mT_pR]
  refine b54_30 rfl (Nat.ne_of_beq_eq_false rfl) rfl (Nat.ne_of_beq_eq_false rfl) ?_
  show _ = mT L xs 65 Tc18 38498
  try simp only [mT_n]
  try simp only [mT_n, kN0, kN1, kN2, kN3, kN4, kN5, kN6, kN7, kN8, kN9, kN10, kN11, kN12, kN13, kN14, kN15, kN16, kN17, kN18, kN19, kN20, kN21, kN22, kN23, kN24, kN25, kN26, kN27, kN28, kN29, kN30, kN31, kN32, kN33, kN34, kN35, kN36, kN37, kN38, kN39, kN40, kN41]
  rw [mT_pR, mT_pR]
  all_goals first | rfl | decide | exact ⟨_, rfl⟩
def Tc19 : List mC := [(1, 11, [0, Int32.ofInt 0, Int32.ofInt (-1), 0, 0, 0, Int32.ofInt 0], [], [17, 15, 15, 18, 22, 42, 15, 62]), (5, 2000, [], [], []), (1, 9, [0, 0, 0, Int32.ofInt 0, 0, Int32.ofInt 0], [], [19, 20, 21, 15, 17]), (2, 2001, [], [], []), (2, 2001, [], [], []), (2, 2001, [], [], []), (1, 5, [0, 0, 0, 0, 0, 0, Int32.ofInt 0, 0, 0, 0, 0, 0, 0, Int32.ofInt 0, 0, 0, 0, Int32.ofInt 0, Int32.ofInt 0], [], [23, 28, 29, 30, 31, 32, 15, 33, 34, 35, 36, 37, 38, 15, 39, 40, 41]), (1, 3, [0, 0, 0, 0, Int32.ofInt 0], [], [24, 25, 26, 27]), mWrd, (5, 2058, [], [], []), (2, 1025, [], [], []), (2, 2048, [], [], []), (2, 1024, [], [], []), (2, 1024, [], [], []), (2, 4096, [], [], []), (2, 1024, [], [], []), (2, 1024, [], [], []), (2, 60, [], [], []), (2, 480, [], [], []), (2, 60, [], [], []), (2, 480, [], [], []), (2, 480, [], [], []), (2, 60, [], [], []), (2, 60, [], [], []), (2, 61, [], [], []), (2, 60, [], [], []), (1, 5, [0, 0, 0, 0, 0, 0, Int32.ofInt 0, 0, 0, 0, 0, 0, 0, Int32.ofInt 0, 0, 0, 0, Int32.ofInt 0, Int32.ofInt 0], [], [43, 48, 49, 50, 51, 52, 15, 53, 54, 55, 56, 57, 58, 15, 59, 60, 61]), (1, 3, [0, 0, 0, 0, Int32.ofInt 0], [], [44, 45, 46, 47]), mWrd, (5, 2058, [], [], []), (2, 1025, [], [], []), (2, 2048, [], [], []), (2, 1024, [], [], []), (2, 1024, [], [], []), (2, 4096, [], [], []), (2, 1024, [], [], []), (2, 1024, [], [], []), (2, 60, [], [], []), (2, 480, [], [], []), (2, 60, [], [], []), (2, 480, [], [], []), (2, 480, [], [], []), (2, 60, [], [], []), (2, 60, [], [], []), (2, 61, [], [], []), (2, 60, [], [], []), (1, 4, [0, 0, Int32.ofInt 0, 0, Int32.ofInt 0], [], [18, 42, 15, 63, 15, 64]), (2, 8, [], [], []), (2, 44, [], [], []), (1, 0, [], [], [])]
def Tc20 : List mC := [(1, 11, [0, Int32.ofInt 0, Int32.ofInt (-1), 0, 0, 0, Int32.ofInt 0], [], [17, 15, 15, 18, 22, 42, 15, 62]), (5, 2000, [], [], []), (1, 9, [0, 0, 0, Int32.ofInt 0, 0, Int32.ofInt 0], [], [19, 20, 21, 15, 17]), (2, 2001, [], [], []), (2, 2001, [], [], []), (2, 2001, [], [], []), (1, 5, [0, 0, 0, 0, 0, 0, Int32.ofInt 0, 0, 0, 0, 0, 0, 0, Int32.ofInt 0, 0, 0, 0, Int32.ofInt 0, Int32.ofInt 0], [], [23, 28, 29, 30, 31, 32, 15, 33, 34, 35, 36, 37, 38, 15, 39, 40, 41]), (1, 3, [0, 0, 0, 0, Int32.ofInt 0], [], [24, 25, 26, 27]), mWrd, (5, 2058, [], [], []), (2, 1025, [], [], []), (2, 2048, [], [], []), (2, 1024, [], [], []), (2, 1024, [], [], []), (2, 4096, [], [], []), (2, 1024, [], [], []), (2, 1024, [], [], []), (2, 60, [], [], []), (2, 480, [], [], []), (2, 60, [], [], []), (2, 480, [], [], []), (2, 480, [], [], []), (2, 60, [], [], []), (2, 60, [], [], []), (2, 61, [], [], []), (2, 60, [], [], []), (1, 5, [0, 0, 0, 0, 0, 0, Int32.ofInt 0, 0, 0, 0, 0, 0, 0, Int32.ofInt 0, 0, 0, 0, Int32.ofInt 0, Int32.ofInt 0], [], [43, 48, 49, 50, 51, 52, 15, 53, 54, 55, 56, 57, 58, 15, 59, 60, 61]), (1, 3, [0, 0, 0, 0, Int32.ofInt 0], [], [44, 45, 46, 47]), mWrd, (5, 2058, [], [], []), (2, 1025, [], [], []), (2, 2048, [], [], []), (2, 1024, [], [], []), (2, 1024, [], [], []), (2, 4096, [], [], []), (2, 1024, [], [], []), (2, 1024, [], [], []), (2, 60, [], [], []), (2, 480, [], [], []), (2, 60, [], [], []), (2, 480, [], [], []), (2, 480, [], [], []), (2, 60, [], [], []), (2, 60, [], [], []), (2, 61, [], [], []), (2, 60, [], [], []), (1, 4, [0, 0, Int32.ofInt 0, 0, Int32.ofInt 0], [], [18, 42, 15, 63, 15, 64]), (2, 8, [], [], []), (2, 44, [], [], []), (1, 0, [Int32.ofInt (-1), 0, 0, 0, Int32.ofInt 0], [], [15, 42, 66, 67, 15, 68, 69]), (2, 1024, [], [], []), (2, 1024, [], [], []), (6, 62, [], [], []), (4, 62, [], [], [])]
set_option maxHeartbeats 2000000 in
set_option maxRecDepth 20000 in
theorem ctor6 {L d : Nat} {xs : Nat → Int32} : Wp (d + 0) 0 (0, [some (.ref 65), some (.ref 42)], [], mT L xs 66 Tc19 38505) (pV (fun μ' => μ' = mT L xs 70 Tc20 40677) noX) := by
  refine b0_0 rfl rfl (Nat.ne_of_beq_eq_false rfl) ?_
  try simp only [mT_n]
  try simp only [mT_n, kN0, kN1, kN2, kN3, kN4, kN5, kN6, kN7, kN8, kN9, kN10, kN11, kN12, kN13, kN14, kN15, kN16, kN17, kN18, kN19, kN20, kN21, kN22, kN23, kN24, kN25, kN26, kN27, kN28, kN29, kN30, kN31, kN32, kN33, kN34, kN35, kN36, kN37, kN38, kN39, kN40, kN41]
  rw [mT_pA, mT_nA, mT_pR]
  refine b0_18 rfl (Nat.ne_of_beq_eq_false rfl) ?_
  try simp only [mT_n]
  try simp only [mT_n, kN0, kN1, kN2, kN3, kN4, kN5, kN6, kN7, kN8, kN9, kN10, kN11, kN12, kN13, kN14, kN15, kN16, kN17, kN18, kN19, kN20, kN21, kN22, kN23, kN24, kN25, kN26, kN27, kN28, kN29, kN30, kN31, kN32, kN33, kN34, kN35, kN36, kN37, kN38, kN39, kN40, kN41]
  rw [mT_nA, mT_pR]
  refine b0_27 rfl rfl (Nat.ne_of_beq_eq_false rfl) ?_
  try simp only [mT_n]
  try simp only [mT_n, kN0, kN1, kN2, kN3, kN4, kN5, kN6, kN7, kN8, kN9, kN10, kN11, kN12, kN13, kN14, kN15, kN16, kN17, kN18, kN19, kN20, kN21, kN22, kN23, kN24, kN25, kN26, kN27, kN28, kN29, kN30, kN31, kN32, kN33, kN34, kN35, kN36, kN37, kN38, kN39, kN40, kN41]
  rw [mT_pA, mT_nA, mT_pR]
  refine b0_40 rfl (Nat.ne_of_beq_eq_false rfl) ?_
  try simp only [mT_n]
  try simp only [mT_n, kN0, kN1, kN2, kN3, kN4, kN5, kN6, kN7, kN8, kN9, kN10, kN11, kN12, kN13, kN14, kN15, kN16, kN17, kN18, kN19, kN20, kN21, kN22, kN23, kN24, kN25, kN26, kN27, kN28, kN29, kN30, kN31, kN32, kN33, kN34, kN35, kN36, kN37, kN38, kN39, kN40, kN41]
  rw [mT_nA, mT_pR]
  refine b0_48 rfl (Nat.ne_of_beq_eq_false rfl) ?_
  show _ = mT L xs 70 Tc20 40677
  try simp only [mT_n]
  try simp only [mT_n, kN0, kN1, kN2, kN3, kN4, kN5, kN6, kN7, kN8, kN9, kN10, kN11, kN12, kN13, kN14, kN15, kN16, kN17, kN18, kN19, kN20, kN21, kN22, kN23, kN24, kN25, kN26, kN27, kN28, kN29, kN30, kN31, kN32, kN33, kN34, kN35, kN36, kN37, kN38, kN39, kN40, kN41]
  rw [mT_pR]
  all_goals first | rfl | decide | exact ⟨_, rfl⟩
def Tc21 : List mC := [(1, 11, [0, Int32.ofInt 0, Int32.ofInt (-1), 0, 0, 0, Int32.ofInt 0], [], [17, 15, 15, 18, 22, 42, 15, 62, 65]), (5, 2000, [], [], []), (1, 9, [0, 0, 0, Int32.ofInt 0, 0, Int32.ofInt 0], [], [19, 20, 21, 15, 17]), (2, 2001, [], [], []), (2, 2001, [], [], []), (2, 2001, [], [], []), (1, 5, [0, 0, 0, 0, 0, 0, Int32.ofInt 0, 0, 0, 0, 0, 0, 0, Int32.ofInt 0, 0, 0, 0, Int32.ofInt 0, Int32.ofInt 0], [], [23, 28, 29, 30, 31, 32, 15, 33, 34, 35, 36, 37, 38, 15, 39, 40, 41]), (1, 3, [0, 0, 0, 0, Int32.ofInt 0], [], [24, 25, 26, 27]), mWrd, (5, 2058, [], [], []), (2, 1025, [], [], []), (2, 2048, [], [], []), (2, 1024, [], [], []), (2, 1024, [], [], []), (2, 4096, [], [], []), (2, 1024, [], [], []), (2, 1024, [], [], []), (2, 60, [], [], []), (2, 480, [], [], []), (2, 60, [], [], []), (2, 480, [], [], []), (2, 480, [], [], []), (2, 60, [], [], []), (2, 60, [], [], []), (2, 61, [], [], []), (2, 60, [], [], []), (1, 5, [0, 0, 0, 0, 0, 0, Int32.ofInt 0, 0, 0, 0, 0, 0, 0, Int32.ofInt 0, 0, 0, 0, Int32.ofInt 0, Int32.ofInt 0], [], [43, 48, 49, 50, 51, 52, 15, 53, 54, 55, 56, 57, 58, 15, 59, 60, 61]), (1, 3, [0, 0, 0, 0, Int32.ofInt 0], [], [44, 45, 46, 47]), mWrd, (5, 2058, [], [], []), (2, 1025, [], [], []), (2, 2048, [], [], []), (2, 1024, [], [], []), (2, 1024, [], [], []), (2, 4096, [], [], []), (2, 1024, [], [], []), (2, 1024, [], [], []), (2, 60, [], [], []), (2, 480, [], [], []), (2, 60, [], [], []), (2, 480, [], [], []), (2, 480, [], [], []), (2, 60, [], [], []), (2, 60, [], [], []), (2, 61, [], [], []), (2, 60, [], [], []), (1, 4, [0, 0, Int32.ofInt 0, 0, Int32.ofInt 0], [], [18, 42, 15, 63, 15, 64]), (2, 8, [], [], []), (2, 44, [], [], []), (1, 0, [Int32.ofInt (-1), 0, 0, 0, Int32.ofInt 0], [], [15, 42, 66, 67, 15, 68, 69]), (2, 1024, [], [], []), (2, 1024, [], [], []), (6, 62, [], [], []), (4, 62, [], [], []), (1, 2, [], [], [])]
def Tc22 : List mC := [(1, 11, [0, Int32.ofInt 0, Int32.ofInt (-1), 0, 0, 0, Int32.ofInt 0], [], [17, 15, 15, 18, 22, 42, 15, 62, 65]), (5, 2000, [], [], []), (1, 9, [0, 0, 0, Int32.ofInt 0, 0, Int32.ofInt 0], [], [19, 20, 21, 15, 17]), (2, 2001, [], [], []), (2, 2001, [], [], []), (2, 2001, [], [], []), (1, 5, [0, 0, 0, 0, 0, 0, Int32.ofInt 0, 0, 0, 0, 0, 0, 0, Int32.ofInt 0, 0, 0, 0, Int32.ofInt 0, Int32.ofInt 0], [], [23, 28, 29, 30, 31, 32, 15, 33, 34, 35, 36, 37, 38, 15, 39, 40, 41]), (1, 3, [0, 0, 0, 0, Int32.ofInt 0], [], [24, 25, 26, 27]), mWrd, (5, 2058, [], [], []), (2, 1025, [], [], []), (2, 2048, [], [], []), (2, 1024, [], [], []), (2, 1024, [], [], []), (2, 4096, [], [], []), (2, 1024, [], [], []), (2, 1024, [], [], []), (2, 60, [], [], []), (2, 480, [], [], []), (2, 60, [], [], []), (2, 480, [], [], []), (2, 480, [], [], []), (2, 60, [], [], []), (2, 60, [], [], []), (2, 61, [], [], []), (2, 60, [], [], []), (1, 5, [0, 0, 0, 0, 0, 0, Int32.ofInt 0, 0, 0, 0, 0, 0, 0, Int32.ofInt 0, 0, 0, 0, Int32.ofInt 0, Int32.ofInt 0], [], [43, 48, 49, 50, 51, 52, 15, 53, 54, 55, 56, 57, 58, 15, 59, 60, 61]), (1, 3, [0, 0, 0, 0, Int32.ofInt 0], [], [44, 45, 46, 47]), mWrd, (5, 2058, [], [], []), (2, 1025, [], [], []), (2, 2048, [], [], []), (2, 1024, [], [], []), (2, 1024, [], [], []), (2, 4096, [], [], []), (2, 1024, [], [], []), (2, 1024, [], [], []), (2, 60, [], [], []), (2, 480, [], [], []), (2, 60, [], [], []), (2, 480, [], [], []), (2, 480, [], [], []), (2, 60, [], [], []), (2, 60, [], [], []), (2, 61, [], [], []), (2, 60, [], [], []), (1, 4, [0, 0, Int32.ofInt 0, 0, Int32.ofInt 0], [], [18, 42, 15, 63, 15, 64]), (2, 8, [], [], []), (2, 44, [], [], []), (1, 0, [Int32.ofInt (-1), 0, 0, 0, Int32.ofInt 0], [], [15, 42, 66, 67, 15, 68, 69]), (2, 1024, [], [], []), (2, 1024, [], [], []), (6, 62, [], [], []), (4, 62, [], [], []), (1, 2, [], [], []), (1, 1, [], [], [])]
def Tc23 : List mC := [(1, 11, [0, Int32.ofInt 0, Int32.ofInt (-1), 0, 0, 0, Int32.ofInt 0], [], [17, 15, 15, 18, 22, 42, 15, 62, 65]), (5, 2000, [], [], []), (1, 9, [0, 0, 0, Int32.ofInt 0, 0, Int32.ofInt 0], [], [19, 20, 21, 15, 17]), (2, 2001, [], [], []), (2, 2001, [], [], []), (2, 2001, [], [], []), (1, 5, [0, 0, 0, 0, 0, 0, Int32.ofInt 0, 0, 0, 0, 0, 0, 0, Int32.ofInt 0, 0, 0, 0, Int32.ofInt 0, Int32.ofInt 0], [], [23, 28, 29, 30, 31, 32, 15, 33, 34, 35, 36, 37, 38, 15, 39, 40, 41]), (1, 3, [0, 0, 0, 0, Int32.ofInt 0], [], [24, 25, 26, 27]), mWrd, (5, 2058, [], [], []), (2, 1025, [], [], []), (2, 2048, [], [], []), (2, 1024, [], [], []), (2, 1024, [], [], []), (2, 4096, [], [], []), (2, 1024, [], [], []), (2, 1024, [], [], []), (2, 60, [], [], []), (2, 480, [], [], []), (2, 60, [], [], []), (2, 480, [], [], []), (2, 480, [], [], []), (2, 60, [], [], []), (2, 60, [], [], []), (2, 61, [], [], []), (2, 60, [], [], []), (1, 5, [0, 0, 0, 0, 0, 0, Int32.ofInt 0, 0, 0, 0, 0, 0, 0, Int32.ofInt 0, 0, 0, 0, Int32.ofInt 0, Int32.ofInt 0], [], [43, 48, 49, 50, 51, 52, 15, 53, 54, 55, 56, 57, 58, 15, 59, 60, 61]), (1, 3, [0, 0, 0, 0, Int32.ofInt 0], [], [44, 45, 46, 47]), mWrd, (5, 2058, [], [], []), (2, 1025, [], [], []), (2, 2048, [], [], []), (2, 1024, [], [], []), (2, 1024, [], [], []), (2, 4096, [], [], []), (2, 1024, [], [], []), (2, 1024, [], [], []), (2, 60, [], [], []), (2, 480, [], [], []), (2, 60, [], [], []), (2, 480, [], [], []), (2, 480, [], [], []), (2, 60, [], [], []), (2, 60, [], [], []), (2, 61, [], [], []), (2, 60, [], [], []), (1, 4, [0, 0, Int32.ofInt 0, 0, Int32.ofInt 0], [], [18, 42, 15, 63, 15, 64]), (2, 8, [], [], []), (2, 44, [], [], []), (1, 0, [Int32.ofInt (-1), 0, 0, 0, Int32.ofInt 0], [], [15, 42, 66, 67, 15, 68, 69]), (2, 1024, [], [], []), (2, 1024, [], [], []), (6, 62, [], [], []), (4, 62, [], [], []), (1, 2, [], [], []), (1, 1, [0, 0, 0, 0, 0, 0, 0, Int32.ofInt 0], [], [72, 73, 74, 75, 76, 77, 78, 15, 79]), (2, 1000, [], [], []), (2, 4000, [], [], []), (2, 1000, [], [], []), (2, 1000, [], [], []), (2, 4096, [], [], []), (2, 1024, [], [], []), (2, 1024, [], [], []), (2, 4, [], [], [])]
set_option maxHeartbeats 2000000 in
set_option maxRecDepth 20000 in
theorem ctor7 {L d : Nat} {xs : Nat → Int32} : Wp (d + 0) 27 (0, [some (.ref 71)], [], mT L xs 72 Tc22 40703) (pV (fun μ' => μ' = mT L xs 80 Tc23 53851) noX) := by
  refine b27_0 rfl (Nat.ne_of_beq_eq_false rfl) ?_
  try simp only [mT_n]
  try simp only [mT_n, kN0, kN1, kN2, kN3, kN4, kN5, kN6, kN7, kN8, kN9, kN10, kN11, kN12, kN13, kN14, kN15, kN16, kN17, kN18, kN19, kN20, kN21, kN22, kN23, kN24, kN25, kN26, kN27, kN28, kN29, kN30, kN31, kN32, kN33, kN34, kN35, kN36, kN37, kN38, kN39, kN40, kN41]
  rw [mT_nA, mT_pR]
  refine b27_13 rfl (Nat.ne_of_beq_eq_false rfl) ?_
  try simp only [mT_n]
  try simp only [mT_n, kN0, kN1, kN2, kN3, kN4, kN5, kN6, kN7, kN8, kN9, kN10, kN11, kN12, kN13, kN14, kN15, kN16, kN17, kN18, kN19, kN20, kN21, kN22, kN23, kN24, kN25, kN26, kN27, kN28, kN29, kN30, kN31, kN32, kN33, kN34, kN35, kN36, kN37, kN38, kN39, kN40, kN41]
  rw [mT_nA, mT_pR]
  refine b27_22 rfl (Nat.ne_of_beq_eq_false rfl) ?_
  try simp only [mT_n]
  try simp only [mT_n, kN0, kN1, kN2, kN3, kN4, kN5, kN6, kN7, kN8, kN9, kN10, kN11, kN12, kN13, kN14, kN15, kN16, kN17, kN18, kN19, kN20, kN21, kN22, kN23, kN24, kN25, kN26, kN27, kN28, kN29, kN30, kN31, kN32, kN33, kN34, kN35, kN36, kN37, kN38, kN39, kN40, kN41]
  rw [mT_nA, mT_pR]
  refine b27_31 rfl (Nat.ne_of_beq_eq_false rfl) ?_
  try simp only [mT_n]
  try simp only [mT_n, kN0, kN1, kN2, kN3, kN4, kN5, kN6, kN7, kN8, kN9, kN10, kN11, kN12, kN13, kN14, kN15, kN16, kN17, kN18, kN19, kN20, kN21, kN22, kN23, kN24, kN25, kN26, kN27, kN28, kN29, kN30, kN31, kN32, kN33, kN34, kN35, kN36, kN37, kN38, kN39, kN40, kN41]
  rw [mT_nA, mT_pR]
  refine b27_40 rfl (Nat.ne_of_beq_eq_false rfl) ?_
  try simp only [mT_n]
  try simp only [mT_n, kN0, kN1, kN2, kN3, kN4, kN5, kN6, kN7, kN8, kN9, kN10, kN11, kN12, kN13, kN14, kN15, kN16, kN17, kN18, kN19, kN20, kN21, kN22, kN23, kN24, kN25, kN26, kN27, kN28, kN29, kN30, kN31, kN32, kN33, kN34, kN35, kN36, kN37, kN38, kN39, kN40, kN41]
  rw [mT_nA, mT_pR]
  refine b27_49 rfl (Nat.ne_of_beq_eq_false rfl) ?_
  try simp only [mT_n]
  try simp only [mT_n, kN0, kN1, kN2, kN3, kN4, kN5, kN6, kN7, kN8, kN9, kN10, kN11, kN12, kN13, kN14, kN15, kN16, kN17, kN18, kN19, kN20, kN21, kN22, kN23, kN24, kN25, kN26, kN27, kN28, kN29, kN30, kN31, kN32, kN33, kN34, kN35, kN36, kN37, kN38, kN39, kN40, kN41]
  rw [mT_nA, mT_pR]
  refine b27_58 rfl (Nat.ne_of_beq_eq_false rfl) ?_
  try simp only [mT_n]
  try simp only [mT_n, kN0, kN1, kN2, kN3, kN4, kN5, kN6, kN7, kN8, kN9, kN10, kN11, kN12, kN13, kN14, kN15, kN16, kN17, kN18, kN19, kN20, kN21, kN22, kN23, kN24, kN25, kN26, kN27, kN28, kN29, kN30, kN31, kN32, kN33, kN34, kN35, kN36, kN37, kN38, kN39, kN40, kN41]
  rw [mT_nA, mT_pR]
  refine b27_67 rfl rfl (Nat.ne_of_beq_eq_false rfl) ?_
  try simp only [mT_n]
  try simp only [mT_n, kN0, kN1, kN2, kN3, kN4, kN5, kN6, kN7, kN8, kN9, kN10, kN11, kN12, kN13, kN14, kN15, kN16, kN17, kN18, kN19, kN20, kN21, kN22, kN23, kN24, kN25, kN26, kN27, kN28, kN29, kN30, kN31, kN32, kN33, kN34, kN35, kN36, kN37, kN38, kN39, kN40, kN41]
  rw [mT_pA, mT_nA, mT_pR]
  refine b27_79 ?_
  show _ = mT L xs 80 Tc23 53851
  all_goals first | rfl | decide | exact ⟨_, rfl⟩
def Tc24 : List mC := [(1, 11, [0, Int32.ofInt 0, Int32.ofInt (-1), 0, 0, 0, Int32.ofInt 0], [], [17, 15, 15, 18, 22, 42, 15, 62, 65]), (5, 2000, [], [], []), (1, 9, [0, 0, 0, Int32.ofInt 0, 0, Int32.ofInt 0], [], [19, 20, 21, 15, 17]), (2, 2001, [], [], []), (2, 2001, [], [], []), (2, 2001, [], [], []), (1, 5, [0, 0, 0, 0, 0, 0, Int32.ofInt 0, 0, 0, 0, 0, 0, 0, Int32.ofInt 0, 0, 0, 0, Int32.ofInt 0, Int32.ofInt 0], [], [23, 28, 29, 30, 31, 32, 15, 33, 34, 35, 36, 37, 38, 15, 39, 40, 41]), (1, 3, [0, 0, 0, 0, Int32.ofInt 0], [], [24, 25, 26, 27]), mWrd, (5, 2058, [], [], []), (2, 1025, [], [], []), (2, 2048, [], [], []), (2, 1024, [], [], []), (2, 1024, [], [], []), (2, 4096, [], [], []), (2, 1024, [], [], []), (2, 1024, [], [], []), (2, 60, [], [], []), (2, 480, [], [], []), (2, 60, [], [], []), (2, 480, [], [], []), (2, 480, [], [], []), (2, 60, [], [], []), (2, 60, [], [], []), (2, 61, [], [], []), (2, 60, [], [], []), (1, 5, [0, 0, 0, 0, 0, 0, Int32.ofInt 0, 0, 0, 0, 0, 0, 0, Int32.ofInt 0, 0, 0, 0, Int32.ofInt 0, Int32.ofInt 0], [], [43, 48, 49, 50, 51, 52, 15, 53, 54, 55, 56, 57, 58, 15, 59, 60, 61]), (1, 3, [0, 0, 0, 0, Int32.ofInt 0], [], [44, 45, 46, 47]), mWrd, (5, 2058, [], [], []), (2, 1025, [], [], []), (2, 2048, [], [], []), (2, 1024, [], [], []), (2, 1024, [], [], []), (2, 4096, [], [], []), (2, 1024, [], [], []), (2, 1024, [], [], []), (2, 60, [], [], []), (2, 480, [], [], []), (2, 60, [], [], []), (2, 480, [], [], []), (2, 480, [], [], []), (2, 60, [], [], []), (2, 60, [], [], []), (2, 61, [], [], []), (2, 60, [], [], []), (1, 4, [0, 0, Int32.ofInt 0, 0, Int32.ofInt 0], [], [18, 42, 15, 63, 15, 64]), (2, 8, [], [], []), (2, 44, [], [], []), (1, 0, [Int32.ofInt (-1), 0, 0, 0, Int32.ofInt 0], [], [15, 42, 66, 67, 15, 68, 69]), (2, 1024, [], [], []), (2, 1024, [], [], []), (6, 62, [], [], []), (4, 62, [], [], []), (1, 2, [0, 0, 0, 0, Int32.ofInt 0, 0, 0, 0, Int32.ofInt 0, Int32.ofInt 0, Int32.ofInt (-1), Int32.ofInt 0, Int32.ofInt 0, Int32.ofInt 0, Int32.ofInt 0, Int32.ofInt 0], [0, 0, 0, 0, 0, 0, 0, 0, 0, 0, 0, 0, 0, 0, 0, 0, Int64.ofNat 0], [15, 71, 22, 80, 15, 81, 82, 83]), (1, 1, [0, 0, 0, 0, 0, 0, 0, Int32.ofInt 0], [], [72, 73, 74, 75, 76, 77, 78, 15, 79]), (2, 1000, [], [], []), (2, 4000, [], [], []), (2, 1000, [], [], []), (2, 1000, [], [], []), (2, 4096, [], [], []), (2, 1024, [], [], []), (2, 1024, [], [], []), (2, 4, [], [], []), (2, 4, [], [], []), (2, 1024, [], [], []), (2, 1024, [], [], []), (2, 8, [], [], []), (1, 8, [], [], [])]
def Tc25 : List mC := [(1, 11, [0, Int32.ofInt 0, Int32.ofInt (-1), 0, 0, 0, Int32.ofInt 0], [], [17, 15, 15, 18, 22, 42, 15, 62, 65]), (5, 2000, [], [], []), (1, 9, [0, 0, 0, Int32.ofInt 0, 0, Int32.ofInt 0], [], [19, 20, 21, 15, 17]), (2, 2001, [], [], []), (2, 2001, [], [], []), (2, 2001, [], [], []), (1, 5, [0, 0, 0, 0, 0, 0, Int32.ofInt 0, 0, 0, 0, 0, 0, 0, Int32.ofInt 0, 0, 0, 0, Int32.ofInt 0, Int32.ofInt 0], [], [23, 28, 29, 30, 31, 32, 15, 33, 34, 35, 36, 37, 38, 15, 39, 40, 41]), (1, 3, [0, 0, 0, 0, Int32.ofInt 0], [], [24, 25, 26, 27]), mWrd, (5, 2058, [], [], []), (2, 1025, [], [], []), (2, 2048, [], [], []), (2, 1024, [], [], []), (2, 1024, [], [], []), (2, 4096, [], [], []), (2, 1024, [], [], []), (2, 1024, [], [], []), (2, 60, [], [], []), (2, 480, [], [], []), (2, 60, [], [], []), (2, 480, [], [], []), (2, 480, [], [], []), (2, 60, [], [], []), (2, 60, [], [], []), (2, 61, [], [], []), (2, 60, [], [], []), (1, 5, [0, 0, 0, 0, 0, 0, Int32.ofInt 0, 0, 0, 0, 0, 0, 0, Int32.ofInt 0, 0, 0, 0, Int32.ofInt 0, Int32.ofInt 0], [], [43, 48, 49, 50, 51, 52, 15, 53, 54, 55, 56, 57, 58, 15, 59, 60, 61]), (1, 3, [0, 0, 0, 0, Int32.ofInt 0], [], [44, 45, 46, 47]), mWrd, (5, 2058, [], [], []), (2, 1025, [], [], []), (2, 2048, [], [], []), (2, 1024, [], [], []), (2, 1024, [], [], []), (2, 4096, [], [], []), (2, 1024, [], [], []), (2, 1024, [], [], []), (2, 60, [], [], []), (2, 480, [], [], []), (2, 60, [], [], []), (2, 480, [], [], []), (2, 480, [], [], []), (2, 60, [], [], []), (2, 60, [], [], []), (2, 61, [], [], []), (2, 60, [], [], []), (1, 4, [0, 0, Int32.ofInt 0, 0, Int32.ofInt 0], [], [18, 42, 15, 63, 15, 64]), (2, 8, [], [], []), (2, 44, [], [], []), (1, 0, [Int32.ofInt (-1), 0, 0, 0, Int32.ofInt 0], [], [15, 42, 66, 67, 15, 68, 69]), (2, 1024, [], [], []), (2, 1024, [], [], []), (6, 62, [], [], []), (4, 62, [], [], []), (1, 2, [0, 0, 0, 0, Int32.ofInt 0, 0, 0, 0, Int32.ofInt 0, Int32.ofInt 0, Int32.ofInt (-1), Int32.ofInt 0, Int32.ofInt 0, Int32.ofInt 0, Int32.ofInt 0, Int32.ofInt 0], [0, 0, 0, 0, 0, 0, 0, 0, 0, 0, 0, 0, 0, 0, 0, 0, Int64.ofNat 0], [15, 71, 22, 80, 15, 81, 82, 83]), (1, 1, [0, 0, 0, 0, 0, 0, 0, Int32.ofInt 0], [], [72, 73, 74, 75, 76, 77, 78, 15, 79]), (2, 1000, [], [], []), (2, 4000, [], [], []), (2, 1000, [], [], []), (2, 1000, [], [], []), (2, 4096, [], [], []), (2, 1024, [], [], []), (2, 1024, [], [], []), (2, 4, [], [], []), (2, 4, [], [], []), (2, 1024, [], [], []), (2, 1024, [], [], []), (2, 8, [], [], []), (1, 8, [0, 0, 0, 0, 0, 0, 0, 0, 0, Int32.ofInt 0], [], [23, 85, 86, 87, 88, 89, 90, 91, 92, 15, 93]), (2, 4096, [], [], []), (2, 4096, [], [], []), (2, 16384, [], [], []), (2, 4096, [], [], []), (2, 4096, [], [], []), (2, 4096, [], [], []), (2, 4096, [], [], []), (2, 8192, [], [], []), (2, 4, [], [], [])]
set_option maxHeartbeats 2000000 in
set_option maxRecDepth 20000 in
theorem ctor8 {L d : Nat} {xs : Nat → Int32} : Wp (d + 0) 88 (0, [some (.ref 84), some (.ref 23)], [], mT L xs 85 Tc24 55922) (pV (fun μ' => μ' = mT L xs 94 Tc25 105078) noX) := by
  refine b88_0 rfl (Nat.ne_of_beq_eq_false rfl) ?_
  try simp only [mT_n]
  try simp only [mT_n, kN0, kN1, kN2, kN3, kN4, kN5, kN6, kN7, kN8, kN9, kN10, kN11, kN12, kN13, kN14, kN15, kN16, kN17, kN18, kN19, kN20, kN21, kN22, kN23, kN24, kN25, kN26, kN27, kN28, kN29, kN30, kN31, kN32, kN33, kN34, kN35, kN36, kN37, kN38, kN39, kN40, kN41]
  rw [mT_nA, mT_pR]
  refine b88_13 rfl (Nat.ne_of_beq_eq_false rfl) ?_
  try simp only [mT_n]
  try simp only [mT_n, kN0, kN1, kN2, kN3, kN4, kN5, kN6, kN7, kN8, kN9, kN10, kN11, kN12, kN13, kN14, kN15, kN16, kN17, kN18, kN19, kN20, kN21, kN22, kN23, kN24, kN25, kN26, kN27, kN28, kN29, kN30, kN31, kN32, kN33, kN34, kN35, kN36, kN37, kN38, kN39, kN40, kN41]
  rw [mT_nA, mT_pR]
  refine b88_22 rfl (Nat.ne_of_beq_eq_false rfl) ?_
  try simp only [mT_n]
  try simp only [mT_n, kN0, kN1, kN2, kN3, kN4, kN5, kN6, kN7, kN8, kN9, kN10, kN11, kN12, kN13, kN14, kN15, kN16, kN17, kN18, kN19, kN20, kN21, kN22, kN23, kN24, kN25, kN26, kN27, kN28, kN29, kN30, kN31, kN32, kN33, kN34, kN35, kN36, kN37, kN38, kN39, kN40, kN41]
  rw [mT_nA, mT_pR]
  refine b88_31 rfl (Nat.ne_of_beq_eq_false rfl) ?_
  try simp only [mT_n]
  try simp only [mT_n, kN0, kN1, kN2, kN3, kN4, kN5, kN6, kN7, kN8, kN9, kN10, kN11, kN12, kN13, kN14, kN15, kN16, kN17, kN18, kN19, kN20, kN21, kN22, kN23, kN24, kN25, kN26, kN27, kN28, kN29, kN30, kN31, kN32, kN33, kN34, kN35, kN36, kN37, kN38, kN39, kN40, kN41]
  rw [mT_nA, mT_pR]
  refine b88_40 rfl (Nat.ne_of_beq_eq_false rfl) ?_
  try simp only [mT_n]
  try simp only [mT_n, kN0, kN1, kN2, kN3, kN4, kN5, kN6, kN7, kN8, kN9, kN10, kN11, kN12, kN13, kN14, kN15, kN16, kN17, kN18, kN19, kN20, kN21, kN22, kN23, kN24, kN25, kN26, kN27, kN28, kN29, kN30, kN31, kN32, kN33, kN34, kN35, kN36, kN37, kN38, kN39, kN40, kN41]
  rw [mT_nA, mT_pR]
  refine b88_49 rfl (Nat.ne_of_beq_eq_false rfl) ?_
  try simp only [mT_n]
  try simp only [mT_n, kN0, kN1, kN2, kN3, kN4, kN5, kN6, kN7, kN8, kN9, kN10, kN11, kN12, kN13, kN14, kN15, kN16, kN17, kN18, kN19, kN20, kN21, kN22, kN23, kN24, kN25, kN26, kN27, kN28, kN29, kN30, kN31, kN32, kN33, kN34, kN35, kN36, kN37, kN38, kN39, kN40, kN41]
  rw [mT_nA, mT_pR]
  refine b88_58 rfl (Nat.ne_of_beq_eq_false rfl) ?_
  try simp only [mT_n]
  try simp only [mT_n, kN0, kN1, kN2, kN3, kN4, kN5, kN6, kN7, kN8, kN9, kN10, kN11, kN12, kN13, kN14, kN15, kN16, kN17, kN18, kN19, kN20, kN21, kN22, kN23, kN24, kN25, kN26, kN27, kN28, kN29, kN30, kN31, kN32, kN33, kN34, kN35, kN36, kN37, kN38, kN39, kN40, kN41]
  rw [mT_nA, mT_pR]
  refine b88_67 rfl (Nat.ne_of_beq_eq_false rfl) ?_
  try simp only [mT_n]
  try simp only [mT_n, kN0, kN1, kN2, kN3, kN4, kN5, kN6, kN7, kN8, kN9, kN10, kN11, kN12, kN13, kN14, kN15, kN16, kN17, kN18, kN19, kN20, kN21, kN22, kN23, kN24, kN25, kN26, kN27, kN28, kN29, kN30, kN31, kN32, kN33, kN34, kN35, kN36, kN37, kN38, kN39, kN40, kN41]
  rw [mT_nA, mT_pR]
  refine b88_76 rfl rfl (Nat.ne_of_beq_eq_false rfl) ?_
  try simp only [mT_n]
  try simp only [mT_n, kN0, kN1, kN2, kN3, kN4, kN5, kN6, kN7, kN8, kN9, kN10, kN11, kN12, kN13, kN14, kN15, kN16, kN17, kN18, kN19, kN20, kN21, kN22, kN23, kN24, kN25, kN26, kN27, kN28, kN29, kN30, kN31, kN32, kN33, kN34, kN35, kN36, kN37, kN38, kN39, kN40, kN41]
  rw [mT_pA, mT_nA, mT_pR]
  refine b88_88 rfl (Nat.ne_of_beq_eq_false rfl) ?_
  show _ = mT L xs 94 Tc25 105078
  try simp only [mT_n]
  try simp only [mT_n, kN0, kN1, kN2, kN3, kN4, kN5, kN6, kN7, kN8, kN9, kN10, kN11, kN12, kN13, kN14, kN15, kN16, kN17, kN18, kN19, kN20, kN21, kN22, kN23, kN24, kN25, kN26, kN27, kN28, kN29, kN30, kN31, kN32, kN33, kN34, kN35, kN36, kN37, kN38, kN39, kN40, kN41]
  rw [mT_pR]
  all_goals first | rfl | decide | exact ⟨_, rfl⟩
def Tc26 : List mC := [(1, 11, [0, Int32.ofInt 0, Int32.ofInt (-1), 0, 0, 0, Int32.ofInt 0], [], [17, 15, 15, 18, 22, 42, 15, 62, 65]), (5, 2000, [], [], []), (1, 9, [0, 0, 0, Int32.ofInt 0, 0, Int32.ofInt 0], [], [19, 20, 21, 15, 17]), (2, 2001, [], [], []), (2, 2001, [], [], []), (2, 2001, [], [], []), (1, 5, [0, 0, 0, 0, 0, 0, Int32.ofInt 0, 0, 0, 0, 0, 0, 0, Int32.ofInt 0, 0, 0, 0, Int32.ofInt 0, Int32.ofInt 0], [], [23, 28, 29, 30, 31, 32, 15, 33, 34, 35, 36, 37, 38, 15, 39, 40, 41]), (1, 3, [0, 0, 0, 0, Int32.ofInt 0], [], [24, 25, 26, 27]), mWrd, (5, 2058, [], [], []), (2, 1025, [], [], []), (2, 2048, [], [], []), (2, 1024, [], [], []), (2, 1024, [], [], []), (2, 4096, [], [], []), (2, 1024, [], [], []), (2, 1024, [], [], []), (2, 60, [], [], []), (2, 480, [], [], []), (2, 60, [], [], []), (2, 480, [], [], []), (2, 480, [], [], []), (2, 60, [], [], []), (2, 60, [], [], []), (2, 61, [], [], []), (2, 60, [], [], []), (1, 5, [0, 0, 0, 0, 0, 0, Int32.ofInt 0, 0, 0, 0, 0, 0, 0, Int32.ofInt 0, 0, 0, 0, Int32.ofInt 0, Int32.ofInt 0], [], [43, 48, 49, 50, 51, 52, 15, 53, 54, 55, 56, 57, 58, 15, 59, 60, 61]), (1, 3, [0, 0, 0, 0, Int32.ofInt 0], [], [44, 45, 46, 47]), mWrd, (5, 2058, [], [], []), (2, 1025, [], [], []), (2, 2048, [], [], []), (2, 1024, [], [], []), (2, 1024, [], [], []), (2, 4096, [], [], []), (2, 1024, [], [], []), (2, 1024, [], [], []), (2, 60, [], [], []), (2, 480, [], [], []), (2, 60, [], [], []), (2, 480, [], [], []), (2, 480, [], [], []), (2, 60, [], [], []), (2, 60, [], [], []), (2, 61, [], [], []), (2, 60, [], [], []), (1, 4, [0, 0, Int32.ofInt 0, 0, Int32.ofInt 0], [], [18, 42, 15, 63, 15, 64]), (2, 8, [], [], []), (2, 44, [], [], []), (1, 0, [Int32.ofInt (-1), 0, 0, 0, Int32.ofInt 0], [], [15, 42, 66, 67, 15, 68, 69]), (2, 1024, [], [], []), (2, 1024, [], [], []), (6, 62, [], [], []), (4, 62, [], [], []), (1, 2, [0, 0, 0, 0, Int32.ofInt 0, 0, 0, 0, Int32.ofInt 0, Int32.ofInt 0, Int32.ofInt (-1), Int32.ofInt 0, Int32.ofInt 0, Int32.ofInt 0, Int32.ofInt 0, Int32.ofInt 0], [0, 0, 0, 0, 0, 0, 0, 0, 0, 0, 0, 0, 0, 0, 0, 0, Int64.ofNat 0], [84, 71, 22, 80, 15, 81, 82, 83]), (1, 1, [0, 0, 0, 0, 0, 0, 0, Int32.ofInt 0], [], [72, 73, 74, 75, 76, 77, 78, 15, 79]), (2, 1000, [], [], []), (2, 4000, [], [], []), (2, 1000, [], [], []), (2, 1000, [], [], []), (2, 4096, [], [], []), (2, 1024, [], [], []), (2, 1024, [], [], []), (2, 4, [], [], []), (2, 4, [], [], []), (2, 1024, [], [], []), (2, 1024, [], [], []), (2, 8, [], [], []), (1, 8, [0, 0, 0, 0, 0, 0, 0, 0, 0, Int32.ofInt 0], [], [23, 85, 86, 87, 88, 89, 90, 91, 92, 15, 93]), (2, 4096, [], [], []), (2, 4096, [], [], []), (2, 16384, [], [], []), (2, 4096, [], [], []), (2, 4096, [], [], []), (2, 4096, [], [], []), (2, 4096, [], [], []), (2, 8192, [], [], []), (2, 4, [], [], [])]
set_option maxHeartbeats 2000000 in
set_option maxRecDepth 20000 in
theorem ctor9 {L d : Nat} {xs : Nat → Int32} : Wp (d + 1) 32 (0, [some (.ref 70), some (.ref 22)], [], mT L xs 71 Tc21 40694) (pV (fun μ' => μ' = mT L xs 94 Tc26 105078) noX) := by
  refine b32_0 (P := fun μ' => μ' = mT L xs 80 Tc23 53851) ?_ ?_
  · try simp only [mT_n]
    try simp only [mT_n, kN0, kN1, kN2, kN3, kN4, kN5, kN6, kN7, kN8, kN9, kN10, kN11, kN12, kN13, kN14, kN15, kN16, kN17, kN18, kN19, kN20, kN21, kN22, kN23, kN24, kN25, kN26, kN27, kN28, kN29, kN30, kN31, kN32, kN33, kN34, kN35, kN36, kN37, kN38, kN39, kN40, kN41]
    rw [mT_nO]
    · exact ctor7
    all_goals first | rfl | decide | exact ⟨_, rfl⟩
  rintro μ' rfl
  refine b32_12 rfl (Nat.ne_of_beq_eq_false rfl) rfl (Nat.ne_of_beq_eq_false rfl) ?_
  try simp only [mT_n]
  try simp only [mT_n, kN0, kN1, kN2, kN3, kN4, kN5, kN6, kN7, kN8, kN9, kN10, kN11, kN12, kN13, kN14, kN15, kN16, kN17, kN18, kN19, kN20, kN21, kN22, kN23, kN24, kN25, kN26, kN27, kN28, kN29, kN30, kN31, kN32, kN33, kN34, kN35, kN36, kN37, kN38, kN39, kN40, kN41]
  rw [mT_pR, mT_nA, mT_pR]
  refine b32_22 rfl rfl (Nat.ne_of_beq_eq_false rfl) ?_
  try simp only [mT_n]
  try simp only [mT_n, kN0, kN1, kN2, kN3, kN4, kN5, kN6, kN7, kN8, kN9, kN10, kN11, kN12, kN13, kN14, kN15, kN16, kN17, kN18, kN19, kN20, kN21, kN22, kN23, kN24, kN25, kN26, kN27, kN28, kN29, kN30, kN31, kN32, kN33, kN34, kN35, kN36, kN37, kN38, kN39, kN40, kN41]
  rw [mT_pA, mT_nA, mT_pR]
  refine b32_36 rfl (Nat.ne_of_beq_eq_false rfl) ?_
  try simp only [mT_n]
  try simp only [mT_n, kN0, kN1, kN2, kN3, kN4, kN5, kN6, kN7, kN8, kN9, kN10, kN11, kN12, kN13, kN14, kN15, kN16, kN17, kN18, kN19, kN20, kN21, kN22, kN23, kN24, kN25, kN26, kN27, kN28, kN29, kN30, kN31, kN32, kN33, kN34, kN35, kN36, kN37, kN38, kN39, kN40, kN41]
  rw [mT_nA, mT_pR]
  refine b32_45 rfl (Nat.ne_of_beq_eq_false rfl) ?_
  try simp only [mT_n]
  try simp only [mT_n, kN0, kN1, kN2, kN3, kN4, kN5, kN6, kN7, kN8, kN9, kN10, kN11, kN12, kN13, kN14, kN15, kN16, kN17, kN18, kN19, kN20, kN21, kN22, kN23, kN24, kN25, kN26, kN27, kN28, kN29, kN30, kN31, kN32, kN33, kN34, kN35, kN36, kN37, kN38, kN39, kN40, kN41]
  rw [mT_nA, mT_pR]
  refine b32_53 rfl rfl rfl ?_
  try simp only [mT_n]
  try simp only [mT_n, kN0, kN1, kN2, kN3, kN4, kN5, kN6, kN7, kN8, kN9, kN10, kN11, kN12, kN13, kN14, kN15, kN16, kN17, kN18, kN19, kN20, kN21, kN22, kN23, kN24, kN25, kN26, kN27, kN28, kN29, kN30, kN31, kN32, kN33, kN34, kN35, kN36, kN37, kN38, kN39, kN40, kN41]
  rw [mT_pA, mT_pA, mT_pA]
  refine b32_68 rfl rfl rfl ?_
  try simp only [mT_n]
  try simp only [mT_n, kN0, kN1, kN2, kN3, kN4, kN5, kN6, kN7, kN8, kN9, kN10, kN11, kN12, kN13, kN14, kN15, kN16, kN17, kN18, kN19, kN20, kN21, kN22, kN23, kN24, kN25, kN26, kN27, kN28, kN29, kN30, kN31, kN32, kN33, kN34, kN35, kN36, kN37, kN38, kN39, kN40, kN41]
  rw [mT_pA, mT_pA, mT_pA]
  refine b32_83 rfl rfl rfl ?_
  try simp only [mT_n]
  try simp only [mT_n, kN0, kN1, kN2, kN3, kN4, kN5, kN6, kN7, kN8, kN9, kN10, kN11, kN12, kN13, kN14, kN15, kN16, kN17, kN18, kN19, kN20, kN21, kN22, kN23, kN24, kN25, kN26, kN27, kN28, kN29, kN30, kN31, kN32, kN33, kN34, kN35, kN36, kN37, kN38, kN39, kN40, kN41]
  rw [mT_pA, mT_pA, mT_pL]
  refine b32_98 rfl (Nat.ne_of_beq_eq_false rfl) rfl (Nat.ne_of_beq_eq_false rfl) (P := fun μ' => μ' = mT L xs 94 Tc25 105078) ?_ ?_
  · try simp only [mT_n]
    try simp only [mT_n, kN0, kN1, kN2, kN3, kN4, kN5, kN6, kN7, kN8, kN9, kN10, kN11, kN12, kN13, kN14, kN15, kN16, kN17, kN18, kN19, kN20, kN21, kN22, kN23, kN24, kN25, kN26, kN27, kN28, kN29, kN30, kN31, kN32, kN33, kN34, kN35, kN36, kN37, kN38, kN39, kN40, kN41]
    rw [mT_pR, mT_nO]
    · exact ctor8
    all_goals first | rfl | decide | exact ⟨_, rfl⟩
  rintro μ' rfl
  refine b32_115 rfl (Nat.ne_of_beq_eq_false rfl) ?_
  show _ = mT L xs 94 Tc26 105078
  try simp only [mT_n]
  try simp only [mT_n, kN0, kN1, kN2, kN3, kN4, kN5, kN6, kN7, kN8, kN9, kN10, kN11, kN12, kN13, kN14, kN15, kN16, kN17, kN18, kN19, kN20, kN21, kN22, kN23, kN24, kN25, kN26, kN27, kN28, kN29, kN30, kN31, kN32, kN33, kN34, kN35, kN36, kN37, kN38, kN39, kN40, kN41]
  rw [mT_pR]
  all_goals first | rfl | decide | exact ⟨_, rfl⟩
def Tc27 : List mC := [(1, 11, [0, Int32.ofInt 0, Int32.ofInt (-1), 0, 0, 0, Int32.ofInt 0, 0, 0, 0, 0, 0, Int32.ofInt (-1)], [], [17, 15, 15, 18, 22, 42, 15, 62, 65, 70, 94, 95]), (5, 2000, [], [], []), (1, 9, [0, 0, 0, Int32.ofInt 0, 0, Int32.ofInt 0], [], [19, 20, 21, 15, 17]), (2, 2001, [], [], []), (2, 2001, [], [], []), (2, 2001, [], [], []), (1, 5, [0, 0, 0, 0, 0, 0, Int32.ofInt 0, 0, 0, 0, 0, 0, 0, Int32.ofInt 0, 0, 0, 0, Int32.ofInt 0, Int32.ofInt 0], [], [23, 28, 29, 30, 31, 32, 15, 33, 34, 35, 36, 37, 38, 15, 39, 40, 41]), (1, 3, [0, 0, 0, 0, Int32.ofInt 0], [], [24, 25, 26, 27]), mWrd, (5, 2058, [], [], []), (2, 1025, [], [], []), (2, 2048, [], [], []), (2, 1024, [], [], []), (2, 1024, [], [], []), (2, 4096, [], [], []), (2, 1024, [], [], []), (2, 1024, [], [], []), (2, 60, [], [], []), (2, 480, [], [], []), (2, 60, [], [], []), (2, 480, [], [], []), (2, 480, [], [], []), (2, 60, [], [], []), (2, 60, [], [], []), (2, 61, [], [], []), (2, 60, [], [], []), (1, 5, [0, 0, 0, 0, 0, 0, Int32.ofInt 0, 0, 0, 0, 0, 0, 0, Int32.ofInt 0, 0, 0, 0, Int32.ofInt 0, Int32.ofInt 0], [], [43, 48, 49, 50, 51, 52, 15, 53, 54, 55, 56, 57, 58, 15, 59, 60, 61]), (1, 3, [0, 0, 0, 0, Int32.ofInt 0], [], [44, 45, 46, 47]), mWrd, (5, 2058, [], [], []), (2, 1025, [], [], []), (2, 2048, [], [], []), (2, 1024, [], [], []), (2, 1024, [], [], []), (2, 4096, [], [], []), (2, 1024, [], [], []), (2, 1024, [], [], []), (2, 60, [], [], []), (2, 480, [], [], []), (2, 60, [], [], []), (2, 480, [], [], []), (2, 480, [], [], []), (2, 60, [], [], []), (2, 60, [], [], []), (2, 61, [], [], []), (2, 60, [], [], []), (1, 4, [0, 0, Int32.ofInt 0, 0, Int32.ofInt 0], [], [18, 42, 15, 63, 15, 64]), (2, 8, [], [], []), (2, 44, [], [], []), (1, 0, [Int32.ofInt (-1), 0, 0, 0, Int32.ofInt 0], [], [15, 42, 66, 67, 15, 68, 69]), (2, 1024, [], [], []), (2, 1024, [], [], []), (6, 62, [], [], []), (4, 62, [], [], []), (1, 2, [0, 0, 0, 0, Int32.ofInt 0, 0, 0, 0, Int32.ofInt 0, Int32.ofInt 0, Int32.ofInt (-1), Int32.ofInt 0, Int32.ofInt 0, Int32.ofInt 0, Int32.ofInt 0, Int32.ofInt 0], [0, 0, 0, 0, 0, 0, 0, 0, 0, 0, 0, 0, 0, 0, 0, 0, Int64.ofNat 0], [84, 71, 22, 80, 15, 81, 82, 83]), (1, 1, [0, 0, 0, 0, 0, 0, 0, Int32.ofInt 0], [], [72, 73, 74, 75, 76, 77, 78, 15, 79]), (2, 1000, [], [], []), (2, 4000, [], [], []), (2, 1000, [], [], []), (2, 1000, [], [], []), (2, 4096, [], [], []), (2, 1024, [], [], []), (2, 1024, [], [], []), (2, 4, [], [], []), (2, 4, [], [], []), (2, 1024, [], [], []), (2, 1024, [], [], []), (2, 8, [], [], []), (1, 8, [0, 0, 0, 0, 0, 0, 0, 0, 0, Int32.ofInt 0], [], [23, 85, 86, 87, 88, 89, 90, 91, 92, 15, 93]), (2, 4096, [], [], []), (2, 4096, [], [], []), (2, 16384, [], [], []), (2, 4096, [], [], []), (2, 4096, [], [], []), (2, 4096, [], [], []), (2, 4096, [], [], []), (2, 8192, [], [], []), (2, 4, [], [], []), (2, 60, [], [], []), (2, 60, [], [], []), (1, 10, [], [], [])]
def Tc28 : List mC := [(1, 11, [0, Int32.ofInt 0, Int32.ofInt (-1), 0, 0, 0, Int32.ofInt 0, 0, 0, 0, 0, 0, Int32.ofInt (-1)], [], [17, 15, 15, 18, 22, 42, 15, 62, 65, 70, 94, 95]), (5, 2000, [], [], []), (1, 9, [0, 0, 0, Int32.ofInt 0, 0, Int32.ofInt 0], [], [19, 20, 21, 15, 17]), (2, 2001, [], [], []), (2, 2001, [], [], []), (2, 2001, [], [], []), (1, 5, [0, 0, 0, 0, 0, 0, Int32.ofInt 0, 0, 0, 0, 0, 0, 0, Int32.ofInt 0, 0, 0, 0, Int32.ofInt 0, Int32.ofInt 0], [], [23, 28, 29, 30, 31, 32, 15, 33, 34, 35, 36, 37, 38, 15, 39, 40, 41]), (1, 3, [0, 0, 0, 0, Int32.ofInt 0], [], [24, 25, 26, 27]), mWrd, (5, 2058, [], [], []), (2, 1025, [], [], []), (2, 2048, [], [], []), (2, 1024, [], [], []), (2, 1024, [], [], []), (2, 4096, [], [], []), (2, 1024, [], [], []), (2, 1024, [], [], []), (2, 60, [], [], []), (2, 480, [], [], []), (2, 60, [], [], []), (2, 480, [], [], []), (2, 480, [], [], []), (2, 60, [], [], []), (2, 60, [], [], []), (2, 61, [], [], []), (2, 60, [], [], []), (1, 5, [0, 0, 0, 0, 0, 0, Int32.ofInt 0, 0, 0, 0, 0, 0, 0, Int32.ofInt 0, 0, 0, 0, Int32.ofInt 0, Int32.ofInt 0], [], [43, 48, 49, 50, 51, 52, 15, 53, 54, 55, 56, 57, 58, 15, 59, 60, 61]), (1, 3, [0, 0, 0, 0, Int32.ofInt 0], [], [44, 45, 46, 47]), mWrd, (5, 2058, [], [], []), (2, 1025, [], [], []), (2, 2048, [], [], []), (2, 1024, [], [], []), (2, 1024, [], [], []), (2, 4096, [], [], []), (2, 1024, [], [], []), (2, 1024, [], [], []), (2, 60, [], [], []), (2, 480, [], [], []), (2, 60, [], [], []), (2, 480, [], [], []), (2, 480, [], [], []), (2, 60, [], [], []), (2, 60, [], [], []), (2, 61, [], [], []), (2, 60, [], [], []), (1, 4, [0, 0, Int32.ofInt 0, 0, Int32.ofInt 0], [], [18, 42, 15, 63, 15, 64]), (2, 8, [], [], []), (2, 44, [], [], []), (1, 0, [Int32.ofInt (-1), 0, 0, 0, Int32.ofInt 0], [], [15, 42, 66, 67, 15, 68, 69]), (2, 1024, [], [], []), (2, 1024, [], [], []), (6, 62, [], [], []), (4, 62, [], [], []), (1, 2, [0, 0, 0, 0, Int32.ofInt 0, 0, 0, 0, Int32.ofInt 0, Int32.ofInt 0, Int32.ofInt (-1), Int32.ofInt 0, Int32.ofInt 0, Int32.ofInt 0, Int32.ofInt 0, Int32.ofInt 0], [0, 0, 0, 0, 0, 0, 0, 0, 0, 0, 0, 0, 0, 0, 0, 0, Int64.ofNat 0], [84, 71, 22, 80, 15, 81, 82, 83]), (1, 1, [0, 0, 0, 0, 0, 0, 0, Int32.ofInt 0], [], [72, 73, 74, 75, 76, 77, 78, 15, 79]), (2, 1000, [], [], []), (2, 4000, [], [], []), (2, 1000, [], [], []), (2, 1000, [], [], []), (2, 4096, [], [], []), (2, 1024, [], [], []), (2, 1024, [], [], []), (2, 4, [], [], []), (2, 4, [], [], []), (2, 1024, [], [], []), (2, 1024, [], [], []), (2, 8, [], [], []), (1, 8, [0, 0, 0, 0, 0, 0, 0, 0, 0, Int32.ofInt 0], [], [23, 85, 86, 87, 88, 89, 90, 91, 92, 15, 93]), (2, 4096, [], [], []), (2, 4096, [], [], []), (2, 16384, [], [], []), (2, 4096, [], [], []), (2, 4096, [], [], []), (2, 4096, [], [], []), (2, 4096, [], [], []), (2, 8192, [], [], []), (2, 4, [], [], []), (2, 60, [], [], []), (2, 60, [], [], []), (1, 10, [0, 0, 0, Int32.ofInt 0, Int32.ofInt 0], [], [97, 98, 99, 15, 15, 100]), (2, 1000, [], [], []), (2, 5, [], [], []), (2, 4, [], [], []), (2, 4, [], [], [])]
set_option maxHeartbeats 2000000 in
set_option maxRecDepth 20000 in
theorem ctor10 {L d : Nat} {xs : Nat → Int32} : Wp (d + 0) 109 (0, [some (.ref 96)], [], mT L xs 97 Tc27 105204) (pV (fun μ' => μ' = mT L xs 101 Tc28 106217) noX) := by
  refine b109_0 rfl (Nat.ne_of_beq_eq_false rfl) ?_
  try simp only [mT_n]
  try simp only [mT_n, kN0, kN1, kN2, kN3, kN4, kN5, kN6, kN7, kN8, kN9, kN10, kN11, kN12, kN13, kN14, kN15, kN16, kN17, kN18, kN19, kN20, kN21, kN22, kN23, kN24, kN25, kN26, kN27, kN28, kN29, kN30, kN31, kN32, kN33, kN34, kN35, kN36, kN37, kN38, kN39, kN40, kN41]
  rw [mT_nA, mT_pR]
  refine b109_13 rfl (Nat.ne_of_beq_eq_false rfl) ?_
  try simp only [mT_n]
  try simp only [mT_n, kN0, kN1, kN2, kN3, kN4, kN5, kN6, kN7, kN8, kN9, kN10, kN11, kN12, kN13, kN14, kN15, kN16, kN17, kN18, kN19, kN20, kN21, kN22, kN23, kN24, kN25, kN26, kN27, kN28, kN29, kN30, kN31, kN32, kN33, kN34, kN35, kN36, kN37, kN38, kN39, kN40, kN41]
  rw [mT_nA, mT_pR]
  refine b109_20 rfl (Nat.ne_of_beq_eq_false rfl) ?_
  try simp only [mT_n]
  try simp only [mT_n, kN0, kN1, kN2, kN3, kN4, kN5, kN6, kN7, kN8, kN9, kN10, kN11, kN12, kN13, kN14, kN15, kN16, kN17, kN18, kN19, kN20, kN21, kN22, kN23, kN24, kN25, kN26, kN27, kN28, kN29, kN30, kN31, kN32, kN33, kN34, kN35, kN36, kN37, kN38, kN39, kN40, kN41]
  rw [mT_nA, mT_pR]
  refine b109_27 rfl rfl ?_
  try simp only [mT_n]
  try simp only [mT_n, kN0, kN1, kN2, kN3, kN4, kN5, kN6, kN7, kN8, kN9, kN10, kN11, kN12, kN13, kN14, kN15, kN16, kN17, kN18, kN19, kN20, kN21, kN22, kN23, kN24, kN25, kN26, kN27, kN28, kN29, kN30, kN31, kN32, kN33, kN34, kN35, kN36, kN37, kN38, kN39, kN40, kN41]
  rw [mT_pA, mT_pA, mT_nA]
  refine b109_41 rfl (Nat.ne_of_beq_eq_false rfl) ?_
  show _ = mT L xs 101 Tc28 106217
  try simp only [mT_n]
  try simp only [mT_n, kN0, kN1, kN2, kN3, kN4, kN5, kN6, kN7, kN8, kN9, kN10, kN11, kN12, kN13, kN14, kN15, kN16, kN17, kN18, kN19, kN20, kN21, kN22, kN23, kN24, kN25, kN26, kN27, kN28, kN29, kN30, kN31, kN32, kN33, kN34, kN35, kN36, kN37, kN38, kN39, kN40, kN41]
  rw [mT_pR]
  all_goals first | rfl | decide | exact ⟨_, rfl⟩
def Tc29 : List mC := [(1, 11, [0, Int32.ofInt 0, Int32.ofInt (-1), 0, 0, 0, Int32.ofInt 0, 0, 0, 0, 0, 0, Int32.ofInt (-1), 0, Int32.ofInt 0], [], [17, 15, 15, 18, 22, 42, 15, 62, 65, 70, 94, 95, 15, 96]), (5, 2000, [], [], []), (1, 9, [0, 0, 0, Int32.ofInt 0, 0, Int32.ofInt 0], [], [19, 20, 21, 15, 17]), (2, 2001, [], [], []), (2, 2001, [], [], []), (2, 2001, [], [], []), (1, 5, [0, 0, 0, 0, 0, 0, Int32.ofInt 0, 0, 0, 0, 0, 0, 0, Int32.ofInt 0, 0, 0, 0, Int32.ofInt 0, Int32.ofInt 0], [], [23, 28, 29, 30, 31, 32, 15, 33, 34, 35, 36, 37, 38, 15, 39, 40, 41]), (1, 3, [0, 0, 0, 0, Int32.ofInt 0], [], [24, 25, 26, 27]), mWrd, (5, 2058, [], [], []), (2, 1025, [], [], []), (2, 2048, [], [], []), (2, 1024, [], [], []), (2, 1024, [], [], []), (2, 4096, [], [], []), (2, 1024, [], [], []), (2, 1024, [], [], []), (2, 60, [], [], []), (2, 480, [], [], []), (2, 60, [], [], []), (2, 480, [], [], []), (2, 480, [], [], []), (2, 60, [], [], []), (2, 60, [], [], []), (2, 61, [], [], []), (2, 60, [], [], []), (1, 5, [0, 0, 0, 0, 0, 0, Int32.ofInt 0, 0, 0, 0, 0, 0, 0, Int32.ofInt 0, 0, 0, 0, Int32.ofInt 0, Int32.ofInt 0], [], [43, 48, 49, 50, 51, 52, 15, 53, 54, 55, 56, 57, 58, 15, 59, 60, 61]), (1, 3, [0, 0, 0, 0, Int32.ofInt 0], [], [44, 45, 46, 47]), mWrd, (5, 2058, [], [], []), (2, 1025, [], [], []), (2, 2048, [], [], []), (2, 1024, [], [], []), (2, 1024, [], [], []), (2, 4096, [], [], []), (2, 1024, [], [], []), (2, 1024, [], [], []), (2, 60, [], [], []), (2, 480, [], [], []), (2, 60, [], [], []), (2, 480, [], [], []), (2, 480, [], [], []), (2, 60, [], [], []), (2, 60, [], [], []), (2, 61, [], [], []), (2, 60, [], [], []), (1, 4, [0, 0, Int32.ofInt 0, 0, Int32.ofInt 0], [], [18, 42, 15, 63, 15, 64]), (2, 8, [], [], []), (2, 44, [], [], []), (1, 0, [Int32.ofInt (-1), 0, 0, 0, Int32.ofInt 0], [], [15, 42, 66, 67, 15, 68, 69]), (2, 1024, [], [], []), (2, 1024, [], [], []), (6, 62, [], [], []), (4, 62, [], [], []), (1, 2, [0, 0, 0, 0, Int32.ofInt 0, 0, 0, 0, Int32.ofInt 0, Int32.ofInt 0, Int32.ofInt (-1), Int32.ofInt 0, Int32.ofInt 0, Int32.ofInt 0, Int32.ofInt 0, Int32.ofInt 0], [0, 0, 0, 0, 0, 0, 0, 0, 0, 0, 0, 0, 0, 0, 0, 0, Int64.ofNat 0], [84, 71, 22, 80, 15, 81, 82, 83]), (1, 1, [0, 0, 0, 0, 0, 0, 0, Int32.ofInt 0], [], [72, 73, 74, 75, 76, 77, 78, 15, 79]), (2, 1000, [], [], []), (2, 4000, [], [], []), (2, 1000, [], [], []), (2, 1000, [], [], []), (2, 4096, [], [], []), (2, 1024, [], [], []), (2, 1024, [], [], []), (2, 4, [], [], []), (2, 4, [], [], []), (2, 1024, [], [], []), (2, 1024, [], [], []), (2, 8, [], [], []), (1, 8, [0, 0, 0, 0, 0, 0, 0, 0, 0, Int32.ofInt 0], [], [23, 85, 86, 87, 88, 89, 90, 91, 92, 15, 93]), (2, 4096, [], [], []), (2, 4096, [], [], []), (2, 16384, [], [], []), (2, 4096, [], [], []), (2, 4096, [], [], []), (2, 4096, [], [], []), (2, 4096, [], [], []), (2, 8192, [], [], []), (2, 4, [], [], []), (2, 60, [], [], []), (2, 60, [], [], []), (1, 10, [0, 0, 0, Int32.ofInt 0, Int32.ofInt 0], [], [97, 98, 99, 15, 15, 100]), (2, 1000, [], [], []), (2, 5, [], [], []), (2, 4, [], [], []), (2, 4, [], [], []), (1, 10, [], [], [])]
def Tc30 : List mC := [(1, 11, [0, Int32.ofInt 0, Int32.ofInt (-1), 0, 0, 0, Int32.ofInt 0, 0, 0, 0, 0, 0, Int32.ofInt (-1), 0, Int32.ofInt 0], [], [17, 15, 15, 18, 22, 42, 15, 62, 65, 70, 94, 95, 15, 96]), (5, 2000, [], [], []), (1, 9, [0, 0, 0, Int32.ofInt 0, 0, Int32.ofInt 0], [], [19, 20, 21, 15, 17]), (2, 2001, [], [], []), (2, 2001, [], [], []), (2, 2001, [], [], []), (1, 5, [0, 0, 0, 0, 0, 0, Int32.ofInt 0, 0, 0, 0, 0, 0, 0, Int32.ofInt 0, 0, 0, 0, Int32.ofInt 0, Int32.ofInt 0], [], [23, 28, 29, 30, 31, 32, 15, 33, 34, 35, 36, 37, 38, 15, 39, 40, 41]), (1, 3, [0, 0, 0, 0, Int32.ofInt 0], [], [24, 25, 26, 27]), mWrd, (5, 2058, [], [], []), (2, 1025, [], [], []), (2, 2048, [], [], []), (2, 1024, [], [], []), (2, 1024, [], [], []), (2, 4096, [], [], []), (2, 1024, [], [], []), (2, 1024, [], [], []), (2, 60, [], [], []), (2, 480, [], [], []), (2, 60, [], [], []), (2, 480, [], [], []), (2, 480, [], [], []), (2, 60, [], [], []), (2, 60, [], [], []), (2, 61, [], [], []), (2, 60, [], [], []), (1, 5, [0, 0, 0, 0, 0, 0, Int32.ofInt 0, 0, 0, 0, 0, 0, 0, Int32.ofInt 0, 0, 0, 0, Int32.ofInt 0, Int32.ofInt 0], [], [43, 48, 49, 50, 51, 52, 15, 53, 54, 55, 56, 57, 58, 15, 59, 60, 61]), (1, 3, [0, 0, 0, 0, Int32.ofInt 0], [], [44, 45, 46, 47]), mWrd, (5, 2058, [], [], []), (2, 1025, [], [], []), (2, 2048, [], [], []), (2, 1024, [], [], []), (2, 1024, [], [], []), (2, 4096, [], [], []), (2, 1024, [], [], []), (2, 1024, [], [], []), (2, 60, [], [], []), (2, 480, [], [], []), (2, 60, [], [], []), (2, 480, [], [], []), (2, 480, [], [], []), (2, 60, [], [], []), (2, 60, [], [], []), (2, 61, [], [], []), (2, 60, [], [], []), (1, 4, [0, 0, Int32.ofInt 0, 0, Int32.ofInt 0], [], [18, 42, 15, 63, 15, 64]), (2, 8, [], [], []), (2, 44, [], [], []), (1, 0, [Int32.ofInt (-1), 0, 0, 0, Int32.ofInt 0], [], [15, 42, 66, 67, 15, 68, 69]), (2, 1024, [], [], []), (2, 1024, [], [], []), (6, 62, [], [], []), (4, 62, [], [], []), (1, 2, [0, 0, 0, 0, Int32.ofInt 0, 0, 0, 0, Int32.ofInt 0, Int32.ofInt 0, Int32.ofInt (-1), Int32.ofInt 0, Int32.ofInt 0, Int32.ofInt 0, Int32.ofInt 0, Int32.ofInt 0], [0, 0, 0, 0, 0, 0, 0, 0, 0, 0, 0, 0, 0, 0, 0, 0, Int64.ofNat 0], [84, 71, 22, 80, 15, 81, 82, 83]), (1, 1, [0, 0, 0, 0, 0, 0, 0, Int32.ofInt 0], [], [72, 73, 74, 75, 76, 77, 78, 15, 79]), (2, 1000, [], [], []), (2, 4000, [], [], []), (2, 1000, [], [], []), (2, 1000, [], [], []), (2, 4096, [], [], []), (2, 1024, [], [], []), (2, 1024, [], [], []), (2, 4, [], [], []), (2, 4, [], [], []), (2, 1024, [], [], []), (2, 1024, [], [], []), (2, 8, [], [], []), (1, 8, [0, 0, 0, 0, 0, 0, 0, 0, 0, Int32.ofInt 0], [], [23, 85, 86, 87, 88, 89, 90, 91, 92, 15, 93]), (2, 4096, [], [], []), (2, 4096, [], [], []), (2, 16384, [], [], []), (2, 4096, [], [], []), (2, 4096, [], [], []), (2, 4096, [], [], []), (2, 4096, [], [], []), (2, 8192, [], [], []), (2, 4, [], [], []), (2, 60, [], [], []), (2, 60, [], [], []), (1, 10, [0, 0, 0, Int32.ofInt 0, Int32.ofInt 0], [], [97, 98, 99, 15, 15, 100]), (2, 1000, [], [], []), (2, 5, [], [], []), (2, 4, [], [], []), (2, 4, [], [], []), (1, 10, [0, 0, 0, Int32.ofInt 0, Int32.ofInt 0], [], [102, 103, 104, 15, 15, 105]), (2, 1000, [], [], []), (2, 5, [], [], []), (2, 4, [], [], []), (2, 4, [], [], [])]
set_option maxHeartbeats 2000000 in
set_option maxRecDepth 20000 in
theorem ctor11 {L d : Nat} {xs : Nat → Int32} : Wp (d + 0) 109 (0, [some (.ref 101)], [], mT L xs 102 Tc29 106223) (pV (fun μ' => μ' = mT L xs 106 Tc30 107236) noX) := by
  refine b109_0 rfl (Nat.ne_of_beq_eq_false rfl) ?_
  try simp only [mT_n]
  try simp only [mT_n, kN0, kN1, kN2, kN3, kN4, kN5, kN6, kN7, kN8, kN9, kN10, kN11, kN12, kN13, kN14, kN15, kN16, kN17, kN18, kN19, kN20, kN21, kN22, kN23, kN24, kN25, kN26, kN27, kN28, kN29, kN30, kN31, kN32, kN33, kN34, kN35, kN36, kN37, kN38, kN39, kN40, kN41]
  rw [mT_nA, mT_pR]
  refine b109_13 rfl (Nat.ne_of_beq_eq_false rfl) ?_
  try simp only [mT_n]
  try simp only [mT_n, kN0, kN1, kN2, kN3, kN4, kN5, kN6, kN7, kN8, kN9, kN10, kN11, kN12, kN13, kN14, kN15, kN16, kN17, kN18, kN19, kN20, kN21, kN22, kN23, kN24, kN25, kN26, kN27, kN28, kN29, kN30, kN31, kN32, kN33, kN34, kN35, kN36, kN37, kN38, kN39, kN40, kN41]
  rw [mT_nA, mT_pR]
  refine b109_20 rfl (Nat.ne_of_beq_eq_false rfl) ?_
  try simp only [mT_n]
  try simp only [mT_n, kN0, kN1, kN2, kN3, kN4, kN5, kN6, kN7, kN8, kN9, kN10, kN11, kN12, kN13, kN14, kN15, kN16, kN17, kN18, kN19, kN20, kN21, kN22, kN23, kN24, kN25, kN26, kN27, kN28, kN29, kN30, kN31, kN32, kN33, kN34, kN35, kN36, kN37, kN38, kN39, kN40, kN41]
  rw [mT_nA, mT_pR]
  refine b109_27 rfl rfl ?_
  try simp only [mT_n]
  try simp only [mT_n, kN0, kN1, kN2, kN3, kN4, kN5, kN6, kN7, kN8, kN9, kN10, kN11, kN12, kN13, kN14, kN15, kN16, kN17, kN18, kN19, kN20, kN21, kN22, kN23, kN24, kN25, kN26, kN27, kN28, kN29, kN30, kN31, kN32, kN33, kN34, kN35, kN36, kN37, kN38, kN39, kN40, kN41]
  rw [mT_pA, mT_pA, mT_nA]
  refine b109_41 rfl (Nat.ne_of_beq_eq_false rfl) ?_
  show _ = mT L xs 106 Tc30 107236
  try simp only [mT_n]
  try simp only [mT_n, kN0, kN1, kN2, kN3, kN4, kN5, kN6, kN7, kN8, kN9, kN10, kN11, kN12, kN13, kN14, kN15, kN16, kN17, kN18, kN19, kN20, kN21, kN22, kN23, kN24, kN25, kN26, kN27, kN28, kN29, kN30, kN31, kN32, kN33, kN34, kN35, kN36, kN37, kN38, kN39, kN40, kN41]
  rw [mT_pR]
  all_goals first | rfl | decide | exact ⟨_, rfl⟩
def Tc31 : List mC := [(1, 11, [0, Int32.ofInt 0, Int32.ofInt (-1), 0, 0, 0, Int32.ofInt 0, 0, 0, 0, 0, 0, Int32.ofInt (-1), 0, Int32.ofInt 0], [], [17, 15, 15, 18, 22, 42, 15, 62, 65, 70, 94, 95, 15, 96, 15, 101]), (5, 2000, [], [], []), (1, 9, [0, 0, 0, Int32.ofInt 0, 0, Int32.ofInt 0], [], [19, 20, 21, 15, 17]), (2, 2001, [], [], []), (2, 2001, [], [], []), (2, 2001, [], [], []), (1, 5, [0, 0, 0, 0, 0, 0, Int32.ofInt 0, 0, 0, 0, 0, 0, 0, Int32.ofInt 0, 0, 0, 0, Int32.ofInt 0, Int32.ofInt 0], [], [23, 28, 29, 30, 31, 32, 15, 33, 34, 35, 36, 37, 38, 15, 39, 40, 41]), (1, 3, [0, 0, 0, 0, Int32.ofInt 0], [], [24, 25, 26, 27]), mWrd, (5, 2058, [], [], []), (2, 1025, [], [], []), (2, 2048, [], [], []), (2, 1024, [], [], []), (2, 1024, [], [], []), (2, 4096, [], [], []), (2, 1024, [], [], []), (2, 1024, [], [], []), (2, 60, [], [], []), (2, 480, [], [], []), (2, 60, [], [], []), (2, 480, [], [], []), (2, 480, [], [], []), (2, 60, [], [], []), (2, 60, [], [], []), (2, 61, [], [], []), (2, 60, [], [], []), (1, 5, [0, 0, 0, 0, 0, 0, Int32.ofInt 0, 0, 0, 0, 0, 0, 0, Int32.ofInt 0, 0, 0, 0, Int32.ofInt 0, Int32.ofInt 0], [], [43, 48, 49, 50, 51, 52, 15, 53, 54, 55, 56, 57, 58, 15, 59, 60, 61]), (1, 3, [0, 0, 0, 0, Int32.ofInt 0], [], [44, 45, 46, 47]), mWrd, (5, 2058, [], [], []), (2, 1025, [], [], []), (2, 2048, [], [], []), (2, 1024, [], [], []), (2, 1024, [], [], []), (2, 4096, [], [], []), (2, 1024, [], [], []), (2, 1024, [], [], []), (2, 60, [], [], []), (2, 480, [], [], []), (2, 60, [], [], []), (2, 480, [], [], []), (2, 480, [], [], []), (2, 60, [], [], []), (2, 60, [], [], []), (2, 61, [], [], []), (2, 60, [], [], []), (1, 4, [0, 0, Int32.ofInt 0, 0, Int32.ofInt 0], [], [18, 42, 15, 63, 15, 64]), (2, 8, [], [], []), (2, 44, [], [], []), (1, 0, [Int32.ofInt (-1), 0, 0, 0, Int32.ofInt 0], [], [15, 42, 66, 67, 15, 68, 69]), (2, 1024, [], [], []), (2, 1024, [], [], []), (6, 62, [], [], []), (4, 62, [], [], []), (1, 2, [0, 0, 0, 0, Int32.ofInt 0, 0, 0, 0, Int32.ofInt 0, Int32.ofInt 0, Int32.ofInt (-1), Int32.ofInt 0, Int32.ofInt 0, Int32.ofInt 0, Int32.ofInt 0, Int32.ofInt 0], [0, 0, 0, 0, 0, 0, 0, 0, 0, 0, 0, 0, 0, 0, 0, 0, Int64.ofNat 0], [84, 71, 22, 80, 15, 81, 82, 83]), (1, 1, [0, 0, 0, 0, 0, 0, 0, Int32.ofInt 0], [], [72, 73, 74, 75, 76, 77, 78, 15, 79]), (2, 1000, [], [], []), (2, 4000, [], [], []), (2, 1000, [], [], []), (2, 1000, [], [], []), (2, 4096, [], [], []), (2, 1024, [], [], []), (2, 1024, [], [], []), (2, 4, [], [], []), (2, 4, [], [], []), (2, 1024, [], [], []), (2, 1024, [], [], []), (2, 8, [], [], []), (1, 8, [0, 0, 0, 0, 0, 0, 0, 0, 0, Int32.ofInt 0], [], [23, 85, 86, 87, 88, 89, 90, 91, 92, 15, 93]), (2, 4096, [], [], []), (2, 4096, [], [], []), (2, 16384, [], [], []), (2, 4096, [], [], []), (2, 4096, [], [], []), (2, 4096, [], [], []), (2, 4096, [], [], []), (2, 8192, [], [], []), (2, 4, [], [], []), (2, 60, [], [], []), (2, 60, [], [], []), (1, 10, [0, 0, 0, Int32.ofInt 0, Int32.ofInt 0], [], [97, 98, 99, 15, 15, 100]), (2, 1000, [], [], []), (2, 5, [], [], []), (2, 4, [], [], []), (2, 4, [], [], []), (1, 10, [0, 0, 0, Int32.ofInt 0, Int32.ofInt 0], [], [102, 103, 104, 15, 15, 105]), (2, 1000, [], [], []), (2, 5, [], [], []), (2, 4, [], [], []), (2, 4, [], [], []), (1, 6, [], [], [])]
def Tc32 : List mC := [(1, 11, [0, Int32.ofInt 0, Int32.ofInt (-1), 0, 0, 0, Int32.ofInt 0, 0, 0, 0, 0, 0, Int32.ofInt (-1), 0, Int32.ofInt 0], [], [17, 15, 15, 18, 22, 42, 15, 62, 65, 70, 94, 95, 15, 96, 15, 101]), (5, 2000, [], [], []), (1, 9, [0, 0, 0, Int32.ofInt 0, 0, Int32.ofInt 0], [], [19, 20, 21, 15, 17]), (2, 2001, [], [], []), (2, 2001, [], [], []), (2, 2001, [], [], []), (1, 5, [0, 0, 0, 0, 0, 0, Int32.ofInt 0, 0, 0, 0, 0, 0, 0, Int32.ofInt 0, 0, 0, 0, Int32.ofInt 0, Int32.ofInt 0], [], [23, 28, 29, 30, 31, 32, 15, 33, 34, 35, 36, 37, 38, 15, 39, 40, 41]), (1, 3, [0, 0, 0, 0, Int32.ofInt 0], [], [24, 25, 26, 27]), mWrd, (5, 2058, [], [], []), (2, 1025, [], [], []), (2, 2048, [], [], []), (2, 1024, [], [], []), (2, 1024, [], [], []), (2, 4096, [], [], []), (2, 1024, [], [], []), (2, 1024, [], [], []), (2, 60, [], [], []), (2, 480, [], [], []), (2, 60, [], [], []), (2, 480, [], [], []), (2, 480, [], [], []), (2, 60, [], [], []), (2, 60, [], [], []), (2, 61, [], [], []), (2, 60, [], [], []), (1, 5, [0, 0, 0, 0, 0, 0, Int32.ofInt 0, 0, 0, 0, 0, 0, 0, Int32.ofInt 0, 0, 0, 0, Int32.ofInt 0, Int32.ofInt 0], [], [43, 48, 49, 50, 51, 52, 15, 53, 54, 55, 56, 57, 58, 15, 59, 60, 61]), (1, 3, [0, 0, 0, 0, Int32.ofInt 0], [], [44, 45, 46, 47]), mWrd, (5, 2058, [], [], []), (2, 1025, [], [], []), (2, 2048, [], [], []), (2, 1024, [], [], []), (2, 1024, [], [], []), (2, 4096, [], [], []), (2, 1024, [], [], []), (2, 1024, [], [], []), (2, 60, [], [], []), (2, 480, [], [], []), (2, 60, [], [], []), (2, 480, [], [], []), (2, 480, [], [], []), (2, 60, [], [], []), (2, 60, [], [], []), (2, 61, [], [], []), (2, 60, [], [], []), (1, 4, [0, 0, Int32.ofInt 0, 0, Int32.ofInt 0], [], [18, 42, 15, 63, 15, 64]), (2, 8, [], [], []), (2, 44, [], [], []), (1, 0, [Int32.ofInt (-1), 0, 0, 0, Int32.ofInt 0], [], [15, 42, 66, 67, 15, 68, 69]), (2, 1024, [], [], []), (2, 1024, [], [], []), (6, 62, [], [], []), (4, 62, [], [], []), (1, 2, [0, 0, 0, 0, Int32.ofInt 0, 0, 0, 0, Int32.ofInt 0, Int32.ofInt 0, Int32.ofInt (-1), Int32.ofInt 0, Int32.ofInt 0, Int32.ofInt 0, Int32.ofInt 0, Int32.ofInt 0], [0, 0, 0, 0, 0, 0, 0, 0, 0, 0, 0, 0, 0, 0, 0, 0, Int64.ofNat 0], [84, 71, 22, 80, 15, 81, 82, 83]), (1, 1, [0, 0, 0, 0, 0, 0, 0, Int32.ofInt 0], [], [72, 73, 74, 75, 76, 77, 78, 15, 79]), (2, 1000, [], [], []), (2, 4000, [], [], []), (2, 1000, [], [], []), (2, 1000, [], [], []), (2, 4096, [], [], []), (2, 1024, [], [], []), (2, 1024, [], [], []), (2, 4, [], [], []), (2, 4, [], [], []), (2, 1024, [], [], []), (2, 1024, [], [], []), (2, 8, [], [], []), (1, 8, [0, 0, 0, 0, 0, 0, 0, 0, 0, Int32.ofInt 0], [], [23, 85, 86, 87, 88, 89, 90, 91, 92, 15, 93]), (2, 4096, [], [], []), (2, 4096, [], [], []), (2, 16384, [], [], []), (2, 4096, [], [], []), (2, 4096, [], [], []), (2, 4096, [], [], []), (2, 4096, [], [], []), (2, 8192, [], [], []), (2, 4, [], [], []), (2, 60, [], [], []), (2, 60, [], [], []), (1, 10, [0, 0, 0, Int32.ofInt 0, Int32.ofInt 0], [], [97, 98, 99, 15, 15, 100]), (2, 1000, [], [], []), (2, 5, [], [], []), (2, 4, [], [], []), (2, 4, [], [], []), (1, 10, [0, 0, 0, Int32.ofInt 0, Int32.ofInt 0], [], [102, 103, 104, 15, 15, 105]), (2, 1000, [], [], []), (2, 5, [], [], []), (2, 4, [], [], []), (2, 4, [], [], []), (1, 6, [Int32.ofInt 0, Int32.ofInt 0], [], []), (1, 7, [], [], [])]
def Tc33 : List mC := [(1, 11, [0, Int32.ofInt 0, Int32.ofInt (-1), 0, 0, 0, Int32.ofInt 0, 0, 0, 0, 0, 0, Int32.ofInt (-1), 0, Int32.ofInt 0], [], [17, 15, 15, 18, 22, 42, 15, 62, 65, 70, 94, 95, 15, 96, 15, 101]), (5, 2000, [], [], []), (1, 9, [0, 0, 0, Int32.ofInt 0, 0, Int32.ofInt 0], [], [19, 20, 21, 15, 17]), (2, 2001, [], [], []), (2, 2001, [], [], []), (2, 2001, [], [], []), (1, 5, [0, 0, 0, 0, 0, 0, Int32.ofInt 0, 0, 0, 0, 0, 0, 0, Int32.ofInt 0, 0, 0, 0, Int32.ofInt 0, Int32.ofInt 0], [], [23, 28, 29, 30, 31, 32, 15, 33, 34, 35, 36, 37, 38, 15, 39, 40, 41]), (1, 3, [0, 0, 0, 0, Int32.ofInt 0], [], [24, 25, 26, 27]), mWrd, (5, 2058, [], [], []), (2, 1025, [], [], []), (2, 2048, [], [], []), (2, 1024, [], [], []), (2, 1024, [], [], []), (2, 4096, [], [], []), (2, 1024, [], [], []), (2, 1024, [], [], []), (2, 60, [], [], []), (2, 480, [], [], []), (2, 60, [], [], []), (2, 480, [], [], []), (2, 480, [], [], []), (2, 60, [], [], []), (2, 60, [], [], []), (2, 61, [], [], []), (2, 60, [], [], []), (1, 5, [0, 0, 0, 0, 0, 0, Int32.ofInt 0, 0, 0, 0, 0, 0, 0, Int32.ofInt 0, 0, 0, 0, Int32.ofInt 0, Int32.ofInt 0], [], [43, 48, 49, 50, 51, 52, 15, 53, 54, 55, 56, 57, 58, 15, 59, 60, 61]), (1, 3, [0, 0, 0, 0, Int32.ofInt 0], [], [44, 45, 46, 47]), mWrd, (5, 2058, [], [], []), (2, 1025, [], [], []), (2, 2048, [], [], []), (2, 1024, [], [], []), (2, 1024, [], [], []), (2, 4096, [], [], []), (2, 1024, [], [], []), (2, 1024, [], [], []), (2, 60, [], [], []), (2, 480, [], [], []), (2, 60, [], [], []), (2, 480, [], [], []), (2, 480, [], [], []), (2, 60, [], [], []), (2, 60, [], [], []), (2, 61, [], [], []), (2, 60, [], [], []), (1, 4, [0, 0, Int32.ofInt 0, 0, Int32.ofInt 0], [], [18, 42, 15, 63, 15, 64]), (2, 8, [], [], []), (2, 44, [], [], []), (1, 0, [Int32.ofInt (-1), 0, 0, 0, Int32.ofInt 0], [], [15, 42, 66, 67, 15, 68, 69]), (2, 1024, [], [], []), (2, 1024, [], [], []), (6, 62, [], [], []), (4, 62, [], [], []), (1, 2, [0, 0, 0, 0, Int32.ofInt 0, 0, 0, 0, Int32.ofInt 0, Int32.ofInt 0, Int32.ofInt (-1), Int32.ofInt 0, Int32.ofInt 0, Int32.ofInt 0, Int32.ofInt 0, Int32.ofInt 0], [0, 0, 0, 0, 0, 0, 0, 0, 0, 0, 0, 0, 0, 0, 0, 0, Int64.ofNat 0], [84, 71, 22, 80, 15, 81, 82, 83]), (1, 1, [0, 0, 0, 0, 0, 0, 0, Int32.ofInt 0], [], [72, 73, 74, 75, 76, 77, 78, 15, 79]), (2, 1000, [], [], []), (2, 4000, [], [], []), (2, 1000, [], [], []), (2, 1000, [], [], []), (2, 4096, [], [], []), (2, 1024, [], [], []), (2, 1024, [], [], []), (2, 4, [], [], []), (2, 4, [], [], []), (2, 1024, [], [], []), (2, 1024, [], [], []), (2, 8, [], [], []), (1, 8, [0, 0, 0, 0, 0, 0, 0, 0, 0, Int32.ofInt 0], [], [23, 85, 86, 87, 88, 89, 90, 91, 92, 15, 93]), (2, 4096, [], [], []), (2, 4096, [], [], []), (2, 16384, [], [], []), (2, 4096, [], [], []), (2, 4096, [], [], []), (2, 4096, [], [], []), (2, 4096, [], [], []), (2, 8192, [], [], []), (2, 4, [], [], []), (2, 60, [], [], []), (2, 60, [], [], []), (1, 10, [0, 0, 0, Int32.ofInt 0, Int32.ofInt 0], [], [97, 98, 99, 15, 15, 100]), (2, 1000, [], [], []), (2, 5, [], [], []), (2, 4, [], [], []), (2, 4, [], [], []), (1, 10, [0, 0, 0, Int32.ofInt 0, Int32.ofInt 0], [], [102, 103, 104, 15, 15, 105]), (2, 1000, [], [], []), (2, 5, [], [], []), (2, 4, [], [], []), (2, 4, [], [], []), (1, 6, [Int32.ofInt 0, Int32.ofInt 0], [], []), (1, 7, [0, 0, 0, Int32.ofInt 0], [], [108, 109, 110, 15, 111, 112]), (7, 9120, [], [], []), (2, 302, [], [], []), (2, 301, [], [], []), (2, 79, [], [], []), (2, 19, [], [], [])]
set_option maxHeartbeats 2000000 in
set_option maxRecDepth 20000 in
theorem ctor12 {L d : Nat} {xs : Nat → Int32} : Wp (d + 0) 82 (0, [some (.ref 107)], [], mT L xs 108 Tc32 107259) (pV (fun μ' => μ' = mT L xs 113 Tc33 117080) noX) := by
  refine b82_0 rfl (Nat.ne_of_beq_eq_false rfl) ?_
  try simp only [mT_n]
  try simp only [mT_n, kN0, kN1, kN2, kN3, kN4, kN5, kN6, kN7, kN8, kN9, kN10, kN11, kN12, kN13, kN14, kN15, kN16, kN17, kN18, kN19, kN20, kN21, kN22, kN23, kN24, kN25, kN26, kN27, kN28, kN29, kN30, kN31, kN32, kN33, kN34, kN35, kN36, kN37, kN38, kN39, kN40, kN41]
  rw [mT_nA, mT_pR]
  refine b82_13 rfl (Nat.ne_of_beq_eq_false rfl) ?_
  try simp only [mT_n]
  try simp only [mT_n, kN0, kN1, kN2, kN3, kN4, kN5, kN6, kN7, kN8, kN9, kN10, kN11, kN12, kN13, kN14, kN15, kN16, kN17, kN18, kN19, kN20, kN21, kN22, kN23, kN24, kN25, kN26, kN27, kN28, kN29, kN30, kN31, kN32, kN33, kN34, kN35, kN36, kN37, kN38, kN39, kN40, kN41]
  rw [mT_nA, mT_pR]
  refine b82_22 rfl (Nat.ne_of_beq_eq_false rfl) ?_
  try simp only [mT_n]
  try simp only [mT_n, kN0, kN1, kN2, kN3, kN4, kN5, kN6, kN7, kN8, kN9, kN10, kN11, kN12, kN13, kN14, kN15, kN16, kN17, kN18, kN19, kN20, kN21, kN22, kN23, kN24, kN25, kN26, kN27, kN28, kN29, kN30, kN31, kN32, kN33, kN34, kN35, kN36, kN37, kN38, kN39, kN40, kN41]
  rw [mT_nA, mT_pR]
  refine b82_31 rfl rfl (Nat.ne_of_beq_eq_false rfl) ?_
  try simp only [mT_n]
  try simp only [mT_n, kN0, kN1, kN2, kN3, kN4, kN5, kN6, kN7, kN8, kN9, kN10, kN11, kN12, kN13, kN14, kN15, kN16, kN17, kN18, kN19, kN20, kN21, kN22, kN23, kN24, kN25, kN26, kN27, kN28, kN29, kN30, kN31, kN32, kN33, kN34, kN35, kN36, kN37, kN38, kN39, kN40, kN41]
  rw [mT_pA, mT_nA, mT_pR]
  refine b82_44 rfl (Nat.ne_of_beq_eq_false rfl) ?_
  try simp only [mT_n]
  try simp only [mT_n, kN0, kN1, kN2, kN3, kN4, kN5, kN6, kN7, kN8, kN9, kN10, kN11, kN12, kN13, kN14, kN15, kN16, kN17, kN18, kN19, kN20, kN21, kN22, kN23, kN24, kN25, kN26, kN27, kN28, kN29, kN30, kN31, kN32, kN33, kN34, kN35, kN36, kN37, kN38, kN39, kN40, kN41]
  rw [mT_nA, mT_pR]
  refine b82_52 ?_
  show _ = mT L xs 113 Tc33 117080
  all_goals first | rfl | decide | exact ⟨_, rfl⟩
def Tc34 : List mC := [(1, 11, [0, Int32.ofInt 0, Int32.ofInt (-1), 0, 0, 0, Int32.ofInt 0, 0, 0, 0, 0, 0, Int32.ofInt (-1), 0, Int32.ofInt 0], [], [17, 15, 15, 18, 22, 42, 15, 62, 65, 70, 94, 95, 15, 96, 15, 101]), (5, 2000, [], [], []), (1, 9, [0, 0, 0, Int32.ofInt 0, 0, Int32.ofInt 0], [], [19, 20, 21, 15, 17]), (2, 2001, [], [], []), (2, 2001, [], [], []), (2, 2001, [], [], []), (1, 5, [0, 0, 0, 0, 0, 0, Int32.ofInt 0, 0, 0, 0, 0, 0, 0, Int32.ofInt 0, 0, 0, 0, Int32.ofInt 0, Int32.ofInt 0], [], [23, 28, 29, 30, 31, 32, 15, 33, 34, 35, 36, 37, 38, 15, 39, 40, 41]), (1, 3, [0, 0, 0, 0, Int32.ofInt 0], [], [24, 25, 26, 27]), mWrd, (5, 2058, [], [], []), (2, 1025, [], [], []), (2, 2048, [], [], []), (2, 1024, [], [], []), (2, 1024, [], [], []), (2, 4096, [], [], []), (2, 1024, [], [], []), (2, 1024, [], [], []), (2, 60, [], [], []), (2, 480, [], [], []), (2, 60, [], [], []), (2, 480, [], [], []), (2, 480, [], [], []), (2, 60, [], [], []), (2, 60, [], [], []), (2, 61, [], [], []), (2, 60, [], [], []), (1, 5, [0, 0, 0, 0, 0, 0, Int32.ofInt 0, 0, 0, 0, 0, 0, 0, Int32.ofInt 0, 0, 0, 0, Int32.ofInt 0, Int32.ofInt 0], [], [43, 48, 49, 50, 51, 52, 15, 53, 54, 55, 56, 57, 58, 15, 59, 60, 61]), (1, 3, [0, 0, 0, 0, Int32.ofInt 0], [], [44, 45, 46, 47]), mWrd, (5, 2058, [], [], []), (2, 1025, [], [], []), (2, 2048, [], [], []), (2, 1024, [], [], []), (2, 1024, [], [], []), (2, 4096, [], [], []), (2, 1024, [], [], []), (2, 1024, [], [], []), (2, 60, [], [], []), (2, 480, [], [], []), (2, 60, [], [], []), (2, 480, [], [], []), (2, 480, [], [], []), (2, 60, [], [], []), (2, 60, [], [], []), (2, 61, [], [], []), (2, 60, [], [], []), (1, 4, [0, 0, Int32.ofInt 0, 0, Int32.ofInt 0], [], [18, 42, 15, 63, 15, 64]), (2, 8, [], [], []), (2, 44, [], [], []), (1, 0, [Int32.ofInt (-1), 0, 0, 0, Int32.ofInt 0], [], [15, 42, 66, 67, 15, 68, 69]), (2, 1024, [], [], []), (2, 1024, [], [], []), (6, 62, [], [], []), (4, 62, [], [], []), (1, 2, [0, 0, 0, 0, Int32.ofInt 0, 0, 0, 0, Int32.ofInt 0, Int32.ofInt 0, Int32.ofInt (-1), Int32.ofInt 0, Int32.ofInt 0, Int32.ofInt 0, Int32.ofInt 0, Int32.ofInt 0], [0, 0, 0, 0, 0, 0, 0, 0, 0, 0, 0, 0, 0, 0, 0, 0, Int64.ofNat 0], [84, 71, 22, 80, 15, 81, 82, 83]), (1, 1, [0, 0, 0, 0, 0, 0, 0, Int32.ofInt 0], [], [72, 73, 74, 75, 76, 77, 78, 15, 79]), (2, 1000, [], [], []), (2, 4000, [], [], []), (2, 1000, [], [], []), (2, 1000, [], [], []), (2, 4096, [], [], []), (2, 1024, [], [], []), (2, 1024, [], [], []), (2, 4, [], [], []), (2, 4, [], [], []), (2, 1024, [], [], []), (2, 1024, [], [], []), (2, 8, [], [], []), (1, 8, [0, 0, 0, 0, 0, 0, 0, 0, 0, Int32.ofInt 0], [], [23, 85, 86, 87, 88, 89, 90, 91, 92, 15, 93]), (2, 4096, [], [], []), (2, 4096, [], [], []), (2, 16384, [], [], []), (2, 4096, [], [], []), (2, 4096, [], [], []), (2, 4096, [], [], []), (2, 4096, [], [], []), (2, 8192, [], [], []), (2, 4, [], [], []), (2, 60, [], [], []), (2, 60, [], [], []), (1, 10, [0, 0, 0, Int32.ofInt 0, Int32.ofInt 0], [], [97, 98, 99, 15, 15, 100]), (2, 1000, [], [], []), (2, 5, [], [], []), (2, 4, [], [], []), (2, 4, [], [], []), (1, 10, [0, 0, 0, Int32.ofInt 0, Int32.ofInt 0], [], [102, 103, 104, 15, 15, 105]), (2, 1000, [], [], []), (2, 5, [], [], []), (2, 4, [], [], []), (2, 4, [], [], []), (1, 6, [Int32.ofInt 0, Int32.ofInt 0, 0, 0, 0, 0, 0, 0, 0, 0, 0, 0, 0, Int32.ofInt 0, Int32.ofInt (-1)], [], [15, 15, 107, 113, 114, 115, 116, 117, 118, 119, 120, 121, 122]), (1, 7, [0, 0, 0, Int32.ofInt 0], [], [108, 109, 110, 15, 111, 112]), (7, 9120, [], [], []), (2, 302, [], [], []), (2, 301, [], [], []), (2, 79, [], [], []), (2, 19, [], [], []), (2, 300, [], [], []), (4, 300, [], [], []), (2, 300, [], [], []), (2, 12000, [], [], []), (2, 300, [], [], []), (2, 300, [], [], []), (2, 300, [], [], []), (2, 300, [], [], []), (2, 300, [], [], []), (2, 300, [], [], []), (2, 300, [], [], [])]
def Tc35 : List mC := [(1, 11, [0, Int32.ofInt 0, Int32.ofInt (-1), 0, 0, 0, Int32.ofInt 0, 0, 0, 0, 0, 0, Int32.ofInt (-1), 0, Int32.ofInt 0], [], [17, 15, 15, 18, 22, 42, 15, 62, 65, 70, 94, 95, 15, 96, 15, 101]), (5, 2000, [], [], []), (1, 9, [0, 0, 0, Int32.ofInt 0, 0, Int32.ofInt 0], [], [19, 20, 21, 15, 17]), (2, 2001, [], [], []), (2, 2001, [], [], []), (2, 2001, [], [], []), (1, 5, [0, 0, 0, 0, 0, 0, Int32.ofInt 0, 0, 0, 0, 0, 0, 0, Int32.ofInt 0, 0, 0, 0, Int32.ofInt 0, Int32.ofInt 0], [], [23, 28, 29, 30, 31, 32, 15, 33, 34, 35, 36, 37, 38, 15, 39, 40, 41]), (1, 3, [0, 0, 0, 0, Int32.ofInt 0], [], [24, 25, 26, 27]), mWrd, (5, 2058, [], [], []), (2, 1025, [], [], []), (2, 2048, [], [], []), (2, 1024, [], [], []), (2, 1024, [], [], []), (2, 4096, [], [], []), (2, 1024, [], [], []), (2, 1024, [], [], []), (2, 60, [], [], []), (2, 480, [], [], []), (2, 60, [], [], []), (2, 480, [], [], []), (2, 480, [], [], []), (2, 60, [], [], []), (2, 60, [], [], []), (2, 61, [], [], []), (2, 60, [], [], []), (1, 5, [0, 0, 0, 0, 0, 0, Int32.ofInt 0, 0, 0, 0, 0, 0, 0, Int32.ofInt 0, 0, 0, 0, Int32.ofInt 0, Int32.ofInt 0], [], [43, 48, 49, 50, 51, 52, 15, 53, 54, 55, 56, 57, 58, 15, 59, 60, 61]), (1, 3, [0, 0, 0, 0, Int32.ofInt 0], [], [44, 45, 46, 47]), mWrd, (5, 2058, [], [], []), (2, 1025, [], [], []), (2, 2048, [], [], []), (2, 1024, [], [], []), (2, 1024, [], [], []), (2, 4096, [], [], []), (2, 1024, [], [], []), (2, 1024, [], [], []), (2, 60, [], [], []), (2, 480, [], [], []), (2, 60, [], [], []), (2, 480, [], [], []), (2, 480, [], [], []), (2, 60, [], [], []), (2, 60, [], [], []), (2, 61, [], [], []), (2, 60, [], [], []), (1, 4, [0, 0, Int32.ofInt 0, 0, Int32.ofInt 0], [], [18, 42, 15, 63, 15, 64]), (2, 8, [], [], []), (2, 44, [], [], []), (1, 0, [Int32.ofInt (-1), 0, 0, 0, Int32.ofInt 0], [], [15, 42, 66, 67, 15, 68, 69]), (2, 1024, [], [], []), (2, 1024, [], [], []), (6, 62, [], [], []), (4, 62, [], [], []), (1, 2, [0, 0, 0, 0, Int32.ofInt 0, 0, 0, 0, Int32.ofInt 0, Int32.ofInt 0, Int32.ofInt (-1), Int32.ofInt 0, Int32.ofInt 0, Int32.ofInt 0, Int32.ofInt 0, Int32.ofInt 0], [0, 0, 0, 0, 0, 0, 0, 0, 0, 0, 0, 0, 0, 0, 0, 0, Int64.ofNat 0], [84, 71, 22, 80, 15, 81, 82, 83]), (1, 1, [0, 0, 0, 0, 0, 0, 0, Int32.ofInt 0], [], [72, 73, 74, 75, 76, 77, 78, 15, 79]), (2, 1000, [], [], []), (2, 4000, [], [], []), (2, 1000, [], [], []), (2, 1000, [], [], []), (2, 4096, [], [], []), (2, 1024, [], [], []), (2, 1024, [], [], []), (2, 4, [], [], []), (2, 4, [], [], []), (2, 1024, [], [], []), (2, 1024, [], [], []), (2, 8, [], [], []), (1, 8, [0, 0, 0, 0, 0, 0, 0, 0, 0, Int32.ofInt 0], [], [23, 85, 86, 87, 88, 89, 90, 91, 92, 15, 93]), (2, 4096, [], [], []), (2, 4096, [], [], []), (2, 16384, [], [], []), (2, 4096, [], [], []), (2, 4096, [], [], []), (2, 4096, [], [], []), (2, 4096, [], [], []), (2, 8192, [], [], []), (2, 4, [], [], []), (2, 60, [], [], []), (2, 60, [], [], []), (1, 10, [0, 0, 0, Int32.ofInt 0, Int32.ofInt 0], [], [97, 98, 99, 15, 15, 100]), (2, 1000, [], [], []), (2, 5, [], [], []), (2, 4, [], [], []), (2, 4, [], [], []), (1, 10, [0, 0, 0, Int32.ofInt 0, Int32.ofInt 0], [], [102, 103, 104, 15, 15, 105]), (2, 1000, [], [], []), (2, 5, [], [], []), (2, 4, [], [], []), (2, 4, [], [], []), (1, 6, [Int32.ofInt 0, Int32.ofInt 0, 0, 0, 0, 0, 0, 0, 0, 0, 0, 0, 0, Int32.ofInt 0, Int32.ofInt (-1)], [], [15, 15, 107, 113, 114, 115, 116, 117, 118, 119, 120, 121, 122, 15, 15, 123, 124]), (1, 7, [0, 0, 0, Int32.ofInt 0], [], [108, 109, 110, 15, 111, 112]), (7, 9120, [], [], []), (2, 302, [], [], []), (2, 301, [], [], []), (2, 79, [], [], []), (2, 19, [], [], []), (2, 300, [], [], []), (4, 300, [], [], []), (2, 300, [], [], []), (2, 12000, [], [], []), (2, 300, [], [], []), (2, 300, [], [], []), (2, 300, [], [], []), (2, 300, [], [], []), (2, 300, [], [], []), (2, 300, [], [], []), (2, 300, [], [], []), (4, 300, [], [], [])]
set_option maxHeartbeats 2000000 in
set_option maxRecDepth 20000 in
theorem ctor13 {L d : Nat} {xs : Nat → Int32} : Wp (d + 1) 72 (0, [some (.ref 106)], [], mT L xs 107 Tc31 107253) (pV (fun μ' => μ' = mT L xs 125 Tc35 132380) noX) := by
  refine b72_0 rfl rfl ?_
  try simp only [mT_n]
  try simp only [mT_n, kN0, kN1, kN2, kN3, kN4, kN5, kN6, kN7, kN8, kN9, kN10, kN11, kN12, kN13, kN14, kN15, kN16, kN17, kN18, kN19, kN20, kN21, kN22, kN23, kN24, kN25, kN26, kN27, kN28, kN29, kN30, kN31, kN32, kN33, kN34, kN35, kN36, kN37, kN38, kN39, kN40, kN41]
  rw [mT_pA, mT_pA, mT_nO]
  refine b72_18 (P := fun μ' => μ' = mT L xs 113 Tc33 117080) ?_ ?_
  · exact ctor12
  rintro μ' rfl
  refine b72_22 rfl (Nat.ne_of_beq_eq_false rfl) rfl (Nat.ne_of_beq_eq_false rfl) ?_
  try simp only [mT_n]
  try simp only [mT_n, kN0, kN1, kN2, kN3, kN4, kN5, kN6, kN7, kN8, kN9, kN10, kN11, kN12, kN13, kN14, kN15, kN16, kN17, kN18, kN19, kN20, kN21, kN22, kN23, kN24, kN25, kN26, kN27, kN28, kN29, kN30, kN31, kN32, kN33, kN34, kN35, kN36, kN37, kN38, kN39, kN40, kN41]
  rw [mT_pR, mT_nA, mT_pR]
  refine b72_34 rfl (Nat.ne_of_beq_eq_false rfl) ?_
  try simp only [mT_n]
  try simp only [mT_n, kN0, kN1, kN2, kN3, kN4, kN5, kN6, kN7, kN8, kN9, kN10, kN11, kN12, kN13, kN14, kN15, kN16, kN17, kN18, kN19, kN20, kN21, kN22, kN23, kN24, kN25, kN26, kN27, kN28, kN29, kN30, kN31, kN32, kN33, kN34, kN35, kN36, kN37, kN38, kN39, kN40, kN41]
  rw [mT_nA, mT_pR]
  refine b72_43 rfl (Nat.ne_of_beq_eq_false rfl) ?_
  try simp only [mT_n]
  try simp only [mT_n, kN0, kN1, kN2, kN3, kN4, kN5, kN6, kN7, kN8, kN9, kN10, kN11, kN12, kN13, kN14, kN15, kN16, kN17, kN18, kN19, kN20, kN21, kN22, kN23, kN24, kN25, kN26, kN27, kN28, kN29, kN30, kN31, kN32, kN33, kN34, kN35, kN36, kN37, kN38, kN39, kN40, kN41]
  rw [mT_nA, mT_pR]
  refine b72_52 rfl (Nat.ne_of_beq_eq_false rfl) ?_
  try simp only [mT_n]
  try simp only [mT_n, kN0, kN1, kN2, kN3, kN4, kN5, kN6, kN7, kN8, kN9, kN10, kN11, kN12, kN13, kN14, kN15, kN16, kN17, kN18, kN19, kN20, kN21, kN22, kN23, kN24, kN25, kN26, kN27, kN28, kN29, kN30, kN31, kN32, kN33, kN34, kN35, kN36, kN37, kN38, kN39, kN40, kN41]
  rw [mT_nA, mT_pR]
  refine b72_61 rfl (Nat.ne_of_beq_eq_false rfl) ?_
  try simp only [mT_n]
  try simp only [mT_n, kN0, kN1, kN2, kN3, kN4, kN5, kN6, kN7, kN8, kN9, kN10, kN11, kN12, kN13, kN14, kN15, kN16, kN17, kN18, kN19, kN20, kN21, kN22, kN23, kN24, kN25, kN26, kN27, kN28, kN29, kN30, kN31, kN32, kN33, kN34, kN35, kN36, kN37, kN38, kN39, kN40, kN41]
  rw [mT_nA, mT_pR]
  refine b72_70 rfl (Nat.ne_of_beq_eq_false rfl) ?_
  try simp only [mT_n]
  try simp only [mT_n, kN0, kN1, kN2, kN3, kN4, kN5, kN6, kN7, kN8, kN9, kN10, kN11, kN12, kN13, kN14, kN15, kN16, kN17, kN18, kN19, kN20, kN21, kN22, kN23, kN24, kN25, kN26, kN27, kN28, kN29, kN30, kN31, kN32, kN33, kN34, kN35, kN36, kN37, kN38, kN39, kN40, kN41]
  rw [mT_nA, mT_pR]
  refine b72_79 rfl (Nat.ne_of_beq_eq_false rfl) ?_
  try simp only [mT_n]
  try simp only [mT_n, kN0, kN1, kN2, kN3, kN4, kN5, kN6, kN7, kN8, kN9, kN10, kN11, kN12, kN13, kN14, kN15, kN16, kN17, kN18, kN19, kN20, kN21, kN22, kN23, kN24, kN25, kN26, kN27, kN28, kN29, kN30, kN31, kN32, kN33, kN34, kN35, kN36, kN37, kN38, kN39, kN40, kN41]
  rw [mT_nA, mT_pR]
  refine b72_88 rfl (Nat.ne_of_beq_eq_false rfl) ?_
  try simp only [mT_n]
  try simp only [mT_n, kN0, kN1, kN2, kN3, kN4, kN5, kN6, kN7, kN8, kN9, kN10, kN11, kN12, kN13, kN14, kN15, kN16, kN17, kN18, kN19, kN20, kN21, kN22, kN23, kN24, kN25, kN26, kN27, kN28, kN29, kN30, kN31, kN32, kN33, kN34, kN35, kN36, kN37, kN38, kN39, kN40, kN41]
  rw [mT_nA, mT_pR]
  refine b72_97 rfl (Nat.ne_of_beq_eq_false rfl) ?_
  try simp only [mT_n]
  try simp only [mT_n, kN0, kN1, kN2, kN3, kN4, kN5, kN6, kN7, kN8, kN9, kN10, kN11, kN12, kN13, kN14, kN15, kN16, kN17, kN18, kN19, kN20, kN21, kN22, kN23, kN24, kN25, kN26, kN27, kN28, kN29, kN30, kN31, kN32, kN33, kN34, kN35, kN36, kN37, kN38, kN39, kN40, kN41]
  rw [mT_nA, mT_pR]
  refine b72_106 rfl (Nat.ne_of_beq_eq_false rfl) ?_
  try simp only [mT_n]
  try simp only [mT_n, kN0, kN1, kN2, kN3, kN4, kN5, kN6, kN7, kN8, kN9, kN10, kN11, kN12, kN13, kN14, kN15, kN16, kN17, kN18, kN19, kN20, kN21, kN22, kN23, kN24, kN25, kN26, kN27, kN28, kN29, kN30, kN31, kN32, kN33, kN34, kN35, kN36, kN37, kN38, kN39, kN40, kN41]
  rw [mT_nA, mT_pR]
  refine b72_115 rfl rfl ?_
  try simp only [mT_n]
  try simp only [mT_n, kN0, kN1, kN2, kN3, kN4, kN5, kN6, kN7, kN8, kN9, kN10, kN11, kN12, kN13, kN14, kN15, kN16, kN17, kN18, kN19, kN20, kN21, kN22, kN23, kN24, kN25, kN26, kN27, kN28, kN29, kN30, kN31, kN32, kN33, kN34, kN35, kN36, kN37, kN38, kN39, kN40, kN41]
  rw [mT_pA, mT_pA, mT_nA]
  change Wp _ 72 (131, _, _, mT L xs 124 Tc34 132080) _
  refine b72_131 rfl (Nat.ne_of_beq_eq_false rfl) rfl (Nat.ne_of_beq_eq_false rfl) ?_
  try simp only [mT_n]
  try simp only [mT_n, kN0, kN1, kN2, kN3, kN4, kN5, kN6, kN7, kN8, kN9, kN10, kN11, kN12, kN13, kN14, kN15, kN16, kN17, kN18, kN19, kN20, kN21, kN22, kN23, kN24, kN25, kN26, kN27, kN28, kN29, kN30, kN31, kN32, kN33, kN34, kN35, kN36, kN37, kN38, kN39, kN40, kN41]
  rw [mT_pR, mT_nA, mT_pR]
  refine b72_143 ?_
  show _ = mT L xs 125 Tc35 132380
  all_goals first | rfl | decide | exact ⟨_, rfl⟩
def Tc36 : List mC := [(1, 11, [0, Int32.ofInt 0, Int32.ofInt (-1), 0, 0, 0, Int32.ofInt 0, 0, 0, 0, 0, 0, Int32.ofInt (-1), 0, Int32.ofInt 0, 0, 0, Int32.ofInt 0], [0, 0, 0, 0, 0, 0, 0, 0, 0, 0, 0, 0, 0, 0, 0, 0, 0, 0, Int64.ofNat 0], [17, 15, 15, 18, 22, 42, 15, 62, 65, 70, 94, 95, 15, 96, 15, 101, 106]), (5, 2000, [], [], []), (1, 9, [0, 0, 0, Int32.ofInt 0, 0, Int32.ofInt 0], [], [19, 20, 21, 15, 17]), (2, 2001, [], [], []), (2, 2001, [], [], []), (2, 2001, [], [], []), (1, 5, [0, 0, 0, 0, 0, 0, Int32.ofInt 0, 0, 0, 0, 0, 0, 0, Int32.ofInt 0, 0, 0, 0, Int32.ofInt 0, Int32.ofInt 0], [], [23, 28, 29, 30, 31, 32, 15, 33, 34, 35, 36, 37, 38, 15, 39, 40, 41]), (1, 3, [0, 0, 0, 0, Int32.ofInt 0], [], [24, 25, 26, 27]), mWrd, (5, 2058, [], [], []), (2, 1025, [], [], []), (2, 2048, [], [], []), (2, 1024, [], [], []), (2, 1024, [], [], []), (2, 4096, [], [], []), (2, 1024, [], [], []), (2, 1024, [], [], []), (2, 60, [], [], []), (2, 480, [], [], []), (2, 60, [], [], []), (2, 480, [], [], []), (2, 480, [], [], []), (2, 60, [], [], []), (2, 60, [], [], []), (2, 61, [], [], []), (2, 60, [], [], []), (1, 5, [0, 0, 0, 0, 0, 0, Int32.ofInt 0, 0, 0, 0, 0, 0, 0, Int32.ofInt 0, 0, 0, 0, Int32.ofInt 0, Int32.ofInt 0], [], [43, 48, 49, 50, 51, 52, 15, 53, 54, 55, 56, 57, 58, 15, 59, 60, 61]), (1, 3, [0, 0, 0, 0, Int32.ofInt 0], [], [44, 45, 46, 47]), mWrd, (5, 2058, [], [], []), (2, 1025, [], [], []), (2, 2048, [], [], []), (2, 1024, [], [], []), (2, 1024, [], [], []), (2, 4096, [], [], []), (2, 1024, [], [], []), (2, 1024, [], [], []), (2, 60, [], [], []), (2, 480, [], [], []), (2, 60, [], [], []), (2, 480, [], [], []), (2, 480, [], [], []), (2, 60, [], [], []), (2, 60, [], [], []), (2, 61, [], [], []), (2, 60, [], [], []), (1, 4, [0, 0, Int32.ofInt 0, 0, Int32.ofInt 0], [], [18, 42, 15, 63, 15, 64]), (2, 8, [], [], []), (2, 44, [], [], []), (1, 0, [Int32.ofInt (-1), 0, 0, 0, Int32.ofInt 0], [], [15, 42, 66, 67, 15, 68, 69]), (2, 1024, [], [], []), (2, 1024, [], [], []), (6, 62, [], [], []), (4, 62, [], [], []), (1, 2, [0, 0, 0, 0, Int32.ofInt 0, 0, 0, 0, Int32.ofInt 0, Int32.ofInt 0, Int32.ofInt (-1), Int32.ofInt 0, Int32.ofInt 0, Int32.ofInt 0, Int32.ofInt 0, Int32.ofInt 0], [0, 0, 0, 0, 0, 0, 0, 0, 0, 0, 0, 0, 0, 0, 0, 0, Int64.ofNat 0], [84, 71, 22, 80, 15, 81, 82, 83]), (1, 1, [0, 0, 0, 0, 0, 0, 0, Int32.ofInt 0], [], [72, 73, 74, 75, 76, 77, 78, 15, 79]), (2, 1000, [], [], []), (2, 4000, [], [], []), (2, 1000, [], [], []), (2, 1000, [], [], []), (2, 4096, [], [], []), (2, 1024, [], [], []), (2, 1024, [], [], []), (2, 4, [], [], []), (2, 4, [], [], []), (2, 1024, [], [], []), (2, 1024, [], [], []), (2, 8, [], [], []), (1, 8, [0, 0, 0, 0, 0, 0, 0, 0, 0, Int32.ofInt 0], [], [23, 85, 86, 87, 88, 89, 90, 91, 92, 15, 93]), (2, 4096, [], [], []), (2, 4096, [], [], []), (2, 16384, [], [], []), (2, 4096, [], [], []), (2, 4096, [], [], []), (2, 4096, [], [], []), (2, 4096, [], [], []), (2, 8192, [], [], []), (2, 4, [], [], []), (2, 60, [], [], []), (2, 60, [], [], []), (1, 10, [0, 0, 0, Int32.ofInt 0, Int32.ofInt 0], [], [97, 98, 99, 15, 15, 100]), (2, 1000, [], [], []), (2, 5, [], [], []), (2, 4, [], [], []), (2, 4, [], [], []), (1, 10, [0, 0, 0, Int32.ofInt 0, Int32.ofInt 0], [], [102, 103, 104, 15, 15, 105]), (2, 1000, [], [], []), (2, 5, [], [], []), (2, 4, [], [], []), (2, 4, [], [], []), (1, 6, [Int32.ofInt 0, Int32.ofInt 0, 0, 0, 0, 0, 0, 0, 0, 0, 0, 0, 0, Int32.ofInt 0, Int32.ofInt (-1)], [], [15, 15, 107, 113, 114, 115, 116, 117, 118, 119, 120, 121, 122, 15, 15, 123, 124]), (1, 7, [0, 0, 0, Int32.ofInt 0], [], [108, 109, 110, 15, 111, 112]), (7, 9120, [], [], []), (2, 302, [], [], []), (2, 301, [], [], []), (2, 79, [], [], []), (2, 19, [], [], []), (2, 300, [], [], []), (4, 300, [], [], []), (2, 300, [], [], []), (2, 12000, [], [], []), (2, 300, [], [], []), (2, 300, [], [], []), (2, 300, [], [], []), (2, 300, [], [], []), (2, 300, [], [], []), (2, 300, [], [], []), (2, 300, [], [], []), (4, 300, [], [], [])]
set_option maxHeartbeats 2000000 in
set_option maxRecDepth 20000 in
theorem ctor14 {L d : Nat} {xs : Nat → Int32} : Wp (d + 5) 118 (0, [some (.ref 16)], [], mT L xs 17 Tc0 19) (pV (fun μ' => μ' = mT L xs 125 Tc36 132380) noX) := by
  refine b118_0 rfl (Nat.ne_of_beq_eq_false rfl) ?_
  try simp only [mT_n]
  try simp only [mT_n, kN0, kN1, kN2, kN3, kN4, kN5, kN6, kN7, kN8, kN9, kN10, kN11, kN12, kN13, kN14, kN15, kN16, kN17, kN18, kN19, kN20, kN21, kN22, kN23, kN24, kN25, kN26, kN27, kN28, kN29, kN30, kN31, kN32, kN33, kN34, kN35, kN36, kN37, kN38, kN39, kN40, kN41]
  rw [mT_nA, mT_pR]
  refine b118_13 rfl rfl ?_
  try simp only [mT_n]
  try simp only [mT_n, kN0, kN1, kN2, kN3, kN4, kN5, kN6, kN7, kN8, kN9, kN10, kN11, kN12, kN13, kN14, kN15, kN16, kN17, kN18, kN19, kN20, kN21, kN22, kN23, kN24, kN25, kN26, kN27, kN28, kN29, kN30, kN31, kN32, kN33, kN34, kN35, kN36, kN37, kN38, kN39, kN40, kN41]
  rw [mT_pA, mT_pA, mT_nO]
  refine b118_27 rfl (Nat.ne_of_beq_eq_false rfl) (P := fun μ' => μ' = mT L xs 22 Tc2 8028) ?_ ?_
  · exact ctor0
  rintro μ' rfl
  refine b118_35 rfl (Nat.ne_of_beq_eq_false rfl) (P := fun μ' => μ' = mT L xs 42 Tc9 23234) ?_ ?_
  · try simp only [mT_n]
    try simp only [mT_n, kN0, kN1, kN2, kN3, kN4, kN5, kN6, kN7, kN8, kN9, kN10, kN11, kN12, kN13, kN14, kN15, kN16, kN17, kN18, kN19, kN20, kN21, kN22, kN23, kN24, kN25, kN26, kN27, kN28, kN29, kN30, kN31, kN32, kN33, kN34, kN35, kN36, kN37, kN38, kN39, kN40, kN41]
    rw [mT_pR, mT_nO]
    · exact ctor2
    all_goals first | rfl | decide | exact ⟨_, rfl⟩
  rintro μ' rfl
  refine b118_46 rfl (Nat.ne_of_beq_eq_false rfl) (P := fun μ' => μ' = mT L xs 62 Tc16 38440) ?_ ?_
  · try simp only [mT_n]
    try simp only [mT_n, kN0, kN1, kN2, kN3, kN4, kN5, kN6, kN7, kN8, kN9, kN10, kN11, kN12, kN13, kN14, kN15, kN16, kN17, kN18, kN19, kN20, kN21, kN22, kN23, kN24, kN25, kN26, kN27, kN28, kN29, kN30, kN31, kN32, kN33, kN34, kN35, kN36, kN37, kN38, kN39, kN40, kN41]
    rw [mT_pR, mT_nO]
    · exact ctor4
    all_goals first | rfl | decide | exact ⟨_, rfl⟩
  rintro μ' rfl
  refine b118_57 rfl (Nat.ne_of_beq_eq_false rfl) rfl ?_
  try simp only [mT_n]
  try simp only [mT_n, kN0, kN1, kN2, kN3, kN4, kN5, kN6, kN7, kN8, kN9, kN10, kN11, kN12, kN13, kN14, kN15, kN16, kN17, kN18, kN19, kN20, kN21, kN22, kN23, kN24, kN25, kN26, kN27, kN28, kN29, kN30, kN31, kN32, kN33, kN34, kN35, kN36, kN37, kN38, kN39, kN40, kN41]
  rw [mT_pR, mT_pA, mT_nO]
  refine b118_69 rfl (Nat.ne_of_beq_eq_false rfl) rfl (Nat.ne_of_beq_eq_false rfl) (P := fun μ' => μ' = mT L xs 65 Tc18 38498) ?_ ?_
  · exact ctor5
  rintro μ' rfl
  refine b118_81 rfl (Nat.ne_of_beq_eq_false rfl) rfl (Nat.ne_of_beq_eq_false rfl) (P := fun μ' => μ' = mT L xs 70 Tc20 40677) ?_ ?_
  · try simp only [mT_n]
    try simp only [mT_n, kN0, kN1, kN2, kN3, kN4, kN5, kN6, kN7, kN8, kN9, kN10, kN11, kN12, kN13, kN14, kN15, kN16, kN17, kN18, kN19, kN20, kN21, kN22, kN23, kN24, kN25, kN26, kN27, kN28, kN29, kN30, kN31, kN32, kN33, kN34, kN35, kN36, kN37, kN38, kN39, kN40, kN41]
    rw [mT_pR, mT_nO]
    · exact ctor6
    all_goals first | rfl | decide | exact ⟨_, rfl⟩
  rintro μ' rfl
  refine b118_96 rfl (Nat.ne_of_beq_eq_false rfl) rfl (Nat.ne_of_beq_eq_false rfl) (P := fun μ' => μ' = mT L xs 94 Tc26 105078) ?_ ?_
  · try simp only [mT_n]
    try simp only [mT_n, kN0, kN1, kN2, kN3, kN4, kN5, kN6, kN7, kN8, kN9, kN10, kN11, kN12, kN13, kN14, kN15, kN16, kN17, kN18, kN19, kN20, kN21, kN22, kN23, kN24, kN25, kN26, kN27, kN28, kN29, kN30, kN31, kN32, kN33, kN34, kN35, kN36, kN37, kN38, kN39, kN40, kN41]
    rw [mT_pR, mT_nO]
    · exact ctor9
    all_goals first | rfl | decide | exact ⟨_, rfl⟩
  rintro μ' rfl
  refine b118_111 rfl (Nat.ne_of_beq_eq_false rfl) rfl (Nat.ne_of_beq_eq_false rfl) ?_
  try simp only [mT_n]
  try simp only [mT_n, kN0, kN1, kN2, kN3, kN4, kN5, kN6, kN7, kN8, kN9, kN10, kN11, kN12, kN13, kN14, kN15, kN16, kN17, kN18, kN19, kN20, kN21, kN22, kN23, kN24, kN25, kN26, kN27, kN28, kN29, kN30, kN31, kN32, kN33, kN34, kN35, kN36, kN37, kN38, kN39, kN40, kN41]
  rw [mT_pR, mT_nA, mT_pR]
  refine b118_122 rfl (Nat.ne_of_beq_eq_false rfl) ?_
  try simp only [mT_n]
  try simp only [mT_n, kN0, kN1, kN2, kN3, kN4, kN5, kN6, kN7, kN8, kN9, kN10, kN11, kN12, kN13, kN14, kN15, kN16, kN17, kN18, kN19, kN20, kN21, kN22, kN23, kN24, kN25, kN26, kN27, kN28, kN29, kN30, kN31, kN32, kN33, kN34, kN35, kN36, kN37, kN38, kN39, kN40, kN41]
  rw [mT_nA, mT_pR]
  refine b118_130 rfl (P := fun μ' => μ' = mT L xs 101 Tc28 106217) ?_ ?_
  · try simp only [mT_n]
    try simp only [mT_n, kN0, kN1, kN2, kN3, kN4, kN5, kN6, kN7, kN8, kN9, kN10, kN11, kN12, kN13, kN14, kN15, kN16, kN17, kN18, kN19, kN20, kN21, kN22, kN23, kN24, kN25, kN26, kN27, kN28, kN29, kN30, kN31, kN32, kN33, kN34, kN35, kN36, kN37, kN38, kN39, kN40, kN41]
    rw [mT_pA, mT_nO]
    · exact ctor10
    all_goals first | rfl | decide | exact ⟨_, rfl⟩
  rintro μ' rfl
  refine b118_143 rfl (Nat.ne_of_beq_eq_false rfl) rfl ?_
  try simp only [mT_n]
  try simp only [mT_n, kN0, kN1, kN2, kN3, kN4, kN5, kN6, kN7, kN8, kN9, kN10, kN11, kN12, kN13, kN14, kN15, kN16, kN17, kN18, kN19, kN20, kN21, kN22, kN23, kN24, kN25, kN26, kN27, kN28, kN29, kN30, kN31, kN32, kN33, kN34, kN35, kN36, kN37, kN38, kN39, kN40, kN41]
  rw [mT_pR, mT_pA, mT_nO]
  refine b118_155 (P := fun μ' => μ' = mT L xs 106 Tc30 107236) ?_ ?_
  · exact ctor11
  rintro μ' rfl
  refine b118_159 rfl (Nat.ne_of_beq_eq_false rfl) (P := fun μ' => μ' = mT L xs 125 Tc35 132380) ?_ ?_
  · try simp only [mT_n]
    try simp only [mT_n, kN0, kN1, kN2, kN3, kN4, kN5, kN6, kN7, kN8, kN9, kN10, kN11, kN12, kN13, kN14, kN15, kN16, kN17, kN18, kN19, kN20, kN21, kN22, kN23, kN24, kN25, kN26, kN27, kN28, kN29, kN30, kN31, kN32, kN33, kN34, kN35, kN36, kN37, kN38, kN39, kN40, kN41]
    rw [mT_pR, mT_nO]
    · exact ctor13
    all_goals first | rfl | decide | exact ⟨_, rfl⟩
  rintro μ' rfl
  refine b118_170 rfl (Nat.ne_of_beq_eq_false rfl) rfl rfl ?_
  try simp only [mT_n]
  try simp only [mT_n, kN0, kN1, kN2, kN3, kN4, kN5, kN6, kN7, kN8, kN9, kN10, kN11, kN12, kN13, kN14, kN15, kN16, kN17, kN18, kN19, kN20, kN21, kN22, kN23, kN24, kN25, kN26, kN27, kN28, kN29, kN30, kN31, kN32, kN33, kN34, kN35, kN36, kN37, kN38, kN39, kN40, kN41]
  rw [mT_pR, mT_pA, mT_pL]
  refine b118_183 ?_
  show _ = mT L xs 125 Tc36 132380
  all_goals first | rfl | decide | exact ⟨_, rfl⟩
def Tc37 : List mC := [(1, 11, [0, Int32.ofInt 0, Int32.ofInt (-1), 0, 0, 0, Int32.ofInt 0, 0, 0, 0, 0, 0, Int32.ofInt (-1), 0, Int32.ofInt 0, 0, 0, Int32.ofInt 0], [0, 0, 0, 0, 0, 0, 0, 0, 0, 0, 0, 0, 0, 0, 0, 0, 0, 0, Int64.ofNat 0], [17, 15, 15, 18, 22, 42, 15, 62, 65, 70, 94, 95, 15, 96, 15, 101, 106]), (5, 2000, [], [], []), (1, 9, [0, 0, 0, Int32.ofInt 0, 0, Int32.ofInt 0], [], [19, 20, 21, 15, 17]), (2, 2001, [], [], []), (2, 2001, [], [], []), (2, 2001, [], [], []), (1, 5, [0, 0, 0, 0, 0, 0, Int32.ofInt 0, 0, 0, 0, 0, 0, 0, Int32.ofInt 0, 0, 0, 0, Int32.ofInt 0, Int32.ofInt 0], [], [23, 28, 29, 30, 31, 32, 15, 33, 34, 35, 36, 37, 38, 15, 39, 40, 41]), (1, 3, [0, 0, 0, 0, Int32.ofInt 0], [], [24, 25, 26, 27]), mWrd, (5, 2058, [], [], []), (2, 1025, [], [], []), (2, 2048, [], [], []), (2, 1024, [], [], []), (2, 1024, [], [], []), (2, 4096, [], [], []), (2, 1024, [], [], []), (2, 1024, [], [], []), (2, 60, [], [], []), (2, 480, [], [], []), (2, 60, [], [], []), (2, 480, [], [], []), (2, 480, [], [], []), (2, 60, [], [], []), (2, 60, [], [], []), (2, 61, [], [], []), (2, 60, [], [], []), (1, 5, [0, 0, 0, 0, 0, 0, Int32.ofInt 0, 0, 0, 0, 0, 0, 0, Int32.ofInt 0, 0, 0, 0, Int32.ofInt 0, Int32.ofInt 0], [], [43, 48, 49, 50, 51, 52, 15, 53, 54, 55, 56, 57, 58, 15, 59, 60, 61]), (1, 3, [0, 0, 0, 0, Int32.ofInt 0], [], [44, 45, 46, 47]), mWrd, (5, 2058, [], [], []), (2, 1025, [], [], []), (2, 2048, [], [], []), (2, 1024, [], [], []), (2, 1024, [], [], []), (2, 4096, [], [], []), (2, 1024, [], [], []), (2, 1024, [], [], []), (2, 60, [], [], []), (2, 480, [], [], []), (2, 60, [], [], []), (2, 480, [], [], []), (2, 480, [], [], []), (2, 60, [], [], []), (2, 60, [], [], []), (2, 61, [], [], []), (2, 60, [], [], []), (1, 4, [0, 0, Int32.ofInt 0, 0, Int32.ofInt 0], [], [18, 42, 15, 63, 15, 64]), (2, 8, [], [], []), (2, 44, [], [], []), (1, 0, [Int32.ofInt (-1), 0, 0, 0, Int32.ofInt 0], [], [15, 42, 66, 67, 15, 68, 69]), (2, 1024, [], [], []), (2, 1024, [], [], []), (6, 62, [], [], []), (4, 62, [], [], []), (1, 2, [0, 0, 0, 0, Int32.ofInt 0, 0, 0, 0, Int32.ofInt 0, Int32.ofInt 0, Int32.ofInt (-1), Int32.ofInt 0, Int32.ofInt 0, Int32.ofInt 0, Int32.ofInt 0, Int32.ofInt 0], [0, 0, 0, 0, 0, 0, 0, 0, 0, 0, 0, 0, 0, 0, 0, 0, Int64.ofNat 0], [84, 71, 22, 80, 15, 81, 82, 83]), (1, 1, [0, 0, 0, 0, 0, 0, 0, Int32.ofInt 0], [], [72, 73, 74, 75, 76, 77, 78, 15, 79]), (2, 1000, [], [], []), (2, 4000, [], [], []), (2, 1000, [], [], []), (2, 1000, [], [], []), (2, 4096, [], [], []), (2, 1024, [], [], []), (2, 1024, [], [], []), (2, 4, [], [], []), (2, 4, [], [], []), (2, 1024, [], [], []), (2, 1024, [], [], []), (2, 8, [], [], []), (1, 8, [0, 0, 0, 0, 0, 0, 0, 0, 0, Int32.ofInt 0], [], [23, 85, 86, 87, 88, 89, 90, 91, 92, 15, 93]), (2, 4096, [], [], []), (2, 4096, [], [], []), (2, 16384, [], [], []), (2, 4096, [], [], []), (2, 4096, [], [], []), (2, 4096, [], [], []), (2, 4096, [], [], []), (2, 8192, [], [], []), (2, 4, [], [], []), (2, 60, [], [], []), (2, 60, [], [], []), (1, 10, [0, 0, 0, Int32.ofInt 0, Int32.ofInt 0], [], [97, 98, 99, 15, 15, 100]), (2, 1000, [], [], []), (2, 5, [], [], []), (2, 4, [], [], []), (2, 4, [], [], []), (1, 10, [0, 0, 0, Int32.ofInt 0, Int32.ofInt 0], [], [102, 103, 104, 15, 15, 105]), (2, 1000, [], [], []), (2, 5, [], [], []), (2, 4, [], [], []), (2, 4, [], [], []), (1, 6, [Int32.ofInt 0, Int32.ofInt 0, 0, 0, 0, 0, 0, 0, 0, 0, 0, 0, 0, Int32.ofInt 0, Int32.ofInt (-1)], [], [15, 15, 107, 113, 114, 115, 116, 117, 118, 119, 120, 121, 122, 15, 15, 123, 124]), (1, 7, [0, 0, 0, Int32.ofInt 0], [], [108, 109, 110, 15, 111, 112]), (7, 9120, [], [], []), (2, 302, [], [], []), (2, 301, [], [], []), (2, 79, [], [], []), (2, 19, [], [], []), (2, 300, [], [], []), (4, 300, [], [], []), (2, 300, [], [], []), (2, 12000, [], [], []), (2, 300, [], [], []), (2, 300, [], [], []), (2, 300, [], [], []), (2, 300, [], [], []), (2, 300, [], [], []), (2, 300, [], [], []), (2, 300, [], [], []), (4, 300, [], [], []), (1, 12, [], [], [])]
def Tc38 : List mC := [(1, 11, [0, Int32.ofInt 0, Int32.ofInt (-1), 0, 0, 0, Int32.ofInt 0, 0, 0, 0, 0, 0, Int32.ofInt (-1), 0, Int32.ofInt 0, 0, 0, Int32.ofInt 0], [0, 0, 0, 0, 0, 0, 0, 0, 0, 0, 0, 0, 0, 0, 0, 0, 0, 0, Int64.ofNat 0], [17, 15, 15, 18, 22, 42, 15, 62, 65, 70, 94, 95, 15, 96, 15, 101, 106]), (5, 2000, [], [], []), (1, 9, [0, 0, 0, Int32.ofInt 0, 0, Int32.ofInt 0], [], [19, 20, 21, 15, 17]), (2, 2001, [], [], []), (2, 2001, [], [], []), (2, 2001, [], [], []), (1, 5, [0, 0, 0, 0, 0, 0, Int32.ofInt 0, 0, 0, 0, 0, 0, 0, Int32.ofInt 0, 0, 0, 0, Int32.ofInt 0, Int32.ofInt 0], [], [23, 28, 29, 30, 31, 32, 15, 33, 34, 35, 36, 37, 38, 15, 39, 40, 41]), (1, 3, [0, 0, 0, 0, Int32.ofInt 0], [], [24, 25, 26, 27]), mWrd, (5, 2058, [], [], []), (2, 1025, [], [], []), (2, 2048, [], [], []), (2, 1024, [], [], []), (2, 1024, [], [], []), (2, 4096, [], [], []), (2, 1024, [], [], []), (2, 1024, [], [], []), (2, 60, [], [], []), (2, 480, [], [], []), (2, 60, [], [], []), (2, 480, [], [], []), (2, 480, [], [], []), (2, 60, [], [], []), (2, 60, [], [], []), (2, 61, [], [], []), (2, 60, [], [], []), (1, 5, [0, 0, 0, 0, 0, 0, Int32.ofInt 0, 0, 0, 0, 0, 0, 0, Int32.ofInt 0, 0, 0, 0, Int32.ofInt 0, Int32.ofInt 0], [], [43, 48, 49, 50, 51, 52, 15, 53, 54, 55, 56, 57, 58, 15, 59, 60, 61]), (1, 3, [0, 0, 0, 0, Int32.ofInt 0], [], [44, 45, 46, 47]), mWrd, (5, 2058, [], [], []), (2, 1025, [], [], []), (2, 2048, [], [], []), (2, 1024, [], [], []), (2, 1024, [], [], []), (2, 4096, [], [], []), (2, 1024, [], [], []), (2, 1024, [], [], []), (2, 60, [], [], []), (2, 480, [], [], []), (2, 60, [], [], []), (2, 480, [], [], []), (2, 480, [], [], []), (2, 60, [], [], []), (2, 60, [], [], []), (2, 61, [], [], []), (2, 60, [], [], []), (1, 4, [0, 0, Int32.ofInt 0, 0, Int32.ofInt 0], [], [18, 42, 15, 63, 15, 64]), (2, 8, [], [], []), (2, 44, [], [], []), (1, 0, [Int32.ofInt (-1), 0, 0, 0, Int32.ofInt 0], [], [15, 42, 66, 67, 15, 68, 69]), (2, 1024, [], [], []), (2, 1024, [], [], []), (6, 62, [], [], []), (4, 62, [], [], []), (1, 2, [0, 0, 0, 0, Int32.ofInt 0, 0, 0, 0, Int32.ofInt 0, Int32.ofInt 0, Int32.ofInt (-1), Int32.ofInt 0, Int32.ofInt 0, Int32.ofInt 0, Int32.ofInt 0, Int32.ofInt 0], [0, 0, 0, 0, 0, 0, 0, 0, 0, 0, 0, 0, 0, 0, 0, 0, Int64.ofNat 0], [84, 71, 22, 80, 15, 81, 82, 83]), (1, 1, [0, 0, 0, 0, 0, 0, 0, Int32.ofInt 0], [], [72, 73, 74, 75, 76, 77, 78, 15, 79]), (2, 1000, [], [], []), (2, 4000, [], [], []), (2, 1000, [], [], []), (2, 1000, [], [], []), (2, 4096, [], [], []), (2, 1024, [], [], []), (2, 1024, [], [], []), (2, 4, [], [], []), (2, 4, [], [], []), (2, 1024, [], [], []), (2, 1024, [], [], []), (2, 8, [], [], []), (1, 8, [0, 0, 0, 0, 0, 0, 0, 0, 0, Int32.ofInt 0], [], [23, 85, 86, 87, 88, 89, 90, 91, 92, 15, 93]), (2, 4096, [], [], []), (2, 4096, [], [], []), (2, 16384, [], [], []), (2, 4096, [], [], []), (2, 4096, [], [], []), (2, 4096, [], [], []), (2, 4096, [], [], []), (2, 8192, [], [], []), (2, 4, [], [], []), (2, 60, [], [], []), (2, 60, [], [], []), (1, 10, [0, 0, 0, Int32.ofInt 0, Int32.ofInt 0], [], [97, 98, 99, 15, 15, 100]), (2, 1000, [], [], []), (2, 5, [], [], []), (2, 4, [], [], []), (2, 4, [], [], []), (1, 10, [0, 0, 0, Int32.ofInt 0, Int32.ofInt 0], [], [102, 103, 104, 15, 15, 105]), (2, 1000, [], [], []), (2, 5, [], [], []), (2, 4, [], [], []), (2, 4, [], [], []), (1, 6, [Int32.ofInt 0, Int32.ofInt 0, 0, 0, 0, 0, 0, 0, 0, 0, 0, 0, 0, Int32.ofInt 0, Int32.ofInt (-1)], [], [15, 15, 107, 113, 114, 115, 116, 117, 118, 119, 120, 121, 122, 15, 15, 123, 124]), (1, 7, [0, 0, 0, Int32.ofInt 0], [], [108, 109, 110, 15, 111, 112]), (7, 9120, [], [], []), (2, 302, [], [], []), (2, 301, [], [], []), (2, 79, [], [], []), (2, 19, [], [], []), (2, 300, [], [], []), (4, 300, [], [], []), (2, 300, [], [], []), (2, 12000, [], [], []), (2, 300, [], [], []), (2, 300, [], [], []), (2, 300, [], [], []), (2, 300, [], [], []), (2, 300, [], [], []), (2, 300, [], [], []), (2, 300, [], [], []), (4, 300, [], [], []), (1, 12, [0, 0, 0, Int32.ofInt (-1)], [], [15, 126, 15, 15, 15, 127, 15, 128, 15, 15, 129, 130, 15, 131, 132, 15, 133, 134, 15, 135, 136, 137]), (2, 2000, [], [], []), (2, 2000, [], [], []), (2, 2000, [], [], []), (2, 17600, [], [], []), (2, 1100, [], [], []), (2, 61, [], [], []), (2, 62, [], [], []), (2, 500, [], [], []), (2, 500, [], [], []), (2, 600, [], [], []), (2, 2400, [], [], []), (2, 600, [], [], [])]
def Tc39 : List mC := [(1, 11, [0, Int32.ofInt 0, Int32.ofInt (-1), 0, 0, 0, Int32.ofInt 0, 0, 0, 0, 0, 0, Int32.ofInt (-1), 0, Int32.ofInt 0, 0, 0, Int32.ofInt 0], [0, 0, 0, 0, 0, 0, 0, 0, 0, 0, 0, 0, 0, 0, 0, 0, 0, 0, Int64.ofNat 0], [17, 15, 15, 18, 22, 42, 15, 62, 65, 70, 94, 95, 15, 96, 15, 101, 106]), (5, 2000, [], [], []), (1, 9, [0, 0, 0, Int32.ofInt 0, 0, Int32.ofInt 0], [], [19, 20, 21, 15, 17]), (2, 2001, [], [], []), (2, 2001, [], [], []), (2, 2001, [], [], []), (1, 5, [0, 0, 0, 0, 0, 0, Int32.ofInt 0, 0, 0, 0, 0, 0, 0, Int32.ofInt 0, 0, 0, 0, Int32.ofInt 0, Int32.ofInt 0], [], [23, 28, 29, 30, 31, 32, 15, 33, 34, 35, 36, 37, 38, 15, 39, 40, 41]), (1, 3, [0, 0, 0, 0, Int32.ofInt 0], [], [24, 25, 26, 27]), mWrd, (5, 2058, [], [], []), (2, 1025, [], [], []), (2, 2048, [], [], []), (2, 1024, [], [], []), (2, 1024, [], [], []), (2, 4096, [], [], []), (2, 1024, [], [], []), (2, 1024, [], [], []), (2, 60, [], [], []), (2, 480, [], [], []), (2, 60, [], [], []), (2, 480, [], [], []), (2, 480, [], [], []), (2, 60, [], [], []), (2, 60, [], [], []), (2, 61, [], [], []), (2, 60, [], [], []), (1, 5, [0, 0, 0, 0, 0, 0, Int32.ofInt 0, 0, 0, 0, 0, 0, 0, Int32.ofInt 0, 0, 0, 0, Int32.ofInt 0, Int32.ofInt 0], [], [43, 48, 49, 50, 51, 52, 15, 53, 54, 55, 56, 57, 58, 15, 59, 60, 61]), (1, 3, [0, 0, 0, 0, Int32.ofInt 0], [], [44, 45, 46, 47]), mWrd, (5, 2058, [], [], []), (2, 1025, [], [], []), (2, 2048, [], [], []), (2, 1024, [], [], []), (2, 1024, [], [], []), (2, 4096, [], [], []), (2, 1024, [], [], []), (2, 1024, [], [], []), (2, 60, [], [], []), (2, 480, [], [], []), (2, 60, [], [], []), (2, 480, [], [], []), (2, 480, [], [], []), (2, 60, [], [], []), (2, 60, [], [], []), (2, 61, [], [], []), (2, 60, [], [], []), (1, 4, [0, 0, Int32.ofInt 0, 0, Int32.ofInt 0], [], [18, 42, 15, 63, 15, 64]), (2, 8, [], [], []), (2, 44, [], [], []), (1, 0, [Int32.ofInt (-1), 0, 0, 0, Int32.ofInt 0], [], [15, 42, 66, 67, 15, 68, 69]), (2, 1024, [], [], []), (2, 1024, [], [], []), (6, 62, [], [], []), (4, 62, [], [], []), (1, 2, [0, 0, 0, 0, Int32.ofInt 0, 0, 0, 0, Int32.ofInt 0, Int32.ofInt 0, Int32.ofInt (-1), Int32.ofInt 0, Int32.ofInt 0, Int32.ofInt 0, Int32.ofInt 0, Int32.ofInt 0], [0, 0, 0, 0, 0, 0, 0, 0, 0, 0, 0, 0, 0, 0, 0, 0, Int64.ofNat 0], [84, 71, 22, 80, 15, 81, 82, 83]), (1, 1, [0, 0, 0, 0, 0, 0, 0, Int32.ofInt 0], [], [72, 73, 74, 75, 76, 77, 78, 15, 79]), (2, 1000, [], [], []), (2, 4000, [], [], []), (2, 1000, [], [], []), (2, 1000, [], [], []), (2, 4096, [], [], []), (2, 1024, [], [], []), (2, 1024, [], [], []), (2, 4, [], [], []), (2, 4, [], [], []), (2, 1024, [], [], []), (2, 1024, [], [], []), (2, 8, [], [], []), (1, 8, [0, 0, 0, 0, 0, 0, 0, 0, 0, Int32.ofInt 0], [], [23, 85, 86, 87, 88, 89, 90, 91, 92, 15, 93]), (2, 4096, [], [], []), (2, 4096, [], [], []), (2, 16384, [], [], []), (2, 4096, [], [], []), (2, 4096, [], [], []), (2, 4096, [], [], []), (2, 4096, [], [], []), (2, 8192, [], [], []), (2, 4, [], [], []), (2, 60, [], [], []), (2, 60, [], [], []), (1, 10, [0, 0, 0, Int32.ofInt 0, Int32.ofInt 0], [], [97, 98, 99, 15, 15, 100]), (2, 1000, [], [], []), (2, 5, [], [], []), (2, 4, [], [], []), (2, 4, [], [], []), (1, 10, [0, 0, 0, Int32.ofInt 0, Int32.ofInt 0], [], [102, 103, 104, 15, 15, 105]), (2, 1000, [], [], []), (2, 5, [], [], []), (2, 4, [], [], []), (2, 4, [], [], []), (1, 6, [Int32.ofInt 0, Int32.ofInt 0, 0, 0, 0, 0, 0, 0, 0, 0, 0, 0, 0, Int32.ofInt 0, Int32.ofInt (-1)], [], [15, 15, 107, 113, 114, 115, 116, 117, 118, 119, 120, 121, 122, 15, 15, 123, 124]), (1, 7, [0, 0, 0, Int32.ofInt 0], [], [108, 109, 110, 15, 111, 112]), (7, 9120, [], [], []), (2, 302, [], [], []), (2, 301, [], [], []), (2, 79, [], [], []), (2, 19, [], [], []), (2, 300, [], [], []), (4, 300, [], [], []), (2, 300, [], [], []), (2, 12000, [], [], []), (2, 300, [], [], []), (2, 300, [], [], []), (2, 300, [], [], []), (2, 300, [], [], []), (2, 300, [], [], []), (2, 300, [], [], []), (2, 300, [], [], []), (4, 300, [], [], []), (1, 12, [0, 0, 0, Int32.ofInt (-1)], [], [15, 126, 15, 15, 15, 127, 15, 128, 15, 15, 129, 130, 15, 131, 132, 15, 133, 134, 15, 135, 136, 137, 15, 138, 139, 140, 141, 142, 15, 15, 15, 15, 15, 15, 15, 143, 144, 145, 15, 146, 147, 148, 15, 149]), (2, 2000, [], [], []), (2, 2000, [], [], []), (2, 2000, [], [], []), (2, 17600, [], [], []), (2, 1100, [], [], []), (2, 61, [], [], []), (2, 62, [], [], []), (2, 500, [], [], []), (2, 500, [], [], []), (2, 600, [], [], []), (2, 2400, [], [], []), (2, 600, [], [], []), (2, 1100, [], [], []), (2, 1100, [], [], []), (2, 1100, [], [], []), (2, 4400, [], [], []), (2, 1100, [], [], []), (2, 11, [], [], []), (2, 11, [], [], []), (2, 11, [], [], []), (2, 8, [], [], []), (4, 1100, [], [], []), (2, 1100, [], [], []), (2, 130000, [], [], [])]
def Tc40 : List mC := [(1, 11, [0, Int32.ofInt 0, Int32.ofInt (-1), 0, 0, 0, Int32.ofInt 0, 0, 0, 0, 0, 0, Int32.ofInt (-1), 0, Int32.ofInt 0, 0, 0, Int32.ofInt 0], [0, 0, 0, 0, 0, 0, 0, 0, 0, 0, 0, 0, 0, 0, 0, 0, 0, 0, Int64.ofNat 0], [17, 15, 15, 18, 22, 42, 15, 62, 65, 70, 94, 95, 15, 96, 15, 101, 106]), (5, 2000, [], [], []), (1, 9, [0, 0, 0, Int32.ofInt 0, 0, Int32.ofInt 0], [], [19, 20, 21, 15, 17]), (2, 2001, [], [], []), (2, 2001, [], [], []), (2, 2001, [], [], []), (1, 5, [0, 0, 0, 0, 0, 0, Int32.ofInt 0, 0, 0, 0, 0, 0, 0, Int32.ofInt 0, 0, 0, 0, Int32.ofInt 0, Int32.ofInt 0], [], [23, 28, 29, 30, 31, 32, 15, 33, 34, 35, 36, 37, 38, 15, 39, 40, 41]), (1, 3, [0, 0, 0, 0, Int32.ofInt 0], [], [24, 25, 26, 27]), mWrd, (5, 2058, [], [], []), (2, 1025, [], [], []), (2, 2048, [], [], []), (2, 1024, [], [], []), (2, 1024, [], [], []), (2, 4096, [], [], []), (2, 1024, [], [], []), (2, 1024, [], [], []), (2, 60, [], [], []), (2, 480, [], [], []), (2, 60, [], [], []), (2, 480, [], [], []), (2, 480, [], [], []), (2, 60, [], [], []), (2, 60, [], [], []), (2, 61, [], [], []), (2, 60, [], [], []), (1, 5, [0, 0, 0, 0, 0, 0, Int32.ofInt 0, 0, 0, 0, 0, 0, 0, Int32.ofInt 0, 0, 0, 0, Int32.ofInt 0, Int32.ofInt 0], [], [43, 48, 49, 50, 51, 52, 15, 53, 54, 55, 56, 57, 58, 15, 59, 60, 61]), (1, 3, [0, 0, 0, 0, Int32.ofInt 0], [], [44, 45, 46, 47]), mWrd, (5, 2058, [], [], []), (2, 1025, [], [], []), (2, 2048, [], [], []), (2, 1024, [], [], []), (2, 1024, [], [], []), (2, 4096, [], [], []), (2, 1024, [], [], []), (2, 1024, [], [], []), (2, 60, [], [], []), (2, 480, [], [], []), (2, 60, [], [], []), (2, 480, [], [], []), (2, 480, [], [], []), (2, 60, [], [], []), (2, 60, [], [], []), (2, 61, [], [], []), (2, 60, [], [], []), (1, 4, [0, 0, Int32.ofInt 0, 0, Int32.ofInt 0], [], [18, 42, 15, 63, 15, 64]), (2, 8, [], [], []), (2, 44, [], [], []), (1, 0, [Int32.ofInt (-1), 0, 0, 0, Int32.ofInt 0], [], [15, 42, 66, 67, 15, 68, 69]), (2, 1024, [], [], []), (2, 1024, [], [], []), (6, 62, [], [], []), (4, 62, [], [], []), (1, 2, [0, 0, 0, 0, Int32.ofInt 0, 0, 0, 0, Int32.ofInt 0, Int32.ofInt 0, Int32.ofInt (-1), Int32.ofInt 0, Int32.ofInt 0, Int32.ofInt 0, Int32.ofInt 0, Int32.ofInt 0], [0, 0, 0, 0, 0, 0, 0, 0, 0, 0, 0, 0, 0, 0, 0, 0, Int64.ofNat 0], [84, 71, 22, 80, 15, 81, 82, 83]), (1, 1, [0, 0, 0, 0, 0, 0, 0, Int32.ofInt 0], [], [72, 73, 74, 75, 76, 77, 78, 15, 79]), (2, 1000, [], [], []), (2, 4000, [], [], []), (2, 1000, [], [], []), (2, 1000, [], [], []), (2, 4096, [], [], []), (2, 1024, [], [], []), (2, 1024, [], [], []), (2, 4, [], [], []), (2, 4, [], [], []), (2, 1024, [], [], []), (2, 1024, [], [], []), (2, 8, [], [], []), (1, 8, [0, 0, 0, 0, 0, 0, 0, 0, 0, Int32.ofInt 0], [], [23, 85, 86, 87, 88, 89, 90, 91, 92, 15, 93]), (2, 4096, [], [], []), (2, 4096, [], [], []), (2, 16384, [], [], []), (2, 4096, [], [], []), (2, 4096, [], [], []), (2, 4096, [], [], []), (2, 4096, [], [], []), (2, 8192, [], [], []), (2, 4, [], [], []), (2, 60, [], [], []), (2, 60, [], [], []), (1, 10, [0, 0, 0, Int32.ofInt 0, Int32.ofInt 0], [], [97, 98, 99, 15, 15, 100]), (2, 1000, [], [], []), (2, 5, [], [], []), (2, 4, [], [], []), (2, 4, [], [], []), (1, 10, [0, 0, 0, Int32.ofInt 0, Int32.ofInt 0], [], [102, 103, 104, 15, 15, 105]), (2, 1000, [], [], []), (2, 5, [], [], []), (2, 4, [], [], []), (2, 4, [], [], []), (1, 6, [Int32.ofInt 0, Int32.ofInt 0, 0, 0, 0, 0, 0, 0, 0, 0, 0, 0, 0, Int32.ofInt 0, Int32.ofInt (-1)], [], [15, 15, 107, 113, 114, 115, 116, 117, 118, 119, 120, 121, 122, 15, 15, 123, 124]), (1, 7, [0, 0, 0, Int32.ofInt 0], [], [108, 109, 110, 15, 111, 112]), (7, 9120, [], [], []), (2, 302, [], [], []), (2, 301, [], [], []), (2, 79, [], [], []), (2, 19, [], [], []), (2, 300, [], [], []), (4, 300, [], [], []), (2, 300, [], [], []), (2, 12000, [], [], []), (2, 300, [], [], []), (2, 300, [], [], []), (2, 300, [], [], []), (2, 300, [], [], []), (2, 300, [], [], []), (2, 300, [], [], []), (2, 300, [], [], []), (4, 300, [], [], []), (1, 12, [0, 0, 0, Int32.ofInt (-1)], [], [15, 126, 15, 15, 15, 127, 15, 128, 15, 15, 129, 130, 15, 131, 132, 15, 133, 134, 15, 135, 136, 137, 15, 138, 139, 140, 141, 142, 15, 15, 15, 15, 15, 15, 15, 143, 144, 145, 15, 146, 147, 148, 15, 149, 150, 151, 152, 153, 15, 154, 155, 156, 157, 158, 159, 160, 15, 15, 15, 161]), (2, 2000, [], [], []), (2, 2000, [], [], []), (2, 2000, [], [], []), (2, 17600, [], [], []), (2, 1100, [], [], []), (2, 61, [], [], []), (2, 62, [], [], []), (2, 500, [], [], []), (2, 500, [], [], []), (2, 600, [], [], []), (2, 2400, [], [], []), (2, 600, [], [], []), (2, 1100, [], [], []), (2, 1100, [], [], []), (2, 1100, [], [], []), (2, 4400, [], [], []), (2, 1100, [], [], []), (2, 11, [], [], []), (2, 11, [], [], []), (2, 11, [], [], []), (2, 8, [], [], []), (4, 1100, [], [], []), (2, 1100, [], [], []), (2, 130000, [], [], []), (2, 130000, [], [], []), (2, 520000, [], [], []), (2, 130000, [], [], []), (2, 262144, [], [], []), (2, 1001, [], [], []), (2, 4004, [], [], []), (2, 1001, [], [], []), (2, 4096, [], [], []), (2, 1100, [], [], []), (2, 1100, [], [], []), (2, 1100, [], [], []), (2, 8, [], [], [])]
def Tc41 : List mC := [(1, 11, [0, Int32.ofInt 0, Int32.ofInt (-1), 0, 0, 0, Int32.ofInt 0, 0, 0, 0, 0, 0, Int32.ofInt (-1), 0, Int32.ofInt 0, 0, 0, Int32.ofInt 0], [0, 0, 0, 0, 0, 0, 0, 0, 0, 0, 0, 0, 0, 0, 0, 0, 0, 0, Int64.ofNat 0], [17, 15, 15, 18, 22, 42, 15, 62, 65, 70, 94, 95, 15, 96, 15, 101, 106]), (5, 2000, [], [], []), (1, 9, [0, 0, 0, Int32.ofInt 0, 0, Int32.ofInt 0], [], [19, 20, 21, 15, 17]), (2, 2001, [], [], []), (2, 2001, [], [], []), (2, 2001, [], [], []), (1, 5, [0, 0, 0, 0, 0, 0, Int32.ofInt 0, 0, 0, 0, 0, 0, 0, Int32.ofInt 0, 0, 0, 0, Int32.ofInt 0, Int32.ofInt 0], [], [23, 28, 29, 30, 31, 32, 15, 33, 34, 35, 36, 37, 38, 15, 39, 40, 41]), (1, 3, [0, 0, 0, 0, Int32.ofInt 0], [], [24, 25, 26, 27]), mWrd, (5, 2058, [], [], []), (2, 1025, [], [], []), (2, 2048, [], [], []), (2, 1024, [], [], []), (2, 1024, [], [], []), (2, 4096, [], [], []), (2, 1024, [], [], []), (2, 1024, [], [], []), (2, 60, [], [], []), (2, 480, [], [], []), (2, 60, [], [], []), (2, 480, [], [], []), (2, 480, [], [], []), (2, 60, [], [], []), (2, 60, [], [], []), (2, 61, [], [], []), (2, 60, [], [], []), (1, 5, [0, 0, 0, 0, 0, 0, Int32.ofInt 0, 0, 0, 0, 0, 0, 0, Int32.ofInt 0, 0, 0, 0, Int32.ofInt 0, Int32.ofInt 0], [], [43, 48, 49, 50, 51, 52, 15, 53, 54, 55, 56, 57, 58, 15, 59, 60, 61]), (1, 3, [0, 0, 0, 0, Int32.ofInt 0], [], [44, 45, 46, 47]), mWrd, (5, 2058, [], [], []), (2, 1025, [], [], []), (2, 2048, [], [], []), (2, 1024, [], [], []), (2, 1024, [], [], []), (2, 4096, [], [], []), (2, 1024, [], [], []), (2, 1024, [], [], []), (2, 60, [], [], []), (2, 480, [], [], []), (2, 60, [], [], []), (2, 480, [], [], []), (2, 480, [], [], []), (2, 60, [], [], []), (2, 60, [], [], []), (2, 61, [], [], []), (2, 60, [], [], []), (1, 4, [0, 0, Int32.ofInt 0, 0, Int32.ofInt 0], [], [18, 42, 15, 63, 15, 64]), (2, 8, [], [], []), (2, 44, [], [], []), (1, 0, [Int32.ofInt (-1), 0, 0, 0, Int32.ofInt 0], [], [15, 42, 66, 67, 15, 68, 69]), (2, 1024, [], [], []), (2, 1024, [], [], []), (6, 62, [], [], []), (4, 62, [], [], []), (1, 2, [0, 0, 0, 0, Int32.ofInt 0, 0, 0, 0, Int32.ofInt 0, Int32.ofInt 0, Int32.ofInt (-1), Int32.ofInt 0, Int32.ofInt 0, Int32.ofInt 0, Int32.ofInt 0, Int32.ofInt 0], [0, 0, 0, 0, 0, 0, 0, 0, 0, 0, 0, 0, 0, 0, 0, 0, Int64.ofNat 0], [84, 71, 22, 80, 15, 81, 82, 83]), (1, 1, [0, 0, 0, 0, 0, 0, 0, Int32.ofInt 0], [], [72, 73, 74, 75, 76, 77, 78, 15, 79]), (2, 1000, [], [], []), (2, 4000, [], [], []), (2, 1000, [], [], []), (2, 1000, [], [], []), (2, 4096, [], [], []), (2, 1024, [], [], []), (2, 1024, [], [], []), (2, 4, [], [], []), (2, 4, [], [], []), (2, 1024, [], [], []), (2, 1024, [], [], []), (2, 8, [], [], []), (1, 8, [0, 0, 0, 0, 0, 0, 0, 0, 0, Int32.ofInt 0], [], [23, 85, 86, 87, 88, 89, 90, 91, 92, 15, 93]), (2, 4096, [], [], []), (2, 4096, [], [], []), (2, 16384, [], [], []), (2, 4096, [], [], []), (2, 4096, [], [], []), (2, 4096, [], [], []), (2, 4096, [], [], []), (2, 8192, [], [], []), (2, 4, [], [], []), (2, 60, [], [], []), (2, 60, [], [], []), (1, 10, [0, 0, 0, Int32.ofInt 0, Int32.ofInt 0], [], [97, 98, 99, 15, 15, 100]), (2, 1000, [], [], []), (2, 5, [], [], []), (2, 4, [], [], []), (2, 4, [], [], []), (1, 10, [0, 0, 0, Int32.ofInt 0, Int32.ofInt 0], [], [102, 103, 104, 15, 15, 105]), (2, 1000, [], [], []), (2, 5, [], [], []), (2, 4, [], [], []), (2, 4, [], [], []), (1, 6, [Int32.ofInt 0, Int32.ofInt 0, 0, 0, 0, 0, 0, 0, 0, 0, 0, 0, 0, Int32.ofInt 0, Int32.ofInt (-1)], [], [15, 15, 107, 113, 114, 115, 116, 117, 118, 119, 120, 121, 122, 15, 15, 123, 124]), (1, 7, [0, 0, 0, Int32.ofInt 0], [], [108, 109, 110, 15, 111, 112]), (7, 9120, [], [], []), (2, 302, [], [], []), (2, 301, [], [], []), (2, 79, [], [], []), (2, 19, [], [], []), (2, 300, [], [], []), (4, 300, [], [], []), (2, 300, [], [], []), (2, 12000, [], [], []), (2, 300, [], [], []), (2, 300, [], [], []), (2, 300, [], [], []), (2, 300, [], [], []), (2, 300, [], [], []), (2, 300, [], [], []), (2, 300, [], [], []), (4, 300, [], [], []), (1, 12, [0, 0, 0, Int32.ofInt (-1)], [], [15, 126, 15, 15, 15, 127, 15, 128, 15, 15, 129, 130, 15, 131, 132, 15, 133, 134, 15, 135, 136, 137, 15, 138, 139, 140, 141, 142, 15, 15, 15, 15, 15, 15, 15, 143, 144, 145, 15, 146, 147, 148, 15, 149, 150, 151, 152, 153, 15, 154, 155, 156, 157, 158, 159, 160, 15, 15, 15, 161, 162, 163, 164, 165, 166, 167, 168, 169, 15, 15, 15, 170, 15, 171, 172, 15, 173]), (2, 2000, [], [], []), (2, 2000, [], [], []), (2, 2000, [], [], []), (2, 17600, [], [], []), (2, 1100, [], [], []), (2, 61, [], [], []), (2, 62, [], [], []), (2, 500, [], [], []), (2, 500, [], [], []), (2, 600, [], [], []), (2, 2400, [], [], []), (2, 600, [], [], []), (2, 1100, [], [], []), (2, 1100, [], [], []), (2, 1100, [], [], []), (2, 4400, [], [], []), (2, 1100, [], [], []), (2, 11, [], [], []), (2, 11, [], [], []), (2, 11, [], [], []), (2, 8, [], [], []), (4, 1100, [], [], []), (2, 1100, [], [], []), (2, 130000, [], [], []), (2, 130000, [], [], []), (2, 520000, [], [], []), (2, 130000, [], [], []), (2, 262144, [], [], []), (2, 1001, [], [], []), (2, 4004, [], [], []), (2, 1001, [], [], []), (2, 4096, [], [], []), (2, 1100, [], [], []), (2, 1100, [], [], []), (2, 1100, [], [], []), (2, 8, [], [], []), (2, 9, [], [], []), (2, 8, [], [], []), (2, 8, [], [], []), (2, 1100, [], [], []), (2, 1100, [], [], []), (2, 1100, [], [], []), (2, 4, [], [], []), (2, 61, [], [], []), (2, 12000, [], [], []), (3, 887880, [], [], []), (2, 302, [], [], []), (2, 4, [], [], [])]
def Tc42 : List mC := [(1, 11, [0, Int32.ofInt 0, Int32.ofInt (-1), 0, 0, 0, Int32.ofInt 0, 0, 0, 0, 0, 0, Int32.ofInt (-1), 0, Int32.ofInt 0, 0, 0, Int32.ofInt 0], [0, 0, 0, 0, 0, 0, 0, 0, 0, 0, 0, 0, 0, 0, 0, 0, 0, 0, Int64.ofNat 0], [17, 15, 15, 18, 22, 42, 15, 62, 65, 70, 94, 95, 15, 96, 15, 101, 106]), (5, 2000, [], [], []), (1, 9, [0, 0, 0, Int32.ofInt 0, 0, Int32.ofInt 0], [], [19, 20, 21, 15, 17]), (2, 2001, [], [], []), (2, 2001, [], [], []), (2, 2001, [], [], []), (1, 5, [0, 0, 0, 0, 0, 0, Int32.ofInt 0, 0, 0, 0, 0, 0, 0, Int32.ofInt 0, 0, 0, 0, Int32.ofInt 0, Int32.ofInt 0], [], [23, 28, 29, 30, 31, 32, 15, 33, 34, 35, 36, 37, 38, 15, 39, 40, 41]), (1, 3, [0, 0, 0, 0, Int32.ofInt 0], [], [24, 25, 26, 27]), mWrd, (5, 2058, [], [], []), (2, 1025, [], [], []), (2, 2048, [], [], []), (2, 1024, [], [], []), (2, 1024, [], [], []), (2, 4096, [], [], []), (2, 1024, [], [], []), (2, 1024, [], [], []), (2, 60, [], [], []), (2, 480, [], [], []), (2, 60, [], [], []), (2, 480, [], [], []), (2, 480, [], [], []), (2, 60, [], [], []), (2, 60, [], [], []), (2, 61, [], [], []), (2, 60, [], [], []), (1, 5, [0, 0, 0, 0, 0, 0, Int32.ofInt 0, 0, 0, 0, 0, 0, 0, Int32.ofInt 0, 0, 0, 0, Int32.ofInt 0, Int32.ofInt 0], [], [43, 48, 49, 50, 51, 52, 15, 53, 54, 55, 56, 57, 58, 15, 59, 60, 61]), (1, 3, [0, 0, 0, 0, Int32.ofInt 0], [], [44, 45, 46, 47]), mWrd, (5, 2058, [], [], []), (2, 1025, [], [], []), (2, 2048, [], [], []), (2, 1024, [], [], []), (2, 1024, [], [], []), (2, 4096, [], [], []), (2, 1024, [], [], []), (2, 1024, [], [], []), (2, 60, [], [], []), (2, 480, [], [], []), (2, 60, [], [], []), (2, 480, [], [], []), (2, 480, [], [], []), (2, 60, [], [], []), (2, 60, [], [], []), (2, 61, [], [], []), (2, 60, [], [], []), (1, 4, [0, 0, Int32.ofInt 0, 0, Int32.ofInt 0], [], [18, 42, 15, 63, 15, 64]), (2, 8, [], [], []), (2, 44, [], [], []), (1, 0, [Int32.ofInt (-1), 0, 0, 0, Int32.ofInt 0], [], [15, 42, 66, 67, 15, 68, 69]), (2, 1024, [], [], []), (2, 1024, [], [], []), (6, 62, [], [], []), (4, 62, [], [], []), (1, 2, [0, 0, 0, 0, Int32.ofInt 0, 0, 0, 0, Int32.ofInt 0, Int32.ofInt 0, Int32.ofInt (-1), Int32.ofInt 0, Int32.ofInt 0, Int32.ofInt 0, Int32.ofInt 0, Int32.ofInt 0], [0, 0, 0, 0, 0, 0, 0, 0, 0, 0, 0, 0, 0, 0, 0, 0, Int64.ofNat 0], [84, 71, 22, 80, 15, 81, 82, 83]), (1, 1, [0, 0, 0, 0, 0, 0, 0, Int32.ofInt 0], [], [72, 73, 74, 75, 76, 77, 78, 15, 79]), (2, 1000, [], [], []), (2, 4000, [], [], []), (2, 1000, [], [], []), (2, 1000, [], [], []), (2, 4096, [], [], []), (2, 1024, [], [], []), (2, 1024, [], [], []), (2, 4, [], [], []), (2, 4, [], [], []), (2, 1024, [], [], []), (2, 1024, [], [], []), (2, 8, [], [], []), (1, 8, [0, 0, 0, 0, 0, 0, 0, 0, 0, Int32.ofInt 0], [], [23, 85, 86, 87, 88, 89, 90, 91, 92, 15, 93]), (2, 4096, [], [], []), (2, 4096, [], [], []), (2, 16384, [], [], []), (2, 4096, [], [], []), (2, 4096, [], [], []), (2, 4096, [], [], []), (2, 4096, [], [], []), (2, 8192, [], [], []), (2, 4, [], [], []), (2, 60, [], [], []), (2, 60, [], [], []), (1, 10, [0, 0, 0, Int32.ofInt 0, Int32.ofInt 0], [], [97, 98, 99, 15, 15, 100]), (2, 1000, [], [], []), (2, 5, [], [], []), (2, 4, [], [], []), (2, 4, [], [], []), (1, 10, [0, 0, 0, Int32.ofInt 0, Int32.ofInt 0], [], [102, 103, 104, 15, 15, 105]), (2, 1000, [], [], []), (2, 5, [], [], []), (2, 4, [], [], []), (2, 4, [], [], []), (1, 6, [Int32.ofInt 0, Int32.ofInt 0, 0, 0, 0, 0, 0, 0, 0, 0, 0, 0, 0, Int32.ofInt 0, Int32.ofInt (-1)], [], [15, 15, 107, 113, 114, 115, 116, 117, 118, 119, 120, 121, 122, 15, 15, 123, 124]), (1, 7, [0, 0, 0, Int32.ofInt 0], [], [108, 109, 110, 15, 111, 112]), (7, 9120, [], [], []), (2, 302, [], [], []), (2, 301, [], [], []), (2, 79, [], [], []), (2, 19, [], [], []), (2, 300, [], [], []), (4, 300, [], [], []), (2, 300, [], [], []), (2, 12000, [], [], []), (2, 300, [], [], []), (2, 300, [], [], []), (2, 300, [], [], []), (2, 300, [], [], []), (2, 300, [], [], []), (2, 300, [], [], []), (2, 300, [], [], []), (4, 300, [], [], []), (1, 12, [0, 0, 0, Int32.ofInt (-1)], [], [15, 126, 15, 15, 15, 127, 15, 128, 15, 15, 129, 130, 15, 131, 132, 15, 133, 134, 15, 135, 136, 137, 15, 138, 139, 140, 141, 142, 15, 15, 15, 15, 15, 15, 15, 143, 144, 145, 15, 146, 147, 148, 15, 149, 150, 151, 152, 153, 15, 154, 155, 156, 157, 158, 159, 160, 15, 15, 15, 161, 162, 163, 164, 165, 166, 167, 168, 169, 15, 15, 15, 170, 15, 171, 172, 15, 173, 174, 175, 176, 15, 15, 15, 15, 177, 178, 179, 180, 181, 15, 15, 182, 183, 184]), (2, 2000, [], [], []), (2, 2000, [], [], []), (2, 2000, [], [], []), (2, 17600, [], [], []), (2, 1100, [], [], []), (2, 61, [], [], []), (2, 62, [], [], []), (2, 500, [], [], []), (2, 500, [], [], []), (2, 600, [], [], []), (2, 2400, [], [], []), (2, 600, [], [], []), (2, 1100, [], [], []), (2, 1100, [], [], []), (2, 1100, [], [], []), (2, 4400, [], [], []), (2, 1100, [], [], []), (2, 11, [], [], []), (2, 11, [], [], []), (2, 11, [], [], []), (2, 8, [], [], []), (4, 1100, [], [], []), (2, 1100, [], [], []), (2, 130000, [], [], []), (2, 130000, [], [], []), (2, 520000, [], [], []), (2, 130000, [], [], []), (2, 262144, [], [], []), (2, 1001, [], [], []), (2, 4004, [], [], []), (2, 1001, [], [], []), (2, 4096, [], [], []), (2, 1100, [], [], []), (2, 1100, [], [], []), (2, 1100, [], [], []), (2, 8, [], [], []), (2, 9, [], [], []), (2, 8, [], [], []), (2, 8, [], [], []), (2, 1100, [], [], []), (2, 1100, [], [], []), (2, 1100, [], [], []), (2, 4, [], [], []), (2, 61, [], [], []), (2, 12000, [], [], []), (3, 887880, [], [], []), (2, 302, [], [], []), (2, 4, [], [], []), (3, 196196, [], [], []), (2, 4, [], [], []), (2, 3000, [], [], []), (4, 300, [], [], []), (2, 300, [], [], []), (2, 12000, [], [], []), (2, 600, [], [], []), (2, 600, [], [], []), (2, 300, [], [], []), (4, 300, [], [], []), (4, 300, [], [], [])]
set_option maxHeartbeats 2000000 in
set_option maxRecDepth 20000 in
theorem ctor15 {L d : Nat} {xs : Nat → Int32} : Wp (d + 0) 147 (0, [some (.ref 125)], [], mT L xs 126 Tc37 132474) (pV (fun μ' => μ' = mT L xs 185 Tc42 2475968) noX) := by
  refine b147_0 rfl (Nat.ne_of_beq_eq_false rfl) ?_
  try simp only [mT_n]
  try simp only [mT_n, kN0, kN1, kN2, kN3, kN4, kN5, kN6, kN7, kN8, kN9, kN10, kN11, kN12, kN13, kN14, kN15, kN16, kN17, kN18, kN19, kN20, kN21, kN22, kN23, kN24, kN25, kN26, kN27, kN28, kN29, kN30, kN31, kN32, kN33, kN34, kN35, kN36, kN37, kN38, kN39, kN40, kN41]
  rw [mT_nA, mT_pR]
  refine b147_13 rfl rfl (Nat.ne_of_beq_eq_false rfl) ?_
  try simp only [mT_n]
  try simp only [mT_n, kN0, kN1, kN2, kN3, kN4, kN5, kN6, kN7, kN8, kN9, kN10, kN11, kN12, kN13, kN14, kN15, kN16, kN17, kN18, kN19, kN20, kN21, kN22, kN23, kN24, kN25, kN26, kN27, kN28, kN29, kN30, kN31, kN32, kN33, kN34, kN35, kN36, kN37, kN38, kN39, kN40, kN41]
  rw [mT_pA, mT_nA, mT_pR]
  refine b147_27 rfl (Nat.ne_of_beq_eq_false rfl) ?_
  try simp only [mT_n]
  try simp only [mT_n, kN0, kN1, kN2, kN3, kN4, kN5, kN6, kN7, kN8, kN9, kN10, kN11, kN12, kN13, kN14, kN15, kN16, kN17, kN18, kN19, kN20, kN21, kN22, kN23, kN24, kN25, kN26, kN27, kN28, kN29, kN30, kN31, kN32, kN33, kN34, kN35, kN36, kN37, kN38, kN39, kN40, kN41]
  rw [mT_nA, mT_pR]
  refine b147_36 rfl (Nat.ne_of_beq_eq_false rfl) ?_
  try simp only [mT_n]
  try simp only [mT_n, kN0, kN1, kN2, kN3, kN4, kN5, kN6, kN7, kN8, kN9, kN10, kN11, kN12, kN13, kN14, kN15, kN16, kN17, kN18, kN19, kN20, kN21, kN22, kN23, kN24, kN25, kN26, kN27, kN28, kN29, kN30, kN31, kN32, kN33, kN34, kN35, kN36, kN37, kN38, kN39, kN40, kN41]
  rw [mT_nA, mT_pR]
  refine b147_45 rfl (Nat.ne_of_beq_eq_false rfl) ?_
  try simp only [mT_n]
  try simp only [mT_n, kN0, kN1, kN2, kN3, kN4, kN5, kN6, kN7, kN8, kN9, kN10, kN11, kN12, kN13, kN14, kN15, kN16, kN17, kN18, kN19, kN20, kN21, kN22, kN23, kN24, kN25, kN26, kN27, kN28, kN29, kN30, kN31, kN32, kN33, kN34, kN35, kN36, kN37, kN38, kN39, kN40, kN41]
  rw [mT_nA, mT_pR]
  refine b147_54 rfl (Nat.ne_of_beq_eq_false rfl) ?_
  try simp only [mT_n]
  try simp only [mT_n, kN0, kN1, kN2, kN3, kN4, kN5, kN6, kN7, kN8, kN9, kN10, kN11, kN12, kN13, kN14, kN15, kN16, kN17, kN18, kN19, kN20, kN21, kN22, kN23, kN24, kN25, kN26, kN27, kN28, kN29, kN30, kN31, kN32, kN33, kN34, kN35, kN36, kN37, kN38, kN39, kN40, kN41]
  rw [mT_nA, mT_pR]
  refine b147_62 rfl (Nat.ne_of_beq_eq_false rfl) ?_
  try simp only [mT_n]
  try simp only [mT_n, kN0, kN1, kN2, kN3, kN4, kN5, kN6, kN7, kN8, kN9, kN10, kN11, kN12, kN13, kN14, kN15, kN16, kN17, kN18, kN19, kN20, kN21, kN22, kN23, kN24, kN25, kN26, kN27, kN28, kN29, kN30, kN31, kN32, kN33, kN34, kN35, kN36, kN37, kN38, kN39, kN40, kN41]
  rw [mT_nA, mT_pR]
  refine b147_70 rfl (Nat.ne_of_beq_eq_false rfl) ?_
  try simp only [mT_n]
  try simp only [mT_n, kN0, kN1, kN2, kN3, kN4, kN5, kN6, kN7, kN8, kN9, kN10, kN11, kN12, kN13, kN14, kN15, kN16, kN17, kN18, kN19, kN20, kN21, kN22, kN23, kN24, kN25, kN26, kN27, kN28, kN29, kN30, kN31, kN32, kN33, kN34, kN35, kN36, kN37, kN38, kN39, kN40, kN41]
  rw [mT_nA, mT_pR]
  refine b147_79 rfl (Nat.ne_of_beq_eq_false rfl) ?_
  try simp only [mT_n]
  try simp only [mT_n, kN0, kN1, kN2, kN3, kN4, kN5, kN6, kN7, kN8, kN9, kN10, kN11, kN12, kN13, kN14, kN15, kN16, kN17, kN18, kN19, kN20, kN21, kN22, kN23, kN24, kN25, kN26, kN27, kN28, kN29, kN30, kN31, kN32, kN33, kN34, kN35, kN36, kN37, kN38, kN39, kN40, kN41]
  rw [mT_nA, mT_pR]
  refine b147_88 rfl (Nat.ne_of_beq_eq_false rfl) ?_
  try simp only [mT_n]
  try simp only [mT_n, kN0, kN1, kN2, kN3, kN4, kN5, kN6, kN7, kN8, kN9, kN10, kN11, kN12, kN13, kN14, kN15, kN16, kN17, kN18, kN19, kN20, kN21, kN22, kN23, kN24, kN25, kN26, kN27, kN28, kN29, kN30, kN31, kN32, kN33, kN34, kN35, kN36, kN37, kN38, kN39, kN40, kN41]
  rw [mT_nA, mT_pR]
  refine b147_97 rfl (Nat.ne_of_beq_eq_false rfl) ?_
  try simp only [mT_n]
  try simp only [mT_n, kN0, kN1, kN2, kN3, kN4, kN5, kN6, kN7, kN8, kN9, kN10, kN11, kN12, kN13, kN14, kN15, kN16, kN17, kN18, kN19, kN20, kN21, kN22, kN23, kN24, kN25, kN26, kN27, kN28, kN29, kN30, kN31, kN32, kN33, kN34, kN35, kN36, kN37, kN38, kN39, kN40, kN41]
  rw [mT_nA, mT_pR]
  refine b147_106 rfl (Nat.ne_of_beq_eq_false rfl) ?_
  try simp only [mT_n]
  try simp only [mT_n, kN0, kN1, kN2, kN3, kN4, kN5, kN6, kN7, kN8, kN9, kN10, kN11, kN12, kN13, kN14, kN15, kN16, kN17, kN18, kN19, kN20, kN21, kN22, kN23, kN24, kN25, kN26, kN27, kN28, kN29, kN30, kN31, kN32, kN33, kN34, kN35, kN36, kN37, kN38, kN39, kN40, kN41]
  rw [mT_nA, mT_pR]
  change Wp _ 147 (115, _, _, mT L xs 138 Tc38 161897) _
  refine b147_115 rfl (Nat.ne_of_beq_eq_false rfl) ?_
  try simp only [mT_n]
  try simp only [mT_n, kN0, kN1, kN2, kN3, kN4, kN5, kN6, kN7, kN8, kN9, kN10, kN11, kN12, kN13, kN14, kN15, kN16, kN17, kN18, kN19, kN20, kN21, kN22, kN23, kN24, kN25, kN26, kN27, kN28, kN29, kN30, kN31, kN32, kN33, kN34, kN35, kN36, kN37, kN38, kN39, kN40, kN41]
  rw [mT_nA, mT_pR]
  refine b147_124 rfl (Nat.ne_of_beq_eq_false rfl) ?_
  try simp only [mT_n]
  try simp only [mT_n, kN0, kN1, kN2, kN3, kN4, kN5, kN6, kN7, kN8, kN9, kN10, kN11, kN12, kN13, kN14, kN15, kN16, kN17, kN18, kN19, kN20, kN21, kN22, kN23, kN24, kN25, kN26, kN27, kN28, kN29, kN30, kN31, kN32, kN33, kN34, kN35, kN36, kN37, kN38, kN39, kN40, kN41]
  rw [mT_nA, mT_pR]
  refine b147_133 rfl (Nat.ne_of_beq_eq_false rfl) ?_
  try simp only [mT_n]
  try simp only [mT_n, kN0, kN1, kN2, kN3, kN4, kN5, kN6, kN7, kN8, kN9, kN10, kN11, kN12, kN13, kN14, kN15, kN16, kN17, kN18, kN19, kN20, kN21, kN22, kN23, kN24, kN25, kN26, kN27, kN28, kN29, kN30, kN31, kN32, kN33, kN34, kN35, kN36, kN37, kN38, kN39, kN40, kN41]
  rw [mT_nA, mT_pR]
  refine b147_142 rfl (Nat.ne_of_beq_eq_false rfl) ?_
  try simp only [mT_n]
  try simp only [mT_n, kN0, kN1, kN2, kN3, kN4, kN5, kN6, kN7, kN8, kN9, kN10, kN11, kN12, kN13, kN14, kN15, kN16, kN17, kN18, kN19, kN20, kN21, kN22, kN23, kN24, kN25, kN26, kN27, kN28, kN29, kN30, kN31, kN32, kN33, kN34, kN35, kN36, kN37, kN38, kN39, kN40, kN41]
  rw [mT_nA, mT_pR]
  refine b147_151 rfl (Nat.ne_of_beq_eq_false rfl) ?_
  try simp only [mT_n]
  try simp only [mT_n, kN0, kN1, kN2, kN3, kN4, kN5, kN6, kN7, kN8, kN9, kN10, kN11, kN12, kN13, kN14, kN15, kN16, kN17, kN18, kN19, kN20, kN21, kN22, kN23, kN24, kN25, kN26, kN27, kN28, kN29, kN30, kN31, kN32, kN33, kN34, kN35, kN36, kN37, kN38, kN39, kN40, kN41]
  rw [mT_nA, mT_pR]
  refine b147_160 rfl (Nat.ne_of_beq_eq_false rfl) ?_
  try simp only [mT_n]
  try simp only [mT_n, kN0, kN1, kN2, kN3, kN4, kN5, kN6, kN7, kN8, kN9, kN10, kN11, kN12, kN13, kN14, kN15, kN16, kN17, kN18, kN19, kN20, kN21, kN22, kN23, kN24, kN25, kN26, kN27, kN28, kN29, kN30, kN31, kN32, kN33, kN34, kN35, kN36, kN37, kN38, kN39, kN40, kN41]
  rw [mT_nA, mT_pR]
  refine b147_168 rfl (Nat.ne_of_beq_eq_false rfl) ?_
  try simp only [mT_n]
  try simp only [mT_n, kN0, kN1, kN2, kN3, kN4, kN5, kN6, kN7, kN8, kN9, kN10, kN11, kN12, kN13, kN14, kN15, kN16, kN17, kN18, kN19, kN20, kN21, kN22, kN23, kN24, kN25, kN26, kN27, kN28, kN29, kN30, kN31, kN32, kN33, kN34, kN35, kN36, kN37, kN38, kN39, kN40, kN41]
  rw [mT_nA, mT_pR]
  refine b147_176 rfl (Nat.ne_of_beq_eq_false rfl) ?_
  try simp only [mT_n]
  try simp only [mT_n, kN0, kN1, kN2, kN3, kN4, kN5, kN6, kN7, kN8, kN9, kN10, kN11, kN12, kN13, kN14, kN15, kN16, kN17, kN18, kN19, kN20, kN21, kN22, kN23, kN24, kN25, kN26, kN27, kN28, kN29, kN30, kN31, kN32, kN33, kN34, kN35, kN36, kN37, kN38, kN39, kN40, kN41]
  rw [mT_nA, mT_pR]
  refine b147_184 rfl (Nat.ne_of_beq_eq_false rfl) ?_
  try simp only [mT_n]
  try simp only [mT_n, kN0, kN1, kN2, kN3, kN4, kN5, kN6, kN7, kN8, kN9, kN10, kN11, kN12, kN13, kN14, kN15, kN16, kN17, kN18, kN19, kN20, kN21, kN22, kN23, kN24, kN25, kN26, kN27, kN28, kN29, kN30, kN31, kN32, kN33, kN34, kN35, kN36, kN37, kN38, kN39, kN40, kN41]
  rw [mT_nA, mT_pR]
  refine b147_192 rfl (Nat.ne_of_beq_eq_false rfl) ?_
  try simp only [mT_n]
  try simp only [mT_n, kN0, kN1, kN2, kN3, kN4, kN5, kN6, kN7, kN8, kN9, kN10, kN11, kN12, kN13, kN14, kN15, kN16, kN17, kN18, kN19, kN20, kN21, kN22, kN23, kN24, kN25, kN26, kN27, kN28, kN29, kN30, kN31, kN32, kN33, kN34, kN35, kN36, kN37, kN38, kN39, kN40, kN41]
  rw [mT_nA, mT_pR]
  refine b147_201 rfl (Nat.ne_of_beq_eq_false rfl) ?_
  try simp only [mT_n]
  try simp only [mT_n, kN0, kN1, kN2, kN3, kN4, kN5, kN6, kN7, kN8, kN9, kN10, kN11, kN12, kN13, kN14, kN15, kN16, kN17, kN18, kN19, kN20, kN21, kN22, kN23, kN24, kN25, kN26, kN27, kN28, kN29, kN30, kN31, kN32, kN33, kN34, kN35, kN36, kN37, kN38, kN39, kN40, kN41]
  rw [mT_nA, mT_pR]
  refine b147_210 rfl (Nat.ne_of_beq_eq_false rfl) ?_
  try simp only [mT_n]
  try simp only [mT_n, kN0, kN1, kN2, kN3, kN4, kN5, kN6, kN7, kN8, kN9, kN10, kN11, kN12, kN13, kN14, kN15, kN16, kN17, kN18, kN19, kN20, kN21, kN22, kN23, kN24, kN25, kN26, kN27, kN28, kN29, kN30, kN31, kN32, kN33, kN34, kN35, kN36, kN37, kN38, kN39, kN40, kN41]
  rw [mT_nA, mT_pR]
  change Wp _ 147 (218, _, _, mT L xs 150 Tc39 302938) _
  refine b147_218 rfl (Nat.ne_of_beq_eq_false rfl) ?_
  try simp only [mT_n]
  try simp only [mT_n, kN0, kN1, kN2, kN3, kN4, kN5, kN6, kN7, kN8, kN9, kN10, kN11, kN12, kN13, kN14, kN15, kN16, kN17, kN18, kN19, kN20, kN21, kN22, kN23, kN24, kN25, kN26, kN27, kN28, kN29, kN30, kN31, kN32, kN33, kN34, kN35, kN36, kN37, kN38, kN39, kN40, kN41]
  rw [mT_nA, mT_pR]
  refine b147_226 rfl (Nat.ne_of_beq_eq_false rfl) ?_
  try simp only [mT_n]
  try simp only [mT_n, kN0, kN1, kN2, kN3, kN4, kN5, kN6, kN7, kN8, kN9, kN10, kN11, kN12, kN13, kN14, kN15, kN16, kN17, kN18, kN19, kN20, kN21, kN22, kN23, kN24, kN25, kN26, kN27, kN28, kN29, kN30, kN31, kN32, kN33, kN34, kN35, kN36, kN37, kN38, kN39, kN40, kN41]
  rw [mT_nA, mT_pR]
  refine b147_234 rfl (Nat.ne_of_beq_eq_false rfl) ?_
  try simp only [mT_n]
  try simp only [mT_n, kN0, kN1, kN2, kN3, kN4, kN5, kN6, kN7, kN8, kN9, kN10, kN11, kN12, kN13, kN14, kN15, kN16, kN17, kN18, kN19, kN20, kN21, kN22, kN23, kN24, kN25, kN26, kN27, kN28, kN29, kN30, kN31, kN32, kN33, kN34, kN35, kN36, kN37, kN38, kN39, kN40, kN41]
  rw [mT_nA, mT_pR]
  refine b147_242 rfl (Nat.ne_of_beq_eq_false rfl) ?_
  try simp only [mT_n]
  try simp only [mT_n, kN0, kN1, kN2, kN3, kN4, kN5, kN6, kN7, kN8, kN9, kN10, kN11, kN12, kN13, kN14, kN15, kN16, kN17, kN18, kN19, kN20, kN21, kN22, kN23, kN24, kN25, kN26, kN27, kN28, kN29, kN30, kN31, kN32, kN33, kN34, kN35, kN36, kN37, kN38, kN39, kN40, kN41]
  rw [mT_nA, mT_pR]
  refine b147_250 rfl (Nat.ne_of_beq_eq_false rfl) ?_
  try simp only [mT_n]
  try simp only [mT_n, kN0, kN1, kN2, kN3, kN4, kN5, kN6, kN7, kN8, kN9, kN10, kN11, kN12, kN13, kN14, kN15, kN16, kN17, kN18, kN19, kN20, kN21, kN22, kN23, kN24, kN25, kN26, kN27, kN28, kN29, kN30, kN31, kN32, kN33, kN34, kN35, kN36, kN37, kN38, kN39, kN40, kN41]
  rw [mT_nA, mT_pR]
  refine b147_259 rfl (Nat.ne_of_beq_eq_false rfl) ?_
  try simp only [mT_n]
  try simp only [mT_n, kN0, kN1, kN2, kN3, kN4, kN5, kN6, kN7, kN8, kN9, kN10, kN11, kN12, kN13, kN14, kN15, kN16, kN17, kN18, kN19, kN20, kN21, kN22, kN23, kN24, kN25, kN26, kN27, kN28, kN29, kN30, kN31, kN32, kN33, kN34, kN35, kN36, kN37, kN38, kN39, kN40, kN41]
  rw [mT_nA, mT_pR]
  refine b147_268 rfl (Nat.ne_of_beq_eq_false rfl) ?_
  try simp only [mT_n]
  try simp only [mT_n, kN0, kN1, kN2, kN3, kN4, kN5, kN6, kN7, kN8, kN9, kN10, kN11, kN12, kN13, kN14, kN15, kN16, kN17, kN18, kN19, kN20, kN21, kN22, kN23, kN24, kN25, kN26, kN27, kN28, kN29, kN30, kN31, kN32, kN33, kN34, kN35, kN36, kN37, kN38, kN39, kN40, kN41]
  rw [mT_nA, mT_pR]
  refine b147_277 rfl (Nat.ne_of_beq_eq_false rfl) ?_
  try simp only [mT_n]
  try simp only [mT_n, kN0, kN1, kN2, kN3, kN4, kN5, kN6, kN7, kN8, kN9, kN10, kN11, kN12, kN13, kN14, kN15, kN16, kN17, kN18, kN19, kN20, kN21, kN22, kN23, kN24, kN25, kN26, kN27, kN28, kN29, kN30, kN31, kN32, kN33, kN34, kN35, kN36, kN37, kN38, kN39, kN40, kN41]
  rw [mT_nA, mT_pR]
  refine b147_286 rfl (Nat.ne_of_beq_eq_false rfl) ?_
  try simp only [mT_n]
  try simp only [mT_n, kN0, kN1, kN2, kN3, kN4, kN5, kN6, kN7, kN8, kN9, kN10, kN11, kN12, kN13, kN14, kN15, kN16, kN17, kN18, kN19, kN20, kN21, kN22, kN23, kN24, kN25, kN26, kN27, kN28, kN29, kN30, kN31, kN32, kN33, kN34, kN35, kN36, kN37, kN38, kN39, kN40, kN41]
  rw [mT_nA, mT_pR]
  refine b147_295 rfl (Nat.ne_of_beq_eq_false rfl) ?_
  try simp only [mT_n]
  try simp only [mT_n, kN0, kN1, kN2, kN3, kN4, kN5, kN6, kN7, kN8, kN9, kN10, kN11, kN12, kN13, kN14, kN15, kN16, kN17, kN18, kN19, kN20, kN21, kN22, kN23, kN24, kN25, kN26, kN27, kN28, kN29, kN30, kN31, kN32, kN33, kN34, kN35, kN36, kN37, kN38, kN39, kN40, kN41]
  rw [mT_nA, mT_pR]
  refine b147_304 rfl (Nat.ne_of_beq_eq_false rfl) ?_
  try simp only [mT_n]
  try simp only [mT_n, kN0, kN1, kN2, kN3, kN4, kN5, kN6, kN7, kN8, kN9, kN10, kN11, kN12, kN13, kN14, kN15, kN16, kN17, kN18, kN19, kN20, kN21, kN22, kN23, kN24, kN25, kN26, kN27, kN28, kN29, kN30, kN31, kN32, kN33, kN34, kN35, kN36, kN37, kN38, kN39, kN40, kN41]
  rw [mT_nA, mT_pR]
  refine b147_313 rfl (Nat.ne_of_beq_eq_false rfl) ?_
  try simp only [mT_n]
  try simp only [mT_n, kN0, kN1, kN2, kN3, kN4, kN5, kN6, kN7, kN8, kN9, kN10, kN11, kN12, kN13, kN14, kN15, kN16, kN17, kN18, kN19, kN20, kN21, kN22, kN23, kN24, kN25, kN26, kN27, kN28, kN29, kN30, kN31, kN32, kN33, kN34, kN35, kN36, kN37, kN38, kN39, kN40, kN41]
  rw [mT_nA, mT_pR]
  change Wp _ 147 (321, _, _, mT L xs 162 Tc40 1358492) _
  refine b147_321 rfl (Nat.ne_of_beq_eq_false rfl) ?_
  try simp only [mT_n]
  try simp only [mT_n, kN0, kN1, kN2, kN3, kN4, kN5, kN6, kN7, kN8, kN9, kN10, kN11, kN12, kN13, kN14, kN15, kN16, kN17, kN18, kN19, kN20, kN21, kN22, kN23, kN24, kN25, kN26, kN27, kN28, kN29, kN30, kN31, kN32, kN33, kN34, kN35, kN36, kN37, kN38, kN39, kN40, kN41]
  rw [mT_nA, mT_pR]
  refine b147_329 rfl (Nat.ne_of_beq_eq_false rfl) ?_
  try simp only [mT_n]
  try simp only [mT_n, kN0, kN1, kN2, kN3, kN4, kN5, kN6, kN7, kN8, kN9, kN10, kN11, kN12, kN13, kN14, kN15, kN16, kN17, kN18, kN19, kN20, kN21, kN22, kN23, kN24, kN25, kN26, kN27, kN28, kN29, kN30, kN31, kN32, kN33, kN34, kN35, kN36, kN37, kN38, kN39, kN40, kN41]
  rw [mT_nA, mT_pR]
  refine b147_337 rfl (Nat.ne_of_beq_eq_false rfl) ?_
  try simp only [mT_n]
  try simp only [mT_n, kN0, kN1, kN2, kN3, kN4, kN5, kN6, kN7, kN8, kN9, kN10, kN11, kN12, kN13, kN14, kN15, kN16, kN17, kN18, kN19, kN20, kN21, kN22, kN23, kN24, kN25, kN26, kN27, kN28, kN29, kN30, kN31, kN32, kN33, kN34, kN35, kN36, kN37, kN38, kN39, kN40, kN41]
  rw [mT_nA, mT_pR]
  refine b147_345 rfl (Nat.ne_of_beq_eq_false rfl) ?_
  try simp only [mT_n]
  try simp only [mT_n, kN0, kN1, kN2, kN3, kN4, kN5, kN6, kN7, kN8, kN9, kN10, kN11, kN12, kN13, kN14, kN15, kN16, kN17, kN18, kN19, kN20, kN21, kN22, kN23, kN24, kN25, kN26, kN27, kN28, kN29, kN30, kN31, kN32, kN33, kN34, kN35, kN36, kN37, kN38, kN39, kN40, kN41]
  rw [mT_nA, mT_pR]
  refine b147_354 rfl (Nat.ne_of_beq_eq_false rfl) ?_
  try simp only [mT_n]
  try simp only [mT_n, kN0, kN1, kN2, kN3, kN4, kN5, kN6, kN7, kN8, kN9, kN10, kN11, kN12, kN13, kN14, kN15, kN16, kN17, kN18, kN19, kN20, kN21, kN22, kN23, kN24, kN25, kN26, kN27, kN28, kN29, kN30, kN31, kN32, kN33, kN34, kN35, kN36, kN37, kN38, kN39, kN40, kN41]
  rw [mT_nA, mT_pR]
  refine b147_363 rfl (Nat.ne_of_beq_eq_false rfl) ?_
  try simp only [mT_n]
  try simp only [mT_n, kN0, kN1, kN2, kN3, kN4, kN5, kN6, kN7, kN8, kN9, kN10, kN11, kN12, kN13, kN14, kN15, kN16, kN17, kN18, kN19, kN20, kN21, kN22, kN23, kN24, kN25, kN26, kN27, kN28, kN29, kN30, kN31, kN32, kN33, kN34, kN35, kN36, kN37, kN38, kN39, kN40, kN41]
  rw [mT_nA, mT_pR]
  refine b147_372 rfl (Nat.ne_of_beq_eq_false rfl) ?_
  try simp only [mT_n]
  try simp only [mT_n, kN0, kN1, kN2, kN3, kN4, kN5, kN6, kN7, kN8, kN9, kN10, kN11, kN12, kN13, kN14, kN15, kN16, kN17, kN18, kN19, kN20, kN21, kN22, kN23, kN24, kN25, kN26, kN27, kN28, kN29, kN30, kN31, kN32, kN33, kN34, kN35, kN36, kN37, kN38, kN39, kN40, kN41]
  rw [mT_nA, mT_pR]
  refine b147_379 rfl (Nat.ne_of_beq_eq_false rfl) ?_
  try simp only [mT_n]
  try simp only [mT_n, kN0, kN1, kN2, kN3, kN4, kN5, kN6, kN7, kN8, kN9, kN10, kN11, kN12, kN13, kN14, kN15, kN16, kN17, kN18, kN19, kN20, kN21, kN22, kN23, kN24, kN25, kN26, kN27, kN28, kN29, kN30, kN31, kN32, kN33, kN34, kN35, kN36, kN37, kN38, kN39, kN40, kN41]
  rw [mT_nA, mT_pR]
  refine b147_387 rfl (Nat.ne_of_beq_eq_false rfl) ?_
  try simp only [mT_n]
  try simp only [mT_n, kN0, kN1, kN2, kN3, kN4, kN5, kN6, kN7, kN8, kN9, kN10, kN11, kN12, kN13, kN14, kN15, kN16, kN17, kN18, kN19, kN20, kN21, kN22, kN23, kN24, kN25, kN26, kN27, kN28, kN29, kN30, kN31, kN32, kN33, kN34, kN35, kN36, kN37, kN38, kN39, kN40, kN41]
  rw [mT_nA, mT_pR]
  refine b147_396 rfl (Nat.ne_of_beq_eq_false rfl) ?_
  try simp only [mT_n]
  try simp only [mT_n, kN0, kN1, kN2, kN3, kN4, kN5, kN6, kN7, kN8, kN9, kN10, kN11, kN12, kN13, kN14, kN15, kN16, kN17, kN18, kN19, kN20, kN21, kN22, kN23, kN24, kN25, kN26, kN27, kN28, kN29, kN30, kN31, kN32, kN33, kN34, kN35, kN36, kN37, kN38, kN39, kN40, kN41]
  rw [mT_nA, mT_pR]
  refine b147_404 rfl (Nat.ne_of_beq_eq_false rfl) ?_
  try simp only [mT_n]
  try simp only [mT_n, kN0, kN1, kN2, kN3, kN4, kN5, kN6, kN7, kN8, kN9, kN10, kN11, kN12, kN13, kN14, kN15, kN16, kN17, kN18, kN19, kN20, kN21, kN22, kN23, kN24, kN25, kN26, kN27, kN28, kN29, kN30, kN31, kN32, kN33, kN34, kN35, kN36, kN37, kN38, kN39, kN40, kN41]
  rw [mT_nA, mT_pR]
  refine b147_413 rfl (Nat.ne_of_beq_eq_false rfl) ?_
  try simp only [mT_n]
  try simp only [mT_n, kN0, kN1, kN2, kN3, kN4, kN5, kN6, kN7, kN8, kN9, kN10, kN11, kN12, kN13, kN14, kN15, kN16, kN17, kN18, kN19, kN20, kN21, kN22, kN23, kN24, kN25, kN26, kN27, kN28, kN29, kN30, kN31, kN32, kN33, kN34, kN35, kN36, kN37, kN38, kN39, kN40, kN41]
  rw [mT_nA, mT_pR]
  change Wp _ 147 (420, _, _, mT L xs 174 Tc41 2262068) _
  refine b147_420 rfl (Nat.ne_of_beq_eq_false rfl) ?_
  try simp only [mT_n]
  try simp only [mT_n, kN0, kN1, kN2, kN3, kN4, kN5, kN6, kN7, kN8, kN9, kN10, kN11, kN12, kN13, kN14, kN15, kN16, kN17, kN18, kN19, kN20, kN21, kN22, kN23, kN24, kN25, kN26, kN27, kN28, kN29, kN30, kN31, kN32, kN33, kN34, kN35, kN36, kN37, kN38, kN39, kN40, kN41]
  rw [mT_nA, mT_pR]
  refine b147_428 rfl (Nat.ne_of_beq_eq_false rfl) ?_
  try simp only [mT_n]
  try simp only [mT_n, kN0, kN1, kN2, kN3, kN4, kN5, kN6, kN7, kN8, kN9, kN10, kN11, kN12, kN13, kN14, kN15, kN16, kN17, kN18, kN19, kN20, kN21, kN22, kN23, kN24, kN25, kN26, kN27, kN28, kN29, kN30, kN31, kN32, kN33, kN34, kN35, kN36, kN37, kN38, kN39, kN40, kN41]
  rw [mT_nA, mT_pR]
  refine b147_435 rfl (Nat.ne_of_beq_eq_false rfl) ?_
  try simp only [mT_n]
  try simp only [mT_n, kN0, kN1, kN2, kN3, kN4, kN5, kN6, kN7, kN8, kN9, kN10, kN11, kN12, kN13, kN14, kN15, kN16, kN17, kN18, kN19, kN20, kN21, kN22, kN23, kN24, kN25, kN26, kN27, kN28, kN29, kN30, kN31, kN32, kN33, kN34, kN35, kN36, kN37, kN38, kN39, kN40, kN41]
  rw [mT_nA, mT_pR]
  refine b147_444 rfl (Nat.ne_of_beq_eq_false rfl) ?_
  try simp only [mT_n]
  try simp only [mT_n, kN0, kN1, kN2, kN3, kN4, kN5, kN6, kN7, kN8, kN9, kN10, kN11, kN12, kN13, kN14, kN15, kN16, kN17, kN18, kN19, kN20, kN21, kN22, kN23, kN24, kN25, kN26, kN27, kN28, kN29, kN30, kN31, kN32, kN33, kN34, kN35, kN36, kN37, kN38, kN39, kN40, kN41]
  rw [mT_nA, mT_pR]
  refine b147_453 rfl (Nat.ne_of_beq_eq_false rfl) ?_
  try simp only [mT_n]
  try simp only [mT_n, kN0, kN1, kN2, kN3, kN4, kN5, kN6, kN7, kN8, kN9, kN10, kN11, kN12, kN13, kN14, kN15, kN16, kN17, kN18, kN19, kN20, kN21, kN22, kN23, kN24, kN25, kN26, kN27, kN28, kN29, kN30, kN31, kN32, kN33, kN34, kN35, kN36, kN37, kN38, kN39, kN40, kN41]
  rw [mT_nA, mT_pR]
  refine b147_462 rfl (Nat.ne_of_beq_eq_false rfl) ?_
  try simp only [mT_n]
  try simp only [mT_n, kN0, kN1, kN2, kN3, kN4, kN5, kN6, kN7, kN8, kN9, kN10, kN11, kN12, kN13, kN14, kN15, kN16, kN17, kN18, kN19, kN20, kN21, kN22, kN23, kN24, kN25, kN26, kN27, kN28, kN29, kN30, kN31, kN32, kN33, kN34, kN35, kN36, kN37, kN38, kN39, kN40, kN41]
  rw [mT_nA, mT_pR]
  refine b147_471 rfl (Nat.ne_of_beq_eq_false rfl) ?_
  try simp only [mT_n]
  try simp only [mT_n, kN0, kN1, kN2, kN3, kN4, kN5, kN6, kN7, kN8, kN9, kN10, kN11, kN12, kN13, kN14, kN15, kN16, kN17, kN18, kN19, kN20, kN21, kN22, kN23, kN24, kN25, kN26, kN27, kN28, kN29, kN30, kN31, kN32, kN33, kN34, kN35, kN36, kN37, kN38, kN39, kN40, kN41]
  rw [mT_nA, mT_pR]
  refine b147_480 rfl (Nat.ne_of_beq_eq_false rfl) ?_
  try simp only [mT_n]
  try simp only [mT_n, kN0, kN1, kN2, kN3, kN4, kN5, kN6, kN7, kN8, kN9, kN10, kN11, kN12, kN13, kN14, kN15, kN16, kN17, kN18, kN19, kN20, kN21, kN22, kN23, kN24, kN25, kN26, kN27, kN28, kN29, kN30, kN31, kN32, kN33, kN34, kN35, kN36, kN37, kN38, kN39, kN40, kN41]
  rw [mT_nA, mT_pR]
  refine b147_489 rfl (Nat.ne_of_beq_eq_false rfl) ?_
  try simp only [mT_n]
  try simp only [mT_n, kN0, kN1, kN2, kN3, kN4, kN5, kN6, kN7, kN8, kN9, kN10, kN11, kN12, kN13, kN14, kN15, kN16, kN17, kN18, kN19, kN20, kN21, kN22, kN23, kN24, kN25, kN26, kN27, kN28, kN29, kN30, kN31, kN32, kN33, kN34, kN35, kN36, kN37, kN38, kN39, kN40, kN41]
  rw [mT_nA, mT_pR]
  refine b147_498 rfl (Nat.ne_of_beq_eq_false rfl) ?_
  try simp only [mT_n]
  try simp only [mT_n, kN0, kN1, kN2, kN3, kN4, kN5, kN6, kN7, kN8, kN9, kN10, kN11, kN12, kN13, kN14, kN15, kN16, kN17, kN18, kN19, kN20, kN21, kN22, kN23, kN24, kN25, kN26, kN27, kN28, kN29, kN30, kN31, kN32, kN33, kN34, kN35, kN36, kN37, kN38, kN39, kN40, kN41]
  rw [mT_nA, mT_pR]
  refine b147_507 rfl (Nat.ne_of_beq_eq_false rfl) ?_
  try simp only [mT_n]
  try simp only [mT_n, kN0, kN1, kN2, kN3, kN4, kN5, kN6, kN7, kN8, kN9, kN10, kN11, kN12, kN13, kN14, kN15, kN16, kN17, kN18, kN19, kN20, kN21, kN22, kN23, kN24, kN25, kN26, kN27, kN28, kN29, kN30, kN31, kN32, kN33, kN34, kN35, kN36, kN37, kN38, kN39, kN40, kN41]
  rw [mT_nA, mT_pR]
  refine b147_516 ?_
  show _ = mT L xs 185 Tc42 2475968
  all_goals first | rfl | decide | exact ⟨_, rfl⟩
