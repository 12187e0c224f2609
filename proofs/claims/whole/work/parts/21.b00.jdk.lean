/-! ===== printed: the blocks of jdk ===== -/
/-! java/lang/String.toCharArray()[C -/
def q284_0 : List (Nat × Instr × Nat) := [(0, .aload_n 0, 1)]
theorem e284_0 : am_dec am_M284 q284_0 = true := by decide +kernel
theorem e284_0_c : am_dc1 am_M284 1 (.invokevirtual 492) 3 = true := by decide +kernel
theorem b284_0 {d : Nat} {Q : Option Value ⊕ Nat → am_Mem → Prop} {μ : am_Mem}  {P : Int32 → am_Mem → Prop} {X : Nat → am_Mem → Prop}
    (hc : Wp d 285 (0, [some (.ref 2)], [], μ) (pI P X)) (hr : ∀ x μ', P x μ' → Wp (d + 1) 284 (4, [some (.ref 2)], [.int x], (μ')) Q)
    (hx : ∀ x μ', X x μ' → Q (.inr x) μ') :
    Wp (d + 1) 284 (0, [some (.ref 2)], [], μ) Q := wp_blk rfl e284_0 (wp_cx (as := []) rfl e284_0_c rfl rfl rfl rfl rfl rfl hc (fun v μ' hv => by obtain ⟨x, rfl, hp⟩ := pI_r hv; exact hr x μ' hp) hx)
def q284_4 : List (Nat × Instr × Nat) := [(4, .ifCond .eq 13, 3)]
theorem e284_4 : am_dec am_M284 q284_4 = true := by decide +kernel
theorem b284_4 {d : Nat} {Q : Option Value ⊕ Nat → am_Mem → Prop} {μ : am_Mem} {s0 : Int32}
    (k1 : s0 = 0 → Wp d 284 (17, [some (.ref 2)], [], μ) Q) (k2 : ¬ (s0 = 0) → Wp d 284 (7, [some (.ref 2)], [], μ) Q) :
    Wp d 284 (4, [some (.ref 2)], [.int s0], μ) Q := wp_blk rfl e284_4 (And.intro k1 k2)
def q284_7 : List (Nat × Instr × Nat) := [(7, .aload_n 0, 1), (8, .getfield 9, 3)]
theorem e284_7 : am_dec am_M284 q284_7 = true := by decide +kernel
theorem e284_7_c : am_dc1 am_M284 11 (.invokestatic 299) 3 = true := by decide +kernel
theorem b284_7 {d : Nat} {Q : Option Value ⊕ Nat → am_Mem → Prop} {μ : am_Mem}  {P : Nat → am_Mem → Prop} {X : Nat → am_Mem → Prop}
    (hc : Wp d 288 (0, [some (.ref 3), none], [], μ) (pR P X)) (hr : ∀ x μ', P x μ' → Wp (d + 1) 284 (14, [some (.ref 2)], [.ref x], (μ')) Q)
    (hx : ∀ x μ', X x μ' → Q (.inr x) μ') :
    Wp (d + 1) 284 (7, [some (.ref 2)], [], μ) Q := wp_blk rfl e284_7 (wp_cs (vs := [.ref 3]) rfl e284_7_c rfl rfl rfl rfl rfl hc (fun v μ' hv => by obtain ⟨x, rfl, hp⟩ := pR_r hv; exact hr x μ' hp) hx)
def q284_14 : List (Nat × Instr × Nat) := [(14, .goto 10, 3)]
theorem e284_14 : am_dec am_M284 q284_14 = true := by decide +kernel
theorem b284_14 {d : Nat} {Q : Option Value ⊕ Nat → am_Mem → Prop} {μ : am_Mem} {r90 : Nat}
    (k : Wp d 284 (24, [some (.ref 2)], [.ref r90], μ) Q) :
    Wp d 284 (14, [some (.ref 2)], [.ref r90], μ) Q := wp_blk rfl e284_14 k
theorem e284_24_r : am_dec am_M284 [(24, .areturn, 1)] = true := by decide +kernel
theorem b284_24 {d : Nat} {Q : Option Value ⊕ Nat → am_Mem → Prop} {μ : am_Mem} {r90 : Nat}
    (k : Q (.inl (some (.ref r90))) μ) :
    Wp d 284 (24, [some (.ref 2)], [.ref r90], μ) Q := (wp_ra rfl e284_24_r rfl k)
/-! java/lang/String.isLatin1()Z -/
def q285_0 : List (Nat × Instr × Nat) := [(0, .getstatic 38, 3), (3, .ifCond .eq 14, 3)]
theorem e285_0 : am_dec am_M285 q285_0 = true := by decide +kernel
theorem b285_0 {d : Nat} {Q : Option Value ⊕ Nat → am_Mem → Prop} {μ : am_Mem} 
    (k1 : (1 : Int32) = 0 → Wp d 285 (17, [some (.ref 2)], [], μ) Q) (k2 : ¬ ((1 : Int32) = 0) → Wp d 285 (6, [some (.ref 2)], [], μ) Q) :
    Wp d 285 (0, [some (.ref 2)], [], μ) Q := wp_blk rfl e285_0 (And.intro k1 k2)
def q285_6 : List (Nat × Instr × Nat) := [(6, .aload_n 0, 1), (7, .getfield 15, 3), (10, .ifCond .ne 7, 3)]
theorem e285_6 : am_dec am_M285 q285_6 = true := by decide +kernel
theorem b285_6 {d : Nat} {Q : Option Value ⊕ Nat → am_Mem → Prop} {μ : am_Mem} 
    (k1 : ¬ (0 : Int32) = 0 → Wp d 285 (17, [some (.ref 2)], [], μ) Q) (k2 : ¬ (¬ (0 : Int32) = 0) → Wp d 285 (13, [some (.ref 2)], [], μ) Q) :
    Wp d 285 (6, [some (.ref 2)], [], μ) Q := wp_blk rfl e285_6 (And.intro k1 k2)
def q285_13 : List (Nat × Instr × Nat) := [(13, .iconst 1, 1), (14, .goto 4, 3)]
theorem e285_13 : am_dec am_M285 q285_13 = true := by decide +kernel
theorem b285_13 {d : Nat} {Q : Option Value ⊕ Nat → am_Mem → Prop} {μ : am_Mem} 
    (k : Wp d 285 (18, [some (.ref 2)], [.int (Int32.ofInt 1)], μ) Q) :
    Wp d 285 (13, [some (.ref 2)], [], μ) Q := wp_blk rfl e285_13 k
def q285_17 : List (Nat × Instr × Nat) := [(17, .iconst 0, 1)]
theorem e285_17 : am_dec am_M285 q285_17 = true := by decide +kernel
theorem b285_17 {d : Nat} {Q : Option Value ⊕ Nat → am_Mem → Prop} {μ : am_Mem} 
    (k : Wp d 285 (18, [some (.ref 2)], [.int (Int32.ofInt 0)], μ) Q) :
    Wp d 285 (17, [some (.ref 2)], [], μ) Q := wp_blk rfl e285_17 k
theorem e285_18_r : am_dec am_M285 [(18, .ireturn, 1)] = true := by decide +kernel
theorem b285_18 {d : Nat} {Q : Option Value ⊕ Nat → am_Mem → Prop} {μ : am_Mem} {s0 : Int32}
    (hn : narrow .boolean (.int s0) = .int s0 ∧ fits .boolean (.int s0) = true)
    (k : Q (.inl (some (.int s0))) μ) :
    Wp d 285 (18, [some (.ref 2)], [.int s0], μ) Q := (wp_ri (ty := .boolean) rfl e285_18_r rfl hn k)
/-! java/lang/String.length()I -/
def q286_0 : List (Nat × Instr × Nat) := [(0, .aload_n 0, 1), (1, .getfield 9, 3), (4, .arraylength, 1), (5, .aload_n 0, 1)]
theorem e286_0 : am_dec am_M286 q286_0 = true := by decide +kernel
theorem e286_0_c : am_dc1 am_M286 6 (.invokevirtual 335) 3 = true := by decide +kernel
theorem b286_0 {d : Nat} {Q : Option Value ⊕ Nat → am_Mem → Prop} {μ : am_Mem}  {P : Int32 → am_Mem → Prop} {X : Nat → am_Mem → Prop}
    (h1 : 2 ≤ (am_kd μ 3).1 ∧ (am_kd μ 3).1 ≤ 10 ∧ ¬ (am_kd μ 3).1 = 9)
    (hc : Wp d 287 (0, [some (.ref 2)], [], μ) (pI P X)) (hr : ∀ x μ', P x μ' → Wp (d + 1) 286 (9, [some (.ref 2)], [.int x, .int (Int32.ofNat (am_kd μ 3).2)], (μ')) Q)
    (hx : ∀ x μ', X x μ' → Q (.inr x) μ') :
    Wp (d + 1) 286 (0, [some (.ref 2)], [], μ) Q := wp_blk rfl e286_0 (And.intro h1 (wp_cx (as := []) rfl e286_0_c rfl rfl rfl rfl rfl rfl hc (fun v μ' hv => by obtain ⟨x, rfl, hp⟩ := pI_r hv; exact hr x μ' hp) hx))
def q286_9 : List (Nat × Instr × Nat) := [(9, .ishr, 1)]
theorem e286_9 : am_dec am_M286 q286_9 = true := by decide +kernel
theorem e286_9_r : am_dec am_M286 [(10, .ireturn, 1)] = true := by decide +kernel
theorem b286_9 {d : Nat} {Q : Option Value ⊕ Nat → am_Mem → Prop} {μ : am_Mem} {s0 s1 : Int32}
    (k : Q (.inl (some (.int (s0 >>> (s1 &&& 31))))) μ) :
    Wp d 286 (9, [some (.ref 2)], [.int s1, .int s0], μ) Q := wp_blk rfl e286_9 (wp_ri (ty := .int) rfl e286_9_r rfl ⟨rfl, rfl⟩ k)
/-! java/lang/String.coder()B -/
def q287_0 : List (Nat × Instr × Nat) := [(0, .getstatic 38, 3), (3, .ifCond .eq 10, 3)]
theorem e287_0 : am_dec am_M287 q287_0 = true := by decide +kernel
theorem b287_0 {d : Nat} {Q : Option Value ⊕ Nat → am_Mem → Prop} {μ : am_Mem} 
    (k1 : (1 : Int32) = 0 → Wp d 287 (13, [some (.ref 2)], [], μ) Q) (k2 : ¬ ((1 : Int32) = 0) → Wp d 287 (6, [some (.ref 2)], [], μ) Q) :
    Wp d 287 (0, [some (.ref 2)], [], μ) Q := wp_blk rfl e287_0 (And.intro k1 k2)
def q287_6 : List (Nat × Instr × Nat) := [(6, .aload_n 0, 1), (7, .getfield 15, 3), (10, .goto 4, 3)]
theorem e287_6 : am_dec am_M287 q287_6 = true := by decide +kernel
theorem b287_6 {d : Nat} {Q : Option Value ⊕ Nat → am_Mem → Prop} {μ : am_Mem} 
    (k : Wp d 287 (14, [some (.ref 2)], [.int (0 : Int32)], μ) Q) :
    Wp d 287 (6, [some (.ref 2)], [], μ) Q := wp_blk rfl e287_6 k
def q287_13 : List (Nat × Instr × Nat) := [(13, .iconst 1, 1)]
theorem e287_13 : am_dec am_M287 q287_13 = true := by decide +kernel
theorem b287_13 {d : Nat} {Q : Option Value ⊕ Nat → am_Mem → Prop} {μ : am_Mem} 
    (k : Wp d 287 (14, [some (.ref 2)], [.int (Int32.ofInt 1)], μ) Q) :
    Wp d 287 (13, [some (.ref 2)], [], μ) Q := wp_blk rfl e287_13 k
theorem e287_14_r : am_dec am_M287 [(14, .ireturn, 1)] = true := by decide +kernel
theorem b287_14 {d : Nat} {Q : Option Value ⊕ Nat → am_Mem → Prop} {μ : am_Mem} {s0 : Int32}
    (hn : narrow .byte (.int s0) = .int s0 ∧ fits .byte (.int s0) = true)
    (k : Q (.inl (some (.int s0))) μ) :
    Wp d 287 (14, [some (.ref 2)], [.int s0], μ) Q := (wp_ri (ty := .byte) rfl e287_14_r rfl hn k)
/-! java/lang/StringLatin1.toChars([B)[C -/
def q288_0 : List (Nat × Instr × Nat) := [(0, .aload_n 0, 1), (1, .arraylength, 1), (2, .newarray .char, 2), (4, .astore_n 1, 1), (5, .aload_n 0, 1), (6, .iconst 0, 1), (7, .aload_n 1, 1), (8, .iconst 0, 1), (9, .aload_n 0, 1), (10, .arraylength, 1)]
theorem e288_0 : am_dec am_M288 q288_0 = true := by decide +kernel
theorem e288_0_c : am_dc1 am_M288 11 (.invokestatic 13) 3 = true := by decide +kernel
theorem b288_0 {d : Nat} {Q : Option Value ⊕ Nat → am_Mem → Prop} {μ : am_Mem} {r0 : Nat} {P : am_Mem → Prop} {X : Nat → am_Mem → Prop}
    (h1 : 2 ≤ (am_kd μ r0).1 ∧ (am_kd μ r0).1 ≤ 10 ∧ ¬ (am_kd μ r0).1 = 9)
    (h2 : ¬ (Int32.ofNat (am_kd μ r0).2) < 0 ∧ (Int32.ofNat (am_kd μ r0).2).toNatClampNeg ≤ 60000000)
    (h3 : 2 ≤ (am_kd (am_nA μ 5 (Int32.ofNat (am_kd μ r0).2).toNatClampNeg) r0).1 ∧ (am_kd (am_nA μ 5 (Int32.ofNat (am_kd μ r0).2).toNatClampNeg) r0).1 ≤ 10 ∧ ¬ (am_kd (am_nA μ 5 (Int32.ofNat (am_kd μ r0).2).toNatClampNeg) r0).1 = 9)
    (hc : Wp d 289 (0, [some (.ref r0), some (.int (Int32.ofInt 0)), some (.ref (am_n μ)), some (.int (Int32.ofInt 0)), some (.int (Int32.ofNat (am_kd (am_nA μ 5 (Int32.ofNat (am_kd μ r0).2).toNatClampNeg) r0).2)), none], [], (am_nA μ 5 (Int32.ofNat (am_kd μ r0).2).toNatClampNeg)) (pV P X)) (hr : ∀ μ', P μ' → Wp (d + 1) 288 (14, [some (.ref r0), some (.ref (am_n μ))], [], (μ')) Q)
    (hx : ∀ x μ', X x μ' → Q (.inr x) μ') :
    Wp (d + 1) 288 (0, [some (.ref r0), none], [], μ) Q := wp_blk rfl e288_0 (And.intro h1 (And.intro h2 (And.intro h3 (wp_cs (vs := [.ref r0, .int (Int32.ofInt 0), .ref (am_n μ), .int (Int32.ofInt 0), .int (Int32.ofNat (am_kd (am_nA μ 5 (Int32.ofNat (am_kd μ r0).2).toNatClampNeg) r0).2)]) rfl e288_0_c rfl rfl rfl rfl rfl hc (fun v μ' hv => by obtain ⟨rfl, hp⟩ := pV_r hv; exact hr μ' hp) hx))))
def q288_14 : List (Nat × Instr × Nat) := [(14, .aload_n 1, 1)]
theorem e288_14 : am_dec am_M288 q288_14 = true := by decide +kernel
theorem e288_14_r : am_dec am_M288 [(15, .areturn, 1)] = true := by decide +kernel
theorem b288_14 {d : Nat} {Q : Option Value ⊕ Nat → am_Mem → Prop} {μ : am_Mem} {r0 r1 : Nat}
    (k : Q (.inl (some (.ref r1))) μ) :
    Wp d 288 (14, [some (.ref r0), some (.ref r1)], [], μ) Q := wp_blk rfl e288_14 (wp_ra rfl e288_14_r rfl k)
/-! java/lang/StringLatin1.inflate([BI[CII)V -/
def q289_0 : List (Nat × Instr × Nat) := [(0, .iconst 0, 1), (1, .istore 5, 2)]
theorem e289_0 : am_dec am_M289 q289_0 = true := by decide +kernel
theorem b289_0 {d : Nat} {Q : Option Value ⊕ Nat → am_Mem → Prop} {μ : am_Mem} {r0 r2 : Nat} {x1 x3 x4 : Int32}
    (k : Wp d 289 (3, [some (.ref r0), some (.int x1), some (.ref r2), some (.int x3), some (.int x4), some (.int (Int32.ofInt 0))], [], μ) Q) :
    Wp d 289 (0, [some (.ref r0), some (.int x1), some (.ref r2), some (.int x3), some (.int x4), none], [], μ) Q := wp_blk rfl e289_0 k
def q289_3 : List (Nat × Instr × Nat) := [(3, .iload 5, 2), (5, .iload 4, 2), (7, .if_icmp .ge 26, 3)]
theorem e289_3 : am_dec am_M289 q289_3 = true := by decide +kernel
theorem b289_3 {d : Nat} {Q : Option Value ⊕ Nat → am_Mem → Prop} {μ : am_Mem} {r0 r2 : Nat} {x1 x3 x4 x5 : Int32}
    (k1 : x4 ≤ x5 → Wp d 289 (33, [some (.ref r0), some (.int x1), some (.ref r2), some (.int x3), some (.int x4), some (.int x5)], [], μ) Q) (k2 : ¬ (x4 ≤ x5) → Wp d 289 (10, [some (.ref r0), some (.int x1), some (.ref r2), some (.int x3), some (.int x4), some (.int x5)], [], μ) Q) :
    Wp d 289 (3, [some (.ref r0), some (.int x1), some (.ref r2), some (.int x3), some (.int x4), some (.int x5)], [], μ) Q := wp_blk rfl e289_3 (And.intro k1 k2)
def q289_10 : List (Nat × Instr × Nat) := [(10, .aload_n 2, 1), (11, .iload_n 3, 1), (12, .iinc 3 1, 3), (15, .aload_n 0, 1), (16, .iload_n 1, 1), (17, .iinc 1 1, 3), (20, .baload, 1), (21, .sipush 255, 3), (24, .iand, 1), (25, .i2c, 1), (26, .castore, 1), (27, .iinc 5 1, 3), (30, .goto (-27), 3)]
theorem e289_10 : am_dec am_M289 q289_10 = true := by decide +kernel
theorem b289_10 {d : Nat} {Q : Option Value ⊕ Nat → am_Mem → Prop} {μ : am_Mem} {r0 r2 : Nat} {x1 x3 x4 x5 : Int32}
    (h1 : (am_kd μ r0).1 = 3 ∨ (am_kd μ r0).1 = 4 ∨ (am_kd μ r0).1 = 10)
    (h2 : ¬ (x1 < 0 ∨ (am_kd μ r0).2 ≤ x1.toNatClampNeg))
    (h3 : (am_kd μ r2).1 = 5)
    (h4 : ¬ (x3 < 0 ∨ (am_kd μ r2).2 ≤ x3.toNatClampNeg))
    (k : Wp d 289 (3, [some (.ref r0), some (.int (x1 + Int32.ofInt 1)), some (.ref r2), some (.int (x3 + Int32.ofInt 1)), some (.int x4), some (.int (x5 + Int32.ofInt 1))], [], (am_pA μ r2 x3.toNatClampNeg (((((am_A μ r0 x1.toNatClampNeg) &&& ((Int16.ofInt 255).toInt32)).toUInt32 % 65536).toInt32).toUInt32.toUInt16.toUInt32.toInt32))) Q) :
    Wp d 289 (10, [some (.ref r0), some (.int x1), some (.ref r2), some (.int x3), some (.int x4), some (.int x5)], [], μ) Q := wp_blk rfl e289_10 (And.intro h1 (And.intro h2 (And.intro h3 (And.intro h4 k))))
theorem e289_33_r : am_dec am_M289 [(33, .return_, 1)] = true := by decide +kernel
theorem b289_33 {d : Nat} {Q : Option Value ⊕ Nat → am_Mem → Prop} {μ : am_Mem} {r0 r2 : Nat} {x1 x3 x4 x5 : Int32}
    (k : Q (.inl none) μ) :
    Wp d 289 (33, [some (.ref r0), some (.int x1), some (.ref r2), some (.int x3), some (.int x4), some (.int x5)], [], μ) Q := (wp_rv rfl e289_33_r rfl k)
/-! java/util/Arrays.fill([II)V -/
def q290_0 : List (Nat × Instr × Nat) := [(0, .iconst 0, 1), (1, .istore_n 2, 1), (2, .aload_n 0, 1), (3, .arraylength, 1), (4, .istore_n 3, 1)]
theorem e290_0 : am_dec am_M290 q290_0 = true := by decide +kernel
theorem b290_0 {d : Nat} {Q : Option Value ⊕ Nat → am_Mem → Prop} {μ : am_Mem} {r0 : Nat} {x1 : Int32}
    (h1 : 2 ≤ (am_kd μ r0).1 ∧ (am_kd μ r0).1 ≤ 10 ∧ ¬ (am_kd μ r0).1 = 9)
    (k : Wp d 290 (5, [some (.ref r0), some (.int x1), some (.int (Int32.ofInt 0)), some (.int (Int32.ofNat (am_kd μ r0).2))], [], μ) Q) :
    Wp d 290 (0, [some (.ref r0), some (.int x1), none, none], [], μ) Q := wp_blk rfl e290_0 (And.intro h1 k)
def q290_5 : List (Nat × Instr × Nat) := [(5, .iload_n 2, 1), (6, .iload_n 3, 1), (7, .if_icmp .ge 13, 3)]
theorem e290_5 : am_dec am_M290 q290_5 = true := by decide +kernel
theorem b290_5 {d : Nat} {Q : Option Value ⊕ Nat → am_Mem → Prop} {μ : am_Mem} {r0 : Nat} {x1 x2 x3 : Int32}
    (k1 : x3 ≤ x2 → Wp d 290 (20, [some (.ref r0), some (.int x1), some (.int x2), some (.int x3)], [], μ) Q) (k2 : ¬ (x3 ≤ x2) → Wp d 290 (10, [some (.ref r0), some (.int x1), some (.int x2), some (.int x3)], [], μ) Q) :
    Wp d 290 (5, [some (.ref r0), some (.int x1), some (.int x2), some (.int x3)], [], μ) Q := wp_blk rfl e290_5 (And.intro k1 k2)
def q290_10 : List (Nat × Instr × Nat) := [(10, .aload_n 0, 1), (11, .iload_n 2, 1), (12, .iload_n 1, 1), (13, .iastore, 1), (14, .iinc 2 1, 3), (17, .goto (-12), 3)]
theorem e290_10 : am_dec am_M290 q290_10 = true := by decide +kernel
theorem b290_10 {d : Nat} {Q : Option Value ⊕ Nat → am_Mem → Prop} {μ : am_Mem} {r0 : Nat} {x1 x2 x3 : Int32}
    (h1 : (am_kd μ r0).1 = 2)
    (h2 : ¬ (x2 < 0 ∨ (am_kd μ r0).2 ≤ x2.toNatClampNeg))
    (k : Wp d 290 (5, [some (.ref r0), some (.int x1), some (.int (x2 + Int32.ofInt 1)), some (.int x3)], [], (am_pA μ r0 x2.toNatClampNeg x1)) Q) :
    Wp d 290 (10, [some (.ref r0), some (.int x1), some (.int x2), some (.int x3)], [], μ) Q := wp_blk rfl e290_10 (And.intro h1 (And.intro h2 k))
theorem e290_20_r : am_dec am_M290 [(20, .return_, 1)] = true := by decide +kernel
theorem b290_20 {d : Nat} {Q : Option Value ⊕ Nat → am_Mem → Prop} {μ : am_Mem} {r0 : Nat} {x1 x2 x3 : Int32}
    (k : Q (.inl none) μ) :
    Wp d 290 (20, [some (.ref r0), some (.int x1), some (.int x2), some (.int x3)], [], μ) Q := (wp_rv rfl e290_20_r rfl k)
/-! java/util/Arrays.fill([JJ)V -/
def q291_0 : List (Nat × Instr × Nat) := [(0, .iconst 0, 1), (1, .istore_n 3, 1), (2, .aload_n 0, 1), (3, .arraylength, 1), (4, .istore 4, 2)]
theorem e291_0 : am_dec am_M291 q291_0 = true := by decide +kernel
theorem b291_0 {d : Nat} {Q : Option Value ⊕ Nat → am_Mem → Prop} {μ : am_Mem} {r0 : Nat} {y1 : Int64}
    (h1 : 2 ≤ (am_kd μ r0).1 ∧ (am_kd μ r0).1 ≤ 10 ∧ ¬ (am_kd μ r0).1 = 9)
    (k : Wp d 291 (6, [some (.ref r0), some (.long y1), none, some (.int (Int32.ofInt 0)), some (.int (Int32.ofNat (am_kd μ r0).2))], [], μ) Q) :
    Wp d 291 (0, [some (.ref r0), some (.long y1), none, none, none], [], μ) Q := wp_blk rfl e291_0 (And.intro h1 k)
def q291_6 : List (Nat × Instr × Nat) := [(6, .iload_n 3, 1), (7, .iload 4, 2), (9, .if_icmp .ge 13, 3)]
theorem e291_6 : am_dec am_M291 q291_6 = true := by decide +kernel
theorem b291_6 {d : Nat} {Q : Option Value ⊕ Nat → am_Mem → Prop} {μ : am_Mem} {r0 : Nat} {y1 : Int64} {x3 x4 : Int32}
    (k1 : x4 ≤ x3 → Wp d 291 (22, [some (.ref r0), some (.long y1), none, some (.int x3), some (.int x4)], [], μ) Q) (k2 : ¬ (x4 ≤ x3) → Wp d 291 (12, [some (.ref r0), some (.long y1), none, some (.int x3), some (.int x4)], [], μ) Q) :
    Wp d 291 (6, [some (.ref r0), some (.long y1), none, some (.int x3), some (.int x4)], [], μ) Q := wp_blk rfl e291_6 (And.intro k1 k2)
def q291_12 : List (Nat × Instr × Nat) := [(12, .aload_n 0, 1), (13, .iload_n 3, 1), (14, .lload_n 1, 1), (15, .lastore, 1), (16, .iinc 3 1, 3), (19, .goto (-13), 3)]
theorem e291_12 : am_dec am_M291 q291_12 = true := by decide +kernel
theorem b291_12 {d : Nat} {Q : Option Value ⊕ Nat → am_Mem → Prop} {μ : am_Mem} {r0 : Nat} {y1 : Int64} {x3 x4 : Int32}
    (h1 : (am_kd μ r0).1 = 6)
    (h2 : ¬ (x3 < 0 ∨ (am_kd μ r0).2 ≤ x3.toNatClampNeg))
    (k : Wp d 291 (6, [some (.ref r0), some (.long y1), none, some (.int (x3 + Int32.ofInt 1)), some (.int x4)], [], (am_pL μ r0 x3.toNatClampNeg y1)) Q) :
    Wp d 291 (12, [some (.ref r0), some (.long y1), none, some (.int x3), some (.int x4)], [], μ) Q := wp_blk rfl e291_12 (And.intro h1 (And.intro h2 k))
theorem e291_22_r : am_dec am_M291 [(22, .return_, 1)] = true := by decide +kernel
theorem b291_22 {d : Nat} {Q : Option Value ⊕ Nat → am_Mem → Prop} {μ : am_Mem} {r0 : Nat} {y1 : Int64} {x3 x4 : Int32}
    (k : Q (.inl none) μ) :
    Wp d 291 (22, [some (.ref r0), some (.long y1), none, some (.int x3), some (.int x4)], [], μ) Q := (wp_rv rfl e291_22_r rfl k)
/-! java/util/Arrays.copyOf([II)[I -/
def q292_0 : List (Nat × Instr × Nat) := [(0, .iload_n 1, 1), (1, .aload_n 0, 1), (2, .arraylength, 1), (3, .if_icmp .ne 11, 3)]
theorem e292_0 : am_dec am_M292 q292_0 = true := by decide +kernel
theorem b292_0 {d : Nat} {Q : Option Value ⊕ Nat → am_Mem → Prop} {μ : am_Mem} {r0 : Nat} {x1 : Int32}
    (h1 : 2 ≤ (am_kd μ r0).1 ∧ (am_kd μ r0).1 ≤ 10 ∧ ¬ (am_kd μ r0).1 = 9)
    (k1 : ¬ x1 = (Int32.ofNat (am_kd μ r0).2) → Wp d 292 (14, [some (.ref r0), some (.int x1), none], [], μ) Q) (k2 : ¬ (¬ x1 = (Int32.ofNat (am_kd μ r0).2)) → Wp d 292 (6, [some (.ref r0), some (.int x1), none], [], μ) Q) :
    Wp d 292 (0, [some (.ref r0), some (.int x1), none], [], μ) Q := wp_blk rfl e292_0 (And.intro h1 (And.intro k1 k2))
def q292_14 : List (Nat × Instr × Nat) := [(14, .iload_n 1, 1), (15, .newarray .int, 2), (17, .astore_n 2, 1), (18, .aload_n 0, 1), (19, .iconst 0, 1), (20, .aload_n 2, 1), (21, .iconst 0, 1), (22, .aload_n 0, 1), (23, .arraylength, 1), (24, .iload_n 1, 1), (25, .invokestatic 304, 3), (28, .invokestatic 150, 3)]
theorem e292_14 : am_dec am_M292 q292_14 = true := by decide +kernel
theorem b292_14 {d : Nat} {Q : Option Value ⊕ Nat → am_Mem → Prop} {μ : am_Mem} {r0 : Nat} {x1 : Int32}
    (h1 : ¬ x1 < 0 ∧ x1.toNatClampNeg ≤ 60000000)
    (h2 : 2 ≤ (am_kd (am_nA μ 2 x1.toNatClampNeg) r0).1 ∧ (am_kd (am_nA μ 2 x1.toNatClampNeg) r0).1 ≤ 10 ∧ ¬ (am_kd (am_nA μ 2 x1.toNatClampNeg) r0).1 = 9)
    (h3 : (((am_kd (am_nA μ 2 x1.toNatClampNeg) r0).1 = 2 ∨ (am_kd (am_nA μ 2 x1.toNatClampNeg) r0).1 = 8) ∧ (am_kd (am_nA μ 2 x1.toNatClampNeg) (am_n μ)).1 = 2) ∨ ((am_kd (am_nA μ 2 x1.toNatClampNeg) r0).1 = 7 ∧ (am_kd (am_nA μ 2 x1.toNatClampNeg) (am_n μ)).1 = 7 ∧ ∀ i, i < (if x1 < (Int32.ofNat (am_kd (am_nA μ 2 x1.toNatClampNeg) r0).2) then x1 else (Int32.ofNat (am_kd (am_nA μ 2 x1.toNatClampNeg) r0).2)).toNatClampNeg → fits .short (.int (am_A (am_nA μ 2 x1.toNatClampNeg) r0 ((Int32.ofInt 0).toNatClampNeg + i))) = true))
    (h4 : ¬ (if x1 < (Int32.ofNat (am_kd (am_nA μ 2 x1.toNatClampNeg) r0).2) then x1 else (Int32.ofNat (am_kd (am_nA μ 2 x1.toNatClampNeg) r0).2)) < 0 ∧ ¬ (Int32.ofInt 0) < 0 ∧ ¬ (Int32.ofInt 0) < 0)
    (h5 : (Int32.ofInt 0).toNatClampNeg + (if x1 < (Int32.ofNat (am_kd (am_nA μ 2 x1.toNatClampNeg) r0).2) then x1 else (Int32.ofNat (am_kd (am_nA μ 2 x1.toNatClampNeg) r0).2)).toNatClampNeg ≤ (am_kd (am_nA μ 2 x1.toNatClampNeg) r0).2 ∧ (Int32.ofInt 0).toNatClampNeg + (if x1 < (Int32.ofNat (am_kd (am_nA μ 2 x1.toNatClampNeg) r0).2) then x1 else (Int32.ofNat (am_kd (am_nA μ 2 x1.toNatClampNeg) r0).2)).toNatClampNeg ≤ (am_kd (am_nA μ 2 x1.toNatClampNeg) (am_n μ)).2)
    (k : Wp d 292 (31, [some (.ref r0), some (.int x1), some (.ref (am_n μ))], [], (am_wA (am_nA μ 2 x1.toNatClampNeg) (am_n μ) (am_cp (am_A (am_nA μ 2 x1.toNatClampNeg) r0) (am_A (am_nA μ 2 x1.toNatClampNeg) (am_n μ)) (Int32.ofInt 0).toNatClampNeg (Int32.ofInt 0).toNatClampNeg (if x1 < (Int32.ofNat (am_kd (am_nA μ 2 x1.toNatClampNeg) r0).2) then x1 else (Int32.ofNat (am_kd (am_nA μ 2 x1.toNatClampNeg) r0).2)).toNatClampNeg))) Q) :
    Wp d 292 (14, [some (.ref r0), some (.int x1), none], [], μ) Q := wp_blk rfl e292_14 (And.intro h1 (And.intro h2 (And.intro h3 (And.intro h4 (And.intro h5 k)))))
def q292_31 : List (Nat × Instr × Nat) := [(31, .aload_n 2, 1)]
theorem e292_31 : am_dec am_M292 q292_31 = true := by decide +kernel
theorem e292_31_r : am_dec am_M292 [(32, .areturn, 1)] = true := by decide +kernel
theorem b292_31 {d : Nat} {Q : Option Value ⊕ Nat → am_Mem → Prop} {μ : am_Mem} {r0 r2 : Nat} {x1 : Int32}
    (k : Q (.inl (some (.ref r2))) μ) :
    Wp d 292 (31, [some (.ref r0), some (.int x1), some (.ref r2)], [], μ) Q := wp_blk rfl e292_31 (wp_ra rfl e292_31_r rfl k)
/-! java/util/Arrays.copyOf([SI)[S -/
def q293_0 : List (Nat × Instr × Nat) := [(0, .iload_n 1, 1), (1, .aload_n 0, 1), (2, .arraylength, 1), (3, .if_icmp .ne 11, 3)]
theorem e293_0 : am_dec am_M293 q293_0 = true := by decide +kernel
theorem b293_0 {d : Nat} {Q : Option Value ⊕ Nat → am_Mem → Prop} {μ : am_Mem} {r0 : Nat} {x1 : Int32}
    (h1 : 2 ≤ (am_kd μ r0).1 ∧ (am_kd μ r0).1 ≤ 10 ∧ ¬ (am_kd μ r0).1 = 9)
    (k1 : ¬ x1 = (Int32.ofNat (am_kd μ r0).2) → Wp d 293 (14, [some (.ref r0), some (.int x1), none], [], μ) Q) (k2 : ¬ (¬ x1 = (Int32.ofNat (am_kd μ r0).2)) → Wp d 293 (6, [some (.ref r0), some (.int x1), none], [], μ) Q) :
    Wp d 293 (0, [some (.ref r0), some (.int x1), none], [], μ) Q := wp_blk rfl e293_0 (And.intro h1 (And.intro k1 k2))
def q293_14 : List (Nat × Instr × Nat) := [(14, .iload_n 1, 1), (15, .newarray .short, 2), (17, .astore_n 2, 1), (18, .aload_n 0, 1), (19, .iconst 0, 1), (20, .aload_n 2, 1), (21, .iconst 0, 1), (22, .aload_n 0, 1), (23, .arraylength, 1), (24, .iload_n 1, 1), (25, .invokestatic 304, 3), (28, .invokestatic 150, 3)]
theorem e293_14 : am_dec am_M293 q293_14 = true := by decide +kernel
theorem b293_14 {d : Nat} {Q : Option Value ⊕ Nat → am_Mem → Prop} {μ : am_Mem} {r0 : Nat} {x1 : Int32}
    (h1 : ¬ x1 < 0 ∧ x1.toNatClampNeg ≤ 60000000)
    (h2 : 2 ≤ (am_kd (am_nA μ 7 x1.toNatClampNeg) r0).1 ∧ (am_kd (am_nA μ 7 x1.toNatClampNeg) r0).1 ≤ 10 ∧ ¬ (am_kd (am_nA μ 7 x1.toNatClampNeg) r0).1 = 9)
    (h3 : (((am_kd (am_nA μ 7 x1.toNatClampNeg) r0).1 = 2 ∨ (am_kd (am_nA μ 7 x1.toNatClampNeg) r0).1 = 8) ∧ (am_kd (am_nA μ 7 x1.toNatClampNeg) (am_n μ)).1 = 2) ∨ ((am_kd (am_nA μ 7 x1.toNatClampNeg) r0).1 = 7 ∧ (am_kd (am_nA μ 7 x1.toNatClampNeg) (am_n μ)).1 = 7 ∧ ∀ i, i < (if x1 < (Int32.ofNat (am_kd (am_nA μ 7 x1.toNatClampNeg) r0).2) then x1 else (Int32.ofNat (am_kd (am_nA μ 7 x1.toNatClampNeg) r0).2)).toNatClampNeg → fits .short (.int (am_A (am_nA μ 7 x1.toNatClampNeg) r0 ((Int32.ofInt 0).toNatClampNeg + i))) = true))
    (h4 : ¬ (if x1 < (Int32.ofNat (am_kd (am_nA μ 7 x1.toNatClampNeg) r0).2) then x1 else (Int32.ofNat (am_kd (am_nA μ 7 x1.toNatClampNeg) r0).2)) < 0 ∧ ¬ (Int32.ofInt 0) < 0 ∧ ¬ (Int32.ofInt 0) < 0)
    (h5 : (Int32.ofInt 0).toNatClampNeg + (if x1 < (Int32.ofNat (am_kd (am_nA μ 7 x1.toNatClampNeg) r0).2) then x1 else (Int32.ofNat (am_kd (am_nA μ 7 x1.toNatClampNeg) r0).2)).toNatClampNeg ≤ (am_kd (am_nA μ 7 x1.toNatClampNeg) r0).2 ∧ (Int32.ofInt 0).toNatClampNeg + (if x1 < (Int32.ofNat (am_kd (am_nA μ 7 x1.toNatClampNeg) r0).2) then x1 else (Int32.ofNat (am_kd (am_nA μ 7 x1.toNatClampNeg) r0).2)).toNatClampNeg ≤ (am_kd (am_nA μ 7 x1.toNatClampNeg) (am_n μ)).2)
    (k : Wp d 293 (31, [some (.ref r0), some (.int x1), some (.ref (am_n μ))], [], (am_wA (am_nA μ 7 x1.toNatClampNeg) (am_n μ) (am_cp (am_A (am_nA μ 7 x1.toNatClampNeg) r0) (am_A (am_nA μ 7 x1.toNatClampNeg) (am_n μ)) (Int32.ofInt 0).toNatClampNeg (Int32.ofInt 0).toNatClampNeg (if x1 < (Int32.ofNat (am_kd (am_nA μ 7 x1.toNatClampNeg) r0).2) then x1 else (Int32.ofNat (am_kd (am_nA μ 7 x1.toNatClampNeg) r0).2)).toNatClampNeg))) Q) :
    Wp d 293 (14, [some (.ref r0), some (.int x1), none], [], μ) Q := wp_blk rfl e293_14 (And.intro h1 (And.intro h2 (And.intro h3 (And.intro h4 (And.intro h5 k)))))
def q293_31 : List (Nat × Instr × Nat) := [(31, .aload_n 2, 1)]
theorem e293_31 : am_dec am_M293 q293_31 = true := by decide +kernel
theorem e293_31_r : am_dec am_M293 [(32, .areturn, 1)] = true := by decide +kernel
theorem b293_31 {d : Nat} {Q : Option Value ⊕ Nat → am_Mem → Prop} {μ : am_Mem} {r0 r2 : Nat} {x1 : Int32}
    (k : Q (.inl (some (.ref r2))) μ) :
    Wp d 293 (31, [some (.ref r0), some (.int x1), some (.ref r2)], [], μ) Q := wp_blk rfl e293_31 (wp_ra rfl e293_31_r rfl k)
/-! java/lang/Long.bitCount(J)I -/
def q294_0 : List (Nat × Instr × Nat) := [(0, .lload_n 0, 1), (1, .lload_n 0, 1), (2, .iconst 1, 1), (3, .lushr, 1), (4, .ldc2_w 314, 3), (7, .land, 1), (8, .lsub, 1), (9, .lstore_n 0, 1), (10, .lload_n 0, 1), (11, .ldc2_w 316, 3), (14, .land, 1), (15, .lload_n 0, 1), (16, .iconst 2, 1), (17, .lushr, 1), (18, .ldc2_w 316, 3), (21, .land, 1), (22, .ladd, 1), (23, .lstore_n 0, 1), (24, .lload_n 0, 1), (25, .lload_n 0, 1)]
theorem e294_0 : am_dec am_M294 q294_0 = true := by decide +kernel
theorem b294_0 {d : Nat} {Q : Option Value ⊕ Nat → am_Mem → Prop} {μ : am_Mem} {y0 : Int64}
    (k : Wp d 294 (26, [some (.long (((y0 - (((y0.toUInt64 >>> ((Int32.ofInt 1).toInt64.toUInt64 &&& Int64.toUInt64 63)).toInt64) &&& (6148914691236517205 : Int64))) &&& (3689348814741910323 : Int64)) + ((((y0 - (((y0.toUInt64 >>> ((Int32.ofInt 1).toInt64.toUInt64 &&& Int64.toUInt64 63)).toInt64) &&& (6148914691236517205 : Int64))).toUInt64 >>> ((Int32.ofInt 2).toInt64.toUInt64 &&& Int64.toUInt64 63)).toInt64) &&& (3689348814741910323 : Int64)))), none], [.long (((y0 - (((y0.toUInt64 >>> ((Int32.ofInt 1).toInt64.toUInt64 &&& Int64.toUInt64 63)).toInt64) &&& (6148914691236517205 : Int64))) &&& (3689348814741910323 : Int64)) + ((((y0 - (((y0.toUInt64 >>> ((Int32.ofInt 1).toInt64.toUInt64 &&& Int64.toUInt64 63)).toInt64) &&& (6148914691236517205 : Int64))).toUInt64 >>> ((Int32.ofInt 2).toInt64.toUInt64 &&& Int64.toUInt64 63)).toInt64) &&& (3689348814741910323 : Int64))), .long (((y0 - (((y0.toUInt64 >>> ((Int32.ofInt 1).toInt64.toUInt64 &&& Int64.toUInt64 63)).toInt64) &&& (6148914691236517205 : Int64))) &&& (3689348814741910323 : Int64)) + ((((y0 - (((y0.toUInt64 >>> ((Int32.ofInt 1).toInt64.toUInt64 &&& Int64.toUInt64 63)).toInt64) &&& (6148914691236517205 : Int64))).toUInt64 >>> ((Int32.ofInt 2).toInt64.toUInt64 &&& Int64.toUInt64 63)).toInt64) &&& (3689348814741910323 : Int64)))], μ) Q) :
    Wp d 294 (0, [some (.long y0), none], [], μ) Q := wp_blk rfl e294_0 k
def q294_26 : List (Nat × Instr × Nat) := [(26, .iconst 4, 1), (27, .lushr, 1), (28, .ladd, 1), (29, .ldc2_w 318, 3), (32, .land, 1), (33, .lstore_n 0, 1), (34, .lload_n 0, 1), (35, .lload_n 0, 1), (36, .bipush 8, 2), (38, .lushr, 1), (39, .ladd, 1), (40, .lstore_n 0, 1), (41, .lload_n 0, 1), (42, .lload_n 0, 1)]
theorem e294_26 : am_dec am_M294 q294_26 = true := by decide +kernel
theorem b294_26 {d : Nat} {Q : Option Value ⊕ Nat → am_Mem → Prop} {μ : am_Mem} {y0 y90 y91 : Int64}
    (k : Wp d 294 (43, [some (.long (((y90 + ((y91.toUInt64 >>> ((Int32.ofInt 4).toInt64.toUInt64 &&& Int64.toUInt64 63)).toInt64)) &&& (1085102592571150095 : Int64)) + ((((y90 + ((y91.toUInt64 >>> ((Int32.ofInt 4).toInt64.toUInt64 &&& Int64.toUInt64 63)).toInt64)) &&& (1085102592571150095 : Int64)).toUInt64 >>> (((Int8.ofInt 8).toInt32).toInt64.toUInt64 &&& Int64.toUInt64 63)).toInt64))), none], [.long (((y90 + ((y91.toUInt64 >>> ((Int32.ofInt 4).toInt64.toUInt64 &&& Int64.toUInt64 63)).toInt64)) &&& (1085102592571150095 : Int64)) + ((((y90 + ((y91.toUInt64 >>> ((Int32.ofInt 4).toInt64.toUInt64 &&& Int64.toUInt64 63)).toInt64)) &&& (1085102592571150095 : Int64)).toUInt64 >>> (((Int8.ofInt 8).toInt32).toInt64.toUInt64 &&& Int64.toUInt64 63)).toInt64)), .long (((y90 + ((y91.toUInt64 >>> ((Int32.ofInt 4).toInt64.toUInt64 &&& Int64.toUInt64 63)).toInt64)) &&& (1085102592571150095 : Int64)) + ((((y90 + ((y91.toUInt64 >>> ((Int32.ofInt 4).toInt64.toUInt64 &&& Int64.toUInt64 63)).toInt64)) &&& (1085102592571150095 : Int64)).toUInt64 >>> (((Int8.ofInt 8).toInt32).toInt64.toUInt64 &&& Int64.toUInt64 63)).toInt64))], μ) Q) :
    Wp d 294 (26, [some (.long y0), none], [.long y91, .long y90], μ) Q := wp_blk rfl e294_26 k
def q294_43 : List (Nat × Instr × Nat) := [(43, .bipush 16, 2), (45, .lushr, 1), (46, .ladd, 1), (47, .lstore_n 0, 1), (48, .lload_n 0, 1), (49, .lload_n 0, 1), (50, .bipush 32, 2), (52, .lushr, 1), (53, .ladd, 1), (54, .lstore_n 0, 1), (55, .lload_n 0, 1), (56, .l2i, 1), (57, .bipush 127, 2), (59, .iand, 1)]
theorem e294_43 : am_dec am_M294 q294_43 = true := by decide +kernel
theorem e294_43_r : am_dec am_M294 [(60, .ireturn, 1)] = true := by decide +kernel
theorem b294_43 {d : Nat} {Q : Option Value ⊕ Nat → am_Mem → Prop} {μ : am_Mem} {y0 y90 y91 : Int64}
    (k : Q (.inl (some (.int ((((y90 + ((y91.toUInt64 >>> (((Int8.ofInt 16).toInt32).toInt64.toUInt64 &&& Int64.toUInt64 63)).toInt64)) + (((y90 + ((y91.toUInt64 >>> (((Int8.ofInt 16).toInt32).toInt64.toUInt64 &&& Int64.toUInt64 63)).toInt64)).toUInt64 >>> (((Int8.ofInt 32).toInt32).toInt64.toUInt64 &&& Int64.toUInt64 63)).toInt64)).toInt32) &&& ((Int8.ofInt 127).toInt32))))) μ) :
    Wp d 294 (43, [some (.long y0), none], [.long y91, .long y90], μ) Q := wp_blk rfl e294_43 (wp_ri (ty := .int) rfl e294_43_r rfl ⟨rfl, rfl⟩ k)
