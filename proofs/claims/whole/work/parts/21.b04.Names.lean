/-! ===== printed: the blocks of Names ===== -/
/-! RuleSheets$Names.<init>()V -/
def q47_0 : List (Nat × Instr × Nat) := [(0, .aload_n 0, 1), (1, .invokespecial 3, 3), (4, .aload_n 0, 1), (5, .ldc 9, 2)]
theorem e47_0 : am_dec am_M47 q47_0 = true := by decide +kernel
theorem e47_0_c : am_dc1 am_M47 7 (.invokevirtual 11) 3 = true := by decide +kernel
theorem b47_0 {d : Nat} {Q : Option Value ⊕ Nat → am_Mem → Prop} {μ : am_Mem} {r0 : Nat} {P : Nat → am_Mem → Prop} {X : Nat → am_Mem → Prop}
    (hc : Wp d 284 (0, [some (.ref 2)], [], μ) (pR P X)) (hr : ∀ x μ', P x μ' → Wp (d + 1) 47 (10, [some (.ref r0)], [.ref x, .ref r0], (μ')) Q)
    (hx : ∀ x μ', X x μ' → Q (.inr x) μ') :
    Wp (d + 1) 47 (0, [some (.ref r0)], [], μ) Q := wp_blk rfl e47_0 (wp_cx (as := []) rfl e47_0_c rfl rfl rfl rfl rfl rfl hc (fun v μ' hv => by obtain ⟨x, rfl, hp⟩ := pR_r hv; exact hr x μ' hp) hx)
def q47_10 : List (Nat × Instr × Nat) := [(10, .putfield 17, 3), (13, .aload_n 0, 1), (14, .sipush 2000, 3), (17, .ldc 9, 2)]
theorem e47_10 : am_dec am_M47 q47_10 = true := by decide +kernel
theorem e47_10_c : am_dc1 am_M47 19 (.invokevirtual 23) 3 = true := by decide +kernel
theorem b47_10 {d : Nat} {Q : Option Value ⊕ Nat → am_Mem → Prop} {μ : am_Mem} {r0 r90 r91 : Nat} {P : Int32 → am_Mem → Prop} {X : Nat → am_Mem → Prop}
    (h1 : am_kd μ r90 = (1, 3))
    (h2 : ¬ r91 = 15)
    (hc : Wp d 286 (0, [some (.ref 2)], [], (am_pR μ r90 0 r91)) (pI P X)) (hr : ∀ x μ', P x μ' → Wp (d + 1) 47 (22, [some (.ref r0)], [.int x, .int ((Int16.ofInt 2000).toInt32), .ref r0], (μ')) Q)
    (hx : ∀ x μ', X x μ' → Q (.inr x) μ') :
    Wp (d + 1) 47 (10, [some (.ref r0)], [.ref r91, .ref r90], μ) Q := wp_blk rfl e47_10 (And.intro h1 (And.intro h2 (wp_cx (as := []) rfl e47_10_c rfl rfl rfl rfl rfl rfl hc (fun v μ' hv => by obtain ⟨x, rfl, hp⟩ := pI_r hv; exact hr x μ' hp) hx)))
def q47_22 : List (Nat × Instr × Nat) := [(22, .iadd, 1), (23, .newarray .char, 2), (25, .putfield 27, 3)]
theorem e47_22 : am_dec am_M47 q47_22 = true := by decide +kernel
theorem b47_22 {d : Nat} {Q : Option Value ⊕ Nat → am_Mem → Prop} {μ : am_Mem} {r0 r90 : Nat} {s1 s2 : Int32}
    (h1 : ¬ (s1 + s2) < 0 ∧ (s1 + s2).toNatClampNeg ≤ 60000000)
    (h2 : am_kd (am_nA μ 5 (s1 + s2).toNatClampNeg) r90 = (1, 3))
    (h3 : ¬ (am_n μ) = 15)
    (k : Wp d 47 (28, [some (.ref r0)], [], (am_pR (am_nA μ 5 (s1 + s2).toNatClampNeg) r90 1 (am_n μ))) Q) :
    Wp d 47 (22, [some (.ref r0)], [.int s2, .int s1, .ref r90], μ) Q := wp_blk rfl e47_22 (And.intro h1 (And.intro h2 (And.intro h3 k)))
def q47_28 : List (Nat × Instr × Nat) := [(28, .aload_n 0, 1), (29, .sipush 1025, 3), (32, .newarray .int, 2), (34, .putfield 30, 3)]
theorem e47_28 : am_dec am_M47 q47_28 = true := by decide +kernel
theorem b47_28 {d : Nat} {Q : Option Value ⊕ Nat → am_Mem → Prop} {μ : am_Mem} {r0 : Nat}
    (h1 : am_kd (am_nA μ 2 ((Int16.ofInt 1025).toInt32).toNatClampNeg) r0 = (1, 3))
    (h2 : ¬ (am_n μ) = 15)
    (k : Wp d 47 (37, [some (.ref r0)], [], (am_pR (am_nA μ 2 ((Int16.ofInt 1025).toInt32).toNatClampNeg) r0 2 (am_n μ))) Q) :
    Wp d 47 (28, [some (.ref r0)], [], μ) Q := wp_blk rfl e47_28 (And.intro (by decide) (And.intro h1 (And.intro h2 k)))
def q47_37 : List (Nat × Instr × Nat) := [(37, .aload_n 0, 1), (38, .sipush 2048, 3), (41, .newarray .int, 2), (43, .putfield 34, 3)]
theorem e47_37 : am_dec am_M47 q47_37 = true := by decide +kernel
theorem b47_37 {d : Nat} {Q : Option Value ⊕ Nat → am_Mem → Prop} {μ : am_Mem} {r0 : Nat}
    (h1 : am_kd (am_nA μ 2 ((Int16.ofInt 2048).toInt32).toNatClampNeg) r0 = (1, 3))
    (h2 : ¬ (am_n μ) = 15)
    (k : Wp d 47 (46, [some (.ref r0)], [], (am_pR (am_nA μ 2 ((Int16.ofInt 2048).toInt32).toNatClampNeg) r0 3 (am_n μ))) Q) :
    Wp d 47 (37, [some (.ref r0)], [], μ) Q := wp_blk rfl e47_37 (And.intro (by decide) (And.intro h1 (And.intro h2 k)))
def q47_46 : List (Nat × Instr × Nat) := [(46, .aload_n 0, 1), (47, .iconst 0, 1), (48, .putfield 37, 3)]
theorem e47_46 : am_dec am_M47 q47_46 = true := by decide +kernel
theorem e47_46_r : am_dec am_M47 [(51, .return_, 1)] = true := by decide +kernel
theorem b47_46 {d : Nat} {Q : Option Value ⊕ Nat → am_Mem → Prop} {μ : am_Mem} {r0 : Nat}
    (h1 : am_kd μ r0 = (1, 3))
    (k : Q (.inl none) (am_pA μ r0 4 (Int32.ofInt 0))) :
    Wp d 47 (46, [some (.ref r0)], [], μ) Q := wp_blk rfl e47_46 (And.intro h1 (And.intro ⟨rfl, rfl⟩ (wp_rv rfl e47_46_r rfl k)))
/-! RuleSheets$Names.clear()V -/
def q48_0 : List (Nat × Instr × Nat) := [(0, .aload_n 0, 1), (1, .getfield 34, 3), (4, .iconst 0, 1)]
theorem e48_0 : am_dec am_M48 q48_0 = true := by decide +kernel
theorem e48_0_c : am_dc1 am_M48 5 (.invokestatic 41) 3 = true := by decide +kernel
theorem b48_0 {d : Nat} {Q : Option Value ⊕ Nat → am_Mem → Prop} {μ : am_Mem} {r0 : Nat} {P : am_Mem → Prop} {X : Nat → am_Mem → Prop}
    (h1 : am_kd μ r0 = (1, 3))
    (h2 : ¬ am_F μ r0 3 = 15)
    (hc : Wp d 290 (0, [some (.ref (am_F μ r0 3)), some (.int (Int32.ofInt 0)), none, none], [], μ) (pV P X)) (hr : ∀ μ', P μ' → Wp (d + 1) 48 (8, [some (.ref r0), none, none], [], (μ')) Q)
    (hx : ∀ x μ', X x μ' → Q (.inr x) μ') :
    Wp (d + 1) 48 (0, [some (.ref r0), none, none], [], μ) Q := wp_blk rfl e48_0 (And.intro h1 (And.intro h2 (wp_cs (vs := [.ref (am_F μ r0 3), .int (Int32.ofInt 0)]) rfl e48_0_c rfl rfl rfl rfl rfl hc (fun v μ' hv => by obtain ⟨rfl, hp⟩ := pV_r hv; exact hr μ' hp) hx)))
def q48_8 : List (Nat × Instr × Nat) := [(8, .aload_n 0, 1), (9, .iconst 0, 1), (10, .putfield 37, 3), (13, .iconst 0, 1), (14, .istore_n 1, 1), (15, .iconst 0, 1), (16, .istore_n 2, 1)]
theorem e48_8 : am_dec am_M48 q48_8 = true := by decide +kernel
theorem b48_8 {d : Nat} {Q : Option Value ⊕ Nat → am_Mem → Prop} {μ : am_Mem} {r0 : Nat}
    (h1 : am_kd μ r0 = (1, 3))
    (k : Wp d 48 (17, [some (.ref r0), some (.int (Int32.ofInt 0)), some (.int (Int32.ofInt 0))], [], (am_pA μ r0 4 (Int32.ofInt 0))) Q) :
    Wp d 48 (8, [some (.ref r0), none, none], [], μ) Q := wp_blk rfl e48_8 (And.intro h1 (And.intro ⟨rfl, rfl⟩ k))
def q48_17 : List (Nat × Instr × Nat) := [(17, .iload_n 2, 1), (18, .aload_n 0, 1), (19, .getfield 17, 3), (22, .arraylength, 1), (23, .if_icmp .ge 37, 3)]
theorem e48_17 : am_dec am_M48 q48_17 = true := by decide +kernel
theorem b48_17 {d : Nat} {Q : Option Value ⊕ Nat → am_Mem → Prop} {μ : am_Mem} {r0 : Nat} {x1 x2 : Int32}
    (h1 : am_kd μ r0 = (1, 3))
    (h2 : ¬ am_F μ r0 0 = 15)
    (h3 : 2 ≤ (am_kd μ (am_F μ r0 0)).1 ∧ (am_kd μ (am_F μ r0 0)).1 ≤ 10 ∧ ¬ (am_kd μ (am_F μ r0 0)).1 = 9)
    (k1 : (Int32.ofNat (am_kd μ (am_F μ r0 0)).2) ≤ x2 → Wp d 48 (60, [some (.ref r0), some (.int x1), some (.int x2)], [], μ) Q) (k2 : ¬ ((Int32.ofNat (am_kd μ (am_F μ r0 0)).2) ≤ x2) → Wp d 48 (26, [some (.ref r0), some (.int x1), some (.int x2)], [], μ) Q) :
    Wp d 48 (17, [some (.ref r0), some (.int x1), some (.int x2)], [], μ) Q := wp_blk rfl e48_17 (And.intro h1 (And.intro h2 (And.intro h3 (And.intro k1 k2))))
def q48_26 : List (Nat × Instr × Nat) := [(26, .aload_n 0, 1), (27, .getfield 17, 3), (30, .iload_n 2, 1), (31, .caload, 1), (32, .bipush 32, 2), (34, .if_icmp .ne 20, 3)]
theorem e48_26 : am_dec am_M48 q48_26 = true := by decide +kernel
theorem b48_26 {d : Nat} {Q : Option Value ⊕ Nat → am_Mem → Prop} {μ : am_Mem} {r0 : Nat} {x1 x2 : Int32}
    (h1 : am_kd μ r0 = (1, 3))
    (h2 : ¬ am_F μ r0 0 = 15)
    (h3 : (am_kd μ (am_F μ r0 0)).1 = 5)
    (h4 : ¬ (x2 < 0 ∨ (am_kd μ (am_F μ r0 0)).2 ≤ x2.toNatClampNeg))
    (k1 : ¬ (am_A μ (am_F μ r0 0) x2.toNatClampNeg) = ((Int8.ofInt 32).toInt32) → Wp d 48 (54, [some (.ref r0), some (.int x1), some (.int x2)], [], μ) Q) (k2 : ¬ (¬ (am_A μ (am_F μ r0 0) x2.toNatClampNeg) = ((Int8.ofInt 32).toInt32)) → Wp d 48 (37, [some (.ref r0), some (.int x1), some (.int x2)], [], μ) Q) :
    Wp d 48 (26, [some (.ref r0), some (.int x1), some (.int x2)], [], μ) Q := wp_blk rfl e48_26 (And.intro h1 (And.intro h2 (And.intro h3 (And.intro h4 (And.intro k1 k2)))))
def q48_37 : List (Nat × Instr × Nat) := [(37, .aload_n 0, 1), (38, .aload_n 0, 1), (39, .getfield 17, 3), (42, .iload_n 1, 1), (43, .iload_n 2, 1), (44, .iload_n 1, 1), (45, .isub, 1)]
theorem e48_37 : am_dec am_M48 q48_37 = true := by decide +kernel
theorem e48_37_c : am_dc1 am_M48 46 (.invokevirtual 47) 3 = true := by decide +kernel
theorem b48_37 {d : Nat} {Q : Option Value ⊕ Nat → am_Mem → Prop} {μ : am_Mem} {r0 : Nat} {x1 x2 : Int32} {P : Int32 → am_Mem → Prop} {X : Nat → am_Mem → Prop}
    (h1 : am_kd μ r0 = (1, 3))
    (h2 : ¬ am_F μ r0 0 = 15)
    (hk : am_kd μ r0 = (1, 3))
    (hc : Wp d 49 (0, [some (.ref r0), some (.ref (am_F μ r0 0)), some (.int x1), some (.int (x2 - x1)), none, none, none, none], [], μ) (pI P X)) (hr : ∀ x μ', P x μ' → Wp (d + 1) 48 (49, [some (.ref r0), some (.int x1), some (.int x2)], [.int x], (μ')) Q)
    (hx : ∀ x μ', X x μ' → Q (.inr x) μ') :
    Wp (d + 1) 48 (37, [some (.ref r0), some (.int x1), some (.int x2)], [], μ) Q := wp_blk rfl e48_37 (And.intro h1 (And.intro h2 (wp_cv (as := [.ref (am_F μ r0 0), .int x1, .int (x2 - x1)]) rfl e48_37_c rfl rfl rfl rfl rfl hk hc (fun v μ' hv => by obtain ⟨x, rfl, hp⟩ := pI_r hv; exact hr x μ' hp) hx)))
def q48_49 : List (Nat × Instr × Nat) := [(49, .pop, 1), (50, .iload_n 2, 1), (51, .iconst 1, 1), (52, .iadd, 1), (53, .istore_n 1, 1)]
theorem e48_49 : am_dec am_M48 q48_49 = true := by decide +kernel
theorem b48_49 {d : Nat} {Q : Option Value ⊕ Nat → am_Mem → Prop} {μ : am_Mem} {r0 : Nat} {x1 x2 s0 : Int32}
    (k : Wp d 48 (54, [some (.ref r0), some (.int (x2 + (Int32.ofInt 1))), some (.int x2)], [], μ) Q) :
    Wp d 48 (49, [some (.ref r0), some (.int x1), some (.int x2)], [.int s0], μ) Q := wp_blk rfl e48_49 k
def q48_54 : List (Nat × Instr × Nat) := [(54, .iinc 2 1, 3), (57, .goto (-40), 3)]
theorem e48_54 : am_dec am_M48 q48_54 = true := by decide +kernel
theorem b48_54 {d : Nat} {Q : Option Value ⊕ Nat → am_Mem → Prop} {μ : am_Mem} {r0 : Nat} {x1 x2 : Int32}
    (k : Wp d 48 (17, [some (.ref r0), some (.int x1), some (.int (x2 + Int32.ofInt 1))], [], μ) Q) :
    Wp d 48 (54, [some (.ref r0), some (.int x1), some (.int x2)], [], μ) Q := wp_blk rfl e48_54 k
theorem e48_60_r : am_dec am_M48 [(60, .return_, 1)] = true := by decide +kernel
theorem b48_60 {d : Nat} {Q : Option Value ⊕ Nat → am_Mem → Prop} {μ : am_Mem} {r0 : Nat} {x1 x2 : Int32}
    (k : Q (.inl none) μ) :
    Wp d 48 (60, [some (.ref r0), some (.int x1), some (.int x2)], [], μ) Q := (wp_rv rfl e48_60_r rfl k)
/-! RuleSheets$Names.intern([CII)I -/
def q49_0 : List (Nat × Instr × Nat) := [(0, .iconst 0, 1), (1, .istore 4, 2), (3, .iconst 0, 1), (4, .istore 5, 2)]
theorem e49_0 : am_dec am_M49 q49_0 = true := by decide +kernel
theorem b49_0 {d : Nat} {Q : Option Value ⊕ Nat → am_Mem → Prop} {μ : am_Mem} {r0 r1 : Nat} {x2 x3 : Int32}
    (k : Wp d 49 (6, [some (.ref r0), some (.ref r1), some (.int x2), some (.int x3), some (.int (Int32.ofInt 0)), some (.int (Int32.ofInt 0)), none, none], [], μ) Q) :
    Wp d 49 (0, [some (.ref r0), some (.ref r1), some (.int x2), some (.int x3), none, none, none, none], [], μ) Q := wp_blk rfl e49_0 k
def q49_6 : List (Nat × Instr × Nat) := [(6, .iload 5, 2), (8, .iload_n 3, 1), (9, .if_icmp .ge 23, 3)]
theorem e49_6 : am_dec am_M49 q49_6 = true := by decide +kernel
theorem b49_6 {d : Nat} {Q : Option Value ⊕ Nat → am_Mem → Prop} {μ : am_Mem} {r0 r1 : Nat} {x2 x3 x4 x5 : Int32}
    (k1 : x3 ≤ x5 → Wp d 49 (32, [some (.ref r0), some (.ref r1), some (.int x2), some (.int x3), some (.int x4), some (.int x5), none, none], [], μ) Q) (k2 : ¬ (x3 ≤ x5) → Wp d 49 (12, [some (.ref r0), some (.ref r1), some (.int x2), some (.int x3), some (.int x4), some (.int x5), none, none], [], μ) Q) :
    Wp d 49 (6, [some (.ref r0), some (.ref r1), some (.int x2), some (.int x3), some (.int x4), some (.int x5), none, none], [], μ) Q := wp_blk rfl e49_6 (And.intro k1 k2)
def q49_12 : List (Nat × Instr × Nat) := [(12, .bipush 31, 2), (14, .iload 4, 2), (16, .imul, 1), (17, .aload_n 1, 1), (18, .iload_n 2, 1), (19, .iload 5, 2), (21, .iadd, 1), (22, .caload, 1), (23, .iadd, 1), (24, .istore 4, 2), (26, .iinc 5 1, 3), (29, .goto (-23), 3)]
theorem e49_12 : am_dec am_M49 q49_12 = true := by decide +kernel
theorem b49_12 {d : Nat} {Q : Option Value ⊕ Nat → am_Mem → Prop} {μ : am_Mem} {r0 r1 : Nat} {x2 x3 x4 x5 : Int32}
    (h1 : (am_kd μ r1).1 = 5)
    (h2 : ¬ ((x2 + x5) < 0 ∨ (am_kd μ r1).2 ≤ (x2 + x5).toNatClampNeg))
    (k : Wp d 49 (6, [some (.ref r0), some (.ref r1), some (.int x2), some (.int x3), some (.int ((((Int8.ofInt 31).toInt32) * x4) + (am_A μ r1 (x2 + x5).toNatClampNeg))), some (.int (x5 + Int32.ofInt 1)), none, none], [], μ) Q) :
    Wp d 49 (12, [some (.ref r0), some (.ref r1), some (.int x2), some (.int x3), some (.int x4), some (.int x5), none, none], [], μ) Q := wp_blk rfl e49_12 (And.intro h1 (And.intro h2 k))
def q49_32 : List (Nat × Instr × Nat) := [(32, .iload 4, 2), (34, .iload 4, 2), (36, .bipush 11, 2), (38, .iushr, 1), (39, .ixor, 1), (40, .sipush 2047, 3), (43, .iand, 1), (44, .istore 5, 2), (46, .iconst 0, 1), (47, .istore 6, 2)]
theorem e49_32 : am_dec am_M49 q49_32 = true := by decide +kernel
theorem b49_32 {d : Nat} {Q : Option Value ⊕ Nat → am_Mem → Prop} {μ : am_Mem} {r0 r1 : Nat} {x2 x3 x4 x5 : Int32}
    (k : Wp d 49 (49, [some (.ref r0), some (.ref r1), some (.int x2), some (.int x3), some (.int x4), some (.int ((x4 ^^^ ((x4.toUInt32 >>> (((Int8.ofInt 11).toInt32).toUInt32 &&& Int32.toUInt32 31)).toInt32)) &&& ((Int16.ofInt 2047).toInt32))), some (.int (Int32.ofInt 0)), none], [], μ) Q) :
    Wp d 49 (32, [some (.ref r0), some (.ref r1), some (.int x2), some (.int x3), some (.int x4), some (.int x5), none, none], [], μ) Q := wp_blk rfl e49_32 k
def q49_49 : List (Nat × Instr × Nat) := [(49, .iload 6, 2), (51, .sipush 2048, 3), (54, .if_icmp .ge 54, 3)]
theorem e49_49 : am_dec am_M49 q49_49 = true := by decide +kernel
theorem b49_49 {d : Nat} {Q : Option Value ⊕ Nat → am_Mem → Prop} {μ : am_Mem} {r0 r1 : Nat} {x2 x3 x4 x5 x6 : Int32} {o7 : Option Value}
    (k1 : ((Int16.ofInt 2048).toInt32) ≤ x6 → Wp d 49 (108, [some (.ref r0), some (.ref r1), some (.int x2), some (.int x3), some (.int x4), some (.int x5), some (.int x6), o7], [], μ) Q) (k2 : ¬ (((Int16.ofInt 2048).toInt32) ≤ x6) → Wp d 49 (57, [some (.ref r0), some (.ref r1), some (.int x2), some (.int x3), some (.int x4), some (.int x5), some (.int x6), o7], [], μ) Q) :
    Wp d 49 (49, [some (.ref r0), some (.ref r1), some (.int x2), some (.int x3), some (.int x4), some (.int x5), some (.int x6), o7], [], μ) Q := wp_blk rfl e49_49 (And.intro k1 k2)
def q49_57 : List (Nat × Instr × Nat) := [(57, .aload_n 0, 1), (58, .getfield 34, 3), (61, .iload 5, 2), (63, .iaload, 1), (64, .iconst 1, 1), (65, .isub, 1), (66, .istore 7, 2), (68, .iload 7, 2), (70, .iconst (-1), 1), (71, .if_icmp .ne 6, 3)]
theorem e49_57 : am_dec am_M49 q49_57 = true := by decide +kernel
theorem b49_57 {d : Nat} {Q : Option Value ⊕ Nat → am_Mem → Prop} {μ : am_Mem} {r0 r1 : Nat} {x2 x3 x4 x5 x6 : Int32} {o7 : Option Value}
    (h1 : am_kd μ r0 = (1, 3))
    (h2 : ¬ am_F μ r0 3 = 15)
    (h3 : (am_kd μ (am_F μ r0 3)).1 = 2 ∨ (am_kd μ (am_F μ r0 3)).1 = 8)
    (h4 : ¬ (x5 < 0 ∨ (am_kd μ (am_F μ r0 3)).2 ≤ x5.toNatClampNeg))
    (k1 : ¬ ((am_A μ (am_F μ r0 3) x5.toNatClampNeg) - (Int32.ofInt 1)) = (Int32.ofInt (-1)) → Wp d 49 (77, [some (.ref r0), some (.ref r1), some (.int x2), some (.int x3), some (.int x4), some (.int x5), some (.int x6), some (.int ((am_A μ (am_F μ r0 3) x5.toNatClampNeg) - (Int32.ofInt 1)))], [], μ) Q) (k2 : ¬ (¬ ((am_A μ (am_F μ r0 3) x5.toNatClampNeg) - (Int32.ofInt 1)) = (Int32.ofInt (-1))) → Wp d 49 (74, [some (.ref r0), some (.ref r1), some (.int x2), some (.int x3), some (.int x4), some (.int x5), some (.int x6), some (.int ((am_A μ (am_F μ r0 3) x5.toNatClampNeg) - (Int32.ofInt 1)))], [], μ) Q) :
    Wp d 49 (57, [some (.ref r0), some (.ref r1), some (.int x2), some (.int x3), some (.int x4), some (.int x5), some (.int x6), o7], [], μ) Q := wp_blk rfl e49_57 (And.intro h1 (And.intro h2 (And.intro h3 (And.intro h4 (And.intro k1 k2)))))
def q49_74 : List (Nat × Instr × Nat) := [(74, .goto 34, 3)]
theorem e49_74 : am_dec am_M49 q49_74 = true := by decide +kernel
theorem b49_74 {d : Nat} {Q : Option Value ⊕ Nat → am_Mem → Prop} {μ : am_Mem} {r0 r1 : Nat} {x2 x3 x4 x5 x6 x7 : Int32}
    (k : Wp d 49 (108, [some (.ref r0), some (.ref r1), some (.int x2), some (.int x3), some (.int x4), some (.int x5), some (.int x6), some (.int x7)], [], μ) Q) :
    Wp d 49 (74, [some (.ref r0), some (.ref r1), some (.int x2), some (.int x3), some (.int x4), some (.int x5), some (.int x6), some (.int x7)], [], μ) Q := wp_blk rfl e49_74 k
def q49_77 : List (Nat × Instr × Nat) := [(77, .aload_n 0, 1), (78, .iload 7, 2), (80, .aload_n 1, 1), (81, .iload_n 2, 1), (82, .iload_n 3, 1)]
theorem e49_77 : am_dec am_M49 q49_77 = true := by decide +kernel
theorem e49_77_c : am_dc1 am_M49 83 (.invokevirtual 51) 3 = true := by decide +kernel
theorem b49_77 {d : Nat} {Q : Option Value ⊕ Nat → am_Mem → Prop} {μ : am_Mem} {r0 r1 : Nat} {x2 x3 x4 x5 x6 x7 : Int32} {P : Int32 → am_Mem → Prop} {X : Nat → am_Mem → Prop}
    (hk : am_kd μ r0 = (1, 3))
    (hc : Wp d 50 (0, [some (.ref r0), some (.int x7), some (.ref r1), some (.int x2), some (.int x3), none], [], μ) (pI P X)) (hr : ∀ x μ', P x μ' → Wp (d + 1) 49 (86, [some (.ref r0), some (.ref r1), some (.int x2), some (.int x3), some (.int x4), some (.int x5), some (.int x6), some (.int x7)], [.int x], (μ')) Q)
    (hx : ∀ x μ', X x μ' → Q (.inr x) μ') :
    Wp (d + 1) 49 (77, [some (.ref r0), some (.ref r1), some (.int x2), some (.int x3), some (.int x4), some (.int x5), some (.int x6), some (.int x7)], [], μ) Q := wp_blk rfl e49_77 (wp_cv (as := [.int x7, .ref r1, .int x2, .int x3]) rfl e49_77_c rfl rfl rfl rfl rfl hk hc (fun v μ' hv => by obtain ⟨x, rfl, hp⟩ := pI_r hv; exact hr x μ' hp) hx)
def q49_86 : List (Nat × Instr × Nat) := [(86, .ifCond .eq 6, 3)]
theorem e49_86 : am_dec am_M49 q49_86 = true := by decide +kernel
theorem b49_86 {d : Nat} {Q : Option Value ⊕ Nat → am_Mem → Prop} {μ : am_Mem} {r0 r1 : Nat} {x2 x3 x4 x5 x6 x7 s0 : Int32}
    (k1 : s0 = 0 → Wp d 49 (92, [some (.ref r0), some (.ref r1), some (.int x2), some (.int x3), some (.int x4), some (.int x5), some (.int x6), some (.int x7)], [], μ) Q) (k2 : ¬ (s0 = 0) → Wp d 49 (89, [some (.ref r0), some (.ref r1), some (.int x2), some (.int x3), some (.int x4), some (.int x5), some (.int x6), some (.int x7)], [], μ) Q) :
    Wp d 49 (86, [some (.ref r0), some (.ref r1), some (.int x2), some (.int x3), some (.int x4), some (.int x5), some (.int x6), some (.int x7)], [.int s0], μ) Q := wp_blk rfl e49_86 (And.intro k1 k2)
def q49_89 : List (Nat × Instr × Nat) := [(89, .iload 7, 2)]
theorem e49_89 : am_dec am_M49 q49_89 = true := by decide +kernel
theorem e49_89_r : am_dec am_M49 [(91, .ireturn, 1)] = true := by decide +kernel
theorem b49_89 {d : Nat} {Q : Option Value ⊕ Nat → am_Mem → Prop} {μ : am_Mem} {r0 r1 : Nat} {x2 x3 x4 x5 x6 x7 : Int32}
    (k : Q (.inl (some (.int x7))) μ) :
    Wp d 49 (89, [some (.ref r0), some (.ref r1), some (.int x2), some (.int x3), some (.int x4), some (.int x5), some (.int x6), some (.int x7)], [], μ) Q := wp_blk rfl e49_89 (wp_ri (ty := .int) rfl e49_89_r rfl ⟨rfl, rfl⟩ k)
def q49_92 : List (Nat × Instr × Nat) := [(92, .iload 5, 2), (94, .iconst 1, 1), (95, .iadd, 1), (96, .sipush 2047, 3), (99, .iand, 1), (100, .istore 5, 2), (102, .iinc 6 1, 3), (105, .goto (-56), 3)]
theorem e49_92 : am_dec am_M49 q49_92 = true := by decide +kernel
theorem b49_92 {d : Nat} {Q : Option Value ⊕ Nat → am_Mem → Prop} {μ : am_Mem} {r0 r1 : Nat} {x2 x3 x4 x5 x6 x7 : Int32}
    (k : Wp d 49 (49, [some (.ref r0), some (.ref r1), some (.int x2), some (.int x3), some (.int x4), some (.int ((x5 + (Int32.ofInt 1)) &&& ((Int16.ofInt 2047).toInt32))), some (.int (x6 + Int32.ofInt 1)), some (.int x7)], [], μ) Q) :
    Wp d 49 (92, [some (.ref r0), some (.ref r1), some (.int x2), some (.int x3), some (.int x4), some (.int x5), some (.int x6), some (.int x7)], [], μ) Q := wp_blk rfl e49_92 k
def q49_108 : List (Nat × Instr × Nat) := [(108, .iconst 0, 1), (109, .istore 6, 2)]
theorem e49_108 : am_dec am_M49 q49_108 = true := by decide +kernel
theorem b49_108 {d : Nat} {Q : Option Value ⊕ Nat → am_Mem → Prop} {μ : am_Mem} {r0 r1 : Nat} {x2 x3 x4 x5 x6 : Int32} {o7 : Option Value}
    (k : Wp d 49 (111, [some (.ref r0), some (.ref r1), some (.int x2), some (.int x3), some (.int x4), some (.int x5), some (.int (Int32.ofInt 0)), o7], [], μ) Q) :
    Wp d 49 (108, [some (.ref r0), some (.ref r1), some (.int x2), some (.int x3), some (.int x4), some (.int x5), some (.int x6), o7], [], μ) Q := wp_blk rfl e49_108 k
def q49_111 : List (Nat × Instr × Nat) := [(111, .iload 6, 2), (113, .iload_n 3, 1), (114, .if_icmp .ge 32, 3)]
theorem e49_111 : am_dec am_M49 q49_111 = true := by decide +kernel
theorem b49_111 {d : Nat} {Q : Option Value ⊕ Nat → am_Mem → Prop} {μ : am_Mem} {r0 r1 : Nat} {x2 x3 x4 x5 x6 : Int32} {o7 : Option Value}
    (k1 : x3 ≤ x6 → Wp d 49 (146, [some (.ref r0), some (.ref r1), some (.int x2), some (.int x3), some (.int x4), some (.int x5), some (.int x6), o7], [], μ) Q) (k2 : ¬ (x3 ≤ x6) → Wp d 49 (117, [some (.ref r0), some (.ref r1), some (.int x2), some (.int x3), some (.int x4), some (.int x5), some (.int x6), o7], [], μ) Q) :
    Wp d 49 (111, [some (.ref r0), some (.ref r1), some (.int x2), some (.int x3), some (.int x4), some (.int x5), some (.int x6), o7], [], μ) Q := wp_blk rfl e49_111 (And.intro k1 k2)
def q49_117 : List (Nat × Instr × Nat) := [(117, .aload_n 0, 1), (118, .getfield 27, 3), (121, .aload_n 0, 1), (122, .getfield 30, 3), (125, .aload_n 0, 1), (126, .getfield 37, 3), (129, .iaload, 1), (130, .iload 6, 2), (132, .iadd, 1), (133, .aload_n 1, 1), (134, .iload_n 2, 1), (135, .iload 6, 2), (137, .iadd, 1), (138, .caload, 1), (139, .castore, 1), (140, .iinc 6 1, 3), (143, .goto (-32), 3)]
theorem e49_117 : am_dec am_M49 q49_117 = true := by decide +kernel
theorem b49_117 {d : Nat} {Q : Option Value ⊕ Nat → am_Mem → Prop} {μ : am_Mem} {r0 r1 : Nat} {x2 x3 x4 x5 x6 : Int32} {o7 : Option Value}
    (h1 : am_kd μ r0 = (1, 3))
    (h2 : ¬ am_F μ r0 1 = 15)
    (h3 : am_kd μ r0 = (1, 3))
    (h4 : ¬ am_F μ r0 2 = 15)
    (h5 : am_kd μ r0 = (1, 3))
    (h6 : (am_kd μ (am_F μ r0 2)).1 = 2 ∨ (am_kd μ (am_F μ r0 2)).1 = 8)
    (h7 : ¬ ((am_A μ r0 4) < 0 ∨ (am_kd μ (am_F μ r0 2)).2 ≤ (am_A μ r0 4).toNatClampNeg))
    (h8 : (am_kd μ r1).1 = 5)
    (h9 : ¬ ((x2 + x6) < 0 ∨ (am_kd μ r1).2 ≤ (x2 + x6).toNatClampNeg))
    (h10 : (am_kd μ (am_F μ r0 1)).1 = 5)
    (h11 : ¬ (((am_A μ (am_F μ r0 2) (am_A μ r0 4).toNatClampNeg) + x6) < 0 ∨ (am_kd μ (am_F μ r0 1)).2 ≤ ((am_A μ (am_F μ r0 2) (am_A μ r0 4).toNatClampNeg) + x6).toNatClampNeg))
    (k : Wp d 49 (111, [some (.ref r0), some (.ref r1), some (.int x2), some (.int x3), some (.int x4), some (.int x5), some (.int (x6 + Int32.ofInt 1)), o7], [], (am_pA μ (am_F μ r0 1) ((am_A μ (am_F μ r0 2) (am_A μ r0 4).toNatClampNeg) + x6).toNatClampNeg ((am_A μ r1 (x2 + x6).toNatClampNeg).toUInt32.toUInt16.toUInt32.toInt32))) Q) :
    Wp d 49 (117, [some (.ref r0), some (.ref r1), some (.int x2), some (.int x3), some (.int x4), some (.int x5), some (.int x6), o7], [], μ) Q := wp_blk rfl e49_117 (And.intro h1 (And.intro h2 (And.intro h3 (And.intro h4 (And.intro h5 (And.intro h6 (And.intro h7 (And.intro h8 (And.intro h9 (And.intro h10 (And.intro h11 k)))))))))))
def q49_146 : List (Nat × Instr × Nat) := [(146, .aload_n 0, 1), (147, .getfield 30, 3), (150, .aload_n 0, 1), (151, .getfield 37, 3), (154, .iconst 1, 1), (155, .iadd, 1), (156, .aload_n 0, 1), (157, .getfield 30, 3), (160, .aload_n 0, 1), (161, .getfield 37, 3), (164, .iaload, 1), (165, .iload_n 3, 1), (166, .iadd, 1), (167, .iastore, 1), (168, .aload_n 0, 1), (169, .dup, 1), (170, .getfield 37, 3), (173, .iconst 1, 1), (174, .iadd, 1), (175, .putfield 37, 3)]
theorem e49_146 : am_dec am_M49 q49_146 = true := by decide +kernel
theorem b49_146 {d : Nat} {Q : Option Value ⊕ Nat → am_Mem → Prop} {μ : am_Mem} {r0 r1 : Nat} {x2 x3 x4 x5 x6 : Int32} {o7 : Option Value}
    (h1 : am_kd μ r0 = (1, 3))
    (h2 : ¬ am_F μ r0 2 = 15)
    (h3 : am_kd μ r0 = (1, 3))
    (h4 : am_kd μ r0 = (1, 3))
    (h5 : ¬ am_F μ r0 2 = 15)
    (h6 : am_kd μ r0 = (1, 3))
    (h7 : (am_kd μ (am_F μ r0 2)).1 = 2 ∨ (am_kd μ (am_F μ r0 2)).1 = 8)
    (h8 : ¬ ((am_A μ r0 4) < 0 ∨ (am_kd μ (am_F μ r0 2)).2 ≤ (am_A μ r0 4).toNatClampNeg))
    (h9 : (am_kd μ (am_F μ r0 2)).1 = 2)
    (h10 : ¬ (((am_A μ r0 4) + (Int32.ofInt 1)) < 0 ∨ (am_kd μ (am_F μ r0 2)).2 ≤ ((am_A μ r0 4) + (Int32.ofInt 1)).toNatClampNeg))
    (h11 : am_kd (am_pA μ (am_F μ r0 2) ((am_A μ r0 4) + (Int32.ofInt 1)).toNatClampNeg ((am_A μ (am_F μ r0 2) (am_A μ r0 4).toNatClampNeg) + x3)) r0 = (1, 3))
    (h12 : am_kd (am_pA μ (am_F μ r0 2) ((am_A μ r0 4) + (Int32.ofInt 1)).toNatClampNeg ((am_A μ (am_F μ r0 2) (am_A μ r0 4).toNatClampNeg) + x3)) r0 = (1, 3))
    (k : Wp d 49 (178, [some (.ref r0), some (.ref r1), some (.int x2), some (.int x3), some (.int x4), some (.int x5), some (.int x6), o7], [], (am_pA (am_pA μ (am_F μ r0 2) ((am_A μ r0 4) + (Int32.ofInt 1)).toNatClampNeg ((am_A μ (am_F μ r0 2) (am_A μ r0 4).toNatClampNeg) + x3)) r0 4 ((am_A (am_pA μ (am_F μ r0 2) ((am_A μ r0 4) + (Int32.ofInt 1)).toNatClampNeg ((am_A μ (am_F μ r0 2) (am_A μ r0 4).toNatClampNeg) + x3)) r0 4) + (Int32.ofInt 1)))) Q) :
    Wp d 49 (146, [some (.ref r0), some (.ref r1), some (.int x2), some (.int x3), some (.int x4), some (.int x5), some (.int x6), o7], [], μ) Q := wp_blk rfl e49_146 (And.intro h1 (And.intro h2 (And.intro h3 (And.intro h4 (And.intro h5 (And.intro h6 (And.intro h7 (And.intro h8 (And.intro h9 (And.intro h10 (And.intro h11 (And.intro h12 (And.intro ⟨rfl, rfl⟩ k)))))))))))))
def q49_178 : List (Nat × Instr × Nat) := [(178, .aload_n 0, 1), (179, .getfield 34, 3), (182, .iload 5, 2), (184, .aload_n 0, 1), (185, .getfield 37, 3), (188, .iastore, 1), (189, .aload_n 0, 1), (190, .getfield 37, 3), (193, .iconst 1, 1), (194, .isub, 1)]
theorem e49_178 : am_dec am_M49 q49_178 = true := by decide +kernel
theorem e49_178_r : am_dec am_M49 [(195, .ireturn, 1)] = true := by decide +kernel
theorem b49_178 {d : Nat} {Q : Option Value ⊕ Nat → am_Mem → Prop} {μ : am_Mem} {r0 r1 : Nat} {x2 x3 x4 x5 x6 : Int32} {o7 : Option Value}
    (h1 : am_kd μ r0 = (1, 3))
    (h2 : ¬ am_F μ r0 3 = 15)
    (h3 : am_kd μ r0 = (1, 3))
    (h4 : (am_kd μ (am_F μ r0 3)).1 = 2)
    (h5 : ¬ (x5 < 0 ∨ (am_kd μ (am_F μ r0 3)).2 ≤ x5.toNatClampNeg))
    (h6 : am_kd (am_pA μ (am_F μ r0 3) x5.toNatClampNeg (am_A μ r0 4)) r0 = (1, 3))
    (k : Q (.inl (some (.int ((am_A (am_pA μ (am_F μ r0 3) x5.toNatClampNeg (am_A μ r0 4)) r0 4) - (Int32.ofInt 1))))) (am_pA μ (am_F μ r0 3) x5.toNatClampNeg (am_A μ r0 4))) :
    Wp d 49 (178, [some (.ref r0), some (.ref r1), some (.int x2), some (.int x3), some (.int x4), some (.int x5), some (.int x6), o7], [], μ) Q := wp_blk rfl e49_178 (And.intro h1 (And.intro h2 (And.intro h3 (And.intro h4 (And.intro h5 (And.intro h6 (wp_ri (ty := .int) rfl e49_178_r rfl ⟨rfl, rfl⟩ k)))))))
/-! RuleSheets$Names.isName(I[CII)Z -/
def q50_0 : List (Nat × Instr × Nat) := [(0, .aload_n 0, 1), (1, .iload_n 1, 1)]
theorem e50_0 : am_dec am_M50 q50_0 = true := by decide +kernel
theorem e50_0_c : am_dc1 am_M50 2 (.invokevirtual 55) 3 = true := by decide +kernel
theorem b50_0 {d : Nat} {Q : Option Value ⊕ Nat → am_Mem → Prop} {μ : am_Mem} {r0 r2 : Nat} {x1 x3 x4 : Int32} {P : Int32 → am_Mem → Prop} {X : Nat → am_Mem → Prop}
    (hk : am_kd μ r0 = (1, 3))
    (hc : Wp d 51 (0, [some (.ref r0), some (.int x1)], [], μ) (pI P X)) (hr : ∀ x μ', P x μ' → Wp (d + 1) 50 (5, [some (.ref r0), some (.int x1), some (.ref r2), some (.int x3), some (.int x4), none], [.int x], (μ')) Q)
    (hx : ∀ x μ', X x μ' → Q (.inr x) μ') :
    Wp (d + 1) 50 (0, [some (.ref r0), some (.int x1), some (.ref r2), some (.int x3), some (.int x4), none], [], μ) Q := wp_blk rfl e50_0 (wp_cv (as := [.int x1]) rfl e50_0_c rfl rfl rfl rfl rfl hk hc (fun v μ' hv => by obtain ⟨x, rfl, hp⟩ := pI_r hv; exact hr x μ' hp) hx)
def q50_5 : List (Nat × Instr × Nat) := [(5, .iload 4, 2), (7, .if_icmp .eq 5, 3)]
theorem e50_5 : am_dec am_M50 q50_5 = true := by decide +kernel
theorem b50_5 {d : Nat} {Q : Option Value ⊕ Nat → am_Mem → Prop} {μ : am_Mem} {r0 r2 : Nat} {x1 x3 x4 s0 : Int32}
    (k1 : s0 = x4 → Wp d 50 (12, [some (.ref r0), some (.int x1), some (.ref r2), some (.int x3), some (.int x4), none], [], μ) Q) (k2 : ¬ (s0 = x4) → Wp d 50 (10, [some (.ref r0), some (.int x1), some (.ref r2), some (.int x3), some (.int x4), none], [], μ) Q) :
    Wp d 50 (5, [some (.ref r0), some (.int x1), some (.ref r2), some (.int x3), some (.int x4), none], [.int s0], μ) Q := wp_blk rfl e50_5 (And.intro k1 k2)
def q50_10 : List (Nat × Instr × Nat) := [(10, .iconst 0, 1)]
theorem e50_10 : am_dec am_M50 q50_10 = true := by decide +kernel
theorem e50_10_r : am_dec am_M50 [(11, .ireturn, 1)] = true := by decide +kernel
theorem b50_10 {d : Nat} {Q : Option Value ⊕ Nat → am_Mem → Prop} {μ : am_Mem} {r0 r2 : Nat} {x1 x3 x4 : Int32}
    (k : Q (.inl (some (.int (Int32.ofInt 0)))) μ) :
    Wp d 50 (10, [some (.ref r0), some (.int x1), some (.ref r2), some (.int x3), some (.int x4), none], [], μ) Q := wp_blk rfl e50_10 (wp_ri (ty := .boolean) rfl e50_10_r rfl (by decide) k)
def q50_12 : List (Nat × Instr × Nat) := [(12, .iconst 0, 1), (13, .istore 5, 2)]
theorem e50_12 : am_dec am_M50 q50_12 = true := by decide +kernel
theorem b50_12 {d : Nat} {Q : Option Value ⊕ Nat → am_Mem → Prop} {μ : am_Mem} {r0 r2 : Nat} {x1 x3 x4 : Int32}
    (k : Wp d 50 (15, [some (.ref r0), some (.int x1), some (.ref r2), some (.int x3), some (.int x4), some (.int (Int32.ofInt 0))], [], μ) Q) :
    Wp d 50 (12, [some (.ref r0), some (.int x1), some (.ref r2), some (.int x3), some (.int x4), none], [], μ) Q := wp_blk rfl e50_12 k
def q50_15 : List (Nat × Instr × Nat) := [(15, .iload 5, 2), (17, .iload 4, 2), (19, .if_icmp .ge 34, 3)]
theorem e50_15 : am_dec am_M50 q50_15 = true := by decide +kernel
theorem b50_15 {d : Nat} {Q : Option Value ⊕ Nat → am_Mem → Prop} {μ : am_Mem} {r0 r2 : Nat} {x1 x3 x4 x5 : Int32}
    (k1 : x4 ≤ x5 → Wp d 50 (53, [some (.ref r0), some (.int x1), some (.ref r2), some (.int x3), some (.int x4), some (.int x5)], [], μ) Q) (k2 : ¬ (x4 ≤ x5) → Wp d 50 (22, [some (.ref r0), some (.int x1), some (.ref r2), some (.int x3), some (.int x4), some (.int x5)], [], μ) Q) :
    Wp d 50 (15, [some (.ref r0), some (.int x1), some (.ref r2), some (.int x3), some (.int x4), some (.int x5)], [], μ) Q := wp_blk rfl e50_15 (And.intro k1 k2)
def q50_22 : List (Nat × Instr × Nat) := [(22, .aload_n 0, 1), (23, .getfield 27, 3), (26, .aload_n 0, 1), (27, .getfield 30, 3), (30, .iload_n 1, 1), (31, .iaload, 1), (32, .iload 5, 2), (34, .iadd, 1), (35, .caload, 1), (36, .aload_n 2, 1), (37, .iload_n 3, 1), (38, .iload 5, 2), (40, .iadd, 1), (41, .caload, 1), (42, .if_icmp .eq 5, 3)]
theorem e50_22 : am_dec am_M50 q50_22 = true := by decide +kernel
theorem b50_22 {d : Nat} {Q : Option Value ⊕ Nat → am_Mem → Prop} {μ : am_Mem} {r0 r2 : Nat} {x1 x3 x4 x5 : Int32}
    (h1 : am_kd μ r0 = (1, 3))
    (h2 : ¬ am_F μ r0 1 = 15)
    (h3 : am_kd μ r0 = (1, 3))
    (h4 : ¬ am_F μ r0 2 = 15)
    (h5 : (am_kd μ (am_F μ r0 2)).1 = 2 ∨ (am_kd μ (am_F μ r0 2)).1 = 8)
    (h6 : ¬ (x1 < 0 ∨ (am_kd μ (am_F μ r0 2)).2 ≤ x1.toNatClampNeg))
    (h7 : (am_kd μ (am_F μ r0 1)).1 = 5)
    (h8 : ¬ (((am_A μ (am_F μ r0 2) x1.toNatClampNeg) + x5) < 0 ∨ (am_kd μ (am_F μ r0 1)).2 ≤ ((am_A μ (am_F μ r0 2) x1.toNatClampNeg) + x5).toNatClampNeg))
    (h9 : (am_kd μ r2).1 = 5)
    (h10 : ¬ ((x3 + x5) < 0 ∨ (am_kd μ r2).2 ≤ (x3 + x5).toNatClampNeg))
    (k1 : (am_A μ (am_F μ r0 1) ((am_A μ (am_F μ r0 2) x1.toNatClampNeg) + x5).toNatClampNeg) = (am_A μ r2 (x3 + x5).toNatClampNeg) → Wp d 50 (47, [some (.ref r0), some (.int x1), some (.ref r2), some (.int x3), some (.int x4), some (.int x5)], [], μ) Q) (k2 : ¬ ((am_A μ (am_F μ r0 1) ((am_A μ (am_F μ r0 2) x1.toNatClampNeg) + x5).toNatClampNeg) = (am_A μ r2 (x3 + x5).toNatClampNeg)) → Wp d 50 (45, [some (.ref r0), some (.int x1), some (.ref r2), some (.int x3), some (.int x4), some (.int x5)], [], μ) Q) :
    Wp d 50 (22, [some (.ref r0), some (.int x1), some (.ref r2), some (.int x3), some (.int x4), some (.int x5)], [], μ) Q := wp_blk rfl e50_22 (And.intro h1 (And.intro h2 (And.intro h3 (And.intro h4 (And.intro h5 (And.intro h6 (And.intro h7 (And.intro h8 (And.intro h9 (And.intro h10 (And.intro k1 k2)))))))))))
def q50_45 : List (Nat × Instr × Nat) := [(45, .iconst 0, 1)]
theorem e50_45 : am_dec am_M50 q50_45 = true := by decide +kernel
theorem e50_45_r : am_dec am_M50 [(46, .ireturn, 1)] = true := by decide +kernel
theorem b50_45 {d : Nat} {Q : Option Value ⊕ Nat → am_Mem → Prop} {μ : am_Mem} {r0 r2 : Nat} {x1 x3 x4 x5 : Int32}
    (k : Q (.inl (some (.int (Int32.ofInt 0)))) μ) :
    Wp d 50 (45, [some (.ref r0), some (.int x1), some (.ref r2), some (.int x3), some (.int x4), some (.int x5)], [], μ) Q := wp_blk rfl e50_45 (wp_ri (ty := .boolean) rfl e50_45_r rfl (by decide) k)
def q50_47 : List (Nat × Instr × Nat) := [(47, .iinc 5 1, 3), (50, .goto (-35), 3)]
theorem e50_47 : am_dec am_M50 q50_47 = true := by decide +kernel
theorem b50_47 {d : Nat} {Q : Option Value ⊕ Nat → am_Mem → Prop} {μ : am_Mem} {r0 r2 : Nat} {x1 x3 x4 x5 : Int32}
    (k : Wp d 50 (15, [some (.ref r0), some (.int x1), some (.ref r2), some (.int x3), some (.int x4), some (.int (x5 + Int32.ofInt 1))], [], μ) Q) :
    Wp d 50 (47, [some (.ref r0), some (.int x1), some (.ref r2), some (.int x3), some (.int x4), some (.int x5)], [], μ) Q := wp_blk rfl e50_47 k
def q50_53 : List (Nat × Instr × Nat) := [(53, .iconst 1, 1)]
theorem e50_53 : am_dec am_M50 q50_53 = true := by decide +kernel
theorem e50_53_r : am_dec am_M50 [(54, .ireturn, 1)] = true := by decide +kernel
theorem b50_53 {d : Nat} {Q : Option Value ⊕ Nat → am_Mem → Prop} {μ : am_Mem} {r0 r2 : Nat} {x1 x3 x4 x5 : Int32}
    (k : Q (.inl (some (.int (Int32.ofInt 1)))) μ) :
    Wp d 50 (53, [some (.ref r0), some (.int x1), some (.ref r2), some (.int x3), some (.int x4), some (.int x5)], [], μ) Q := wp_blk rfl e50_53 (wp_ri (ty := .boolean) rfl e50_53_r rfl (by decide) k)
/-! RuleSheets$Names.lengthOf(I)I -/
def q51_0 : List (Nat × Instr × Nat) := [(0, .aload_n 0, 1), (1, .getfield 30, 3), (4, .iload_n 1, 1), (5, .iconst 1, 1), (6, .iadd, 1), (7, .iaload, 1), (8, .aload_n 0, 1), (9, .getfield 30, 3), (12, .iload_n 1, 1), (13, .iaload, 1), (14, .isub, 1)]
theorem e51_0 : am_dec am_M51 q51_0 = true := by decide +kernel
theorem e51_0_r : am_dec am_M51 [(15, .ireturn, 1)] = true := by decide +kernel
theorem b51_0 {d : Nat} {Q : Option Value ⊕ Nat → am_Mem → Prop} {μ : am_Mem} {r0 : Nat} {x1 : Int32}
    (h1 : am_kd μ r0 = (1, 3))
    (h2 : ¬ am_F μ r0 2 = 15)
    (h3 : (am_kd μ (am_F μ r0 2)).1 = 2 ∨ (am_kd μ (am_F μ r0 2)).1 = 8)
    (h4 : ¬ ((x1 + (Int32.ofInt 1)) < 0 ∨ (am_kd μ (am_F μ r0 2)).2 ≤ (x1 + (Int32.ofInt 1)).toNatClampNeg))
    (h5 : am_kd μ r0 = (1, 3))
    (h6 : ¬ am_F μ r0 2 = 15)
    (h7 : (am_kd μ (am_F μ r0 2)).1 = 2 ∨ (am_kd μ (am_F μ r0 2)).1 = 8)
    (h8 : ¬ (x1 < 0 ∨ (am_kd μ (am_F μ r0 2)).2 ≤ x1.toNatClampNeg))
    (k : Q (.inl (some (.int ((am_A μ (am_F μ r0 2) (x1 + (Int32.ofInt 1)).toNatClampNeg) - (am_A μ (am_F μ r0 2) x1.toNatClampNeg))))) μ) :
    Wp d 51 (0, [some (.ref r0), some (.int x1)], [], μ) Q := wp_blk rfl e51_0 (And.intro h1 (And.intro h2 (And.intro h3 (And.intro h4 (And.intro h5 (And.intro h6 (And.intro h7 (And.intro h8 (wp_ri (ty := .int) rfl e51_0_r rfl ⟨rfl, rfl⟩ k)))))))))
/-! RuleSheets$Names.compare(II)I -/
def q52_0 : List (Nat × Instr × Nat) := [(0, .aload_n 0, 1), (1, .iload_n 1, 1)]
theorem e52_0 : am_dec am_M52 q52_0 = true := by decide +kernel
theorem e52_0_c : am_dc1 am_M52 2 (.invokevirtual 55) 3 = true := by decide +kernel
theorem b52_0 {d : Nat} {Q : Option Value ⊕ Nat → am_Mem → Prop} {μ : am_Mem} {r0 : Nat} {x1 x2 : Int32} {P : Int32 → am_Mem → Prop} {X : Nat → am_Mem → Prop}
    (hk : am_kd μ r0 = (1, 3))
    (hc : Wp d 51 (0, [some (.ref r0), some (.int x1)], [], μ) (pI P X)) (hr : ∀ x μ', P x μ' → Wp (d + 1) 52 (5, [some (.ref r0), some (.int x1), some (.int x2), none, none], [.int x], (μ')) Q)
    (hx : ∀ x μ', X x μ' → Q (.inr x) μ') :
    Wp (d + 1) 52 (0, [some (.ref r0), some (.int x1), some (.int x2), none, none], [], μ) Q := wp_blk rfl e52_0 (wp_cv (as := [.int x1]) rfl e52_0_c rfl rfl rfl rfl rfl hk hc (fun v μ' hv => by obtain ⟨x, rfl, hp⟩ := pI_r hv; exact hr x μ' hp) hx)
def q52_5 : List (Nat × Instr × Nat) := [(5, .aload_n 0, 1), (6, .iload_n 2, 1)]
theorem e52_5 : am_dec am_M52 q52_5 = true := by decide +kernel
theorem e52_5_c : am_dc1 am_M52 7 (.invokevirtual 55) 3 = true := by decide +kernel
theorem b52_5 {d : Nat} {Q : Option Value ⊕ Nat → am_Mem → Prop} {μ : am_Mem} {r0 : Nat} {x1 x2 s0 : Int32} {P : Int32 → am_Mem → Prop} {X : Nat → am_Mem → Prop}
    (hk : am_kd μ r0 = (1, 3))
    (hc : Wp d 51 (0, [some (.ref r0), some (.int x2)], [], μ) (pI P X)) (hr : ∀ x μ', P x μ' → Wp (d + 1) 52 (10, [some (.ref r0), some (.int x1), some (.int x2), none, none], [.int x, .int s0], (μ')) Q)
    (hx : ∀ x μ', X x μ' → Q (.inr x) μ') :
    Wp (d + 1) 52 (5, [some (.ref r0), some (.int x1), some (.int x2), none, none], [.int s0], μ) Q := wp_blk rfl e52_5 (wp_cv (as := [.int x2]) rfl e52_5_c rfl rfl rfl rfl rfl hk hc (fun v μ' hv => by obtain ⟨x, rfl, hp⟩ := pI_r hv; exact hr x μ' hp) hx)
def q52_10 : List (Nat × Instr × Nat) := [(10, .invokestatic 59, 3), (13, .istore_n 3, 1), (14, .iconst 0, 1), (15, .istore 4, 2)]
theorem e52_10 : am_dec am_M52 q52_10 = true := by decide +kernel
theorem b52_10 {d : Nat} {Q : Option Value ⊕ Nat → am_Mem → Prop} {μ : am_Mem} {r0 : Nat} {x1 x2 s0 s1 : Int32}
    (k : Wp d 52 (17, [some (.ref r0), some (.int x1), some (.int x2), some (.int (if s1 < s0 then s1 else s0)), some (.int (Int32.ofInt 0))], [], μ) Q) :
    Wp d 52 (10, [some (.ref r0), some (.int x1), some (.int x2), none, none], [.int s1, .int s0], μ) Q := wp_blk rfl e52_10 k
def q52_17 : List (Nat × Instr × Nat) := [(17, .iload 4, 2), (19, .iload_n 3, 1), (20, .if_icmp .ge 42, 3)]
theorem e52_17 : am_dec am_M52 q52_17 = true := by decide +kernel
theorem b52_17 {d : Nat} {Q : Option Value ⊕ Nat → am_Mem → Prop} {μ : am_Mem} {r0 : Nat} {x1 x2 x3 x4 : Int32}
    (k1 : x3 ≤ x4 → Wp d 52 (62, [some (.ref r0), some (.int x1), some (.int x2), some (.int x3), some (.int x4)], [], μ) Q) (k2 : ¬ (x3 ≤ x4) → Wp d 52 (23, [some (.ref r0), some (.int x1), some (.int x2), some (.int x3), some (.int x4)], [], μ) Q) :
    Wp d 52 (17, [some (.ref r0), some (.int x1), some (.int x2), some (.int x3), some (.int x4)], [], μ) Q := wp_blk rfl e52_17 (And.intro k1 k2)
def q52_23 : List (Nat × Instr × Nat) := [(23, .aload_n 0, 1), (24, .iload_n 1, 1), (25, .iload 4, 2)]
theorem e52_23 : am_dec am_M52 q52_23 = true := by decide +kernel
theorem e52_23_c : am_dc1 am_M52 27 (.invokevirtual 65) 3 = true := by decide +kernel
theorem b52_23 {d : Nat} {Q : Option Value ⊕ Nat → am_Mem → Prop} {μ : am_Mem} {r0 : Nat} {x1 x2 x3 x4 : Int32} {P : Int32 → am_Mem → Prop} {X : Nat → am_Mem → Prop}
    (hk : am_kd μ r0 = (1, 3))
    (hc : Wp d 53 (0, [some (.ref r0), some (.int x1), some (.int x4)], [], μ) (pI P X)) (hr : ∀ x μ', P x μ' → Wp (d + 1) 52 (30, [some (.ref r0), some (.int x1), some (.int x2), some (.int x3), some (.int x4)], [.int x], (μ')) Q)
    (hx : ∀ x μ', X x μ' → Q (.inr x) μ') :
    Wp (d + 1) 52 (23, [some (.ref r0), some (.int x1), some (.int x2), some (.int x3), some (.int x4)], [], μ) Q := wp_blk rfl e52_23 (wp_cv (as := [.int x1, .int x4]) rfl e52_23_c rfl rfl rfl rfl rfl hk hc (fun v μ' hv => by obtain ⟨x, rfl, hp⟩ := pI_r hv; exact hr x μ' hp) hx)
def q52_30 : List (Nat × Instr × Nat) := [(30, .aload_n 0, 1), (31, .iload_n 2, 1), (32, .iload 4, 2)]
theorem e52_30 : am_dec am_M52 q52_30 = true := by decide +kernel
theorem e52_30_c : am_dc1 am_M52 34 (.invokevirtual 65) 3 = true := by decide +kernel
theorem b52_30 {d : Nat} {Q : Option Value ⊕ Nat → am_Mem → Prop} {μ : am_Mem} {r0 : Nat} {x1 x2 x3 x4 s0 : Int32} {P : Int32 → am_Mem → Prop} {X : Nat → am_Mem → Prop}
    (hk : am_kd μ r0 = (1, 3))
    (hc : Wp d 53 (0, [some (.ref r0), some (.int x2), some (.int x4)], [], μ) (pI P X)) (hr : ∀ x μ', P x μ' → Wp (d + 1) 52 (37, [some (.ref r0), some (.int x1), some (.int x2), some (.int x3), some (.int x4)], [.int x, .int s0], (μ')) Q)
    (hx : ∀ x μ', X x μ' → Q (.inr x) μ') :
    Wp (d + 1) 52 (30, [some (.ref r0), some (.int x1), some (.int x2), some (.int x3), some (.int x4)], [.int s0], μ) Q := wp_blk rfl e52_30 (wp_cv (as := [.int x2, .int x4]) rfl e52_30_c rfl rfl rfl rfl rfl hk hc (fun v μ' hv => by obtain ⟨x, rfl, hp⟩ := pI_r hv; exact hr x μ' hp) hx)
def q52_37 : List (Nat × Instr × Nat) := [(37, .if_icmp .eq 19, 3)]
theorem e52_37 : am_dec am_M52 q52_37 = true := by decide +kernel
theorem b52_37 {d : Nat} {Q : Option Value ⊕ Nat → am_Mem → Prop} {μ : am_Mem} {r0 : Nat} {x1 x2 x3 x4 s0 s1 : Int32}
    (k1 : s0 = s1 → Wp d 52 (56, [some (.ref r0), some (.int x1), some (.int x2), some (.int x3), some (.int x4)], [], μ) Q) (k2 : ¬ (s0 = s1) → Wp d 52 (40, [some (.ref r0), some (.int x1), some (.int x2), some (.int x3), some (.int x4)], [], μ) Q) :
    Wp d 52 (37, [some (.ref r0), some (.int x1), some (.int x2), some (.int x3), some (.int x4)], [.int s1, .int s0], μ) Q := wp_blk rfl e52_37 (And.intro k1 k2)
def q52_40 : List (Nat × Instr × Nat) := [(40, .aload_n 0, 1), (41, .iload_n 1, 1), (42, .iload 4, 2)]
theorem e52_40 : am_dec am_M52 q52_40 = true := by decide +kernel
theorem e52_40_c : am_dc1 am_M52 44 (.invokevirtual 65) 3 = true := by decide +kernel
theorem b52_40 {d : Nat} {Q : Option Value ⊕ Nat → am_Mem → Prop} {μ : am_Mem} {r0 : Nat} {x1 x2 x3 x4 : Int32} {P : Int32 → am_Mem → Prop} {X : Nat → am_Mem → Prop}
    (hk : am_kd μ r0 = (1, 3))
    (hc : Wp d 53 (0, [some (.ref r0), some (.int x1), some (.int x4)], [], μ) (pI P X)) (hr : ∀ x μ', P x μ' → Wp (d + 1) 52 (47, [some (.ref r0), some (.int x1), some (.int x2), some (.int x3), some (.int x4)], [.int x], (μ')) Q)
    (hx : ∀ x μ', X x μ' → Q (.inr x) μ') :
    Wp (d + 1) 52 (40, [some (.ref r0), some (.int x1), some (.int x2), some (.int x3), some (.int x4)], [], μ) Q := wp_blk rfl e52_40 (wp_cv (as := [.int x1, .int x4]) rfl e52_40_c rfl rfl rfl rfl rfl hk hc (fun v μ' hv => by obtain ⟨x, rfl, hp⟩ := pI_r hv; exact hr x μ' hp) hx)
def q52_47 : List (Nat × Instr × Nat) := [(47, .aload_n 0, 1), (48, .iload_n 2, 1), (49, .iload 4, 2)]
theorem e52_47 : am_dec am_M52 q52_47 = true := by decide +kernel
theorem e52_47_c : am_dc1 am_M52 51 (.invokevirtual 65) 3 = true := by decide +kernel
theorem b52_47 {d : Nat} {Q : Option Value ⊕ Nat → am_Mem → Prop} {μ : am_Mem} {r0 : Nat} {x1 x2 x3 x4 s0 : Int32} {P : Int32 → am_Mem → Prop} {X : Nat → am_Mem → Prop}
    (hk : am_kd μ r0 = (1, 3))
    (hc : Wp d 53 (0, [some (.ref r0), some (.int x2), some (.int x4)], [], μ) (pI P X)) (hr : ∀ x μ', P x μ' → Wp (d + 1) 52 (54, [some (.ref r0), some (.int x1), some (.int x2), some (.int x3), some (.int x4)], [.int x, .int s0], (μ')) Q)
    (hx : ∀ x μ', X x μ' → Q (.inr x) μ') :
    Wp (d + 1) 52 (47, [some (.ref r0), some (.int x1), some (.int x2), some (.int x3), some (.int x4)], [.int s0], μ) Q := wp_blk rfl e52_47 (wp_cv (as := [.int x2, .int x4]) rfl e52_47_c rfl rfl rfl rfl rfl hk hc (fun v μ' hv => by obtain ⟨x, rfl, hp⟩ := pI_r hv; exact hr x μ' hp) hx)
def q52_54 : List (Nat × Instr × Nat) := [(54, .isub, 1)]
theorem e52_54 : am_dec am_M52 q52_54 = true := by decide +kernel
theorem e52_54_r : am_dec am_M52 [(55, .ireturn, 1)] = true := by decide +kernel
theorem b52_54 {d : Nat} {Q : Option Value ⊕ Nat → am_Mem → Prop} {μ : am_Mem} {r0 : Nat} {x1 x2 x3 x4 s0 s1 : Int32}
    (k : Q (.inl (some (.int (s0 - s1)))) μ) :
    Wp d 52 (54, [some (.ref r0), some (.int x1), some (.int x2), some (.int x3), some (.int x4)], [.int s1, .int s0], μ) Q := wp_blk rfl e52_54 (wp_ri (ty := .int) rfl e52_54_r rfl ⟨rfl, rfl⟩ k)
def q52_56 : List (Nat × Instr × Nat) := [(56, .iinc 4 1, 3), (59, .goto (-42), 3)]
theorem e52_56 : am_dec am_M52 q52_56 = true := by decide +kernel
theorem b52_56 {d : Nat} {Q : Option Value ⊕ Nat → am_Mem → Prop} {μ : am_Mem} {r0 : Nat} {x1 x2 x3 x4 : Int32}
    (k : Wp d 52 (17, [some (.ref r0), some (.int x1), some (.int x2), some (.int x3), some (.int (x4 + Int32.ofInt 1))], [], μ) Q) :
    Wp d 52 (56, [some (.ref r0), some (.int x1), some (.int x2), some (.int x3), some (.int x4)], [], μ) Q := wp_blk rfl e52_56 k
def q52_62 : List (Nat × Instr × Nat) := [(62, .aload_n 0, 1), (63, .iload_n 1, 1)]
theorem e52_62 : am_dec am_M52 q52_62 = true := by decide +kernel
theorem e52_62_c : am_dc1 am_M52 64 (.invokevirtual 55) 3 = true := by decide +kernel
theorem b52_62 {d : Nat} {Q : Option Value ⊕ Nat → am_Mem → Prop} {μ : am_Mem} {r0 : Nat} {x1 x2 x3 x4 : Int32} {P : Int32 → am_Mem → Prop} {X : Nat → am_Mem → Prop}
    (hk : am_kd μ r0 = (1, 3))
    (hc : Wp d 51 (0, [some (.ref r0), some (.int x1)], [], μ) (pI P X)) (hr : ∀ x μ', P x μ' → Wp (d + 1) 52 (67, [some (.ref r0), some (.int x1), some (.int x2), some (.int x3), some (.int x4)], [.int x], (μ')) Q)
    (hx : ∀ x μ', X x μ' → Q (.inr x) μ') :
    Wp (d + 1) 52 (62, [some (.ref r0), some (.int x1), some (.int x2), some (.int x3), some (.int x4)], [], μ) Q := wp_blk rfl e52_62 (wp_cv (as := [.int x1]) rfl e52_62_c rfl rfl rfl rfl rfl hk hc (fun v μ' hv => by obtain ⟨x, rfl, hp⟩ := pI_r hv; exact hr x μ' hp) hx)
def q52_67 : List (Nat × Instr × Nat) := [(67, .aload_n 0, 1), (68, .iload_n 2, 1)]
theorem e52_67 : am_dec am_M52 q52_67 = true := by decide +kernel
theorem e52_67_c : am_dc1 am_M52 69 (.invokevirtual 55) 3 = true := by decide +kernel
theorem b52_67 {d : Nat} {Q : Option Value ⊕ Nat → am_Mem → Prop} {μ : am_Mem} {r0 : Nat} {x1 x2 x3 x4 s0 : Int32} {P : Int32 → am_Mem → Prop} {X : Nat → am_Mem → Prop}
    (hk : am_kd μ r0 = (1, 3))
    (hc : Wp d 51 (0, [some (.ref r0), some (.int x2)], [], μ) (pI P X)) (hr : ∀ x μ', P x μ' → Wp (d + 1) 52 (72, [some (.ref r0), some (.int x1), some (.int x2), some (.int x3), some (.int x4)], [.int x, .int s0], (μ')) Q)
    (hx : ∀ x μ', X x μ' → Q (.inr x) μ') :
    Wp (d + 1) 52 (67, [some (.ref r0), some (.int x1), some (.int x2), some (.int x3), some (.int x4)], [.int s0], μ) Q := wp_blk rfl e52_67 (wp_cv (as := [.int x2]) rfl e52_67_c rfl rfl rfl rfl rfl hk hc (fun v μ' hv => by obtain ⟨x, rfl, hp⟩ := pI_r hv; exact hr x μ' hp) hx)
def q52_72 : List (Nat × Instr × Nat) := [(72, .isub, 1)]
theorem e52_72 : am_dec am_M52 q52_72 = true := by decide +kernel
theorem e52_72_r : am_dec am_M52 [(73, .ireturn, 1)] = true := by decide +kernel
theorem b52_72 {d : Nat} {Q : Option Value ⊕ Nat → am_Mem → Prop} {μ : am_Mem} {r0 : Nat} {x1 x2 x3 x4 s0 s1 : Int32}
    (k : Q (.inl (some (.int (s0 - s1)))) μ) :
    Wp d 52 (72, [some (.ref r0), some (.int x1), some (.int x2), some (.int x3), some (.int x4)], [.int s1, .int s0], μ) Q := wp_blk rfl e52_72 (wp_ri (ty := .int) rfl e52_72_r rfl ⟨rfl, rfl⟩ k)
/-! RuleSheets$Names.signOf(II)I -/
def q53_0 : List (Nat × Instr × Nat) := [(0, .aload_n 0, 1), (1, .getfield 27, 3), (4, .aload_n 0, 1), (5, .getfield 30, 3), (8, .iload_n 1, 1), (9, .iaload, 1), (10, .iload_n 2, 1), (11, .iadd, 1), (12, .caload, 1)]
theorem e53_0 : am_dec am_M53 q53_0 = true := by decide +kernel
theorem e53_0_r : am_dec am_M53 [(13, .ireturn, 1)] = true := by decide +kernel
theorem b53_0 {d : Nat} {Q : Option Value ⊕ Nat → am_Mem → Prop} {μ : am_Mem} {r0 : Nat} {x1 x2 : Int32}
    (h1 : am_kd μ r0 = (1, 3))
    (h2 : ¬ am_F μ r0 1 = 15)
    (h3 : am_kd μ r0 = (1, 3))
    (h4 : ¬ am_F μ r0 2 = 15)
    (h5 : (am_kd μ (am_F μ r0 2)).1 = 2 ∨ (am_kd μ (am_F μ r0 2)).1 = 8)
    (h6 : ¬ (x1 < 0 ∨ (am_kd μ (am_F μ r0 2)).2 ≤ x1.toNatClampNeg))
    (h7 : (am_kd μ (am_F μ r0 1)).1 = 5)
    (h8 : ¬ (((am_A μ (am_F μ r0 2) x1.toNatClampNeg) + x2) < 0 ∨ (am_kd μ (am_F μ r0 1)).2 ≤ ((am_A μ (am_F μ r0 2) x1.toNatClampNeg) + x2).toNatClampNeg))
    (k : Q (.inl (some (.int (am_A μ (am_F μ r0 1) ((am_A μ (am_F μ r0 2) x1.toNatClampNeg) + x2).toNatClampNeg)))) μ) :
    Wp d 53 (0, [some (.ref r0), some (.int x1), some (.int x2)], [], μ) Q := wp_blk rfl e53_0 (And.intro h1 (And.intro h2 (And.intro h3 (And.intro h4 (And.intro h5 (And.intro h6 (And.intro h7 (And.intro h8 (wp_ri (ty := .int) rfl e53_0_r rfl ⟨rfl, rfl⟩ k)))))))))
