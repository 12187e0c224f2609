/-! ===== printed: the blocks of ref0 ===== -/
/-! RuleSheetsModel.<init>()V -/
def q147_0 : List (Nat × Instr × Nat) := [(0, .aload_n 0, 1), (1, .invokespecial 1, 3), (4, .aload_n 0, 1), (5, .sipush 2000, 3), (8, .newarray .int, 2), (10, .putfield 7, 3)]
theorem e147_0 : am_dec am_M147 q147_0 = true := by decide +kernel
theorem b147_0 {d : Nat} {Q : Option Value ⊕ Nat → am_Mem → Prop} {μ : am_Mem} {r0 : Nat}
    (h1 : am_kd (am_nA μ 2 ((Int16.ofInt 2000).toInt32).toNatClampNeg) r0 = (1, 12))
    (h2 : ¬ (am_n μ) = 15)
    (k : Wp d 147 (13, [some (.ref r0)], [], (am_pR (am_nA μ 2 ((Int16.ofInt 2000).toInt32).toNatClampNeg) r0 1 (am_n μ))) Q) :
    Wp d 147 (0, [some (.ref r0)], [], μ) Q := wp_blk rfl e147_0 (And.intro (by decide) (And.intro h1 (And.intro h2 k)))
def q147_13 : List (Nat × Instr × Nat) := [(13, .aload_n 0, 1), (14, .iconst (-1), 1), (15, .putfield 13, 3), (18, .aload_n 0, 1), (19, .sipush 2000, 3), (22, .newarray .int, 2), (24, .putfield 17, 3)]
theorem e147_13 : am_dec am_M147 q147_13 = true := by decide +kernel
theorem b147_13 {d : Nat} {Q : Option Value ⊕ Nat → am_Mem → Prop} {μ : am_Mem} {r0 : Nat}
    (h1 : am_kd μ r0 = (1, 12))
    (h2 : am_kd (am_nA (am_pA μ r0 3 (Int32.ofInt (-1))) 2 ((Int16.ofInt 2000).toInt32).toNatClampNeg) r0 = (1, 12))
    (h3 : ¬ (am_n (am_pA μ r0 3 (Int32.ofInt (-1)))) = 15)
    (k : Wp d 147 (27, [some (.ref r0)], [], (am_pR (am_nA (am_pA μ r0 3 (Int32.ofInt (-1))) 2 ((Int16.ofInt 2000).toInt32).toNatClampNeg) r0 5 (am_n (am_pA μ r0 3 (Int32.ofInt (-1)))))) Q) :
    Wp d 147 (13, [some (.ref r0)], [], μ) Q := wp_blk rfl e147_13 (And.intro h1 (And.intro ⟨rfl, rfl⟩ (And.intro (by decide) (And.intro h2 (And.intro h3 k)))))
def q147_27 : List (Nat × Instr × Nat) := [(27, .aload_n 0, 1), (28, .sipush 2000, 3), (31, .newarray .int, 2), (33, .putfield 20, 3)]
theorem e147_27 : am_dec am_M147 q147_27 = true := by decide +kernel
theorem b147_27 {d : Nat} {Q : Option Value ⊕ Nat → am_Mem → Prop} {μ : am_Mem} {r0 : Nat}
    (h1 : am_kd (am_nA μ 2 ((Int16.ofInt 2000).toInt32).toNatClampNeg) r0 = (1, 12))
    (h2 : ¬ (am_n μ) = 15)
    (k : Wp d 147 (36, [some (.ref r0)], [], (am_pR (am_nA μ 2 ((Int16.ofInt 2000).toInt32).toNatClampNeg) r0 7 (am_n μ))) Q) :
    Wp d 147 (27, [some (.ref r0)], [], μ) Q := wp_blk rfl e147_27 (And.intro (by decide) (And.intro h1 (And.intro h2 k)))
def q147_36 : List (Nat × Instr × Nat) := [(36, .aload_n 0, 1), (37, .sipush 17600, 3), (40, .newarray .int, 2), (42, .putfield 23, 3)]
theorem e147_36 : am_dec am_M147 q147_36 = true := by decide +kernel
theorem b147_36 {d : Nat} {Q : Option Value ⊕ Nat → am_Mem → Prop} {μ : am_Mem} {r0 : Nat}
    (h1 : am_kd (am_nA μ 2 ((Int16.ofInt 17600).toInt32).toNatClampNeg) r0 = (1, 12))
    (h2 : ¬ (am_n μ) = 15)
    (k : Wp d 147 (45, [some (.ref r0)], [], (am_pR (am_nA μ 2 ((Int16.ofInt 17600).toInt32).toNatClampNeg) r0 10 (am_n μ))) Q) :
    Wp d 147 (36, [some (.ref r0)], [], μ) Q := wp_blk rfl e147_36 (And.intro (by decide) (And.intro h1 (And.intro h2 k)))
def q147_45 : List (Nat × Instr × Nat) := [(45, .aload_n 0, 1), (46, .sipush 1100, 3), (49, .newarray .int, 2), (51, .putfield 26, 3)]
theorem e147_45 : am_dec am_M147 q147_45 = true := by decide +kernel
theorem b147_45 {d : Nat} {Q : Option Value ⊕ Nat → am_Mem → Prop} {μ : am_Mem} {r0 : Nat}
    (h1 : am_kd (am_nA μ 2 ((Int16.ofInt 1100).toInt32).toNatClampNeg) r0 = (1, 12))
    (h2 : ¬ (am_n μ) = 15)
    (k : Wp d 147 (54, [some (.ref r0)], [], (am_pR (am_nA μ 2 ((Int16.ofInt 1100).toInt32).toNatClampNeg) r0 11 (am_n μ))) Q) :
    Wp d 147 (45, [some (.ref r0)], [], μ) Q := wp_blk rfl e147_45 (And.intro (by decide) (And.intro h1 (And.intro h2 k)))
def q147_54 : List (Nat × Instr × Nat) := [(54, .aload_n 0, 1), (55, .bipush 61, 2), (57, .newarray .int, 2), (59, .putfield 29, 3)]
theorem e147_54 : am_dec am_M147 q147_54 = true := by decide +kernel
theorem b147_54 {d : Nat} {Q : Option Value ⊕ Nat → am_Mem → Prop} {μ : am_Mem} {r0 : Nat}
    (h1 : am_kd (am_nA μ 2 ((Int8.ofInt 61).toInt32).toNatClampNeg) r0 = (1, 12))
    (h2 : ¬ (am_n μ) = 15)
    (k : Wp d 147 (62, [some (.ref r0)], [], (am_pR (am_nA μ 2 ((Int8.ofInt 61).toInt32).toNatClampNeg) r0 13 (am_n μ))) Q) :
    Wp d 147 (54, [some (.ref r0)], [], μ) Q := wp_blk rfl e147_54 (And.intro (by decide) (And.intro h1 (And.intro h2 k)))
def q147_62 : List (Nat × Instr × Nat) := [(62, .aload_n 0, 1), (63, .bipush 62, 2), (65, .newarray .int, 2), (67, .putfield 32, 3)]
theorem e147_62 : am_dec am_M147 q147_62 = true := by decide +kernel
theorem b147_62 {d : Nat} {Q : Option Value ⊕ Nat → am_Mem → Prop} {μ : am_Mem} {r0 : Nat}
    (h1 : am_kd (am_nA μ 2 ((Int8.ofInt 62).toInt32).toNatClampNeg) r0 = (1, 12))
    (h2 : ¬ (am_n μ) = 15)
    (k : Wp d 147 (70, [some (.ref r0)], [], (am_pR (am_nA μ 2 ((Int8.ofInt 62).toInt32).toNatClampNeg) r0 14 (am_n μ))) Q) :
    Wp d 147 (62, [some (.ref r0)], [], μ) Q := wp_blk rfl e147_62 (And.intro (by decide) (And.intro h1 (And.intro h2 k)))
def q147_70 : List (Nat × Instr × Nat) := [(70, .aload_n 0, 1), (71, .sipush 500, 3), (74, .newarray .int, 2), (76, .putfield 35, 3)]
theorem e147_70 : am_dec am_M147 q147_70 = true := by decide +kernel
theorem b147_70 {d : Nat} {Q : Option Value ⊕ Nat → am_Mem → Prop} {μ : am_Mem} {r0 : Nat}
    (h1 : am_kd (am_nA μ 2 ((Int16.ofInt 500).toInt32).toNatClampNeg) r0 = (1, 12))
    (h2 : ¬ (am_n μ) = 15)
    (k : Wp d 147 (79, [some (.ref r0)], [], (am_pR (am_nA μ 2 ((Int16.ofInt 500).toInt32).toNatClampNeg) r0 16 (am_n μ))) Q) :
    Wp d 147 (70, [some (.ref r0)], [], μ) Q := wp_blk rfl e147_70 (And.intro (by decide) (And.intro h1 (And.intro h2 k)))
def q147_79 : List (Nat × Instr × Nat) := [(79, .aload_n 0, 1), (80, .sipush 500, 3), (83, .newarray .int, 2), (85, .putfield 38, 3)]
theorem e147_79 : am_dec am_M147 q147_79 = true := by decide +kernel
theorem b147_79 {d : Nat} {Q : Option Value ⊕ Nat → am_Mem → Prop} {μ : am_Mem} {r0 : Nat}
    (h1 : am_kd (am_nA μ 2 ((Int16.ofInt 500).toInt32).toNatClampNeg) r0 = (1, 12))
    (h2 : ¬ (am_n μ) = 15)
    (k : Wp d 147 (88, [some (.ref r0)], [], (am_pR (am_nA μ 2 ((Int16.ofInt 500).toInt32).toNatClampNeg) r0 17 (am_n μ))) Q) :
    Wp d 147 (79, [some (.ref r0)], [], μ) Q := wp_blk rfl e147_79 (And.intro (by decide) (And.intro h1 (And.intro h2 k)))
def q147_88 : List (Nat × Instr × Nat) := [(88, .aload_n 0, 1), (89, .sipush 600, 3), (92, .newarray .int, 2), (94, .putfield 41, 3)]
theorem e147_88 : am_dec am_M147 q147_88 = true := by decide +kernel
theorem b147_88 {d : Nat} {Q : Option Value ⊕ Nat → am_Mem → Prop} {μ : am_Mem} {r0 : Nat}
    (h1 : am_kd (am_nA μ 2 ((Int16.ofInt 600).toInt32).toNatClampNeg) r0 = (1, 12))
    (h2 : ¬ (am_n μ) = 15)
    (k : Wp d 147 (97, [some (.ref r0)], [], (am_pR (am_nA μ 2 ((Int16.ofInt 600).toInt32).toNatClampNeg) r0 19 (am_n μ))) Q) :
    Wp d 147 (88, [some (.ref r0)], [], μ) Q := wp_blk rfl e147_88 (And.intro (by decide) (And.intro h1 (And.intro h2 k)))
def q147_97 : List (Nat × Instr × Nat) := [(97, .aload_n 0, 1), (98, .sipush 2400, 3), (101, .newarray .int, 2), (103, .putfield 44, 3)]
theorem e147_97 : am_dec am_M147 q147_97 = true := by decide +kernel
theorem b147_97 {d : Nat} {Q : Option Value ⊕ Nat → am_Mem → Prop} {μ : am_Mem} {r0 : Nat}
    (h1 : am_kd (am_nA μ 2 ((Int16.ofInt 2400).toInt32).toNatClampNeg) r0 = (1, 12))
    (h2 : ¬ (am_n μ) = 15)
    (k : Wp d 147 (106, [some (.ref r0)], [], (am_pR (am_nA μ 2 ((Int16.ofInt 2400).toInt32).toNatClampNeg) r0 20 (am_n μ))) Q) :
    Wp d 147 (97, [some (.ref r0)], [], μ) Q := wp_blk rfl e147_97 (And.intro (by decide) (And.intro h1 (And.intro h2 k)))
def q147_106 : List (Nat × Instr × Nat) := [(106, .aload_n 0, 1), (107, .sipush 600, 3), (110, .newarray .int, 2), (112, .putfield 47, 3)]
theorem e147_106 : am_dec am_M147 q147_106 = true := by decide +kernel
theorem b147_106 {d : Nat} {Q : Option Value ⊕ Nat → am_Mem → Prop} {μ : am_Mem} {r0 : Nat}
    (h1 : am_kd (am_nA μ 2 ((Int16.ofInt 600).toInt32).toNatClampNeg) r0 = (1, 12))
    (h2 : ¬ (am_n μ) = 15)
    (k : Wp d 147 (115, [some (.ref r0)], [], (am_pR (am_nA μ 2 ((Int16.ofInt 600).toInt32).toNatClampNeg) r0 21 (am_n μ))) Q) :
    Wp d 147 (106, [some (.ref r0)], [], μ) Q := wp_blk rfl e147_106 (And.intro (by decide) (And.intro h1 (And.intro h2 k)))
def q147_115 : List (Nat × Instr × Nat) := [(115, .aload_n 0, 1), (116, .sipush 1100, 3), (119, .newarray .int, 2), (121, .putfield 50, 3)]
theorem e147_115 : am_dec am_M147 q147_115 = true := by decide +kernel
theorem b147_115 {d : Nat} {Q : Option Value ⊕ Nat → am_Mem → Prop} {μ : am_Mem} {r0 : Nat}
    (h1 : am_kd (am_nA μ 2 ((Int16.ofInt 1100).toInt32).toNatClampNeg) r0 = (1, 12))
    (h2 : ¬ (am_n μ) = 15)
    (k : Wp d 147 (124, [some (.ref r0)], [], (am_pR (am_nA μ 2 ((Int16.ofInt 1100).toInt32).toNatClampNeg) r0 23 (am_n μ))) Q) :
    Wp d 147 (115, [some (.ref r0)], [], μ) Q := wp_blk rfl e147_115 (And.intro (by decide) (And.intro h1 (And.intro h2 k)))
def q147_124 : List (Nat × Instr × Nat) := [(124, .aload_n 0, 1), (125, .sipush 1100, 3), (128, .newarray .int, 2), (130, .putfield 53, 3)]
theorem e147_124 : am_dec am_M147 q147_124 = true := by decide +kernel
theorem b147_124 {d : Nat} {Q : Option Value ⊕ Nat → am_Mem → Prop} {μ : am_Mem} {r0 : Nat}
    (h1 : am_kd (am_nA μ 2 ((Int16.ofInt 1100).toInt32).toNatClampNeg) r0 = (1, 12))
    (h2 : ¬ (am_n μ) = 15)
    (k : Wp d 147 (133, [some (.ref r0)], [], (am_pR (am_nA μ 2 ((Int16.ofInt 1100).toInt32).toNatClampNeg) r0 24 (am_n μ))) Q) :
    Wp d 147 (124, [some (.ref r0)], [], μ) Q := wp_blk rfl e147_124 (And.intro (by decide) (And.intro h1 (And.intro h2 k)))
def q147_133 : List (Nat × Instr × Nat) := [(133, .aload_n 0, 1), (134, .sipush 1100, 3), (137, .newarray .int, 2), (139, .putfield 56, 3)]
theorem e147_133 : am_dec am_M147 q147_133 = true := by decide +kernel
theorem b147_133 {d : Nat} {Q : Option Value ⊕ Nat → am_Mem → Prop} {μ : am_Mem} {r0 : Nat}
    (h1 : am_kd (am_nA μ 2 ((Int16.ofInt 1100).toInt32).toNatClampNeg) r0 = (1, 12))
    (h2 : ¬ (am_n μ) = 15)
    (k : Wp d 147 (142, [some (.ref r0)], [], (am_pR (am_nA μ 2 ((Int16.ofInt 1100).toInt32).toNatClampNeg) r0 25 (am_n μ))) Q) :
    Wp d 147 (133, [some (.ref r0)], [], μ) Q := wp_blk rfl e147_133 (And.intro (by decide) (And.intro h1 (And.intro h2 k)))
def q147_142 : List (Nat × Instr × Nat) := [(142, .aload_n 0, 1), (143, .sipush 4400, 3), (146, .newarray .int, 2), (148, .putfield 59, 3)]
theorem e147_142 : am_dec am_M147 q147_142 = true := by decide +kernel
theorem b147_142 {d : Nat} {Q : Option Value ⊕ Nat → am_Mem → Prop} {μ : am_Mem} {r0 : Nat}
    (h1 : am_kd (am_nA μ 2 ((Int16.ofInt 4400).toInt32).toNatClampNeg) r0 = (1, 12))
    (h2 : ¬ (am_n μ) = 15)
    (k : Wp d 147 (151, [some (.ref r0)], [], (am_pR (am_nA μ 2 ((Int16.ofInt 4400).toInt32).toNatClampNeg) r0 26 (am_n μ))) Q) :
    Wp d 147 (142, [some (.ref r0)], [], μ) Q := wp_blk rfl e147_142 (And.intro (by decide) (And.intro h1 (And.intro h2 k)))
def q147_151 : List (Nat × Instr × Nat) := [(151, .aload_n 0, 1), (152, .sipush 1100, 3), (155, .newarray .int, 2), (157, .putfield 62, 3)]
theorem e147_151 : am_dec am_M147 q147_151 = true := by decide +kernel
theorem b147_151 {d : Nat} {Q : Option Value ⊕ Nat → am_Mem → Prop} {μ : am_Mem} {r0 : Nat}
    (h1 : am_kd (am_nA μ 2 ((Int16.ofInt 1100).toInt32).toNatClampNeg) r0 = (1, 12))
    (h2 : ¬ (am_n μ) = 15)
    (k : Wp d 147 (160, [some (.ref r0)], [], (am_pR (am_nA μ 2 ((Int16.ofInt 1100).toInt32).toNatClampNeg) r0 27 (am_n μ))) Q) :
    Wp d 147 (151, [some (.ref r0)], [], μ) Q := wp_blk rfl e147_151 (And.intro (by decide) (And.intro h1 (And.intro h2 k)))
def q147_160 : List (Nat × Instr × Nat) := [(160, .aload_n 0, 1), (161, .bipush 11, 2), (163, .newarray .int, 2), (165, .putfield 65, 3)]
theorem e147_160 : am_dec am_M147 q147_160 = true := by decide +kernel
theorem b147_160 {d : Nat} {Q : Option Value ⊕ Nat → am_Mem → Prop} {μ : am_Mem} {r0 : Nat}
    (h1 : am_kd (am_nA μ 2 ((Int8.ofInt 11).toInt32).toNatClampNeg) r0 = (1, 12))
    (h2 : ¬ (am_n μ) = 15)
    (k : Wp d 147 (168, [some (.ref r0)], [], (am_pR (am_nA μ 2 ((Int8.ofInt 11).toInt32).toNatClampNeg) r0 35 (am_n μ))) Q) :
    Wp d 147 (160, [some (.ref r0)], [], μ) Q := wp_blk rfl e147_160 (And.intro (by decide) (And.intro h1 (And.intro h2 k)))
def q147_168 : List (Nat × Instr × Nat) := [(168, .aload_n 0, 1), (169, .bipush 11, 2), (171, .newarray .int, 2), (173, .putfield 68, 3)]
theorem e147_168 : am_dec am_M147 q147_168 = true := by decide +kernel
theorem b147_168 {d : Nat} {Q : Option Value ⊕ Nat → am_Mem → Prop} {μ : am_Mem} {r0 : Nat}
    (h1 : am_kd (am_nA μ 2 ((Int8.ofInt 11).toInt32).toNatClampNeg) r0 = (1, 12))
    (h2 : ¬ (am_n μ) = 15)
    (k : Wp d 147 (176, [some (.ref r0)], [], (am_pR (am_nA μ 2 ((Int8.ofInt 11).toInt32).toNatClampNeg) r0 36 (am_n μ))) Q) :
    Wp d 147 (168, [some (.ref r0)], [], μ) Q := wp_blk rfl e147_168 (And.intro (by decide) (And.intro h1 (And.intro h2 k)))
def q147_176 : List (Nat × Instr × Nat) := [(176, .aload_n 0, 1), (177, .bipush 11, 2), (179, .newarray .int, 2), (181, .putfield 71, 3)]
theorem e147_176 : am_dec am_M147 q147_176 = true := by decide +kernel
theorem b147_176 {d : Nat} {Q : Option Value ⊕ Nat → am_Mem → Prop} {μ : am_Mem} {r0 : Nat}
    (h1 : am_kd (am_nA μ 2 ((Int8.ofInt 11).toInt32).toNatClampNeg) r0 = (1, 12))
    (h2 : ¬ (am_n μ) = 15)
    (k : Wp d 147 (184, [some (.ref r0)], [], (am_pR (am_nA μ 2 ((Int8.ofInt 11).toInt32).toNatClampNeg) r0 37 (am_n μ))) Q) :
    Wp d 147 (176, [some (.ref r0)], [], μ) Q := wp_blk rfl e147_176 (And.intro (by decide) (And.intro h1 (And.intro h2 k)))
def q147_184 : List (Nat × Instr × Nat) := [(184, .aload_n 0, 1), (185, .bipush 8, 2), (187, .newarray .int, 2), (189, .putfield 74, 3)]
theorem e147_184 : am_dec am_M147 q147_184 = true := by decide +kernel
theorem b147_184 {d : Nat} {Q : Option Value ⊕ Nat → am_Mem → Prop} {μ : am_Mem} {r0 : Nat}
    (h1 : am_kd (am_nA μ 2 ((Int8.ofInt 8).toInt32).toNatClampNeg) r0 = (1, 12))
    (h2 : ¬ (am_n μ) = 15)
    (k : Wp d 147 (192, [some (.ref r0)], [], (am_pR (am_nA μ 2 ((Int8.ofInt 8).toInt32).toNatClampNeg) r0 39 (am_n μ))) Q) :
    Wp d 147 (184, [some (.ref r0)], [], μ) Q := wp_blk rfl e147_184 (And.intro (by decide) (And.intro h1 (And.intro h2 k)))
def q147_192 : List (Nat × Instr × Nat) := [(192, .aload_n 0, 1), (193, .sipush 1100, 3), (196, .newarray .boolean, 2), (198, .putfield 77, 3)]
theorem e147_192 : am_dec am_M147 q147_192 = true := by decide +kernel
theorem b147_192 {d : Nat} {Q : Option Value ⊕ Nat → am_Mem → Prop} {μ : am_Mem} {r0 : Nat}
    (h1 : am_kd (am_nA μ 4 ((Int16.ofInt 1100).toInt32).toNatClampNeg) r0 = (1, 12))
    (h2 : ¬ (am_n μ) = 15)
    (k : Wp d 147 (201, [some (.ref r0)], [], (am_pR (am_nA μ 4 ((Int16.ofInt 1100).toInt32).toNatClampNeg) r0 40 (am_n μ))) Q) :
    Wp d 147 (192, [some (.ref r0)], [], μ) Q := wp_blk rfl e147_192 (And.intro (by decide) (And.intro h1 (And.intro h2 k)))
def q147_201 : List (Nat × Instr × Nat) := [(201, .aload_n 0, 1), (202, .sipush 1100, 3), (205, .newarray .int, 2), (207, .putfield 81, 3)]
theorem e147_201 : am_dec am_M147 q147_201 = true := by decide +kernel
theorem b147_201 {d : Nat} {Q : Option Value ⊕ Nat → am_Mem → Prop} {μ : am_Mem} {r0 : Nat}
    (h1 : am_kd (am_nA μ 2 ((Int16.ofInt 1100).toInt32).toNatClampNeg) r0 = (1, 12))
    (h2 : ¬ (am_n μ) = 15)
    (k : Wp d 147 (210, [some (.ref r0)], [], (am_pR (am_nA μ 2 ((Int16.ofInt 1100).toInt32).toNatClampNeg) r0 41 (am_n μ))) Q) :
    Wp d 147 (201, [some (.ref r0)], [], μ) Q := wp_blk rfl e147_201 (And.intro (by decide) (And.intro h1 (And.intro h2 k)))
def q147_210 : List (Nat × Instr × Nat) := [(210, .aload_n 0, 1), (211, .ldc 84, 2), (213, .newarray .int, 2), (215, .putfield 85, 3)]
theorem e147_210 : am_dec am_M147 q147_210 = true := by decide +kernel
theorem b147_210 {d : Nat} {Q : Option Value ⊕ Nat → am_Mem → Prop} {μ : am_Mem} {r0 : Nat}
    (h1 : am_kd (am_nA μ 2 (130000 : Int32).toNatClampNeg) r0 = (1, 12))
    (h2 : ¬ (am_n μ) = 15)
    (k : Wp d 147 (218, [some (.ref r0)], [], (am_pR (am_nA μ 2 (130000 : Int32).toNatClampNeg) r0 43 (am_n μ))) Q) :
    Wp d 147 (210, [some (.ref r0)], [], μ) Q := wp_blk rfl e147_210 (And.intro (by decide) (And.intro h1 (And.intro h2 k)))
def q147_218 : List (Nat × Instr × Nat) := [(218, .aload_n 0, 1), (219, .ldc 84, 2), (221, .newarray .int, 2), (223, .putfield 88, 3)]
theorem e147_218 : am_dec am_M147 q147_218 = true := by decide +kernel
theorem b147_218 {d : Nat} {Q : Option Value ⊕ Nat → am_Mem → Prop} {μ : am_Mem} {r0 : Nat}
    (h1 : am_kd (am_nA μ 2 (130000 : Int32).toNatClampNeg) r0 = (1, 12))
    (h2 : ¬ (am_n μ) = 15)
    (k : Wp d 147 (226, [some (.ref r0)], [], (am_pR (am_nA μ 2 (130000 : Int32).toNatClampNeg) r0 44 (am_n μ))) Q) :
    Wp d 147 (218, [some (.ref r0)], [], μ) Q := wp_blk rfl e147_218 (And.intro (by decide) (And.intro h1 (And.intro h2 k)))
def q147_226 : List (Nat × Instr × Nat) := [(226, .aload_n 0, 1), (227, .ldc 91, 2), (229, .newarray .int, 2), (231, .putfield 92, 3)]
theorem e147_226 : am_dec am_M147 q147_226 = true := by decide +kernel
theorem b147_226 {d : Nat} {Q : Option Value ⊕ Nat → am_Mem → Prop} {μ : am_Mem} {r0 : Nat}
    (h1 : am_kd (am_nA μ 2 (520000 : Int32).toNatClampNeg) r0 = (1, 12))
    (h2 : ¬ (am_n μ) = 15)
    (k : Wp d 147 (234, [some (.ref r0)], [], (am_pR (am_nA μ 2 (520000 : Int32).toNatClampNeg) r0 45 (am_n μ))) Q) :
    Wp d 147 (226, [some (.ref r0)], [], μ) Q := wp_blk rfl e147_226 (And.intro (by decide) (And.intro h1 (And.intro h2 k)))
def q147_234 : List (Nat × Instr × Nat) := [(234, .aload_n 0, 1), (235, .ldc 84, 2), (237, .newarray .int, 2), (239, .putfield 95, 3)]
theorem e147_234 : am_dec am_M147 q147_234 = true := by decide +kernel
theorem b147_234 {d : Nat} {Q : Option Value ⊕ Nat → am_Mem → Prop} {μ : am_Mem} {r0 : Nat}
    (h1 : am_kd (am_nA μ 2 (130000 : Int32).toNatClampNeg) r0 = (1, 12))
    (h2 : ¬ (am_n μ) = 15)
    (k : Wp d 147 (242, [some (.ref r0)], [], (am_pR (am_nA μ 2 (130000 : Int32).toNatClampNeg) r0 46 (am_n μ))) Q) :
    Wp d 147 (234, [some (.ref r0)], [], μ) Q := wp_blk rfl e147_234 (And.intro (by decide) (And.intro h1 (And.intro h2 k)))
def q147_242 : List (Nat × Instr × Nat) := [(242, .aload_n 0, 1), (243, .ldc 98, 2), (245, .newarray .int, 2), (247, .putfield 99, 3)]
theorem e147_242 : am_dec am_M147 q147_242 = true := by decide +kernel
theorem b147_242 {d : Nat} {Q : Option Value ⊕ Nat → am_Mem → Prop} {μ : am_Mem} {r0 : Nat}
    (h1 : am_kd (am_nA μ 2 (262144 : Int32).toNatClampNeg) r0 = (1, 12))
    (h2 : ¬ (am_n μ) = 15)
    (k : Wp d 147 (250, [some (.ref r0)], [], (am_pR (am_nA μ 2 (262144 : Int32).toNatClampNeg) r0 47 (am_n μ))) Q) :
    Wp d 147 (242, [some (.ref r0)], [], μ) Q := wp_blk rfl e147_242 (And.intro (by decide) (And.intro h1 (And.intro h2 k)))
def q147_250 : List (Nat × Instr × Nat) := [(250, .aload_n 0, 1), (251, .sipush 1001, 3), (254, .newarray .int, 2), (256, .putfield 102, 3)]
theorem e147_250 : am_dec am_M147 q147_250 = true := by decide +kernel
theorem b147_250 {d : Nat} {Q : Option Value ⊕ Nat → am_Mem → Prop} {μ : am_Mem} {r0 : Nat}
    (h1 : am_kd (am_nA μ 2 ((Int16.ofInt 1001).toInt32).toNatClampNeg) r0 = (1, 12))
    (h2 : ¬ (am_n μ) = 15)
    (k : Wp d 147 (259, [some (.ref r0)], [], (am_pR (am_nA μ 2 ((Int16.ofInt 1001).toInt32).toNatClampNeg) r0 49 (am_n μ))) Q) :
    Wp d 147 (250, [some (.ref r0)], [], μ) Q := wp_blk rfl e147_250 (And.intro (by decide) (And.intro h1 (And.intro h2 k)))
def q147_259 : List (Nat × Instr × Nat) := [(259, .aload_n 0, 1), (260, .sipush 4004, 3), (263, .newarray .int, 2), (265, .putfield 105, 3)]
theorem e147_259 : am_dec am_M147 q147_259 = true := by decide +kernel
theorem b147_259 {d : Nat} {Q : Option Value ⊕ Nat → am_Mem → Prop} {μ : am_Mem} {r0 : Nat}
    (h1 : am_kd (am_nA μ 2 ((Int16.ofInt 4004).toInt32).toNatClampNeg) r0 = (1, 12))
    (h2 : ¬ (am_n μ) = 15)
    (k : Wp d 147 (268, [some (.ref r0)], [], (am_pR (am_nA μ 2 ((Int16.ofInt 4004).toInt32).toNatClampNeg) r0 50 (am_n μ))) Q) :
    Wp d 147 (259, [some (.ref r0)], [], μ) Q := wp_blk rfl e147_259 (And.intro (by decide) (And.intro h1 (And.intro h2 k)))
def q147_268 : List (Nat × Instr × Nat) := [(268, .aload_n 0, 1), (269, .sipush 1001, 3), (272, .newarray .int, 2), (274, .putfield 108, 3)]
theorem e147_268 : am_dec am_M147 q147_268 = true := by decide +kernel
theorem b147_268 {d : Nat} {Q : Option Value ⊕ Nat → am_Mem → Prop} {μ : am_Mem} {r0 : Nat}
    (h1 : am_kd (am_nA μ 2 ((Int16.ofInt 1001).toInt32).toNatClampNeg) r0 = (1, 12))
    (h2 : ¬ (am_n μ) = 15)
    (k : Wp d 147 (277, [some (.ref r0)], [], (am_pR (am_nA μ 2 ((Int16.ofInt 1001).toInt32).toNatClampNeg) r0 51 (am_n μ))) Q) :
    Wp d 147 (268, [some (.ref r0)], [], μ) Q := wp_blk rfl e147_268 (And.intro (by decide) (And.intro h1 (And.intro h2 k)))
def q147_277 : List (Nat × Instr × Nat) := [(277, .aload_n 0, 1), (278, .sipush 4096, 3), (281, .newarray .int, 2), (283, .putfield 111, 3)]
theorem e147_277 : am_dec am_M147 q147_277 = true := by decide +kernel
theorem b147_277 {d : Nat} {Q : Option Value ⊕ Nat → am_Mem → Prop} {μ : am_Mem} {r0 : Nat}
    (h1 : am_kd (am_nA μ 2 ((Int16.ofInt 4096).toInt32).toNatClampNeg) r0 = (1, 12))
    (h2 : ¬ (am_n μ) = 15)
    (k : Wp d 147 (286, [some (.ref r0)], [], (am_pR (am_nA μ 2 ((Int16.ofInt 4096).toInt32).toNatClampNeg) r0 52 (am_n μ))) Q) :
    Wp d 147 (277, [some (.ref r0)], [], μ) Q := wp_blk rfl e147_277 (And.intro (by decide) (And.intro h1 (And.intro h2 k)))
def q147_286 : List (Nat × Instr × Nat) := [(286, .aload_n 0, 1), (287, .sipush 1100, 3), (290, .newarray .int, 2), (292, .putfield 114, 3)]
theorem e147_286 : am_dec am_M147 q147_286 = true := by decide +kernel
theorem b147_286 {d : Nat} {Q : Option Value ⊕ Nat → am_Mem → Prop} {μ : am_Mem} {r0 : Nat}
    (h1 : am_kd (am_nA μ 2 ((Int16.ofInt 1100).toInt32).toNatClampNeg) r0 = (1, 12))
    (h2 : ¬ (am_n μ) = 15)
    (k : Wp d 147 (295, [some (.ref r0)], [], (am_pR (am_nA μ 2 ((Int16.ofInt 1100).toInt32).toNatClampNeg) r0 53 (am_n μ))) Q) :
    Wp d 147 (286, [some (.ref r0)], [], μ) Q := wp_blk rfl e147_286 (And.intro (by decide) (And.intro h1 (And.intro h2 k)))
def q147_295 : List (Nat × Instr × Nat) := [(295, .aload_n 0, 1), (296, .sipush 1100, 3), (299, .newarray .int, 2), (301, .putfield 117, 3)]
theorem e147_295 : am_dec am_M147 q147_295 = true := by decide +kernel
theorem b147_295 {d : Nat} {Q : Option Value ⊕ Nat → am_Mem → Prop} {μ : am_Mem} {r0 : Nat}
    (h1 : am_kd (am_nA μ 2 ((Int16.ofInt 1100).toInt32).toNatClampNeg) r0 = (1, 12))
    (h2 : ¬ (am_n μ) = 15)
    (k : Wp d 147 (304, [some (.ref r0)], [], (am_pR (am_nA μ 2 ((Int16.ofInt 1100).toInt32).toNatClampNeg) r0 54 (am_n μ))) Q) :
    Wp d 147 (295, [some (.ref r0)], [], μ) Q := wp_blk rfl e147_295 (And.intro (by decide) (And.intro h1 (And.intro h2 k)))
def q147_304 : List (Nat × Instr × Nat) := [(304, .aload_n 0, 1), (305, .sipush 1100, 3), (308, .newarray .int, 2), (310, .putfield 120, 3)]
theorem e147_304 : am_dec am_M147 q147_304 = true := by decide +kernel
theorem b147_304 {d : Nat} {Q : Option Value ⊕ Nat → am_Mem → Prop} {μ : am_Mem} {r0 : Nat}
    (h1 : am_kd (am_nA μ 2 ((Int16.ofInt 1100).toInt32).toNatClampNeg) r0 = (1, 12))
    (h2 : ¬ (am_n μ) = 15)
    (k : Wp d 147 (313, [some (.ref r0)], [], (am_pR (am_nA μ 2 ((Int16.ofInt 1100).toInt32).toNatClampNeg) r0 55 (am_n μ))) Q) :
    Wp d 147 (304, [some (.ref r0)], [], μ) Q := wp_blk rfl e147_304 (And.intro (by decide) (And.intro h1 (And.intro h2 k)))
def q147_313 : List (Nat × Instr × Nat) := [(313, .aload_n 0, 1), (314, .bipush 8, 2), (316, .newarray .int, 2), (318, .putfield 123, 3)]
theorem e147_313 : am_dec am_M147 q147_313 = true := by decide +kernel
theorem b147_313 {d : Nat} {Q : Option Value ⊕ Nat → am_Mem → Prop} {μ : am_Mem} {r0 : Nat}
    (h1 : am_kd (am_nA μ 2 ((Int8.ofInt 8).toInt32).toNatClampNeg) r0 = (1, 12))
    (h2 : ¬ (am_n μ) = 15)
    (k : Wp d 147 (321, [some (.ref r0)], [], (am_pR (am_nA μ 2 ((Int8.ofInt 8).toInt32).toNatClampNeg) r0 59 (am_n μ))) Q) :
    Wp d 147 (313, [some (.ref r0)], [], μ) Q := wp_blk rfl e147_313 (And.intro (by decide) (And.intro h1 (And.intro h2 k)))
def q147_321 : List (Nat × Instr × Nat) := [(321, .aload_n 0, 1), (322, .bipush 9, 2), (324, .newarray .int, 2), (326, .putfield 126, 3)]
theorem e147_321 : am_dec am_M147 q147_321 = true := by decide +kernel
theorem b147_321 {d : Nat} {Q : Option Value ⊕ Nat → am_Mem → Prop} {μ : am_Mem} {r0 : Nat}
    (h1 : am_kd (am_nA μ 2 ((Int8.ofInt 9).toInt32).toNatClampNeg) r0 = (1, 12))
    (h2 : ¬ (am_n μ) = 15)
    (k : Wp d 147 (329, [some (.ref r0)], [], (am_pR (am_nA μ 2 ((Int8.ofInt 9).toInt32).toNatClampNeg) r0 60 (am_n μ))) Q) :
    Wp d 147 (321, [some (.ref r0)], [], μ) Q := wp_blk rfl e147_321 (And.intro (by decide) (And.intro h1 (And.intro h2 k)))
def q147_329 : List (Nat × Instr × Nat) := [(329, .aload_n 0, 1), (330, .bipush 8, 2), (332, .newarray .int, 2), (334, .putfield 129, 3)]
theorem e147_329 : am_dec am_M147 q147_329 = true := by decide +kernel
theorem b147_329 {d : Nat} {Q : Option Value ⊕ Nat → am_Mem → Prop} {μ : am_Mem} {r0 : Nat}
    (h1 : am_kd (am_nA μ 2 ((Int8.ofInt 8).toInt32).toNatClampNeg) r0 = (1, 12))
    (h2 : ¬ (am_n μ) = 15)
    (k : Wp d 147 (337, [some (.ref r0)], [], (am_pR (am_nA μ 2 ((Int8.ofInt 8).toInt32).toNatClampNeg) r0 61 (am_n μ))) Q) :
    Wp d 147 (329, [some (.ref r0)], [], μ) Q := wp_blk rfl e147_329 (And.intro (by decide) (And.intro h1 (And.intro h2 k)))
def q147_337 : List (Nat × Instr × Nat) := [(337, .aload_n 0, 1), (338, .bipush 8, 2), (340, .newarray .int, 2), (342, .putfield 132, 3)]
theorem e147_337 : am_dec am_M147 q147_337 = true := by decide +kernel
theorem b147_337 {d : Nat} {Q : Option Value ⊕ Nat → am_Mem → Prop} {μ : am_Mem} {r0 : Nat}
    (h1 : am_kd (am_nA μ 2 ((Int8.ofInt 8).toInt32).toNatClampNeg) r0 = (1, 12))
    (h2 : ¬ (am_n μ) = 15)
    (k : Wp d 147 (345, [some (.ref r0)], [], (am_pR (am_nA μ 2 ((Int8.ofInt 8).toInt32).toNatClampNeg) r0 62 (am_n μ))) Q) :
    Wp d 147 (337, [some (.ref r0)], [], μ) Q := wp_blk rfl e147_337 (And.intro (by decide) (And.intro h1 (And.intro h2 k)))
def q147_345 : List (Nat × Instr × Nat) := [(345, .aload_n 0, 1), (346, .sipush 1100, 3), (349, .newarray .int, 2), (351, .putfield 135, 3)]
theorem e147_345 : am_dec am_M147 q147_345 = true := by decide +kernel
theorem b147_345 {d : Nat} {Q : Option Value ⊕ Nat → am_Mem → Prop} {μ : am_Mem} {r0 : Nat}
    (h1 : am_kd (am_nA μ 2 ((Int16.ofInt 1100).toInt32).toNatClampNeg) r0 = (1, 12))
    (h2 : ¬ (am_n μ) = 15)
    (k : Wp d 147 (354, [some (.ref r0)], [], (am_pR (am_nA μ 2 ((Int16.ofInt 1100).toInt32).toNatClampNeg) r0 63 (am_n μ))) Q) :
    Wp d 147 (345, [some (.ref r0)], [], μ) Q := wp_blk rfl e147_345 (And.intro (by decide) (And.intro h1 (And.intro h2 k)))
def q147_354 : List (Nat × Instr × Nat) := [(354, .aload_n 0, 1), (355, .sipush 1100, 3), (358, .newarray .int, 2), (360, .putfield 138, 3)]
theorem e147_354 : am_dec am_M147 q147_354 = true := by decide +kernel
theorem b147_354 {d : Nat} {Q : Option Value ⊕ Nat → am_Mem → Prop} {μ : am_Mem} {r0 : Nat}
    (h1 : am_kd (am_nA μ 2 ((Int16.ofInt 1100).toInt32).toNatClampNeg) r0 = (1, 12))
    (h2 : ¬ (am_n μ) = 15)
    (k : Wp d 147 (363, [some (.ref r0)], [], (am_pR (am_nA μ 2 ((Int16.ofInt 1100).toInt32).toNatClampNeg) r0 64 (am_n μ))) Q) :
    Wp d 147 (354, [some (.ref r0)], [], μ) Q := wp_blk rfl e147_354 (And.intro (by decide) (And.intro h1 (And.intro h2 k)))
def q147_363 : List (Nat × Instr × Nat) := [(363, .aload_n 0, 1), (364, .sipush 1100, 3), (367, .newarray .int, 2), (369, .putfield 141, 3)]
theorem e147_363 : am_dec am_M147 q147_363 = true := by decide +kernel
theorem b147_363 {d : Nat} {Q : Option Value ⊕ Nat → am_Mem → Prop} {μ : am_Mem} {r0 : Nat}
    (h1 : am_kd (am_nA μ 2 ((Int16.ofInt 1100).toInt32).toNatClampNeg) r0 = (1, 12))
    (h2 : ¬ (am_n μ) = 15)
    (k : Wp d 147 (372, [some (.ref r0)], [], (am_pR (am_nA μ 2 ((Int16.ofInt 1100).toInt32).toNatClampNeg) r0 65 (am_n μ))) Q) :
    Wp d 147 (363, [some (.ref r0)], [], μ) Q := wp_blk rfl e147_363 (And.intro (by decide) (And.intro h1 (And.intro h2 k)))
def q147_372 : List (Nat × Instr × Nat) := [(372, .aload_n 0, 1), (373, .iconst 4, 1), (374, .newarray .int, 2), (376, .putfield 144, 3)]
theorem e147_372 : am_dec am_M147 q147_372 = true := by decide +kernel
theorem b147_372 {d : Nat} {Q : Option Value ⊕ Nat → am_Mem → Prop} {μ : am_Mem} {r0 : Nat}
    (h1 : am_kd (am_nA μ 2 (Int32.ofInt 4).toNatClampNeg) r0 = (1, 12))
    (h2 : ¬ (am_n μ) = 15)
    (k : Wp d 147 (379, [some (.ref r0)], [], (am_pR (am_nA μ 2 (Int32.ofInt 4).toNatClampNeg) r0 66 (am_n μ))) Q) :
    Wp d 147 (372, [some (.ref r0)], [], μ) Q := wp_blk rfl e147_372 (And.intro (by decide) (And.intro h1 (And.intro h2 k)))
def q147_379 : List (Nat × Instr × Nat) := [(379, .aload_n 0, 1), (380, .bipush 61, 2), (382, .newarray .int, 2), (384, .putfield 147, 3)]
theorem e147_379 : am_dec am_M147 q147_379 = true := by decide +kernel
theorem b147_379 {d : Nat} {Q : Option Value ⊕ Nat → am_Mem → Prop} {μ : am_Mem} {r0 : Nat}
    (h1 : am_kd (am_nA μ 2 ((Int8.ofInt 61).toInt32).toNatClampNeg) r0 = (1, 12))
    (h2 : ¬ (am_n μ) = 15)
    (k : Wp d 147 (387, [some (.ref r0)], [], (am_pR (am_nA μ 2 ((Int8.ofInt 61).toInt32).toNatClampNeg) r0 67 (am_n μ))) Q) :
    Wp d 147 (379, [some (.ref r0)], [], μ) Q := wp_blk rfl e147_379 (And.intro (by decide) (And.intro h1 (And.intro h2 k)))
def q147_387 : List (Nat × Instr × Nat) := [(387, .aload_n 0, 1), (388, .sipush 12000, 3), (391, .newarray .int, 2), (393, .putfield 150, 3)]
theorem e147_387 : am_dec am_M147 q147_387 = true := by decide +kernel
theorem b147_387 {d : Nat} {Q : Option Value ⊕ Nat → am_Mem → Prop} {μ : am_Mem} {r0 : Nat}
    (h1 : am_kd (am_nA μ 2 ((Int16.ofInt 12000).toInt32).toNatClampNeg) r0 = (1, 12))
    (h2 : ¬ (am_n μ) = 15)
    (k : Wp d 147 (396, [some (.ref r0)], [], (am_pR (am_nA μ 2 ((Int16.ofInt 12000).toInt32).toNatClampNeg) r0 71 (am_n μ))) Q) :
    Wp d 147 (387, [some (.ref r0)], [], μ) Q := wp_blk rfl e147_387 (And.intro (by decide) (And.intro h1 (And.intro h2 k)))
def q147_396 : List (Nat × Instr × Nat) := [(396, .aload_n 0, 1), (397, .ldc 153, 2), (399, .newarray .byte, 2), (401, .putfield 154, 3)]
theorem e147_396 : am_dec am_M147 q147_396 = true := by decide +kernel
theorem b147_396 {d : Nat} {Q : Option Value ⊕ Nat → am_Mem → Prop} {μ : am_Mem} {r0 : Nat}
    (h1 : am_kd (am_nA μ 3 (887880 : Int32).toNatClampNeg) r0 = (1, 12))
    (h2 : ¬ (am_n μ) = 15)
    (k : Wp d 147 (404, [some (.ref r0)], [], (am_pR (am_nA μ 3 (887880 : Int32).toNatClampNeg) r0 73 (am_n μ))) Q) :
    Wp d 147 (396, [some (.ref r0)], [], μ) Q := wp_blk rfl e147_396 (And.intro (by decide) (And.intro h1 (And.intro h2 k)))
def q147_404 : List (Nat × Instr × Nat) := [(404, .aload_n 0, 1), (405, .sipush 302, 3), (408, .newarray .int, 2), (410, .putfield 158, 3)]
theorem e147_404 : am_dec am_M147 q147_404 = true := by decide +kernel
theorem b147_404 {d : Nat} {Q : Option Value ⊕ Nat → am_Mem → Prop} {μ : am_Mem} {r0 : Nat}
    (h1 : am_kd (am_nA μ 2 ((Int16.ofInt 302).toInt32).toNatClampNeg) r0 = (1, 12))
    (h2 : ¬ (am_n μ) = 15)
    (k : Wp d 147 (413, [some (.ref r0)], [], (am_pR (am_nA μ 2 ((Int16.ofInt 302).toInt32).toNatClampNeg) r0 74 (am_n μ))) Q) :
    Wp d 147 (404, [some (.ref r0)], [], μ) Q := wp_blk rfl e147_404 (And.intro (by decide) (And.intro h1 (And.intro h2 k)))
def q147_413 : List (Nat × Instr × Nat) := [(413, .aload_n 0, 1), (414, .iconst 4, 1), (415, .newarray .int, 2), (417, .putfield 161, 3)]
theorem e147_413 : am_dec am_M147 q147_413 = true := by decide +kernel
theorem b147_413 {d : Nat} {Q : Option Value ⊕ Nat → am_Mem → Prop} {μ : am_Mem} {r0 : Nat}
    (h1 : am_kd (am_nA μ 2 (Int32.ofInt 4).toNatClampNeg) r0 = (1, 12))
    (h2 : ¬ (am_n μ) = 15)
    (k : Wp d 147 (420, [some (.ref r0)], [], (am_pR (am_nA μ 2 (Int32.ofInt 4).toNatClampNeg) r0 76 (am_n μ))) Q) :
    Wp d 147 (413, [some (.ref r0)], [], μ) Q := wp_blk rfl e147_413 (And.intro (by decide) (And.intro h1 (And.intro h2 k)))
def q147_420 : List (Nat × Instr × Nat) := [(420, .aload_n 0, 1), (421, .ldc 164, 2), (423, .newarray .byte, 2), (425, .putfield 165, 3)]
theorem e147_420 : am_dec am_M147 q147_420 = true := by decide +kernel
theorem b147_420 {d : Nat} {Q : Option Value ⊕ Nat → am_Mem → Prop} {μ : am_Mem} {r0 : Nat}
    (h1 : am_kd (am_nA μ 3 (196196 : Int32).toNatClampNeg) r0 = (1, 12))
    (h2 : ¬ (am_n μ) = 15)
    (k : Wp d 147 (428, [some (.ref r0)], [], (am_pR (am_nA μ 3 (196196 : Int32).toNatClampNeg) r0 77 (am_n μ))) Q) :
    Wp d 147 (420, [some (.ref r0)], [], μ) Q := wp_blk rfl e147_420 (And.intro (by decide) (And.intro h1 (And.intro h2 k)))
def q147_428 : List (Nat × Instr × Nat) := [(428, .aload_n 0, 1), (429, .iconst 4, 1), (430, .newarray .int, 2), (432, .putfield 168, 3)]
theorem e147_428 : am_dec am_M147 q147_428 = true := by decide +kernel
theorem b147_428 {d : Nat} {Q : Option Value ⊕ Nat → am_Mem → Prop} {μ : am_Mem} {r0 : Nat}
    (h1 : am_kd (am_nA μ 2 (Int32.ofInt 4).toNatClampNeg) r0 = (1, 12))
    (h2 : ¬ (am_n μ) = 15)
    (k : Wp d 147 (435, [some (.ref r0)], [], (am_pR (am_nA μ 2 (Int32.ofInt 4).toNatClampNeg) r0 78 (am_n μ))) Q) :
    Wp d 147 (428, [some (.ref r0)], [], μ) Q := wp_blk rfl e147_428 (And.intro (by decide) (And.intro h1 (And.intro h2 k)))
def q147_435 : List (Nat × Instr × Nat) := [(435, .aload_n 0, 1), (436, .sipush 3000, 3), (439, .newarray .int, 2), (441, .putfield 171, 3)]
theorem e147_435 : am_dec am_M147 q147_435 = true := by decide +kernel
theorem b147_435 {d : Nat} {Q : Option Value ⊕ Nat → am_Mem → Prop} {μ : am_Mem} {r0 : Nat}
    (h1 : am_kd (am_nA μ 2 ((Int16.ofInt 3000).toInt32).toNatClampNeg) r0 = (1, 12))
    (h2 : ¬ (am_n μ) = 15)
    (k : Wp d 147 (444, [some (.ref r0)], [], (am_pR (am_nA μ 2 ((Int16.ofInt 3000).toInt32).toNatClampNeg) r0 79 (am_n μ))) Q) :
    Wp d 147 (435, [some (.ref r0)], [], μ) Q := wp_blk rfl e147_435 (And.intro (by decide) (And.intro h1 (And.intro h2 k)))
def q147_444 : List (Nat × Instr × Nat) := [(444, .aload_n 0, 1), (445, .sipush 300, 3), (448, .newarray .boolean, 2), (450, .putfield 174, 3)]
theorem e147_444 : am_dec am_M147 q147_444 = true := by decide +kernel
theorem b147_444 {d : Nat} {Q : Option Value ⊕ Nat → am_Mem → Prop} {μ : am_Mem} {r0 : Nat}
    (h1 : am_kd (am_nA μ 4 ((Int16.ofInt 300).toInt32).toNatClampNeg) r0 = (1, 12))
    (h2 : ¬ (am_n μ) = 15)
    (k : Wp d 147 (453, [some (.ref r0)], [], (am_pR (am_nA μ 4 ((Int16.ofInt 300).toInt32).toNatClampNeg) r0 84 (am_n μ))) Q) :
    Wp d 147 (444, [some (.ref r0)], [], μ) Q := wp_blk rfl e147_444 (And.intro (by decide) (And.intro h1 (And.intro h2 k)))
def q147_453 : List (Nat × Instr × Nat) := [(453, .aload_n 0, 1), (454, .sipush 300, 3), (457, .newarray .int, 2), (459, .putfield 177, 3)]
theorem e147_453 : am_dec am_M147 q147_453 = true := by decide +kernel
theorem b147_453 {d : Nat} {Q : Option Value ⊕ Nat → am_Mem → Prop} {μ : am_Mem} {r0 : Nat}
    (h1 : am_kd (am_nA μ 2 ((Int16.ofInt 300).toInt32).toNatClampNeg) r0 = (1, 12))
    (h2 : ¬ (am_n μ) = 15)
    (k : Wp d 147 (462, [some (.ref r0)], [], (am_pR (am_nA μ 2 ((Int16.ofInt 300).toInt32).toNatClampNeg) r0 85 (am_n μ))) Q) :
    Wp d 147 (453, [some (.ref r0)], [], μ) Q := wp_blk rfl e147_453 (And.intro (by decide) (And.intro h1 (And.intro h2 k)))
def q147_462 : List (Nat × Instr × Nat) := [(462, .aload_n 0, 1), (463, .sipush 12000, 3), (466, .newarray .int, 2), (468, .putfield 180, 3)]
theorem e147_462 : am_dec am_M147 q147_462 = true := by decide +kernel
theorem b147_462 {d : Nat} {Q : Option Value ⊕ Nat → am_Mem → Prop} {μ : am_Mem} {r0 : Nat}
    (h1 : am_kd (am_nA μ 2 ((Int16.ofInt 12000).toInt32).toNatClampNeg) r0 = (1, 12))
    (h2 : ¬ (am_n μ) = 15)
    (k : Wp d 147 (471, [some (.ref r0)], [], (am_pR (am_nA μ 2 ((Int16.ofInt 12000).toInt32).toNatClampNeg) r0 86 (am_n μ))) Q) :
    Wp d 147 (462, [some (.ref r0)], [], μ) Q := wp_blk rfl e147_462 (And.intro (by decide) (And.intro h1 (And.intro h2 k)))
def q147_471 : List (Nat × Instr × Nat) := [(471, .aload_n 0, 1), (472, .sipush 600, 3), (475, .newarray .int, 2), (477, .putfield 183, 3)]
theorem e147_471 : am_dec am_M147 q147_471 = true := by decide +kernel
theorem b147_471 {d : Nat} {Q : Option Value ⊕ Nat → am_Mem → Prop} {μ : am_Mem} {r0 : Nat}
    (h1 : am_kd (am_nA μ 2 ((Int16.ofInt 600).toInt32).toNatClampNeg) r0 = (1, 12))
    (h2 : ¬ (am_n μ) = 15)
    (k : Wp d 147 (480, [some (.ref r0)], [], (am_pR (am_nA μ 2 ((Int16.ofInt 600).toInt32).toNatClampNeg) r0 87 (am_n μ))) Q) :
    Wp d 147 (471, [some (.ref r0)], [], μ) Q := wp_blk rfl e147_471 (And.intro (by decide) (And.intro h1 (And.intro h2 k)))
def q147_480 : List (Nat × Instr × Nat) := [(480, .aload_n 0, 1), (481, .sipush 600, 3), (484, .newarray .int, 2), (486, .putfield 186, 3)]
theorem e147_480 : am_dec am_M147 q147_480 = true := by decide +kernel
theorem b147_480 {d : Nat} {Q : Option Value ⊕ Nat → am_Mem → Prop} {μ : am_Mem} {r0 : Nat}
    (h1 : am_kd (am_nA μ 2 ((Int16.ofInt 600).toInt32).toNatClampNeg) r0 = (1, 12))
    (h2 : ¬ (am_n μ) = 15)
    (k : Wp d 147 (489, [some (.ref r0)], [], (am_pR (am_nA μ 2 ((Int16.ofInt 600).toInt32).toNatClampNeg) r0 88 (am_n μ))) Q) :
    Wp d 147 (480, [some (.ref r0)], [], μ) Q := wp_blk rfl e147_480 (And.intro (by decide) (And.intro h1 (And.intro h2 k)))
def q147_489 : List (Nat × Instr × Nat) := [(489, .aload_n 0, 1), (490, .sipush 300, 3), (493, .newarray .int, 2), (495, .putfield 189, 3)]
theorem e147_489 : am_dec am_M147 q147_489 = true := by decide +kernel
theorem b147_489 {d : Nat} {Q : Option Value ⊕ Nat → am_Mem → Prop} {μ : am_Mem} {r0 : Nat}
    (h1 : am_kd (am_nA μ 2 ((Int16.ofInt 300).toInt32).toNatClampNeg) r0 = (1, 12))
    (h2 : ¬ (am_n μ) = 15)
    (k : Wp d 147 (498, [some (.ref r0)], [], (am_pR (am_nA μ 2 ((Int16.ofInt 300).toInt32).toNatClampNeg) r0 91 (am_n μ))) Q) :
    Wp d 147 (489, [some (.ref r0)], [], μ) Q := wp_blk rfl e147_489 (And.intro (by decide) (And.intro h1 (And.intro h2 k)))
def q147_498 : List (Nat × Instr × Nat) := [(498, .aload_n 0, 1), (499, .sipush 300, 3), (502, .newarray .boolean, 2), (504, .putfield 192, 3)]
theorem e147_498 : am_dec am_M147 q147_498 = true := by decide +kernel
theorem b147_498 {d : Nat} {Q : Option Value ⊕ Nat → am_Mem → Prop} {μ : am_Mem} {r0 : Nat}
    (h1 : am_kd (am_nA μ 4 ((Int16.ofInt 300).toInt32).toNatClampNeg) r0 = (1, 12))
    (h2 : ¬ (am_n μ) = 15)
    (k : Wp d 147 (507, [some (.ref r0)], [], (am_pR (am_nA μ 4 ((Int16.ofInt 300).toInt32).toNatClampNeg) r0 92 (am_n μ))) Q) :
    Wp d 147 (498, [some (.ref r0)], [], μ) Q := wp_blk rfl e147_498 (And.intro (by decide) (And.intro h1 (And.intro h2 k)))
def q147_507 : List (Nat × Instr × Nat) := [(507, .aload_n 0, 1), (508, .sipush 300, 3), (511, .newarray .boolean, 2), (513, .putfield 195, 3)]
theorem e147_507 : am_dec am_M147 q147_507 = true := by decide +kernel
theorem b147_507 {d : Nat} {Q : Option Value ⊕ Nat → am_Mem → Prop} {μ : am_Mem} {r0 : Nat}
    (h1 : am_kd (am_nA μ 4 ((Int16.ofInt 300).toInt32).toNatClampNeg) r0 = (1, 12))
    (h2 : ¬ (am_n μ) = 15)
    (k : Wp d 147 (516, [some (.ref r0)], [], (am_pR (am_nA μ 4 ((Int16.ofInt 300).toInt32).toNatClampNeg) r0 93 (am_n μ))) Q) :
    Wp d 147 (507, [some (.ref r0)], [], μ) Q := wp_blk rfl e147_507 (And.intro (by decide) (And.intro h1 (And.intro h2 k)))
theorem e147_516_r : am_dec am_M147 [(516, .return_, 1)] = true := by decide +kernel
theorem b147_516 {d : Nat} {Q : Option Value ⊕ Nat → am_Mem → Prop} {μ : am_Mem} {r0 : Nat}
    (k : Q (.inl none) μ) :
    Wp d 147 (516, [some (.ref r0)], [], μ) Q := (wp_rv rfl e147_516_r rfl k)
/-! RuleSheetsModel.thrown()I -/
def q148_0 : List (Nat × Instr × Nat) := [(0, .aload_n 0, 1), (1, .getfield 198, 3)]
theorem e148_0 : am_dec am_M148 q148_0 = true := by decide +kernel
theorem e148_0_r : am_dec am_M148 [(4, .ireturn, 1)] = true := by decide +kernel
theorem b148_0 {d : Nat} {Q : Option Value ⊕ Nat → am_Mem → Prop} {μ : am_Mem} {r0 : Nat}
    (h1 : am_kd μ r0 = (1, 12))
    (k : Q (.inl (some (.int (am_A μ r0 0)))) μ) :
    Wp d 148 (0, [some (.ref r0)], [], μ) Q := wp_blk rfl e148_0 (And.intro h1 (wp_ri (ty := .int) rfl e148_0_r rfl ⟨rfl, rfl⟩ k))
/-! RuleSheetsModel.put(I)I -/
def q149_0 : List (Nat × Instr × Nat) := [(0, .iconst 0, 1), (1, .istore_n 2, 1), (2, .iconst 1, 1), (3, .istore_n 3, 1), (4, .iconst 0, 1), (5, .istore 4, 2)]
theorem e149_0 : am_dec am_M149 q149_0 = true := by decide +kernel
theorem b149_0 {d : Nat} {Q : Option Value ⊕ Nat → am_Mem → Prop} {μ : am_Mem} {r0 : Nat} {x1 : Int32}
    (k : Wp d 149 (7, [some (.ref r0), some (.int x1), some (.int (Int32.ofInt 0)), some (.int (Int32.ofInt 1)), some (.int (Int32.ofInt 0)), none], [], μ) Q) :
    Wp d 149 (0, [some (.ref r0), some (.int x1), none, none, none, none], [], μ) Q := wp_blk rfl e149_0 k
def q149_7 : List (Nat × Instr × Nat) := [(7, .iload 4, 2), (9, .iconst 4, 1), (10, .if_icmp .ge 72, 3)]
theorem e149_7 : am_dec am_M149 q149_7 = true := by decide +kernel
theorem b149_7 {d : Nat} {Q : Option Value ⊕ Nat → am_Mem → Prop} {μ : am_Mem} {r0 : Nat} {x1 x2 x3 x4 : Int32} {o5 : Option Value}
    (k1 : (Int32.ofInt 4) ≤ x4 → Wp d 149 (82, [some (.ref r0), some (.int x1), some (.int x2), some (.int x3), some (.int x4), o5], [], μ) Q) (k2 : ¬ ((Int32.ofInt 4) ≤ x4) → Wp d 149 (13, [some (.ref r0), some (.int x1), some (.int x2), some (.int x3), some (.int x4), o5], [], μ) Q) :
    Wp d 149 (7, [some (.ref r0), some (.int x1), some (.int x2), some (.int x3), some (.int x4), o5], [], μ) Q := wp_blk rfl e149_7 (And.intro k1 k2)
def q149_13 : List (Nat × Instr × Nat) := [(13, .iload_n 1, 1), (14, .bipush 8, 2), (16, .iload 4, 2), (18, .imul, 1), (19, .ishr, 1), (20, .sipush 255, 3), (23, .iand, 1), (24, .istore 5, 2), (26, .iload_n 3, 1), (27, .ifCond .eq 34, 3)]
theorem e149_13 : am_dec am_M149 q149_13 = true := by decide +kernel
theorem b149_13 {d : Nat} {Q : Option Value ⊕ Nat → am_Mem → Prop} {μ : am_Mem} {r0 : Nat} {x1 x2 x3 x4 : Int32} {o5 : Option Value}
    (k1 : x3 = 0 → Wp d 149 (61, [some (.ref r0), some (.int x1), some (.int x2), some (.int x3), some (.int x4), some (.int ((x1 >>> ((((Int8.ofInt 8).toInt32) * x4) &&& 31)) &&& ((Int16.ofInt 255).toInt32)))], [], μ) Q) (k2 : ¬ (x3 = 0) → Wp d 149 (30, [some (.ref r0), some (.int x1), some (.int x2), some (.int x3), some (.int x4), some (.int ((x1 >>> ((((Int8.ofInt 8).toInt32) * x4) &&& 31)) &&& ((Int16.ofInt 255).toInt32)))], [], μ) Q) :
    Wp d 149 (13, [some (.ref r0), some (.int x1), some (.int x2), some (.int x3), some (.int x4), o5], [], μ) Q := wp_blk rfl e149_13 (And.intro k1 k2)
def q149_30 : List (Nat × Instr × Nat) := [(30, .iload 5, 2), (32, .ifCond .eq 25, 3)]
theorem e149_30 : am_dec am_M149 q149_30 = true := by decide +kernel
theorem b149_30 {d : Nat} {Q : Option Value ⊕ Nat → am_Mem → Prop} {μ : am_Mem} {r0 : Nat} {x1 x2 x3 x4 x5 : Int32}
    (k1 : x5 = 0 → Wp d 149 (57, [some (.ref r0), some (.int x1), some (.int x2), some (.int x3), some (.int x4), some (.int x5)], [], μ) Q) (k2 : ¬ (x5 = 0) → Wp d 149 (35, [some (.ref r0), some (.int x1), some (.int x2), some (.int x3), some (.int x4), some (.int x5)], [], μ) Q) :
    Wp d 149 (30, [some (.ref r0), some (.int x1), some (.int x2), some (.int x3), some (.int x4), some (.int x5)], [], μ) Q := wp_blk rfl e149_30 (And.intro k1 k2)
def q149_35 : List (Nat × Instr × Nat) := [(35, .iload 5, 2), (37, .bipush 10, 2), (39, .if_icmp .eq 18, 3)]
theorem e149_35 : am_dec am_M149 q149_35 = true := by decide +kernel
theorem b149_35 {d : Nat} {Q : Option Value ⊕ Nat → am_Mem → Prop} {μ : am_Mem} {r0 : Nat} {x1 x2 x3 x4 x5 : Int32}
    (k1 : x5 = ((Int8.ofInt 10).toInt32) → Wp d 149 (57, [some (.ref r0), some (.int x1), some (.int x2), some (.int x3), some (.int x4), some (.int x5)], [], μ) Q) (k2 : ¬ (x5 = ((Int8.ofInt 10).toInt32)) → Wp d 149 (42, [some (.ref r0), some (.int x1), some (.int x2), some (.int x3), some (.int x4), some (.int x5)], [], μ) Q) :
    Wp d 149 (35, [some (.ref r0), some (.int x1), some (.int x2), some (.int x3), some (.int x4), some (.int x5)], [], μ) Q := wp_blk rfl e149_35 (And.intro k1 k2)
def q149_42 : List (Nat × Instr × Nat) := [(42, .iload 5, 2), (44, .i2l, 1), (45, .ldc2_w 201, 3), (48, .ldc2_w 203, 3)]
theorem e149_42 : am_dec am_M149 q149_42 = true := by decide +kernel
theorem e149_42_c : am_dc1 am_M149 51 (.invokestatic 205) 3 = true := by decide +kernel
theorem b149_42 {d : Nat} {Q : Option Value ⊕ Nat → am_Mem → Prop} {μ : am_Mem} {r0 : Nat} {x1 x2 x3 x4 x5 : Int32} {P : Int32 → am_Mem → Prop} {X : Nat → am_Mem → Prop}
    (hc : Wp d 150 (0, [some (.long x5.toInt64), none, some (.long (32 : Int64)), none, some (.long (126 : Int64)), none], [], μ) (pI P X)) (hr : ∀ x μ', P x μ' → Wp (d + 1) 149 (54, [some (.ref r0), some (.int x1), some (.int x2), some (.int x3), some (.int x4), some (.int x5)], [.int x], (μ')) Q)
    (hx : ∀ x μ', X x μ' → Q (.inr x) μ') :
    Wp (d + 1) 149 (42, [some (.ref r0), some (.int x1), some (.int x2), some (.int x3), some (.int x4), some (.int x5)], [], μ) Q := wp_blk rfl e149_42 (wp_cs (vs := [.long x5.toInt64, .long (32 : Int64), .long (126 : Int64)]) rfl e149_42_c rfl rfl rfl rfl rfl hc (fun v μ' hv => by obtain ⟨x, rfl, hp⟩ := pI_r hv; exact hr x μ' hp) hx)
def q149_54 : List (Nat × Instr × Nat) := [(54, .ifCond .eq 7, 3)]
theorem e149_54 : am_dec am_M149 q149_54 = true := by decide +kernel
theorem b149_54 {d : Nat} {Q : Option Value ⊕ Nat → am_Mem → Prop} {μ : am_Mem} {r0 : Nat} {x1 x2 x3 x4 x5 s0 : Int32}
    (k1 : s0 = 0 → Wp d 149 (61, [some (.ref r0), some (.int x1), some (.int x2), some (.int x3), some (.int x4), some (.int x5)], [], μ) Q) (k2 : ¬ (s0 = 0) → Wp d 149 (57, [some (.ref r0), some (.int x1), some (.int x2), some (.int x3), some (.int x4), some (.int x5)], [], μ) Q) :
    Wp d 149 (54, [some (.ref r0), some (.int x1), some (.int x2), some (.int x3), some (.int x4), some (.int x5)], [.int s0], μ) Q := wp_blk rfl e149_54 (And.intro k1 k2)
def q149_57 : List (Nat × Instr × Nat) := [(57, .iconst 1, 1), (58, .goto 4, 3)]
theorem e149_57 : am_dec am_M149 q149_57 = true := by decide +kernel
theorem b149_57 {d : Nat} {Q : Option Value ⊕ Nat → am_Mem → Prop} {μ : am_Mem} {r0 : Nat} {x1 x2 x3 x4 x5 : Int32}
    (k : Wp d 149 (62, [some (.ref r0), some (.int x1), some (.int x2), some (.int x3), some (.int x4), some (.int x5)], [.int (Int32.ofInt 1)], μ) Q) :
    Wp d 149 (57, [some (.ref r0), some (.int x1), some (.int x2), some (.int x3), some (.int x4), some (.int x5)], [], μ) Q := wp_blk rfl e149_57 k
def q149_61 : List (Nat × Instr × Nat) := [(61, .iconst 0, 1)]
theorem e149_61 : am_dec am_M149 q149_61 = true := by decide +kernel
theorem b149_61 {d : Nat} {Q : Option Value ⊕ Nat → am_Mem → Prop} {μ : am_Mem} {r0 : Nat} {x1 x2 x3 x4 x5 : Int32}
    (k : Wp d 149 (62, [some (.ref r0), some (.int x1), some (.int x2), some (.int x3), some (.int x4), some (.int x5)], [.int (Int32.ofInt 0)], μ) Q) :
    Wp d 149 (61, [some (.ref r0), some (.int x1), some (.int x2), some (.int x3), some (.int x4), some (.int x5)], [], μ) Q := wp_blk rfl e149_61 k
def q149_62 : List (Nat × Instr × Nat) := [(62, .istore_n 3, 1), (63, .iload 5, 2), (65, .ifCond .le 9, 3)]
theorem e149_62 : am_dec am_M149 q149_62 = true := by decide +kernel
theorem b149_62 {d : Nat} {Q : Option Value ⊕ Nat → am_Mem → Prop} {μ : am_Mem} {r0 : Nat} {x1 x2 x3 x4 x5 s0 : Int32}
    (k1 : x5 ≤ 0 → Wp d 149 (74, [some (.ref r0), some (.int x1), some (.int x2), some (.int s0), some (.int x4), some (.int x5)], [], μ) Q) (k2 : ¬ (x5 ≤ 0) → Wp d 149 (68, [some (.ref r0), some (.int x1), some (.int x2), some (.int s0), some (.int x4), some (.int x5)], [], μ) Q) :
    Wp d 149 (62, [some (.ref r0), some (.int x1), some (.int x2), some (.int x3), some (.int x4), some (.int x5)], [.int s0], μ) Q := wp_blk rfl e149_62 (And.intro k1 k2)
def q149_68 : List (Nat × Instr × Nat) := [(68, .iload_n 2, 1), (69, .iconst 1, 1), (70, .iadd, 1), (71, .goto 4, 3)]
theorem e149_68 : am_dec am_M149 q149_68 = true := by decide +kernel
theorem b149_68 {d : Nat} {Q : Option Value ⊕ Nat → am_Mem → Prop} {μ : am_Mem} {r0 : Nat} {x1 x2 x3 x4 x5 : Int32}
    (k : Wp d 149 (75, [some (.ref r0), some (.int x1), some (.int x2), some (.int x3), some (.int x4), some (.int x5)], [.int (x2 + (Int32.ofInt 1))], μ) Q) :
    Wp d 149 (68, [some (.ref r0), some (.int x1), some (.int x2), some (.int x3), some (.int x4), some (.int x5)], [], μ) Q := wp_blk rfl e149_68 k
def q149_74 : List (Nat × Instr × Nat) := [(74, .iload_n 2, 1)]
theorem e149_74 : am_dec am_M149 q149_74 = true := by decide +kernel
theorem b149_74 {d : Nat} {Q : Option Value ⊕ Nat → am_Mem → Prop} {μ : am_Mem} {r0 : Nat} {x1 x2 x3 x4 x5 : Int32}
    (k : Wp d 149 (75, [some (.ref r0), some (.int x1), some (.int x2), some (.int x3), some (.int x4), some (.int x5)], [.int x2], μ) Q) :
    Wp d 149 (74, [some (.ref r0), some (.int x1), some (.int x2), some (.int x3), some (.int x4), some (.int x5)], [], μ) Q := wp_blk rfl e149_74 k
def q149_75 : List (Nat × Instr × Nat) := [(75, .istore_n 2, 1), (76, .iinc 4 1, 3), (79, .goto (-72), 3)]
theorem e149_75 : am_dec am_M149 q149_75 = true := by decide +kernel
theorem b149_75 {d : Nat} {Q : Option Value ⊕ Nat → am_Mem → Prop} {μ : am_Mem} {r0 : Nat} {x1 x2 x3 x4 x5 s0 : Int32}
    (k : Wp d 149 (7, [some (.ref r0), some (.int x1), some (.int s0), some (.int x3), some (.int (x4 + Int32.ofInt 1)), some (.int x5)], [], μ) Q) :
    Wp d 149 (75, [some (.ref r0), some (.int x1), some (.int x2), some (.int x3), some (.int x4), some (.int x5)], [.int s0], μ) Q := wp_blk rfl e149_75 k
def q149_82 : List (Nat × Instr × Nat) := [(82, .aload_n 0, 1), (83, .iload_n 3, 1), (84, .ifCond .ne 7, 3)]
theorem e149_82 : am_dec am_M149 q149_82 = true := by decide +kernel
theorem b149_82 {d : Nat} {Q : Option Value ⊕ Nat → am_Mem → Prop} {μ : am_Mem} {r0 : Nat} {x1 x2 x3 x4 : Int32} {o5 : Option Value}
    (k1 : ¬ x3 = 0 → Wp d 149 (91, [some (.ref r0), some (.int x1), some (.int x2), some (.int x3), some (.int x4), o5], [.ref r0], μ) Q) (k2 : ¬ (¬ x3 = 0) → Wp d 149 (87, [some (.ref r0), some (.int x1), some (.int x2), some (.int x3), some (.int x4), o5], [.ref r0], μ) Q) :
    Wp d 149 (82, [some (.ref r0), some (.int x1), some (.int x2), some (.int x3), some (.int x4), o5], [], μ) Q := wp_blk rfl e149_82 (And.intro k1 k2)
def q149_87 : List (Nat × Instr × Nat) := [(87, .iconst 1, 1), (88, .goto 4, 3)]
theorem e149_87 : am_dec am_M149 q149_87 = true := by decide +kernel
theorem b149_87 {d : Nat} {Q : Option Value ⊕ Nat → am_Mem → Prop} {μ : am_Mem} {r0 r90 : Nat} {x1 x2 x3 x4 : Int32} {o5 : Option Value}
    (k : Wp d 149 (92, [some (.ref r0), some (.int x1), some (.int x2), some (.int x3), some (.int x4), o5], [.int (Int32.ofInt 1), .ref r90], μ) Q) :
    Wp d 149 (87, [some (.ref r0), some (.int x1), some (.int x2), some (.int x3), some (.int x4), o5], [.ref r90], μ) Q := wp_blk rfl e149_87 k
def q149_91 : List (Nat × Instr × Nat) := [(91, .iconst 0, 1)]
theorem e149_91 : am_dec am_M149 q149_91 = true := by decide +kernel
theorem b149_91 {d : Nat} {Q : Option Value ⊕ Nat → am_Mem → Prop} {μ : am_Mem} {r0 r90 : Nat} {x1 x2 x3 x4 : Int32} {o5 : Option Value}
    (k : Wp d 149 (92, [some (.ref r0), some (.int x1), some (.int x2), some (.int x3), some (.int x4), o5], [.int (Int32.ofInt 0), .ref r90], μ) Q) :
    Wp d 149 (91, [some (.ref r0), some (.int x1), some (.int x2), some (.int x3), some (.int x4), o5], [.ref r90], μ) Q := wp_blk rfl e149_91 k
def q149_92 : List (Nat × Instr × Nat) := [(92, .aload_n 0, 1), (93, .getfield 209, 3), (96, .iload_n 2, 1), (97, .iadd, 1), (98, .sipush 2000, 3), (101, .if_icmp .le 7, 3)]
theorem e149_92 : am_dec am_M149 q149_92 = true := by decide +kernel
theorem b149_92 {d : Nat} {Q : Option Value ⊕ Nat → am_Mem → Prop} {μ : am_Mem} {r0 r90 : Nat} {x1 x2 x3 x4 s1 : Int32} {o5 : Option Value}
    (h1 : am_kd μ r0 = (1, 12))
    (k1 : ((am_A μ r0 2) + x2) ≤ ((Int16.ofInt 2000).toInt32) → Wp d 149 (108, [some (.ref r0), some (.int x1), some (.int x2), some (.int x3), some (.int x4), o5], [.int s1, .ref r90], μ) Q) (k2 : ¬ (((am_A μ r0 2) + x2) ≤ ((Int16.ofInt 2000).toInt32)) → Wp d 149 (104, [some (.ref r0), some (.int x1), some (.int x2), some (.int x3), some (.int x4), o5], [.int s1, .ref r90], μ) Q) :
    Wp d 149 (92, [some (.ref r0), some (.int x1), some (.int x2), some (.int x3), some (.int x4), o5], [.int s1, .ref r90], μ) Q := wp_blk rfl e149_92 (And.intro h1 (And.intro k1 k2))
def q149_104 : List (Nat × Instr × Nat) := [(104, .iconst 1, 1), (105, .goto 4, 3)]
theorem e149_104 : am_dec am_M149 q149_104 = true := by decide +kernel
theorem b149_104 {d : Nat} {Q : Option Value ⊕ Nat → am_Mem → Prop} {μ : am_Mem} {r0 r90 : Nat} {x1 x2 x3 x4 s1 : Int32} {o5 : Option Value}
    (k : Wp d 149 (109, [some (.ref r0), some (.int x1), some (.int x2), some (.int x3), some (.int x4), o5], [.int (Int32.ofInt 1), .int s1, .ref r90], μ) Q) :
    Wp d 149 (104, [some (.ref r0), some (.int x1), some (.int x2), some (.int x3), some (.int x4), o5], [.int s1, .ref r90], μ) Q := wp_blk rfl e149_104 k
def q149_108 : List (Nat × Instr × Nat) := [(108, .iconst 0, 1)]
theorem e149_108 : am_dec am_M149 q149_108 = true := by decide +kernel
theorem b149_108 {d : Nat} {Q : Option Value ⊕ Nat → am_Mem → Prop} {μ : am_Mem} {r0 r90 : Nat} {x1 x2 x3 x4 s1 : Int32} {o5 : Option Value}
    (k : Wp d 149 (109, [some (.ref r0), some (.int x1), some (.int x2), some (.int x3), some (.int x4), o5], [.int (Int32.ofInt 0), .int s1, .ref r90], μ) Q) :
    Wp d 149 (108, [some (.ref r0), some (.int x1), some (.int x2), some (.int x3), some (.int x4), o5], [.int s1, .ref r90], μ) Q := wp_blk rfl e149_108 k
def q149_109 : List (Nat × Instr × Nat) := [(109, .iconst 0, 1)]
theorem e149_109 : am_dec am_M149 q149_109 = true := by decide +kernel
theorem e149_109_c : am_dc1 am_M149 110 (.invokevirtual 212) 3 = true := by decide +kernel
theorem b149_109 {d : Nat} {Q : Option Value ⊕ Nat → am_Mem → Prop} {μ : am_Mem} {r0 r90 : Nat} {x1 x2 x3 x4 s1 s2 : Int32} {o5 : Option Value} {P : Int32 → am_Mem → Prop} {X : Nat → am_Mem → Prop}
    (hk : am_kd μ r90 = (1, 12))
    (hc : Wp d 151 (0, [some (.ref r90), some (.int s1), some (.int s2), some (.int (Int32.ofInt 0))], [], μ) (pI P X)) (hr : ∀ x μ', P x μ' → Wp (d + 1) 149 (113, [some (.ref r0), some (.int x1), some (.int x2), some (.int x3), some (.int x4), o5], [.int x], (μ')) Q)
    (hx : ∀ x μ', X x μ' → Q (.inr x) μ') :
    Wp (d + 1) 149 (109, [some (.ref r0), some (.int x1), some (.int x2), some (.int x3), some (.int x4), o5], [.int s2, .int s1, .ref r90], μ) Q := wp_blk rfl e149_109 (wp_cv (as := [.int s1, .int s2, .int (Int32.ofInt 0)]) rfl e149_109_c rfl rfl rfl rfl rfl hk hc (fun v μ' hv => by obtain ⟨x, rfl, hp⟩ := pI_r hv; exact hr x μ' hp) hx)
def q149_113 : List (Nat × Instr × Nat) := [(113, .ifCond .eq 5, 3)]
theorem e149_113 : am_dec am_M149 q149_113 = true := by decide +kernel
theorem b149_113 {d : Nat} {Q : Option Value ⊕ Nat → am_Mem → Prop} {μ : am_Mem} {r0 : Nat} {x1 x2 x3 x4 s0 : Int32} {o5 : Option Value}
    (k1 : s0 = 0 → Wp d 149 (118, [some (.ref r0), some (.int x1), some (.int x2), some (.int x3), some (.int x4), o5], [], μ) Q) (k2 : ¬ (s0 = 0) → Wp d 149 (116, [some (.ref r0), some (.int x1), some (.int x2), some (.int x3), some (.int x4), o5], [], μ) Q) :
    Wp d 149 (113, [some (.ref r0), some (.int x1), some (.int x2), some (.int x3), some (.int x4), o5], [.int s0], μ) Q := wp_blk rfl e149_113 (And.intro k1 k2)
def q149_116 : List (Nat × Instr × Nat) := [(116, .iconst 0, 1)]
theorem e149_116 : am_dec am_M149 q149_116 = true := by decide +kernel
theorem e149_116_r : am_dec am_M149 [(117, .ireturn, 1)] = true := by decide +kernel
theorem b149_116 {d : Nat} {Q : Option Value ⊕ Nat → am_Mem → Prop} {μ : am_Mem} {r0 : Nat} {x1 x2 x3 x4 : Int32} {o5 : Option Value}
    (k : Q (.inl (some (.int (Int32.ofInt 0)))) μ) :
    Wp d 149 (116, [some (.ref r0), some (.int x1), some (.int x2), some (.int x3), some (.int x4), o5], [], μ) Q := wp_blk rfl e149_116 (wp_ri (ty := .int) rfl e149_116_r rfl ⟨rfl, rfl⟩ k)
def q149_118 : List (Nat × Instr × Nat) := [(118, .iconst 0, 1), (119, .istore 4, 2)]
theorem e149_118 : am_dec am_M149 q149_118 = true := by decide +kernel
theorem b149_118 {d : Nat} {Q : Option Value ⊕ Nat → am_Mem → Prop} {μ : am_Mem} {r0 : Nat} {x1 x2 x3 x4 : Int32} {o5 : Option Value}
    (k : Wp d 149 (121, [some (.ref r0), some (.int x1), some (.int x2), some (.int x3), some (.int (Int32.ofInt 0)), o5], [], μ) Q) :
    Wp d 149 (118, [some (.ref r0), some (.int x1), some (.int x2), some (.int x3), some (.int x4), o5], [], μ) Q := wp_blk rfl e149_118 k
def q149_121 : List (Nat × Instr × Nat) := [(121, .iload 4, 2), (123, .iconst 4, 1), (124, .if_icmp .ge 48, 3)]
theorem e149_121 : am_dec am_M149 q149_121 = true := by decide +kernel
theorem b149_121 {d : Nat} {Q : Option Value ⊕ Nat → am_Mem → Prop} {μ : am_Mem} {r0 : Nat} {x1 x2 x3 x4 : Int32} {o5 : Option Value}
    (k1 : (Int32.ofInt 4) ≤ x4 → Wp d 149 (172, [some (.ref r0), some (.int x1), some (.int x2), some (.int x3), some (.int x4), o5], [], μ) Q) (k2 : ¬ ((Int32.ofInt 4) ≤ x4) → Wp d 149 (127, [some (.ref r0), some (.int x1), some (.int x2), some (.int x3), some (.int x4), o5], [], μ) Q) :
    Wp d 149 (121, [some (.ref r0), some (.int x1), some (.int x2), some (.int x3), some (.int x4), o5], [], μ) Q := wp_blk rfl e149_121 (And.intro k1 k2)
def q149_127 : List (Nat × Instr × Nat) := [(127, .iload_n 1, 1), (128, .bipush 8, 2), (130, .iload 4, 2), (132, .imul, 1), (133, .ishr, 1), (134, .sipush 255, 3), (137, .iand, 1), (138, .istore 5, 2), (140, .iload 5, 2), (142, .ifCond .le 24, 3)]
theorem e149_127 : am_dec am_M149 q149_127 = true := by decide +kernel
theorem b149_127 {d : Nat} {Q : Option Value ⊕ Nat → am_Mem → Prop} {μ : am_Mem} {r0 : Nat} {x1 x2 x3 x4 : Int32} {o5 : Option Value}
    (k1 : ((x1 >>> ((((Int8.ofInt 8).toInt32) * x4) &&& 31)) &&& ((Int16.ofInt 255).toInt32)) ≤ 0 → Wp d 149 (166, [some (.ref r0), some (.int x1), some (.int x2), some (.int x3), some (.int x4), some (.int ((x1 >>> ((((Int8.ofInt 8).toInt32) * x4) &&& 31)) &&& ((Int16.ofInt 255).toInt32)))], [], μ) Q) (k2 : ¬ (((x1 >>> ((((Int8.ofInt 8).toInt32) * x4) &&& 31)) &&& ((Int16.ofInt 255).toInt32)) ≤ 0) → Wp d 149 (145, [some (.ref r0), some (.int x1), some (.int x2), some (.int x3), some (.int x4), some (.int ((x1 >>> ((((Int8.ofInt 8).toInt32) * x4) &&& 31)) &&& ((Int16.ofInt 255).toInt32)))], [], μ) Q) :
    Wp d 149 (127, [some (.ref r0), some (.int x1), some (.int x2), some (.int x3), some (.int x4), o5], [], μ) Q := wp_blk rfl e149_127 (And.intro k1 k2)
def q149_145 : List (Nat × Instr × Nat) := [(145, .aload_n 0, 1), (146, .getfield 7, 3), (149, .aload_n 0, 1), (150, .getfield 209, 3), (153, .iload 5, 2), (155, .iastore, 1), (156, .aload_n 0, 1), (157, .dup, 1), (158, .getfield 209, 3), (161, .iconst 1, 1), (162, .iadd, 1), (163, .putfield 209, 3)]
theorem e149_145 : am_dec am_M149 q149_145 = true := by decide +kernel
theorem b149_145 {d : Nat} {Q : Option Value ⊕ Nat → am_Mem → Prop} {μ : am_Mem} {r0 : Nat} {x1 x2 x3 x4 x5 : Int32}
    (h1 : am_kd μ r0 = (1, 12))
    (h2 : ¬ am_F μ r0 1 = 15)
    (h3 : am_kd μ r0 = (1, 12))
    (h4 : (am_kd μ (am_F μ r0 1)).1 = 2)
    (h5 : ¬ ((am_A μ r0 2) < 0 ∨ (am_kd μ (am_F μ r0 1)).2 ≤ (am_A μ r0 2).toNatClampNeg))
    (h6 : am_kd (am_pA μ (am_F μ r0 1) (am_A μ r0 2).toNatClampNeg x5) r0 = (1, 12))
    (h7 : am_kd (am_pA μ (am_F μ r0 1) (am_A μ r0 2).toNatClampNeg x5) r0 = (1, 12))
    (k : Wp d 149 (166, [some (.ref r0), some (.int x1), some (.int x2), some (.int x3), some (.int x4), some (.int x5)], [], (am_pA (am_pA μ (am_F μ r0 1) (am_A μ r0 2).toNatClampNeg x5) r0 2 ((am_A (am_pA μ (am_F μ r0 1) (am_A μ r0 2).toNatClampNeg x5) r0 2) + (Int32.ofInt 1)))) Q) :
    Wp d 149 (145, [some (.ref r0), some (.int x1), some (.int x2), some (.int x3), some (.int x4), some (.int x5)], [], μ) Q := wp_blk rfl e149_145 (And.intro h1 (And.intro h2 (And.intro h3 (And.intro h4 (And.intro h5 (And.intro h6 (And.intro h7 (And.intro ⟨rfl, rfl⟩ k))))))))
def q149_166 : List (Nat × Instr × Nat) := [(166, .iinc 4 1, 3), (169, .goto (-48), 3)]
theorem e149_166 : am_dec am_M149 q149_166 = true := by decide +kernel
theorem b149_166 {d : Nat} {Q : Option Value ⊕ Nat → am_Mem → Prop} {μ : am_Mem} {r0 : Nat} {x1 x2 x3 x4 x5 : Int32}
    (k : Wp d 149 (121, [some (.ref r0), some (.int x1), some (.int x2), some (.int x3), some (.int (x4 + Int32.ofInt 1)), some (.int x5)], [], μ) Q) :
    Wp d 149 (166, [some (.ref r0), some (.int x1), some (.int x2), some (.int x3), some (.int x4), some (.int x5)], [], μ) Q := wp_blk rfl e149_166 k
def q149_172 : List (Nat × Instr × Nat) := [(172, .aload_n 0, 1), (173, .getfield 209, 3)]
theorem e149_172 : am_dec am_M149 q149_172 = true := by decide +kernel
theorem e149_172_r : am_dec am_M149 [(176, .ireturn, 1)] = true := by decide +kernel
theorem b149_172 {d : Nat} {Q : Option Value ⊕ Nat → am_Mem → Prop} {μ : am_Mem} {r0 : Nat} {x1 x2 x3 x4 : Int32} {o5 : Option Value}
    (h1 : am_kd μ r0 = (1, 12))
    (k : Q (.inl (some (.int (am_A μ r0 2)))) μ) :
    Wp d 149 (172, [some (.ref r0), some (.int x1), some (.int x2), some (.int x3), some (.int x4), o5], [], μ) Q := wp_blk rfl e149_172 (And.intro h1 (wp_ri (ty := .int) rfl e149_172_r rfl ⟨rfl, rfl⟩ k))
/-! RuleSheetsModel.in(JJJ)Z -/
def q150_0 : List (Nat × Instr × Nat) := [(0, .lload_n 0, 1), (1, .lload_n 2, 1), (2, .lcmp, 1), (3, .ifCond .lt 14, 3)]
theorem e150_0 : am_dec am_M150 q150_0 = true := by decide +kernel
theorem b150_0 {d : Nat} {Q : Option Value ⊕ Nat → am_Mem → Prop} {μ : am_Mem} {y0 y2 y4 : Int64}
    (k1 : (lg_cmp y0 y2) < 0 → Wp d 150 (17, [some (.long y0), none, some (.long y2), none, some (.long y4), none], [], μ) Q) (k2 : ¬ ((lg_cmp y0 y2) < 0) → Wp d 150 (6, [some (.long y0), none, some (.long y2), none, some (.long y4), none], [], μ) Q) :
    Wp d 150 (0, [some (.long y0), none, some (.long y2), none, some (.long y4), none], [], μ) Q := wp_blk rfl e150_0 (And.intro k1 k2)
def q150_6 : List (Nat × Instr × Nat) := [(6, .lload_n 0, 1), (7, .lload 4, 2), (9, .lcmp, 1), (10, .ifCond .gt 7, 3)]
theorem e150_6 : am_dec am_M150 q150_6 = true := by decide +kernel
theorem b150_6 {d : Nat} {Q : Option Value ⊕ Nat → am_Mem → Prop} {μ : am_Mem} {y0 y2 y4 : Int64}
    (k1 : 0 < (lg_cmp y0 y4) → Wp d 150 (17, [some (.long y0), none, some (.long y2), none, some (.long y4), none], [], μ) Q) (k2 : ¬ (0 < (lg_cmp y0 y4)) → Wp d 150 (13, [some (.long y0), none, some (.long y2), none, some (.long y4), none], [], μ) Q) :
    Wp d 150 (6, [some (.long y0), none, some (.long y2), none, some (.long y4), none], [], μ) Q := wp_blk rfl e150_6 (And.intro k1 k2)
def q150_13 : List (Nat × Instr × Nat) := [(13, .iconst 1, 1), (14, .goto 4, 3)]
theorem e150_13 : am_dec am_M150 q150_13 = true := by decide +kernel
theorem b150_13 {d : Nat} {Q : Option Value ⊕ Nat → am_Mem → Prop} {μ : am_Mem} {y0 y2 y4 : Int64}
    (k : Wp d 150 (18, [some (.long y0), none, some (.long y2), none, some (.long y4), none], [.int (Int32.ofInt 1)], μ) Q) :
    Wp d 150 (13, [some (.long y0), none, some (.long y2), none, some (.long y4), none], [], μ) Q := wp_blk rfl e150_13 k
def q150_17 : List (Nat × Instr × Nat) := [(17, .iconst 0, 1)]
theorem e150_17 : am_dec am_M150 q150_17 = true := by decide +kernel
theorem b150_17 {d : Nat} {Q : Option Value ⊕ Nat → am_Mem → Prop} {μ : am_Mem} {y0 y2 y4 : Int64}
    (k : Wp d 150 (18, [some (.long y0), none, some (.long y2), none, some (.long y4), none], [.int (Int32.ofInt 0)], μ) Q) :
    Wp d 150 (17, [some (.long y0), none, some (.long y2), none, some (.long y4), none], [], μ) Q := wp_blk rfl e150_17 k
theorem e150_18_r : am_dec am_M150 [(18, .ireturn, 1)] = true := by decide +kernel
theorem b150_18 {d : Nat} {Q : Option Value ⊕ Nat → am_Mem → Prop} {μ : am_Mem} {y0 y2 y4 : Int64} {s0 : Int32}
    (hn : narrow .boolean (.int s0) = .int s0 ∧ fits .boolean (.int s0) = true)
    (k : Q (.inl (some (.int s0))) μ) :
    Wp d 150 (18, [some (.long y0), none, some (.long y2), none, some (.long y4), none], [.int s0], μ) Q := (wp_ri (ty := .boolean) rfl e150_18_r rfl hn k)
/-! RuleSheetsModel.refuse(ZZZ)Z -/
def q151_0 : List (Nat × Instr × Nat) := [(0, .aload_n 0, 1), (1, .iload_n 1, 1), (2, .ifCond .eq 7, 3)]
theorem e151_0 : am_dec am_M151 q151_0 = true := by decide +kernel
theorem b151_0 {d : Nat} {Q : Option Value ⊕ Nat → am_Mem → Prop} {μ : am_Mem} {r0 : Nat} {x1 x2 x3 : Int32}
    (k1 : x1 = 0 → Wp d 151 (9, [some (.ref r0), some (.int x1), some (.int x2), some (.int x3)], [.ref r0], μ) Q) (k2 : ¬ (x1 = 0) → Wp d 151 (5, [some (.ref r0), some (.int x1), some (.int x2), some (.int x3)], [.ref r0], μ) Q) :
    Wp d 151 (0, [some (.ref r0), some (.int x1), some (.int x2), some (.int x3)], [], μ) Q := wp_blk rfl e151_0 (And.intro k1 k2)
def q151_5 : List (Nat × Instr × Nat) := [(5, .iconst 1, 1), (6, .goto 20, 3)]
theorem e151_5 : am_dec am_M151 q151_5 = true := by decide +kernel
theorem b151_5 {d : Nat} {Q : Option Value ⊕ Nat → am_Mem → Prop} {μ : am_Mem} {r0 r90 : Nat} {x1 x2 x3 : Int32}
    (k : Wp d 151 (26, [some (.ref r0), some (.int x1), some (.int x2), some (.int x3)], [.int (Int32.ofInt 1), .ref r90], μ) Q) :
    Wp d 151 (5, [some (.ref r0), some (.int x1), some (.int x2), some (.int x3)], [.ref r90], μ) Q := wp_blk rfl e151_5 k
def q151_9 : List (Nat × Instr × Nat) := [(9, .iload_n 2, 1), (10, .ifCond .eq 7, 3)]
theorem e151_9 : am_dec am_M151 q151_9 = true := by decide +kernel
theorem b151_9 {d : Nat} {Q : Option Value ⊕ Nat → am_Mem → Prop} {μ : am_Mem} {r0 r90 : Nat} {x1 x2 x3 : Int32}
    (k1 : x2 = 0 → Wp d 151 (17, [some (.ref r0), some (.int x1), some (.int x2), some (.int x3)], [.ref r90], μ) Q) (k2 : ¬ (x2 = 0) → Wp d 151 (13, [some (.ref r0), some (.int x1), some (.int x2), some (.int x3)], [.ref r90], μ) Q) :
    Wp d 151 (9, [some (.ref r0), some (.int x1), some (.int x2), some (.int x3)], [.ref r90], μ) Q := wp_blk rfl e151_9 (And.intro k1 k2)
def q151_13 : List (Nat × Instr × Nat) := [(13, .iconst 2, 1), (14, .goto 12, 3)]
theorem e151_13 : am_dec am_M151 q151_13 = true := by decide +kernel
theorem b151_13 {d : Nat} {Q : Option Value ⊕ Nat → am_Mem → Prop} {μ : am_Mem} {r0 r90 : Nat} {x1 x2 x3 : Int32}
    (k : Wp d 151 (26, [some (.ref r0), some (.int x1), some (.int x2), some (.int x3)], [.int (Int32.ofInt 2), .ref r90], μ) Q) :
    Wp d 151 (13, [some (.ref r0), some (.int x1), some (.int x2), some (.int x3)], [.ref r90], μ) Q := wp_blk rfl e151_13 k
def q151_17 : List (Nat × Instr × Nat) := [(17, .iload_n 3, 1), (18, .ifCond .eq 7, 3)]
theorem e151_17 : am_dec am_M151 q151_17 = true := by decide +kernel
theorem b151_17 {d : Nat} {Q : Option Value ⊕ Nat → am_Mem → Prop} {μ : am_Mem} {r0 r90 : Nat} {x1 x2 x3 : Int32}
    (k1 : x3 = 0 → Wp d 151 (25, [some (.ref r0), some (.int x1), some (.int x2), some (.int x3)], [.ref r90], μ) Q) (k2 : ¬ (x3 = 0) → Wp d 151 (21, [some (.ref r0), some (.int x1), some (.int x2), some (.int x3)], [.ref r90], μ) Q) :
    Wp d 151 (17, [some (.ref r0), some (.int x1), some (.int x2), some (.int x3)], [.ref r90], μ) Q := wp_blk rfl e151_17 (And.intro k1 k2)
def q151_21 : List (Nat × Instr × Nat) := [(21, .iconst 3, 1), (22, .goto 4, 3)]
theorem e151_21 : am_dec am_M151 q151_21 = true := by decide +kernel
theorem b151_21 {d : Nat} {Q : Option Value ⊕ Nat → am_Mem → Prop} {μ : am_Mem} {r0 r90 : Nat} {x1 x2 x3 : Int32}
    (k : Wp d 151 (26, [some (.ref r0), some (.int x1), some (.int x2), some (.int x3)], [.int (Int32.ofInt 3), .ref r90], μ) Q) :
    Wp d 151 (21, [some (.ref r0), some (.int x1), some (.int x2), some (.int x3)], [.ref r90], μ) Q := wp_blk rfl e151_21 k
def q151_25 : List (Nat × Instr × Nat) := [(25, .iconst 0, 1)]
theorem e151_25 : am_dec am_M151 q151_25 = true := by decide +kernel
theorem b151_25 {d : Nat} {Q : Option Value ⊕ Nat → am_Mem → Prop} {μ : am_Mem} {r0 r90 : Nat} {x1 x2 x3 : Int32}
    (k : Wp d 151 (26, [some (.ref r0), some (.int x1), some (.int x2), some (.int x3)], [.int (Int32.ofInt 0), .ref r90], μ) Q) :
    Wp d 151 (25, [some (.ref r0), some (.int x1), some (.int x2), some (.int x3)], [.ref r90], μ) Q := wp_blk rfl e151_25 k
def q151_26 : List (Nat × Instr × Nat) := [(26, .putfield 198, 3), (29, .aload_n 0, 1), (30, .getfield 198, 3), (33, .ifCond .le 7, 3)]
theorem e151_26 : am_dec am_M151 q151_26 = true := by decide +kernel
theorem b151_26 {d : Nat} {Q : Option Value ⊕ Nat → am_Mem → Prop} {μ : am_Mem} {r0 r90 : Nat} {x1 x2 x3 s1 : Int32}
    (h1 : am_kd μ r90 = (1, 12))
    (h2 : am_kd (am_pA μ r90 0 s1) r0 = (1, 12))
    (k1 : (am_A (am_pA μ r90 0 s1) r0 0) ≤ 0 → Wp d 151 (40, [some (.ref r0), some (.int x1), some (.int x2), some (.int x3)], [], (am_pA μ r90 0 s1)) Q) (k2 : ¬ ((am_A (am_pA μ r90 0 s1) r0 0) ≤ 0) → Wp d 151 (36, [some (.ref r0), some (.int x1), some (.int x2), some (.int x3)], [], (am_pA μ r90 0 s1)) Q) :
    Wp d 151 (26, [some (.ref r0), some (.int x1), some (.int x2), some (.int x3)], [.int s1, .ref r90], μ) Q := wp_blk rfl e151_26 (And.intro h1 (And.intro ⟨rfl, rfl⟩ (And.intro h2 (And.intro k1 k2))))
def q151_36 : List (Nat × Instr × Nat) := [(36, .iconst 1, 1), (37, .goto 4, 3)]
theorem e151_36 : am_dec am_M151 q151_36 = true := by decide +kernel
theorem b151_36 {d : Nat} {Q : Option Value ⊕ Nat → am_Mem → Prop} {μ : am_Mem} {r0 : Nat} {x1 x2 x3 : Int32}
    (k : Wp d 151 (41, [some (.ref r0), some (.int x1), some (.int x2), some (.int x3)], [.int (Int32.ofInt 1)], μ) Q) :
    Wp d 151 (36, [some (.ref r0), some (.int x1), some (.int x2), some (.int x3)], [], μ) Q := wp_blk rfl e151_36 k
def q151_40 : List (Nat × Instr × Nat) := [(40, .iconst 0, 1)]
theorem e151_40 : am_dec am_M151 q151_40 = true := by decide +kernel
theorem b151_40 {d : Nat} {Q : Option Value ⊕ Nat → am_Mem → Prop} {μ : am_Mem} {r0 : Nat} {x1 x2 x3 : Int32}
    (k : Wp d 151 (41, [some (.ref r0), some (.int x1), some (.int x2), some (.int x3)], [.int (Int32.ofInt 0)], μ) Q) :
    Wp d 151 (40, [some (.ref r0), some (.int x1), some (.int x2), some (.int x3)], [], μ) Q := wp_blk rfl e151_40 k
theorem e151_41_r : am_dec am_M151 [(41, .ireturn, 1)] = true := by decide +kernel
theorem b151_41 {d : Nat} {Q : Option Value ⊕ Nat → am_Mem → Prop} {μ : am_Mem} {r0 : Nat} {x1 x2 x3 s0 : Int32}
    (hn : narrow .boolean (.int s0) = .int s0 ∧ fits .boolean (.int s0) = true)
    (k : Q (.inl (some (.int s0))) μ) :
    Wp d 151 (41, [some (.ref r0), some (.int x1), some (.int x2), some (.int x3)], [.int s0], μ) Q := (wp_ri (ty := .boolean) rfl e151_41_r rfl hn k)
/-! RuleSheetsModel.end(I)V -/
def q152_0 : List (Nat × Instr × Nat) := [(0, .aload_n 0, 1), (1, .iload_n 1, 1), (2, .i2l, 1), (3, .lconst 0, 1), (4, .aload_n 0, 1), (5, .getfield 209, 3), (8, .i2l, 1)]
theorem e152_0 : am_dec am_M152 q152_0 = true := by decide +kernel
theorem e152_0_c : am_dc1 am_M152 9 (.invokestatic 205) 3 = true := by decide +kernel
theorem b152_0 {d : Nat} {Q : Option Value ⊕ Nat → am_Mem → Prop} {μ : am_Mem} {r0 : Nat} {x1 : Int32} {P : Int32 → am_Mem → Prop} {X : Nat → am_Mem → Prop}
    (h1 : am_kd μ r0 = (1, 12))
    (hc : Wp d 150 (0, [some (.long x1.toInt64), none, some (.long (Int64.ofNat 0)), none, some (.long ((am_A μ r0 2).toInt64)), none], [], μ) (pI P X)) (hr : ∀ x μ', P x μ' → Wp (d + 1) 152 (12, [some (.ref r0), some (.int x1)], [.int x, .ref r0], (μ')) Q)
    (hx : ∀ x μ', X x μ' → Q (.inr x) μ') :
    Wp (d + 1) 152 (0, [some (.ref r0), some (.int x1)], [], μ) Q := wp_blk rfl e152_0 (And.intro h1 (wp_cs (vs := [.long x1.toInt64, .long (Int64.ofNat 0), .long ((am_A μ r0 2).toInt64)]) rfl e152_0_c rfl rfl rfl rfl rfl hc (fun v μ' hv => by obtain ⟨x, rfl, hp⟩ := pI_r hv; exact hr x μ' hp) hx))
def q152_12 : List (Nat × Instr × Nat) := [(12, .ifCond .ne 7, 3)]
theorem e152_12 : am_dec am_M152 q152_12 = true := by decide +kernel
theorem b152_12 {d : Nat} {Q : Option Value ⊕ Nat → am_Mem → Prop} {μ : am_Mem} {r0 r90 : Nat} {x1 s1 : Int32}
    (k1 : ¬ s1 = 0 → Wp d 152 (19, [some (.ref r0), some (.int x1)], [.ref r90], μ) Q) (k2 : ¬ (¬ s1 = 0) → Wp d 152 (15, [some (.ref r0), some (.int x1)], [.ref r90], μ) Q) :
    Wp d 152 (12, [some (.ref r0), some (.int x1)], [.int s1, .ref r90], μ) Q := wp_blk rfl e152_12 (And.intro k1 k2)
def q152_15 : List (Nat × Instr × Nat) := [(15, .iconst 1, 1), (16, .goto 4, 3)]
theorem e152_15 : am_dec am_M152 q152_15 = true := by decide +kernel
theorem b152_15 {d : Nat} {Q : Option Value ⊕ Nat → am_Mem → Prop} {μ : am_Mem} {r0 r90 : Nat} {x1 : Int32}
    (k : Wp d 152 (20, [some (.ref r0), some (.int x1)], [.int (Int32.ofInt 1), .ref r90], μ) Q) :
    Wp d 152 (15, [some (.ref r0), some (.int x1)], [.ref r90], μ) Q := wp_blk rfl e152_15 k
def q152_19 : List (Nat × Instr × Nat) := [(19, .iconst 0, 1)]
theorem e152_19 : am_dec am_M152 q152_19 = true := by decide +kernel
theorem b152_19 {d : Nat} {Q : Option Value ⊕ Nat → am_Mem → Prop} {μ : am_Mem} {r0 r90 : Nat} {x1 : Int32}
    (k : Wp d 152 (20, [some (.ref r0), some (.int x1)], [.int (Int32.ofInt 0), .ref r90], μ) Q) :
    Wp d 152 (19, [some (.ref r0), some (.int x1)], [.ref r90], μ) Q := wp_blk rfl e152_19 k
def q152_20 : List (Nat × Instr × Nat) := [(20, .iconst 0, 1), (21, .iconst 0, 1)]
theorem e152_20 : am_dec am_M152 q152_20 = true := by decide +kernel
theorem e152_20_c : am_dc1 am_M152 22 (.invokevirtual 212) 3 = true := by decide +kernel
theorem b152_20 {d : Nat} {Q : Option Value ⊕ Nat → am_Mem → Prop} {μ : am_Mem} {r0 r90 : Nat} {x1 s1 : Int32} {P : Int32 → am_Mem → Prop} {X : Nat → am_Mem → Prop}
    (hk : am_kd μ r90 = (1, 12))
    (hc : Wp d 151 (0, [some (.ref r90), some (.int s1), some (.int (Int32.ofInt 0)), some (.int (Int32.ofInt 0))], [], μ) (pI P X)) (hr : ∀ x μ', P x μ' → Wp (d + 1) 152 (25, [some (.ref r0), some (.int x1)], [.int x], (μ')) Q)
    (hx : ∀ x μ', X x μ' → Q (.inr x) μ') :
    Wp (d + 1) 152 (20, [some (.ref r0), some (.int x1)], [.int s1, .ref r90], μ) Q := wp_blk rfl e152_20 (wp_cv (as := [.int s1, .int (Int32.ofInt 0), .int (Int32.ofInt 0)]) rfl e152_20_c rfl rfl rfl rfl rfl hk hc (fun v μ' hv => by obtain ⟨x, rfl, hp⟩ := pI_r hv; exact hr x μ' hp) hx)
def q152_25 : List (Nat × Instr × Nat) := [(25, .ifCond .ne 8, 3)]
theorem e152_25 : am_dec am_M152 q152_25 = true := by decide +kernel
theorem b152_25 {d : Nat} {Q : Option Value ⊕ Nat → am_Mem → Prop} {μ : am_Mem} {r0 : Nat} {x1 s0 : Int32}
    (k1 : ¬ s0 = 0 → Wp d 152 (33, [some (.ref r0), some (.int x1)], [], μ) Q) (k2 : ¬ (¬ s0 = 0) → Wp d 152 (28, [some (.ref r0), some (.int x1)], [], μ) Q) :
    Wp d 152 (25, [some (.ref r0), some (.int x1)], [.int s0], μ) Q := wp_blk rfl e152_25 (And.intro k1 k2)
def q152_28 : List (Nat × Instr × Nat) := [(28, .aload_n 0, 1), (29, .iload_n 1, 1), (30, .putfield 209, 3)]
theorem e152_28 : am_dec am_M152 q152_28 = true := by decide +kernel
theorem b152_28 {d : Nat} {Q : Option Value ⊕ Nat → am_Mem → Prop} {μ : am_Mem} {r0 : Nat} {x1 : Int32}
    (h1 : am_kd μ r0 = (1, 12))
    (k : Wp d 152 (33, [some (.ref r0), some (.int x1)], [], (am_pA μ r0 2 x1)) Q) :
    Wp d 152 (28, [some (.ref r0), some (.int x1)], [], μ) Q := wp_blk rfl e152_28 (And.intro h1 (And.intro ⟨rfl, rfl⟩ k))
theorem e152_33_r : am_dec am_M152 [(33, .return_, 1)] = true := by decide +kernel
theorem b152_33 {d : Nat} {Q : Option Value ⊕ Nat → am_Mem → Prop} {μ : am_Mem} {r0 : Nat} {x1 : Int32}
    (k : Q (.inl none) μ) :
    Wp d 152 (33, [some (.ref r0), some (.int x1)], [], μ) Q := (wp_rv rfl e152_33_r rfl k)
/-! RuleSheetsModel.read()I -/
def q153_0 : List (Nat × Instr × Nat) := [(0, .aload_n 0, 1), (1, .iconst 0, 1), (2, .putfield 198, 3), (5, .aload_n 0, 1), (6, .iconst 0, 1)]
theorem e153_0 : am_dec am_M153 q153_0 = true := by decide +kernel
theorem e153_0_c : am_dc1 am_M153 7 (.invokevirtual 574) 3 = true := by decide +kernel
theorem b153_0 {d : Nat} {Q : Option Value ⊕ Nat → am_Mem → Prop} {μ : am_Mem} {r0 : Nat} {P : am_Mem → Prop} {X : Nat → am_Mem → Prop}
    (h1 : am_kd μ r0 = (1, 12))
    (hk : am_kd (am_pA μ r0 0 (Int32.ofInt 0)) r0 = (1, 12))
    (hc : Wp d 154 (0, [some (.ref r0), some (.int (Int32.ofInt 0)), none], [], (am_pA μ r0 0 (Int32.ofInt 0))) (pV P X)) (hr : ∀ μ', P μ' → Wp (d + 1) 153 (10, [some (.ref r0), none, none], [], (μ')) Q)
    (hx : ∀ x μ', X x μ' → Q (.inr x) μ') :
    Wp (d + 1) 153 (0, [some (.ref r0), none, none], [], μ) Q := wp_blk rfl e153_0 (And.intro h1 (And.intro ⟨rfl, rfl⟩ (wp_cv (as := [.int (Int32.ofInt 0)]) rfl e153_0_c rfl rfl rfl rfl rfl hk hc (fun v μ' hv => by obtain ⟨rfl, hp⟩ := pV_r hv; exact hr μ' hp) hx)))
def q153_10 : List (Nat × Instr × Nat) := [(10, .aload_n 0, 1)]
theorem e153_10 : am_dec am_M153 q153_10 = true := by decide +kernel
theorem e153_10_c : am_dc1 am_M153 11 (.invokevirtual 578) 3 = true := by decide +kernel
theorem b153_10 {d : Nat} {Q : Option Value ⊕ Nat → am_Mem → Prop} {μ : am_Mem} {r0 : Nat} {P : am_Mem → Prop} {X : Nat → am_Mem → Prop}
    (hk : am_kd μ r0 = (1, 12))
    (hc : Wp d 155 (0, [some (.ref r0)], [], μ) (pV P X)) (hr : ∀ μ', P μ' → Wp (d + 1) 153 (14, [some (.ref r0), none, none], [], (μ')) Q)
    (hx : ∀ x μ', X x μ' → Q (.inr x) μ') :
    Wp (d + 1) 153 (10, [some (.ref r0), none, none], [], μ) Q := wp_blk rfl e153_10 (wp_cv (as := []) rfl e153_10_c rfl rfl rfl rfl rfl hk hc (fun v μ' hv => by obtain ⟨rfl, hp⟩ := pV_r hv; exact hr μ' hp) hx)
def q153_14 : List (Nat × Instr × Nat) := [(14, .aload_n 0, 1)]
theorem e153_14 : am_dec am_M153 q153_14 = true := by decide +kernel
theorem e153_14_c : am_dc1 am_M153 15 (.invokevirtual 581) 3 = true := by decide +kernel
theorem b153_14 {d : Nat} {Q : Option Value ⊕ Nat → am_Mem → Prop} {μ : am_Mem} {r0 : Nat} {P : am_Mem → Prop} {X : Nat → am_Mem → Prop}
    (hk : am_kd μ r0 = (1, 12))
    (hc : Wp d 182 (0, [some (.ref r0)], [], μ) (pV P X)) (hr : ∀ μ', P μ' → Wp (d + 1) 153 (18, [some (.ref r0), none, none], [], (μ')) Q)
    (hx : ∀ x μ', X x μ' → Q (.inr x) μ') :
    Wp (d + 1) 153 (14, [some (.ref r0), none, none], [], μ) Q := wp_blk rfl e153_14 (wp_cv (as := []) rfl e153_14_c rfl rfl rfl rfl rfl hk hc (fun v μ' hv => by obtain ⟨rfl, hp⟩ := pV_r hv; exact hr μ' hp) hx)
def q153_18 : List (Nat × Instr × Nat) := [(18, .aload_n 0, 1), (19, .getfield 258, 3), (22, .istore_n 1, 1), (23, .aload_n 0, 1), (24, .iload_n 1, 1), (25, .ifCond .le 10, 3)]
theorem e153_18 : am_dec am_M153 q153_18 = true := by decide +kernel
theorem b153_18 {d : Nat} {Q : Option Value ⊕ Nat → am_Mem → Prop} {μ : am_Mem} {r0 : Nat}
    (h1 : am_kd μ r0 = (1, 12))
    (k1 : (am_A μ r0 32) ≤ 0 → Wp d 153 (35, [some (.ref r0), some (.int (am_A μ r0 32)), none], [.ref r0], μ) Q) (k2 : ¬ ((am_A μ r0 32) ≤ 0) → Wp d 153 (28, [some (.ref r0), some (.int (am_A μ r0 32)), none], [.ref r0], μ) Q) :
    Wp d 153 (18, [some (.ref r0), none, none], [], μ) Q := wp_blk rfl e153_18 (And.intro h1 (And.intro k1 k2))
def q153_28 : List (Nat × Instr × Nat) := [(28, .aload_n 0, 1), (29, .getfield 261, 3), (32, .goto 4, 3)]
theorem e153_28 : am_dec am_M153 q153_28 = true := by decide +kernel
theorem b153_28 {d : Nat} {Q : Option Value ⊕ Nat → am_Mem → Prop} {μ : am_Mem} {r0 r90 : Nat} {x1 : Int32}
    (h1 : am_kd μ r0 = (1, 12))
    (k : Wp d 153 (36, [some (.ref r0), some (.int x1), none], [.int (am_A μ r0 33), .ref r90], μ) Q) :
    Wp d 153 (28, [some (.ref r0), some (.int x1), none], [.ref r90], μ) Q := wp_blk rfl e153_28 (And.intro h1 k)
def q153_35 : List (Nat × Instr × Nat) := [(35, .iconst (-1), 1)]
theorem e153_35 : am_dec am_M153 q153_35 = true := by decide +kernel
theorem b153_35 {d : Nat} {Q : Option Value ⊕ Nat → am_Mem → Prop} {μ : am_Mem} {r0 r90 : Nat} {x1 : Int32}
    (k : Wp d 153 (36, [some (.ref r0), some (.int x1), none], [.int (Int32.ofInt (-1)), .ref r90], μ) Q) :
    Wp d 153 (35, [some (.ref r0), some (.int x1), none], [.ref r90], μ) Q := wp_blk rfl e153_35 k
def q153_36 : List (Nat × Instr × Nat) := [(36, .putfield 13, 3), (39, .iload_n 1, 1), (40, .ifCond .le 14, 3)]
theorem e153_36 : am_dec am_M153 q153_36 = true := by decide +kernel
theorem b153_36 {d : Nat} {Q : Option Value ⊕ Nat → am_Mem → Prop} {μ : am_Mem} {r0 r90 : Nat} {x1 s1 : Int32}
    (h1 : am_kd μ r90 = (1, 12))
    (k1 : x1 ≤ 0 → Wp d 153 (54, [some (.ref r0), some (.int x1), none], [], (am_pA μ r90 3 s1)) Q) (k2 : ¬ (x1 ≤ 0) → Wp d 153 (43, [some (.ref r0), some (.int x1), none], [], (am_pA μ r90 3 s1)) Q) :
    Wp d 153 (36, [some (.ref r0), some (.int x1), none], [.int s1, .ref r90], μ) Q := wp_blk rfl e153_36 (And.intro h1 (And.intro ⟨rfl, rfl⟩ (And.intro k1 k2)))
def q153_43 : List (Nat × Instr × Nat) := [(43, .aload_n 0, 1), (44, .iconst 1, 1)]
theorem e153_43 : am_dec am_M153 q153_43 = true := by decide +kernel
theorem e153_43_c : am_dc1 am_M153 45 (.invokevirtual 574) 3 = true := by decide +kernel
theorem b153_43 {d : Nat} {Q : Option Value ⊕ Nat → am_Mem → Prop} {μ : am_Mem} {r0 : Nat} {x1 : Int32} {P : am_Mem → Prop} {X : Nat → am_Mem → Prop}
    (hk : am_kd μ r0 = (1, 12))
    (hc : Wp d 154 (0, [some (.ref r0), some (.int (Int32.ofInt 1)), none], [], μ) (pV P X)) (hr : ∀ μ', P μ' → Wp (d + 1) 153 (48, [some (.ref r0), some (.int x1), none], [], (μ')) Q)
    (hx : ∀ x μ', X x μ' → Q (.inr x) μ') :
    Wp (d + 1) 153 (43, [some (.ref r0), some (.int x1), none], [], μ) Q := wp_blk rfl e153_43 (wp_cv (as := [.int (Int32.ofInt 1)]) rfl e153_43_c rfl rfl rfl rfl rfl hk hc (fun v μ' hv => by obtain ⟨rfl, hp⟩ := pV_r hv; exact hr μ' hp) hx)
def q153_48 : List (Nat × Instr × Nat) := [(48, .aload_n 0, 1)]
theorem e153_48 : am_dec am_M153 q153_48 = true := by decide +kernel
theorem e153_48_c : am_dc1 am_M153 49 (.invokevirtual 578) 3 = true := by decide +kernel
theorem b153_48 {d : Nat} {Q : Option Value ⊕ Nat → am_Mem → Prop} {μ : am_Mem} {r0 : Nat} {x1 : Int32} {P : am_Mem → Prop} {X : Nat → am_Mem → Prop}
    (hk : am_kd μ r0 = (1, 12))
    (hc : Wp d 155 (0, [some (.ref r0)], [], μ) (pV P X)) (hr : ∀ μ', P μ' → Wp (d + 1) 153 (52, [some (.ref r0), some (.int x1), none], [], (μ')) Q)
    (hx : ∀ x μ', X x μ' → Q (.inr x) μ') :
    Wp (d + 1) 153 (48, [some (.ref r0), some (.int x1), none], [], μ) Q := wp_blk rfl e153_48 (wp_cv (as := []) rfl e153_48_c rfl rfl rfl rfl rfl hk hc (fun v μ' hv => by obtain ⟨rfl, hp⟩ := pV_r hv; exact hr μ' hp) hx)
def q153_52 : List (Nat × Instr × Nat) := [(52, .iload_n 1, 1)]
theorem e153_52 : am_dec am_M153 q153_52 = true := by decide +kernel
theorem e153_52_r : am_dec am_M153 [(53, .ireturn, 1)] = true := by decide +kernel
theorem b153_52 {d : Nat} {Q : Option Value ⊕ Nat → am_Mem → Prop} {μ : am_Mem} {r0 : Nat} {x1 : Int32}
    (k : Q (.inl (some (.int x1))) μ) :
    Wp d 153 (52, [some (.ref r0), some (.int x1), none], [], μ) Q := wp_blk rfl e153_52 (wp_ri (ty := .int) rfl e153_52_r rfl ⟨rfl, rfl⟩ k)
def q153_54 : List (Nat × Instr × Nat) := [(54, .aload_n 0, 1), (55, .iconst 1, 1), (56, .putfield 584, 3), (59, .aload_n 0, 1), (60, .aload_n 0, 1), (61, .getfield 216, 3), (64, .putfield 571, 3)]
theorem e153_54 : am_dec am_M153 q153_54 = true := by decide +kernel
theorem b153_54 {d : Nat} {Q : Option Value ⊕ Nat → am_Mem → Prop} {μ : am_Mem} {r0 : Nat} {x1 : Int32}
    (h1 : am_kd μ r0 = (1, 12))
    (h2 : am_kd (am_pA μ r0 4 (Int32.ofInt 1)) r0 = (1, 12))
    (h3 : am_kd (am_pA μ r0 4 (Int32.ofInt 1)) r0 = (1, 12))
    (k : Wp d 153 (67, [some (.ref r0), some (.int x1), none], [], (am_pA (am_pA μ r0 4 (Int32.ofInt 1)) r0 6 (am_A (am_pA μ r0 4 (Int32.ofInt 1)) r0 8))) Q) :
    Wp d 153 (54, [some (.ref r0), some (.int x1), none], [], μ) Q := wp_blk rfl e153_54 (And.intro h1 (And.intro (by decide) (And.intro h2 (And.intro h3 (And.intro ⟨rfl, rfl⟩ k)))))
def q153_67 : List (Nat × Instr × Nat) := [(67, .iconst 0, 1), (68, .istore_n 2, 1)]
theorem e153_67 : am_dec am_M153 q153_67 = true := by decide +kernel
theorem b153_67 {d : Nat} {Q : Option Value ⊕ Nat → am_Mem → Prop} {μ : am_Mem} {r0 : Nat} {x1 : Int32}
    (k : Wp d 153 (69, [some (.ref r0), some (.int x1), some (.int (Int32.ofInt 0))], [], μ) Q) :
    Wp d 153 (67, [some (.ref r0), some (.int x1), none], [], μ) Q := wp_blk rfl e153_67 k
def q153_69 : List (Nat × Instr × Nat) := [(69, .iload_n 2, 1), (70, .aload_n 0, 1), (71, .getfield 571, 3), (74, .if_icmp .ge 21, 3)]
theorem e153_69 : am_dec am_M153 q153_69 = true := by decide +kernel
theorem b153_69 {d : Nat} {Q : Option Value ⊕ Nat → am_Mem → Prop} {μ : am_Mem} {r0 : Nat} {x1 x2 : Int32}
    (h1 : am_kd μ r0 = (1, 12))
    (k1 : (am_A μ r0 6) ≤ x2 → Wp d 153 (95, [some (.ref r0), some (.int x1), some (.int x2)], [], μ) Q) (k2 : ¬ ((am_A μ r0 6) ≤ x2) → Wp d 153 (77, [some (.ref r0), some (.int x1), some (.int x2)], [], μ) Q) :
    Wp d 153 (69, [some (.ref r0), some (.int x1), some (.int x2)], [], μ) Q := wp_blk rfl e153_69 (And.intro h1 (And.intro k1 k2))
def q153_77 : List (Nat × Instr × Nat) := [(77, .aload_n 0, 1), (78, .getfield 17, 3), (81, .iload_n 2, 1), (82, .aload_n 0, 1), (83, .getfield 20, 3), (86, .iload_n 2, 1), (87, .iaload, 1), (88, .iastore, 1), (89, .iinc 2 1, 3), (92, .goto (-23), 3)]
theorem e153_77 : am_dec am_M153 q153_77 = true := by decide +kernel
theorem b153_77 {d : Nat} {Q : Option Value ⊕ Nat → am_Mem → Prop} {μ : am_Mem} {r0 : Nat} {x1 x2 : Int32}
    (h1 : am_kd μ r0 = (1, 12))
    (h2 : ¬ am_F μ r0 5 = 15)
    (h3 : am_kd μ r0 = (1, 12))
    (h4 : ¬ am_F μ r0 7 = 15)
    (h5 : (am_kd μ (am_F μ r0 7)).1 = 2 ∨ (am_kd μ (am_F μ r0 7)).1 = 8)
    (h6 : ¬ (x2 < 0 ∨ (am_kd μ (am_F μ r0 7)).2 ≤ x2.toNatClampNeg))
    (h7 : (am_kd μ (am_F μ r0 5)).1 = 2)
    (h8 : ¬ (x2 < 0 ∨ (am_kd μ (am_F μ r0 5)).2 ≤ x2.toNatClampNeg))
    (k : Wp d 153 (69, [some (.ref r0), some (.int x1), some (.int (x2 + Int32.ofInt 1))], [], (am_pA μ (am_F μ r0 5) x2.toNatClampNeg (am_A μ (am_F μ r0 7) x2.toNatClampNeg))) Q) :
    Wp d 153 (77, [some (.ref r0), some (.int x1), some (.int x2)], [], μ) Q := wp_blk rfl e153_77 (And.intro h1 (And.intro h2 (And.intro h3 (And.intro h4 (And.intro h5 (And.intro h6 (And.intro h7 (And.intro h8 k))))))))
def q153_95 : List (Nat × Instr × Nat) := [(95, .aload_n 0, 1)]
theorem e153_95 : am_dec am_M153 q153_95 = true := by decide +kernel
theorem e153_95_c : am_dc1 am_M153 96 (.invokevirtual 587) 3 = true := by decide +kernel
theorem b153_95 {d : Nat} {Q : Option Value ⊕ Nat → am_Mem → Prop} {μ : am_Mem} {r0 : Nat} {x1 x2 : Int32} {P : am_Mem → Prop} {X : Nat → am_Mem → Prop}
    (hk : am_kd μ r0 = (1, 12))
    (hc : Wp d 201 (0, [some (.ref r0), none, none, none, none], [], μ) (pV P X)) (hr : ∀ μ', P μ' → Wp (d + 1) 153 (99, [some (.ref r0), some (.int x1), some (.int x2)], [], (μ')) Q)
    (hx : ∀ x μ', X x μ' → Q (.inr x) μ') :
    Wp (d + 1) 153 (95, [some (.ref r0), some (.int x1), some (.int x2)], [], μ) Q := wp_blk rfl e153_95 (wp_cv (as := []) rfl e153_95_c rfl rfl rfl rfl rfl hk hc (fun v μ' hv => by obtain ⟨rfl, hp⟩ := pV_r hv; exact hr μ' hp) hx)
def q153_99 : List (Nat × Instr × Nat) := [(99, .aload_n 0, 1), (100, .iconst 0, 1), (101, .putfield 590, 3), (104, .aload_n 0, 1), (105, .iconst 0, 1), (106, .putfield 542, 3), (109, .aload_n 0, 1), (110, .iconst 0, 1), (111, .putfield 593, 3)]
theorem e153_99 : am_dec am_M153 q153_99 = true := by decide +kernel
theorem b153_99 {d : Nat} {Q : Option Value ⊕ Nat → am_Mem → Prop} {μ : am_Mem} {r0 : Nat} {x1 x2 : Int32}
    (h1 : am_kd μ r0 = (1, 12))
    (h2 : am_kd (am_pA μ r0 72 (Int32.ofInt 0)) r0 = (1, 12))
    (h3 : am_kd (am_pA (am_pA μ r0 72 (Int32.ofInt 0)) r0 75 (Int32.ofInt 0)) r0 = (1, 12))
    (k : Wp d 153 (114, [some (.ref r0), some (.int x1), some (.int x2)], [], (am_pA (am_pA (am_pA μ r0 72 (Int32.ofInt 0)) r0 75 (Int32.ofInt 0)) r0 81 (Int32.ofInt 0))) Q) :
    Wp d 153 (99, [some (.ref r0), some (.int x1), some (.int x2)], [], μ) Q := wp_blk rfl e153_99 (And.intro h1 (And.intro (by decide) (And.intro h2 (And.intro (by decide) (And.intro h3 (And.intro (by decide) k))))))
def q153_114 : List (Nat × Instr × Nat) := [(114, .iconst 0, 1)]
theorem e153_114 : am_dec am_M153 q153_114 = true := by decide +kernel
theorem e153_114_r : am_dec am_M153 [(115, .ireturn, 1)] = true := by decide +kernel
theorem b153_114 {d : Nat} {Q : Option Value ⊕ Nat → am_Mem → Prop} {μ : am_Mem} {r0 : Nat} {x1 x2 : Int32}
    (k : Q (.inl (some (.int (Int32.ofInt 0)))) μ) :
    Wp d 153 (114, [some (.ref r0), some (.int x1), some (.int x2)], [], μ) Q := wp_blk rfl e153_114 (wp_ri (ty := .int) rfl e153_114_r rfl ⟨rfl, rfl⟩ k)
/-! RuleSheetsModel.takeSheet(Z)V -/
def q154_0 : List (Nat × Instr × Nat) := [(0, .aload_n 0, 1), (1, .iload_n 1, 1), (2, .ifCond .eq 10, 3)]
theorem e154_0 : am_dec am_M154 q154_0 = true := by decide +kernel
theorem b154_0 {d : Nat} {Q : Option Value ⊕ Nat → am_Mem → Prop} {μ : am_Mem} {r0 : Nat} {x1 : Int32}
    (k1 : x1 = 0 → Wp d 154 (12, [some (.ref r0), some (.int x1), none], [.ref r0], μ) Q) (k2 : ¬ (x1 = 0) → Wp d 154 (5, [some (.ref r0), some (.int x1), none], [.ref r0], μ) Q) :
    Wp d 154 (0, [some (.ref r0), some (.int x1), none], [], μ) Q := wp_blk rfl e154_0 (And.intro k1 k2)
def q154_5 : List (Nat × Instr × Nat) := [(5, .aload_n 0, 1), (6, .getfield 571, 3), (9, .goto 7, 3)]
theorem e154_5 : am_dec am_M154 q154_5 = true := by decide +kernel
theorem b154_5 {d : Nat} {Q : Option Value ⊕ Nat → am_Mem → Prop} {μ : am_Mem} {r0 r90 : Nat} {x1 : Int32}
    (h1 : am_kd μ r0 = (1, 12))
    (k : Wp d 154 (16, [some (.ref r0), some (.int x1), none], [.int (am_A μ r0 6), .ref r90], μ) Q) :
    Wp d 154 (5, [some (.ref r0), some (.int x1), none], [.ref r90], μ) Q := wp_blk rfl e154_5 (And.intro h1 k)
def q154_12 : List (Nat × Instr × Nat) := [(12, .aload_n 0, 1), (13, .getfield 209, 3)]
theorem e154_12 : am_dec am_M154 q154_12 = true := by decide +kernel
theorem b154_12 {d : Nat} {Q : Option Value ⊕ Nat → am_Mem → Prop} {μ : am_Mem} {r0 r90 : Nat} {x1 : Int32}
    (h1 : am_kd μ r0 = (1, 12))
    (k : Wp d 154 (16, [some (.ref r0), some (.int x1), none], [.int (am_A μ r0 2), .ref r90], μ) Q) :
    Wp d 154 (12, [some (.ref r0), some (.int x1), none], [.ref r90], μ) Q := wp_blk rfl e154_12 (And.intro h1 k)
def q154_16 : List (Nat × Instr × Nat) := [(16, .putfield 216, 3), (19, .iconst 0, 1), (20, .istore_n 2, 1)]
theorem e154_16 : am_dec am_M154 q154_16 = true := by decide +kernel
theorem b154_16 {d : Nat} {Q : Option Value ⊕ Nat → am_Mem → Prop} {μ : am_Mem} {r0 r90 : Nat} {x1 s1 : Int32}
    (h1 : am_kd μ r90 = (1, 12))
    (k : Wp d 154 (21, [some (.ref r0), some (.int x1), some (.int (Int32.ofInt 0))], [], (am_pA μ r90 8 s1)) Q) :
    Wp d 154 (16, [some (.ref r0), some (.int x1), none], [.int s1, .ref r90], μ) Q := wp_blk rfl e154_16 (And.intro h1 (And.intro ⟨rfl, rfl⟩ k))
def q154_21 : List (Nat × Instr × Nat) := [(21, .iload_n 2, 1), (22, .aload_n 0, 1), (23, .getfield 216, 3), (26, .if_icmp .ge 34, 3)]
theorem e154_21 : am_dec am_M154 q154_21 = true := by decide +kernel
theorem b154_21 {d : Nat} {Q : Option Value ⊕ Nat → am_Mem → Prop} {μ : am_Mem} {r0 : Nat} {x1 x2 : Int32}
    (h1 : am_kd μ r0 = (1, 12))
    (k1 : (am_A μ r0 8) ≤ x2 → Wp d 154 (60, [some (.ref r0), some (.int x1), some (.int x2)], [], μ) Q) (k2 : ¬ ((am_A μ r0 8) ≤ x2) → Wp d 154 (29, [some (.ref r0), some (.int x1), some (.int x2)], [], μ) Q) :
    Wp d 154 (21, [some (.ref r0), some (.int x1), some (.int x2)], [], μ) Q := wp_blk rfl e154_21 (And.intro h1 (And.intro k1 k2))
def q154_29 : List (Nat × Instr × Nat) := [(29, .aload_n 0, 1), (30, .getfield 20, 3), (33, .iload_n 2, 1), (34, .iload_n 1, 1), (35, .ifCond .eq 12, 3)]
theorem e154_29 : am_dec am_M154 q154_29 = true := by decide +kernel
theorem b154_29 {d : Nat} {Q : Option Value ⊕ Nat → am_Mem → Prop} {μ : am_Mem} {r0 : Nat} {x1 x2 : Int32}
    (h1 : am_kd μ r0 = (1, 12))
    (h2 : ¬ am_F μ r0 7 = 15)
    (k1 : x1 = 0 → Wp d 154 (47, [some (.ref r0), some (.int x1), some (.int x2)], [.int x2, .ref (am_F μ r0 7)], μ) Q) (k2 : ¬ (x1 = 0) → Wp d 154 (38, [some (.ref r0), some (.int x1), some (.int x2)], [.int x2, .ref (am_F μ r0 7)], μ) Q) :
    Wp d 154 (29, [some (.ref r0), some (.int x1), some (.int x2)], [], μ) Q := wp_blk rfl e154_29 (And.intro h1 (And.intro h2 (And.intro k1 k2)))
def q154_38 : List (Nat × Instr × Nat) := [(38, .aload_n 0, 1), (39, .getfield 17, 3), (42, .iload_n 2, 1), (43, .iaload, 1), (44, .goto 9, 3)]
theorem e154_38 : am_dec am_M154 q154_38 = true := by decide +kernel
theorem b154_38 {d : Nat} {Q : Option Value ⊕ Nat → am_Mem → Prop} {μ : am_Mem} {r0 r90 : Nat} {x1 x2 s1 : Int32}
    (h1 : am_kd μ r0 = (1, 12))
    (h2 : ¬ am_F μ r0 5 = 15)
    (h3 : (am_kd μ (am_F μ r0 5)).1 = 2 ∨ (am_kd μ (am_F μ r0 5)).1 = 8)
    (h4 : ¬ (x2 < 0 ∨ (am_kd μ (am_F μ r0 5)).2 ≤ x2.toNatClampNeg))
    (k : Wp d 154 (53, [some (.ref r0), some (.int x1), some (.int x2)], [.int (am_A μ (am_F μ r0 5) x2.toNatClampNeg), .int s1, .ref r90], μ) Q) :
    Wp d 154 (38, [some (.ref r0), some (.int x1), some (.int x2)], [.int s1, .ref r90], μ) Q := wp_blk rfl e154_38 (And.intro h1 (And.intro h2 (And.intro h3 (And.intro h4 k))))
def q154_47 : List (Nat × Instr × Nat) := [(47, .aload_n 0, 1), (48, .getfield 7, 3), (51, .iload_n 2, 1), (52, .iaload, 1)]
theorem e154_47 : am_dec am_M154 q154_47 = true := by decide +kernel
theorem b154_47 {d : Nat} {Q : Option Value ⊕ Nat → am_Mem → Prop} {μ : am_Mem} {r0 r90 : Nat} {x1 x2 s1 : Int32}
    (h1 : am_kd μ r0 = (1, 12))
    (h2 : ¬ am_F μ r0 1 = 15)
    (h3 : (am_kd μ (am_F μ r0 1)).1 = 2 ∨ (am_kd μ (am_F μ r0 1)).1 = 8)
    (h4 : ¬ (x2 < 0 ∨ (am_kd μ (am_F μ r0 1)).2 ≤ x2.toNatClampNeg))
    (k : Wp d 154 (53, [some (.ref r0), some (.int x1), some (.int x2)], [.int (am_A μ (am_F μ r0 1) x2.toNatClampNeg), .int s1, .ref r90], μ) Q) :
    Wp d 154 (47, [some (.ref r0), some (.int x1), some (.int x2)], [.int s1, .ref r90], μ) Q := wp_blk rfl e154_47 (And.intro h1 (And.intro h2 (And.intro h3 (And.intro h4 k))))
def q154_53 : List (Nat × Instr × Nat) := [(53, .iastore, 1), (54, .iinc 2 1, 3), (57, .goto (-36), 3)]
theorem e154_53 : am_dec am_M154 q154_53 = true := by decide +kernel
theorem b154_53 {d : Nat} {Q : Option Value ⊕ Nat → am_Mem → Prop} {μ : am_Mem} {r0 r90 : Nat} {x1 x2 s1 s2 : Int32}
    (h1 : (am_kd μ r90).1 = 2)
    (h2 : ¬ (s1 < 0 ∨ (am_kd μ r90).2 ≤ s1.toNatClampNeg))
    (k : Wp d 154 (21, [some (.ref r0), some (.int x1), some (.int (x2 + Int32.ofInt 1))], [], (am_pA μ r90 s1.toNatClampNeg s2)) Q) :
    Wp d 154 (53, [some (.ref r0), some (.int x1), some (.int x2)], [.int s2, .int s1, .ref r90], μ) Q := wp_blk rfl e154_53 (And.intro h1 (And.intro h2 k))
theorem e154_60_r : am_dec am_M154 [(60, .return_, 1)] = true := by decide +kernel
theorem b154_60 {d : Nat} {Q : Option Value ⊕ Nat → am_Mem → Prop} {μ : am_Mem} {r0 : Nat} {x1 x2 : Int32}
    (k : Q (.inl none) μ) :
    Wp d 154 (60, [some (.ref r0), some (.int x1), some (.int x2)], [], μ) Q := (wp_rv rfl e154_60_r rfl k)
/-! RuleSheetsModel.readSigns()V -/
def q155_0 : List (Nat × Instr × Nat) := [(0, .aload_n 0, 1)]
theorem e155_0 : am_dec am_M155 q155_0 = true := by decide +kernel
theorem e155_0_c : am_dc1 am_M155 1 (.invokevirtual 363) 3 = true := by decide +kernel
theorem b155_0 {d : Nat} {Q : Option Value ⊕ Nat → am_Mem → Prop} {μ : am_Mem} {r0 : Nat} {P : am_Mem → Prop} {X : Nat → am_Mem → Prop}
    (hk : am_kd μ r0 = (1, 12))
    (hc : Wp d 156 (0, [some (.ref r0)], [], μ) (pV P X)) (hr : ∀ μ', P μ' → Wp (d + 1) 155 (4, [some (.ref r0)], [], (μ')) Q)
    (hx : ∀ x μ', X x μ' → Q (.inr x) μ') :
    Wp (d + 1) 155 (0, [some (.ref r0)], [], μ) Q := wp_blk rfl e155_0 (wp_cv (as := []) rfl e155_0_c rfl rfl rfl rfl rfl hk hc (fun v μ' hv => by obtain ⟨rfl, hp⟩ := pV_r hv; exact hr μ' hp) hx)
def q155_4 : List (Nat × Instr × Nat) := [(4, .aload_n 0, 1), (5, .iconst 0, 1), (6, .putfield 258, 3), (9, .aload_n 0, 1), (10, .iconst (-1), 1), (11, .putfield 261, 3), (14, .aload_n 0, 1), (15, .iconst 0, 1), (16, .putfield 287, 3)]
theorem e155_4 : am_dec am_M155 q155_4 = true := by decide +kernel
theorem b155_4 {d : Nat} {Q : Option Value ⊕ Nat → am_Mem → Prop} {μ : am_Mem} {r0 : Nat}
    (h1 : am_kd μ r0 = (1, 12))
    (h2 : am_kd (am_pA μ r0 32 (Int32.ofInt 0)) r0 = (1, 12))
    (h3 : am_kd (am_pA (am_pA μ r0 32 (Int32.ofInt 0)) r0 33 (Int32.ofInt (-1))) r0 = (1, 12))
    (k : Wp d 155 (19, [some (.ref r0)], [], (am_pA (am_pA (am_pA μ r0 32 (Int32.ofInt 0)) r0 33 (Int32.ofInt (-1))) r0 12 (Int32.ofInt 0))) Q) :
    Wp d 155 (4, [some (.ref r0)], [], μ) Q := wp_blk rfl e155_4 (And.intro h1 (And.intro ⟨rfl, rfl⟩ (And.intro h2 (And.intro ⟨rfl, rfl⟩ (And.intro h3 (And.intro ⟨rfl, rfl⟩ k))))))
def q155_19 : List (Nat × Instr × Nat) := [(19, .aload_n 0, 1), (20, .iconst 0, 1), (21, .putfield 284, 3), (24, .aload_n 0, 1), (25, .getfield 32, 3), (28, .iconst 0, 1), (29, .iconst 0, 1), (30, .iastore, 1)]
theorem e155_19 : am_dec am_M155 q155_19 = true := by decide +kernel
theorem b155_19 {d : Nat} {Q : Option Value ⊕ Nat → am_Mem → Prop} {μ : am_Mem} {r0 : Nat}
    (h1 : am_kd μ r0 = (1, 12))
    (h2 : am_kd (am_pA μ r0 15 (Int32.ofInt 0)) r0 = (1, 12))
    (h3 : ¬ am_F (am_pA μ r0 15 (Int32.ofInt 0)) r0 14 = 15)
    (h4 : (am_kd (am_pA μ r0 15 (Int32.ofInt 0)) (am_F (am_pA μ r0 15 (Int32.ofInt 0)) r0 14)).1 = 2)
    (h5 : ¬ ((Int32.ofInt 0) < 0 ∨ (am_kd (am_pA μ r0 15 (Int32.ofInt 0)) (am_F (am_pA μ r0 15 (Int32.ofInt 0)) r0 14)).2 ≤ (Int32.ofInt 0).toNatClampNeg))
    (k : Wp d 155 (31, [some (.ref r0)], [], (am_pA (am_pA μ r0 15 (Int32.ofInt 0)) (am_F (am_pA μ r0 15 (Int32.ofInt 0)) r0 14) (Int32.ofInt 0).toNatClampNeg (Int32.ofInt 0))) Q) :
    Wp d 155 (19, [some (.ref r0)], [], μ) Q := wp_blk rfl e155_19 (And.intro h1 (And.intro ⟨rfl, rfl⟩ (And.intro h2 (And.intro h3 (And.intro h4 (And.intro h5 k))))))
def q155_31 : List (Nat × Instr × Nat) := [(31, .aload_n 0, 1), (32, .iconst 0, 1), (33, .putfield 278, 3), (36, .aload_n 0, 1), (37, .iconst 0, 1), (38, .putfield 281, 3), (41, .aload_n 0, 1), (42, .iconst 0, 1), (43, .putfield 268, 3)]
theorem e155_31 : am_dec am_M155 q155_31 = true := by decide +kernel
theorem b155_31 {d : Nat} {Q : Option Value ⊕ Nat → am_Mem → Prop} {μ : am_Mem} {r0 : Nat}
    (h1 : am_kd μ r0 = (1, 12))
    (h2 : am_kd (am_pA μ r0 18 (Int32.ofInt 0)) r0 = (1, 12))
    (h3 : am_kd (am_pA (am_pA μ r0 18 (Int32.ofInt 0)) r0 22 (Int32.ofInt 0)) r0 = (1, 12))
    (k : Wp d 155 (46, [some (.ref r0)], [], (am_pA (am_pA (am_pA μ r0 18 (Int32.ofInt 0)) r0 22 (Int32.ofInt 0)) r0 34 (Int32.ofInt 0))) Q) :
    Wp d 155 (31, [some (.ref r0)], [], μ) Q := wp_blk rfl e155_31 (And.intro h1 (And.intro ⟨rfl, rfl⟩ (And.intro h2 (And.intro ⟨rfl, rfl⟩ (And.intro h3 (And.intro ⟨rfl, rfl⟩ k))))))
def q155_46 : List (Nat × Instr × Nat) := [(46, .aload_n 0, 1), (47, .iconst 0, 1), (48, .putfield 235, 3), (51, .aload_n 0, 1)]
theorem e155_46 : am_dec am_M155 q155_46 = true := by decide +kernel
theorem e155_46_c : am_dc1 am_M155 52 (.invokevirtual 275) 3 = true := by decide +kernel
theorem b155_46 {d : Nat} {Q : Option Value ⊕ Nat → am_Mem → Prop} {μ : am_Mem} {r0 : Nat} {P : am_Mem → Prop} {X : Nat → am_Mem → Prop}
    (h1 : am_kd μ r0 = (1, 12))
    (hk : am_kd (am_pA μ r0 31 (Int32.ofInt 0)) r0 = (1, 12))
    (hc : Wp d 158 (0, [some (.ref r0), none, none], [], (am_pA μ r0 31 (Int32.ofInt 0))) (pV P X)) (hr : ∀ μ', P μ' → Wp (d + 1) 155 (55, [some (.ref r0)], [], (μ')) Q)
    (hx : ∀ x μ', X x μ' → Q (.inr x) μ') :
    Wp (d + 1) 155 (46, [some (.ref r0)], [], μ) Q := wp_blk rfl e155_46 (And.intro h1 (And.intro ⟨rfl, rfl⟩ (wp_cv (as := []) rfl e155_46_c rfl rfl rfl rfl rfl hk hc (fun v μ' hv => by obtain ⟨rfl, hp⟩ := pV_r hv; exact hr μ' hp) hx)))
def q155_55 : List (Nat × Instr × Nat) := [(55, .aload_n 0, 1), (56, .getfield 258, 3), (59, .ifCond .ne 45, 3)]
theorem e155_55 : am_dec am_M155 q155_55 = true := by decide +kernel
theorem b155_55 {d : Nat} {Q : Option Value ⊕ Nat → am_Mem → Prop} {μ : am_Mem} {r0 : Nat}
    (h1 : am_kd μ r0 = (1, 12))
    (k1 : ¬ (am_A μ r0 32) = 0 → Wp d 155 (104, [some (.ref r0)], [], μ) Q) (k2 : ¬ (¬ (am_A μ r0 32) = 0) → Wp d 155 (62, [some (.ref r0)], [], μ) Q) :
    Wp d 155 (55, [some (.ref r0)], [], μ) Q := wp_blk rfl e155_55 (And.intro h1 (And.intro k1 k2))
def q155_62 : List (Nat × Instr × Nat) := [(62, .aload_n 0, 1), (63, .getfield 268, 3), (66, .ifCond .gt 17, 3)]
theorem e155_62 : am_dec am_M155 q155_62 = true := by decide +kernel
theorem b155_62 {d : Nat} {Q : Option Value ⊕ Nat → am_Mem → Prop} {μ : am_Mem} {r0 : Nat}
    (h1 : am_kd μ r0 = (1, 12))
    (k1 : 0 < (am_A μ r0 34) → Wp d 155 (83, [some (.ref r0)], [], μ) Q) (k2 : ¬ (0 < (am_A μ r0 34)) → Wp d 155 (69, [some (.ref r0)], [], μ) Q) :
    Wp d 155 (62, [some (.ref r0)], [], μ) Q := wp_blk rfl e155_62 (And.intro h1 (And.intro k1 k2))
def q155_69 : List (Nat × Instr × Nat) := [(69, .aload_n 0, 1), (70, .getfield 247, 3), (73, .ifCond .ne 10, 3)]
theorem e155_69 : am_dec am_M155 q155_69 = true := by decide +kernel
theorem b155_69 {d : Nat} {Q : Option Value ⊕ Nat → am_Mem → Prop} {μ : am_Mem} {r0 : Nat}
    (h1 : am_kd μ r0 = (1, 12))
    (k1 : ¬ (am_A μ r0 28) = 0 → Wp d 155 (83, [some (.ref r0)], [], μ) Q) (k2 : ¬ (¬ (am_A μ r0 28) = 0) → Wp d 155 (76, [some (.ref r0)], [], μ) Q) :
    Wp d 155 (69, [some (.ref r0)], [], μ) Q := wp_blk rfl e155_69 (And.intro h1 (And.intro k1 k2))
def q155_76 : List (Nat × Instr × Nat) := [(76, .aload_n 0, 1), (77, .getfield 287, 3), (80, .ifCond .ne 24, 3)]
theorem e155_76 : am_dec am_M155 q155_76 = true := by decide +kernel
theorem b155_76 {d : Nat} {Q : Option Value ⊕ Nat → am_Mem → Prop} {μ : am_Mem} {r0 : Nat}
    (h1 : am_kd μ r0 = (1, 12))
    (k1 : ¬ (am_A μ r0 12) = 0 → Wp d 155 (104, [some (.ref r0)], [], μ) Q) (k2 : ¬ (¬ (am_A μ r0 12) = 0) → Wp d 155 (83, [some (.ref r0)], [], μ) Q) :
    Wp d 155 (76, [some (.ref r0)], [], μ) Q := wp_blk rfl e155_76 (And.intro h1 (And.intro k1 k2))
def q155_83 : List (Nat × Instr × Nat) := [(83, .aload_n 0, 1), (84, .getfield 268, 3), (87, .ifCond .ne 10, 3)]
theorem e155_83 : am_dec am_M155 q155_83 = true := by decide +kernel
theorem b155_83 {d : Nat} {Q : Option Value ⊕ Nat → am_Mem → Prop} {μ : am_Mem} {r0 : Nat}
    (h1 : am_kd μ r0 = (1, 12))
    (k1 : ¬ (am_A μ r0 34) = 0 → Wp d 155 (97, [some (.ref r0)], [], μ) Q) (k2 : ¬ (¬ (am_A μ r0 34) = 0) → Wp d 155 (90, [some (.ref r0)], [], μ) Q) :
    Wp d 155 (83, [some (.ref r0)], [], μ) Q := wp_blk rfl e155_83 (And.intro h1 (And.intro k1 k2))
def q155_90 : List (Nat × Instr × Nat) := [(90, .aload_n 0, 1)]
theorem e155_90 : am_dec am_M155 q155_90 = true := by decide +kernel
theorem e155_90_c : am_dc1 am_M155 91 (.invokevirtual 366) 3 = true := by decide +kernel
theorem b155_90 {d : Nat} {Q : Option Value ⊕ Nat → am_Mem → Prop} {μ : am_Mem} {r0 : Nat} {P : am_Mem → Prop} {X : Nat → am_Mem → Prop}
    (hk : am_kd μ r0 = (1, 12))
    (hc : Wp d 163 (0, [some (.ref r0)], [], μ) (pV P X)) (hr : ∀ μ', P μ' → Wp (d + 1) 155 (94, [some (.ref r0)], [], (μ')) Q)
    (hx : ∀ x μ', X x μ' → Q (.inr x) μ') :
    Wp (d + 1) 155 (90, [some (.ref r0)], [], μ) Q := wp_blk rfl e155_90 (wp_cv (as := []) rfl e155_90_c rfl rfl rfl rfl rfl hk hc (fun v μ' hv => by obtain ⟨rfl, hp⟩ := pV_r hv; exact hr μ' hp) hx)
def q155_94 : List (Nat × Instr × Nat) := [(94, .goto (-39), 3)]
theorem e155_94 : am_dec am_M155 q155_94 = true := by decide +kernel
theorem b155_94 {d : Nat} {Q : Option Value ⊕ Nat → am_Mem → Prop} {μ : am_Mem} {r0 : Nat}
    (k : Wp d 155 (55, [some (.ref r0)], [], μ) Q) :
    Wp d 155 (94, [some (.ref r0)], [], μ) Q := wp_blk rfl e155_94 k
def q155_97 : List (Nat × Instr × Nat) := [(97, .aload_n 0, 1)]
theorem e155_97 : am_dec am_M155 q155_97 = true := by decide +kernel
theorem e155_97_c : am_dc1 am_M155 98 (.invokevirtual 369) 3 = true := by decide +kernel
theorem b155_97 {d : Nat} {Q : Option Value ⊕ Nat → am_Mem → Prop} {μ : am_Mem} {r0 : Nat} {P : am_Mem → Prop} {X : Nat → am_Mem → Prop}
    (hk : am_kd μ r0 = (1, 12))
    (hc : Wp d 171 (0, [some (.ref r0), none, none], [], μ) (pV P X)) (hr : ∀ μ', P μ' → Wp (d + 1) 155 (101, [some (.ref r0)], [], (μ')) Q)
    (hx : ∀ x μ', X x μ' → Q (.inr x) μ') :
    Wp (d + 1) 155 (97, [some (.ref r0)], [], μ) Q := wp_blk rfl e155_97 (wp_cv (as := []) rfl e155_97_c rfl rfl rfl rfl rfl hk hc (fun v μ' hv => by obtain ⟨rfl, hp⟩ := pV_r hv; exact hr μ' hp) hx)
def q155_101 : List (Nat × Instr × Nat) := [(101, .goto (-46), 3)]
theorem e155_101 : am_dec am_M155 q155_101 = true := by decide +kernel
theorem b155_101 {d : Nat} {Q : Option Value ⊕ Nat → am_Mem → Prop} {μ : am_Mem} {r0 : Nat}
    (k : Wp d 155 (55, [some (.ref r0)], [], μ) Q) :
    Wp d 155 (101, [some (.ref r0)], [], μ) Q := wp_blk rfl e155_101 k
theorem e155_104_r : am_dec am_M155 [(104, .return_, 1)] = true := by decide +kernel
theorem b155_104 {d : Nat} {Q : Option Value ⊕ Nat → am_Mem → Prop} {μ : am_Mem} {r0 : Nat}
    (k : Q (.inl none) μ) :
    Wp d 155 (104, [some (.ref r0)], [], μ) Q := (wp_rv rfl e155_104_r rfl k)
/-! RuleSheetsModel.words()V -/
def q156_0 : List (Nat × Instr × Nat) := [(0, .aload_n 0, 1), (1, .iconst 0, 1), (2, .putfield 253, 3), (5, .aload_n 0, 1), (6, .ldc2_w 339, 3)]
theorem e156_0 : am_dec am_M156 q156_0 = true := by decide +kernel
theorem e156_0_c : am_dc1 am_M156 9 (.invokevirtual 341) 3 = true := by decide +kernel
theorem b156_0 {d : Nat} {Q : Option Value ⊕ Nat → am_Mem → Prop} {μ : am_Mem} {r0 : Nat} {P : am_Mem → Prop} {X : Nat → am_Mem → Prop}
    (h1 : am_kd μ r0 = (1, 12))
    (hk : am_kd (am_pA μ r0 9 (Int32.ofInt 0)) r0 = (1, 12))
    (hc : Wp d 157 (0, [some (.ref r0), some (.long (20974 : Int64)), none, none, none, none], [], (am_pA μ r0 9 (Int32.ofInt 0))) (pV P X)) (hr : ∀ μ', P μ' → Wp (d + 1) 156 (12, [some (.ref r0)], [], (μ')) Q)
    (hx : ∀ x μ', X x μ' → Q (.inr x) μ') :
    Wp (d + 1) 156 (0, [some (.ref r0)], [], μ) Q := wp_blk rfl e156_0 (And.intro h1 (And.intro ⟨rfl, rfl⟩ (wp_cv (as := [.long (20974 : Int64)]) rfl e156_0_c rfl rfl rfl rfl rfl hk hc (fun v μ' hv => by obtain ⟨rfl, hp⟩ := pV_r hv; exact hr μ' hp) hx)))
def q156_12 : List (Nat × Instr × Nat) := [(12, .aload_n 0, 1), (13, .ldc2_w 345, 3)]
theorem e156_12 : am_dec am_M156 q156_12 = true := by decide +kernel
theorem e156_12_c : am_dc1 am_M156 16 (.invokevirtual 341) 3 = true := by decide +kernel
theorem b156_12 {d : Nat} {Q : Option Value ⊕ Nat → am_Mem → Prop} {μ : am_Mem} {r0 : Nat} {P : am_Mem → Prop} {X : Nat → am_Mem → Prop}
    (hk : am_kd μ r0 = (1, 12))
    (hc : Wp d 157 (0, [some (.ref r0), some (.long (690895867172 : Int64)), none, none, none, none], [], μ) (pV P X)) (hr : ∀ μ', P μ' → Wp (d + 1) 156 (19, [some (.ref r0)], [], (μ')) Q)
    (hx : ∀ x μ', X x μ' → Q (.inr x) μ') :
    Wp (d + 1) 156 (12, [some (.ref r0)], [], μ) Q := wp_blk rfl e156_12 (wp_cv (as := [.long (690895867172 : Int64)]) rfl e156_12_c rfl rfl rfl rfl rfl hk hc (fun v μ' hv => by obtain ⟨rfl, hp⟩ := pV_r hv; exact hr μ' hp) hx)
def q156_19 : List (Nat × Instr × Nat) := [(19, .aload_n 0, 1), (20, .ldc2_w 347, 3)]
theorem e156_19 : am_dec am_M156 q156_19 = true := by decide +kernel
theorem e156_19_c : am_dc1 am_M156 23 (.invokevirtual 341) 3 = true := by decide +kernel
theorem b156_19 {d : Nat} {Q : Option Value ⊕ Nat → am_Mem → Prop} {μ : am_Mem} {r0 : Nat} {P : am_Mem → Prop} {X : Nat → am_Mem → Prop}
    (hk : am_kd μ r0 = (1, 12))
    (hc : Wp d 157 (0, [some (.ref r0), some (.long (176626 : Int64)), none, none, none, none], [], μ) (pV P X)) (hr : ∀ μ', P μ' → Wp (d + 1) 156 (26, [some (.ref r0)], [], (μ')) Q)
    (hx : ∀ x μ', X x μ' → Q (.inr x) μ') :
    Wp (d + 1) 156 (19, [some (.ref r0)], [], μ) Q := wp_blk rfl e156_19 (wp_cv (as := [.long (176626 : Int64)]) rfl e156_19_c rfl rfl rfl rfl rfl hk hc (fun v μ' hv => by obtain ⟨rfl, hp⟩ := pV_r hv; exact hr μ' hp) hx)
def q156_26 : List (Nat × Instr × Nat) := [(26, .aload_n 0, 1), (27, .ldc2_w 349, 3)]
theorem e156_26 : am_dec am_M156 q156_26 = true := by decide +kernel
theorem e156_26_c : am_dc1 am_M156 30 (.invokevirtual 341) 3 = true := by decide +kernel
theorem b156_26 {d : Nat} {Q : Option Value ⊕ Nat → am_Mem → Prop} {μ : am_Mem} {r0 : Nat} {P : am_Mem → Prop} {X : Nat → am_Mem → Prop}
    (hk : am_kd μ r0 = (1, 12))
    (hc : Wp d 157 (0, [some (.ref r0), some (.long (665033 : Int64)), none, none, none, none], [], μ) (pV P X)) (hr : ∀ μ', P μ' → Wp (d + 1) 156 (33, [some (.ref r0)], [], (μ')) Q)
    (hx : ∀ x μ', X x μ' → Q (.inr x) μ') :
    Wp (d + 1) 156 (26, [some (.ref r0)], [], μ) Q := wp_blk rfl e156_26 (wp_cv (as := [.long (665033 : Int64)]) rfl e156_26_c rfl rfl rfl rfl rfl hk hc (fun v μ' hv => by obtain ⟨rfl, hp⟩ := pV_r hv; exact hr μ' hp) hx)
def q156_33 : List (Nat × Instr × Nat) := [(33, .aload_n 0, 1), (34, .ldc2_w 351, 3)]
theorem e156_33 : am_dec am_M156 q156_33 = true := by decide +kernel
theorem e156_33_c : am_dc1 am_M156 37 (.invokevirtual 341) 3 = true := by decide +kernel
theorem b156_33 {d : Nat} {Q : Option Value ⊕ Nat → am_Mem → Prop} {μ : am_Mem} {r0 : Nat} {P : am_Mem → Prop} {X : Nat → am_Mem → Prop}
    (hk : am_kd μ r0 = (1, 12))
    (hc : Wp d 157 (0, [some (.ref r0), some (.long (185940 : Int64)), none, none, none, none], [], μ) (pV P X)) (hr : ∀ μ', P μ' → Wp (d + 1) 156 (40, [some (.ref r0)], [], (μ')) Q)
    (hx : ∀ x μ', X x μ' → Q (.inr x) μ') :
    Wp (d + 1) 156 (33, [some (.ref r0)], [], μ) Q := wp_blk rfl e156_33 (wp_cv (as := [.long (185940 : Int64)]) rfl e156_33_c rfl rfl rfl rfl rfl hk hc (fun v μ' hv => by obtain ⟨rfl, hp⟩ := pV_r hv; exact hr μ' hp) hx)
def q156_40 : List (Nat × Instr × Nat) := [(40, .aload_n 0, 1), (41, .ldc2_w 353, 3)]
theorem e156_40 : am_dec am_M156 q156_40 = true := by decide +kernel
theorem e156_40_c : am_dc1 am_M156 44 (.invokevirtual 341) 3 = true := by decide +kernel
theorem b156_40 {d : Nat} {Q : Option Value ⊕ Nat → am_Mem → Prop} {μ : am_Mem} {r0 : Nat} {P : am_Mem → Prop} {X : Nat → am_Mem → Prop}
    (hk : am_kd μ r0 = (1, 12))
    (hc : Wp d 157 (0, [some (.ref r0), some (.long (628196 : Int64)), none, none, none, none], [], μ) (pV P X)) (hr : ∀ μ', P μ' → Wp (d + 1) 156 (47, [some (.ref r0)], [], (μ')) Q)
    (hx : ∀ x μ', X x μ' → Q (.inr x) μ') :
    Wp (d + 1) 156 (40, [some (.ref r0)], [], μ) Q := wp_blk rfl e156_40 (wp_cv (as := [.long (628196 : Int64)]) rfl e156_40_c rfl rfl rfl rfl rfl hk hc (fun v μ' hv => by obtain ⟨rfl, hp⟩ := pV_r hv; exact hr μ' hp) hx)
def q156_47 : List (Nat × Instr × Nat) := [(47, .aload_n 0, 1), (48, .ldc2_w 355, 3)]
theorem e156_47 : am_dec am_M156 q156_47 = true := by decide +kernel
theorem e156_47_c : am_dc1 am_M156 51 (.invokevirtual 341) 3 = true := by decide +kernel
theorem b156_47 {d : Nat} {Q : Option Value ⊕ Nat → am_Mem → Prop} {μ : am_Mem} {r0 : Nat} {P : am_Mem → Prop} {X : Nat → am_Mem → Prop}
    (hk : am_kd μ r0 = (1, 12))
    (hc : Wp d 157 (0, [some (.ref r0), some (.long (12623020 : Int64)), none, none, none, none], [], μ) (pV P X)) (hr : ∀ μ', P μ' → Wp (d + 1) 156 (54, [some (.ref r0)], [], (μ')) Q)
    (hx : ∀ x μ', X x μ' → Q (.inr x) μ') :
    Wp (d + 1) 156 (47, [some (.ref r0)], [], μ) Q := wp_blk rfl e156_47 (wp_cv (as := [.long (12623020 : Int64)]) rfl e156_47_c rfl rfl rfl rfl rfl hk hc (fun v μ' hv => by obtain ⟨rfl, hp⟩ := pV_r hv; exact hr μ' hp) hx)
def q156_54 : List (Nat × Instr × Nat) := [(54, .aload_n 0, 1), (55, .ldc2_w 357, 3)]
theorem e156_54 : am_dec am_M156 q156_54 = true := by decide +kernel
theorem e156_54_c : am_dc1 am_M156 58 (.invokevirtual 341) 3 = true := by decide +kernel
theorem b156_54 {d : Nat} {Q : Option Value ⊕ Nat → am_Mem → Prop} {μ : am_Mem} {r0 : Nat} {P : am_Mem → Prop} {X : Nat → am_Mem → Prop}
    (hk : am_kd μ r0 = (1, 12))
    (hc : Wp d 157 (0, [some (.ref r0), some (.long (680110 : Int64)), none, none, none, none], [], μ) (pV P X)) (hr : ∀ μ', P μ' → Wp (d + 1) 156 (61, [some (.ref r0)], [], (μ')) Q)
    (hx : ∀ x μ', X x μ' → Q (.inr x) μ') :
    Wp (d + 1) 156 (54, [some (.ref r0)], [], μ) Q := wp_blk rfl e156_54 (wp_cv (as := [.long (680110 : Int64)]) rfl e156_54_c rfl rfl rfl rfl rfl hk hc (fun v μ' hv => by obtain ⟨rfl, hp⟩ := pV_r hv; exact hr μ' hp) hx)
def q156_61 : List (Nat × Instr × Nat) := [(61, .aload_n 0, 1), (62, .ldc2_w 359, 3)]
theorem e156_61 : am_dec am_M156 q156_61 = true := by decide +kernel
theorem e156_61_c : am_dc1 am_M156 65 (.invokevirtual 341) 3 = true := by decide +kernel
theorem b156_61 {d : Nat} {Q : Option Value ⊕ Nat → am_Mem → Prop} {μ : am_Mem} {r0 : Nat} {P : am_Mem → Prop} {X : Nat → am_Mem → Prop}
    (hk : am_kd μ r0 = (1, 12))
    (hc : Wp d 157 (0, [some (.ref r0), some (.long (394727 : Int64)), none, none, none, none], [], μ) (pV P X)) (hr : ∀ μ', P μ' → Wp (d + 1) 156 (68, [some (.ref r0)], [], (μ')) Q)
    (hx : ∀ x μ', X x μ' → Q (.inr x) μ') :
    Wp (d + 1) 156 (61, [some (.ref r0)], [], μ) Q := wp_blk rfl e156_61 (wp_cv (as := [.long (394727 : Int64)]) rfl e156_61_c rfl rfl rfl rfl rfl hk hc (fun v μ' hv => by obtain ⟨rfl, hp⟩ := pV_r hv; exact hr μ' hp) hx)
def q156_68 : List (Nat × Instr × Nat) := [(68, .aload_n 0, 1), (69, .ldc2_w 361, 3)]
theorem e156_68 : am_dec am_M156 q156_68 = true := by decide +kernel
theorem e156_68_c : am_dc1 am_M156 72 (.invokevirtual 341) 3 = true := by decide +kernel
theorem b156_68 {d : Nat} {Q : Option Value ⊕ Nat → am_Mem → Prop} {μ : am_Mem} {r0 : Nat} {P : am_Mem → Prop} {X : Nat → am_Mem → Prop}
    (hk : am_kd μ r0 = (1, 12))
    (hc : Wp d 157 (0, [some (.ref r0), some (.long (413870246068 : Int64)), none, none, none, none], [], μ) (pV P X)) (hr : ∀ μ', P μ' → Wp (d + 1) 156 (75, [some (.ref r0)], [], (μ')) Q)
    (hx : ∀ x μ', X x μ' → Q (.inr x) μ') :
    Wp (d + 1) 156 (68, [some (.ref r0)], [], μ) Q := wp_blk rfl e156_68 (wp_cv (as := [.long (413870246068 : Int64)]) rfl e156_68_c rfl rfl rfl rfl rfl hk hc (fun v μ' hv => by obtain ⟨rfl, hp⟩ := pV_r hv; exact hr μ' hp) hx)
theorem e156_75_r : am_dec am_M156 [(75, .return_, 1)] = true := by decide +kernel
theorem b156_75 {d : Nat} {Q : Option Value ⊕ Nat → am_Mem → Prop} {μ : am_Mem} {r0 : Nat}
    (k : Q (.inl none) μ) :
    Wp d 156 (75, [some (.ref r0)], [], μ) Q := (wp_rv rfl e156_75_r rfl k)
/-! RuleSheetsModel.word(J)V -/
def q157_0 : List (Nat × Instr × Nat) := [(0, .iconst 0, 1), (1, .istore_n 3, 1), (2, .lload_n 1, 1), (3, .lstore 4, 2)]
theorem e157_0 : am_dec am_M157 q157_0 = true := by decide +kernel
theorem b157_0 {d : Nat} {Q : Option Value ⊕ Nat → am_Mem → Prop} {μ : am_Mem} {r0 : Nat} {y1 : Int64}
    (k : Wp d 157 (5, [some (.ref r0), some (.long y1), none, some (.int (Int32.ofInt 0)), some (.long y1), none], [], μ) Q) :
    Wp d 157 (0, [some (.ref r0), some (.long y1), none, none, none, none], [], μ) Q := wp_blk rfl e157_0 k
def q157_5 : List (Nat × Instr × Nat) := [(5, .lload 4, 2), (7, .lconst 0, 1), (8, .lcmp, 1), (9, .ifCond .le 39, 3)]
theorem e157_5 : am_dec am_M157 q157_5 = true := by decide +kernel
theorem b157_5 {d : Nat} {Q : Option Value ⊕ Nat → am_Mem → Prop} {μ : am_Mem} {r0 : Nat} {y1 y4 : Int64} {x3 : Int32}
    (k1 : (lg_cmp y4 (Int64.ofNat 0)) ≤ 0 → Wp d 157 (48, [some (.ref r0), some (.long y1), none, some (.int x3), some (.long y4), none], [], μ) Q) (k2 : ¬ ((lg_cmp y4 (Int64.ofNat 0)) ≤ 0) → Wp d 157 (12, [some (.ref r0), some (.long y1), none, some (.int x3), some (.long y4), none], [], μ) Q) :
    Wp d 157 (5, [some (.ref r0), some (.long y1), none, some (.int x3), some (.long y4), none], [], μ) Q := wp_blk rfl e157_5 (And.intro k1 k2)
def q157_12 : List (Nat × Instr × Nat) := [(12, .aload_n 0, 1), (13, .getfield 23, 3), (16, .bipush 16, 2), (18, .aload_n 0, 1), (19, .getfield 253, 3), (22, .imul, 1), (23, .iload_n 3, 1), (24, .iadd, 1), (25, .bipush 96, 2), (27, .lload 4, 2), (29, .ldc2_w 256, 3), (32, .land, 1), (33, .l2i, 1), (34, .iadd, 1), (35, .iastore, 1), (36, .iinc 3 1, 3), (39, .lload 4, 2), (41, .iconst 5, 1), (42, .lshr, 1), (43, .lstore 4, 2), (45, .goto (-40), 3)]
theorem e157_12 : am_dec am_M157 q157_12 = true := by decide +kernel
theorem b157_12 {d : Nat} {Q : Option Value ⊕ Nat → am_Mem → Prop} {μ : am_Mem} {r0 : Nat} {y1 y4 : Int64} {x3 : Int32}
    (h1 : am_kd μ r0 = (1, 12))
    (h2 : ¬ am_F μ r0 10 = 15)
    (h3 : am_kd μ r0 = (1, 12))
    (h4 : (am_kd μ (am_F μ r0 10)).1 = 2)
    (h5 : ¬ (((((Int8.ofInt 16).toInt32) * (am_A μ r0 9)) + x3) < 0 ∨ (am_kd μ (am_F μ r0 10)).2 ≤ ((((Int8.ofInt 16).toInt32) * (am_A μ r0 9)) + x3).toNatClampNeg))
    (k : Wp d 157 (5, [some (.ref r0), some (.long y1), none, some (.int (x3 + Int32.ofInt 1)), some (.long (y4 >>> ((Int32.ofInt 5).toInt64 &&& 63))), none], [], (am_pA μ (am_F μ r0 10) ((((Int8.ofInt 16).toInt32) * (am_A μ r0 9)) + x3).toNatClampNeg (((Int8.ofInt 96).toInt32) + ((y4 &&& (31 : Int64)).toInt32)))) Q) :
    Wp d 157 (12, [some (.ref r0), some (.long y1), none, some (.int x3), some (.long y4), none], [], μ) Q := wp_blk rfl e157_12 (And.intro h1 (And.intro h2 (And.intro h3 (And.intro h4 (And.intro h5 k)))))
def q157_48 : List (Nat × Instr × Nat) := [(48, .aload_n 0, 1), (49, .getfield 26, 3), (52, .aload_n 0, 1), (53, .getfield 253, 3), (56, .iload_n 3, 1), (57, .iastore, 1), (58, .aload_n 0, 1), (59, .dup, 1), (60, .getfield 253, 3), (63, .iconst 1, 1), (64, .iadd, 1), (65, .putfield 253, 3)]
theorem e157_48 : am_dec am_M157 q157_48 = true := by decide +kernel
theorem b157_48 {d : Nat} {Q : Option Value ⊕ Nat → am_Mem → Prop} {μ : am_Mem} {r0 : Nat} {y1 y4 : Int64} {x3 : Int32}
    (h1 : am_kd μ r0 = (1, 12))
    (h2 : ¬ am_F μ r0 11 = 15)
    (h3 : am_kd μ r0 = (1, 12))
    (h4 : (am_kd μ (am_F μ r0 11)).1 = 2)
    (h5 : ¬ ((am_A μ r0 9) < 0 ∨ (am_kd μ (am_F μ r0 11)).2 ≤ (am_A μ r0 9).toNatClampNeg))
    (h6 : am_kd (am_pA μ (am_F μ r0 11) (am_A μ r0 9).toNatClampNeg x3) r0 = (1, 12))
    (h7 : am_kd (am_pA μ (am_F μ r0 11) (am_A μ r0 9).toNatClampNeg x3) r0 = (1, 12))
    (k : Wp d 157 (68, [some (.ref r0), some (.long y1), none, some (.int x3), some (.long y4), none], [], (am_pA (am_pA μ (am_F μ r0 11) (am_A μ r0 9).toNatClampNeg x3) r0 9 ((am_A (am_pA μ (am_F μ r0 11) (am_A μ r0 9).toNatClampNeg x3) r0 9) + (Int32.ofInt 1)))) Q) :
    Wp d 157 (48, [some (.ref r0), some (.long y1), none, some (.int x3), some (.long y4), none], [], μ) Q := wp_blk rfl e157_48 (And.intro h1 (And.intro h2 (And.intro h3 (And.intro h4 (And.intro h5 (And.intro h6 (And.intro h7 (And.intro ⟨rfl, rfl⟩ k))))))))
theorem e157_68_r : am_dec am_M157 [(68, .return_, 1)] = true := by decide +kernel
theorem b157_68 {d : Nat} {Q : Option Value ⊕ Nat → am_Mem → Prop} {μ : am_Mem} {r0 : Nat} {y1 y4 : Int64} {x3 : Int32}
    (k : Q (.inl none) μ) :
    Wp d 157 (68, [some (.ref r0), some (.long y1), none, some (.int x3), some (.long y4), none], [], μ) Q := (wp_rv rfl e157_68_r rfl k)
/-! RuleSheetsModel.advance()V -/
def q158_0 : List (Nat × Instr × Nat) := [(0, .aload_n 0, 1), (1, .aload_n 0, 1), (2, .getfield 235, 3)]
theorem e158_0 : am_dec am_M158 q158_0 = true := by decide +kernel
theorem e158_0_c : am_dc1 am_M158 5 (.invokevirtual 238) 3 = true := by decide +kernel
theorem b158_0 {d : Nat} {Q : Option Value ⊕ Nat → am_Mem → Prop} {μ : am_Mem} {r0 : Nat} {P : Int32 → am_Mem → Prop} {X : Nat → am_Mem → Prop}
    (h1 : am_kd μ r0 = (1, 12))
    (hk : am_kd μ r0 = (1, 12))
    (hc : Wp d 159 (0, [some (.ref r0), some (.int (am_A μ r0 31)), none], [], μ) (pI P X)) (hr : ∀ x μ', P x μ' → Wp (d + 1) 158 (8, [some (.ref r0), none, none], [.int x], (μ')) Q)
    (hx : ∀ x μ', X x μ' → Q (.inr x) μ') :
    Wp (d + 1) 158 (0, [some (.ref r0), none, none], [], μ) Q := wp_blk rfl e158_0 (And.intro h1 (wp_cv (as := [.int (am_A μ r0 31)]) rfl e158_0_c rfl rfl rfl rfl rfl hk hc (fun v μ' hv => by obtain ⟨x, rfl, hp⟩ := pI_r hv; exact hr x μ' hp) hx))
def q158_8 : List (Nat × Instr × Nat) := [(8, .istore_n 1, 1), (9, .aload_n 0, 1), (10, .iload_n 1, 1), (11, .putfield 241, 3), (14, .aload_n 0, 1), (15, .iload_n 1, 1), (16, .putfield 244, 3), (19, .aload_n 0, 1), (20, .iload_n 1, 1), (21, .iconst 1, 1), (22, .iadd, 1), (23, .putfield 235, 3)]
theorem e158_8 : am_dec am_M158 q158_8 = true := by decide +kernel
theorem b158_8 {d : Nat} {Q : Option Value ⊕ Nat → am_Mem → Prop} {μ : am_Mem} {r0 : Nat} {s0 : Int32}
    (h1 : am_kd μ r0 = (1, 12))
    (h2 : am_kd (am_pA μ r0 29 s0) r0 = (1, 12))
    (h3 : am_kd (am_pA (am_pA μ r0 29 s0) r0 30 s0) r0 = (1, 12))
    (k : Wp d 158 (26, [some (.ref r0), some (.int s0), none], [], (am_pA (am_pA (am_pA μ r0 29 s0) r0 30 s0) r0 31 (s0 + (Int32.ofInt 1)))) Q) :
    Wp d 158 (8, [some (.ref r0), none, none], [.int s0], μ) Q := wp_blk rfl e158_8 (And.intro h1 (And.intro ⟨rfl, rfl⟩ (And.intro h2 (And.intro ⟨rfl, rfl⟩ (And.intro h3 (And.intro ⟨rfl, rfl⟩ k))))))
def q158_26 : List (Nat × Instr × Nat) := [(26, .aload_n 0, 1), (27, .iload_n 1, 1)]
theorem e158_26 : am_dec am_M158 q158_26 = true := by decide +kernel
theorem e158_26_c : am_dc1 am_M158 28 (.invokevirtual 227) 3 = true := by decide +kernel
theorem b158_26 {d : Nat} {Q : Option Value ⊕ Nat → am_Mem → Prop} {μ : am_Mem} {r0 : Nat} {x1 : Int32} {P : Int32 → am_Mem → Prop} {X : Nat → am_Mem → Prop}
    (hk : am_kd μ r0 = (1, 12))
    (hc : Wp d 160 (0, [some (.ref r0), some (.int x1)], [], μ) (pI P X)) (hr : ∀ x μ', P x μ' → Wp (d + 1) 158 (31, [some (.ref r0), some (.int x1), none], [.int x], (μ')) Q)
    (hx : ∀ x μ', X x μ' → Q (.inr x) μ') :
    Wp (d + 1) 158 (26, [some (.ref r0), some (.int x1), none], [], μ) Q := wp_blk rfl e158_26 (wp_cv (as := [.int x1]) rfl e158_26_c rfl rfl rfl rfl rfl hk hc (fun v μ' hv => by obtain ⟨x, rfl, hp⟩ := pI_r hv; exact hr x μ' hp) hx)
def q158_31 : List (Nat × Instr × Nat) := [(31, .istore_n 2, 1), (32, .iload_n 1, 1), (33, .aload_n 0, 1), (34, .getfield 216, 3), (37, .if_icmp .lt 16, 3)]
theorem e158_31 : am_dec am_M158 q158_31 = true := by decide +kernel
theorem b158_31 {d : Nat} {Q : Option Value ⊕ Nat → am_Mem → Prop} {μ : am_Mem} {r0 : Nat} {x1 s0 : Int32}
    (h1 : am_kd μ r0 = (1, 12))
    (k1 : x1 < (am_A μ r0 8) → Wp d 158 (53, [some (.ref r0), some (.int x1), some (.int s0)], [], μ) Q) (k2 : ¬ (x1 < (am_A μ r0 8)) → Wp d 158 (40, [some (.ref r0), some (.int x1), some (.int s0)], [], μ) Q) :
    Wp d 158 (31, [some (.ref r0), some (.int x1), none], [.int s0], μ) Q := wp_blk rfl e158_31 (And.intro h1 (And.intro k1 k2))
def q158_40 : List (Nat × Instr × Nat) := [(40, .aload_n 0, 1), (41, .iconst 0, 1), (42, .putfield 247, 3), (45, .aload_n 0, 1), (46, .iload_n 1, 1), (47, .putfield 235, 3), (50, .goto 164, 3)]
theorem e158_40 : am_dec am_M158 q158_40 = true := by decide +kernel
theorem b158_40 {d : Nat} {Q : Option Value ⊕ Nat → am_Mem → Prop} {μ : am_Mem} {r0 : Nat} {x1 x2 : Int32}
    (h1 : am_kd μ r0 = (1, 12))
    (h2 : am_kd (am_pA μ r0 28 (Int32.ofInt 0)) r0 = (1, 12))
    (k : Wp d 158 (214, [some (.ref r0), some (.int x1), some (.int x2)], [], (am_pA (am_pA μ r0 28 (Int32.ofInt 0)) r0 31 x1)) Q) :
    Wp d 158 (40, [some (.ref r0), some (.int x1), some (.int x2)], [], μ) Q := wp_blk rfl e158_40 (And.intro h1 (And.intro ⟨rfl, rfl⟩ (And.intro h2 (And.intro ⟨rfl, rfl⟩ k))))
def q158_53 : List (Nat × Instr × Nat) := [(53, .iload_n 2, 1), (54, .bipush 40, 2), (56, .if_icmp .eq 9, 3)]
theorem e158_53 : am_dec am_M158 q158_53 = true := by decide +kernel
theorem b158_53 {d : Nat} {Q : Option Value ⊕ Nat → am_Mem → Prop} {μ : am_Mem} {r0 : Nat} {x1 x2 : Int32}
    (k1 : x2 = ((Int8.ofInt 40).toInt32) → Wp d 158 (65, [some (.ref r0), some (.int x1), some (.int x2)], [], μ) Q) (k2 : ¬ (x2 = ((Int8.ofInt 40).toInt32)) → Wp d 158 (59, [some (.ref r0), some (.int x1), some (.int x2)], [], μ) Q) :
    Wp d 158 (53, [some (.ref r0), some (.int x1), some (.int x2)], [], μ) Q := wp_blk rfl e158_53 (And.intro k1 k2)
def q158_59 : List (Nat × Instr × Nat) := [(59, .iload_n 2, 1), (60, .bipush 41, 2), (62, .if_icmp .ne 21, 3)]
theorem e158_59 : am_dec am_M158 q158_59 = true := by decide +kernel
theorem b158_59 {d : Nat} {Q : Option Value ⊕ Nat → am_Mem → Prop} {μ : am_Mem} {r0 : Nat} {x1 x2 : Int32}
    (k1 : ¬ x2 = ((Int8.ofInt 41).toInt32) → Wp d 158 (83, [some (.ref r0), some (.int x1), some (.int x2)], [], μ) Q) (k2 : ¬ (¬ x2 = ((Int8.ofInt 41).toInt32)) → Wp d 158 (65, [some (.ref r0), some (.int x1), some (.int x2)], [], μ) Q) :
    Wp d 158 (59, [some (.ref r0), some (.int x1), some (.int x2)], [], μ) Q := wp_blk rfl e158_59 (And.intro k1 k2)
def q158_65 : List (Nat × Instr × Nat) := [(65, .aload_n 0, 1), (66, .iload_n 2, 1), (67, .bipush 40, 2), (69, .if_icmp .ne 7, 3)]
theorem e158_65 : am_dec am_M158 q158_65 = true := by decide +kernel
theorem b158_65 {d : Nat} {Q : Option Value ⊕ Nat → am_Mem → Prop} {μ : am_Mem} {r0 : Nat} {x1 x2 : Int32}
    (k1 : ¬ x2 = ((Int8.ofInt 40).toInt32) → Wp d 158 (76, [some (.ref r0), some (.int x1), some (.int x2)], [.ref r0], μ) Q) (k2 : ¬ (¬ x2 = ((Int8.ofInt 40).toInt32)) → Wp d 158 (72, [some (.ref r0), some (.int x1), some (.int x2)], [.ref r0], μ) Q) :
    Wp d 158 (65, [some (.ref r0), some (.int x1), some (.int x2)], [], μ) Q := wp_blk rfl e158_65 (And.intro k1 k2)
def q158_72 : List (Nat × Instr × Nat) := [(72, .iconst 1, 1), (73, .goto 4, 3)]
theorem e158_72 : am_dec am_M158 q158_72 = true := by decide +kernel
theorem b158_72 {d : Nat} {Q : Option Value ⊕ Nat → am_Mem → Prop} {μ : am_Mem} {r0 r90 : Nat} {x1 x2 : Int32}
    (k : Wp d 158 (77, [some (.ref r0), some (.int x1), some (.int x2)], [.int (Int32.ofInt 1), .ref r90], μ) Q) :
    Wp d 158 (72, [some (.ref r0), some (.int x1), some (.int x2)], [.ref r90], μ) Q := wp_blk rfl e158_72 k
def q158_76 : List (Nat × Instr × Nat) := [(76, .iconst 2, 1)]
theorem e158_76 : am_dec am_M158 q158_76 = true := by decide +kernel
theorem b158_76 {d : Nat} {Q : Option Value ⊕ Nat → am_Mem → Prop} {μ : am_Mem} {r0 r90 : Nat} {x1 x2 : Int32}
    (k : Wp d 158 (77, [some (.ref r0), some (.int x1), some (.int x2)], [.int (Int32.ofInt 2), .ref r90], μ) Q) :
    Wp d 158 (76, [some (.ref r0), some (.int x1), some (.int x2)], [.ref r90], μ) Q := wp_blk rfl e158_76 k
def q158_77 : List (Nat × Instr × Nat) := [(77, .putfield 247, 3), (80, .goto 134, 3)]
theorem e158_77 : am_dec am_M158 q158_77 = true := by decide +kernel
theorem b158_77 {d : Nat} {Q : Option Value ⊕ Nat → am_Mem → Prop} {μ : am_Mem} {r0 r90 : Nat} {x1 x2 s1 : Int32}
    (h1 : am_kd μ r90 = (1, 12))
    (k : Wp d 158 (214, [some (.ref r0), some (.int x1), some (.int x2)], [], (am_pA μ r90 28 s1)) Q) :
    Wp d 158 (77, [some (.ref r0), some (.int x1), some (.int x2)], [.int s1, .ref r90], μ) Q := wp_blk rfl e158_77 (And.intro h1 (And.intro ⟨rfl, rfl⟩ k))
def q158_83 : List (Nat × Instr × Nat) := [(83, .iload_n 2, 1), (84, .bipush 60, 2), (86, .if_icmp .ne 30, 3)]
theorem e158_83 : am_dec am_M158 q158_83 = true := by decide +kernel
theorem b158_83 {d : Nat} {Q : Option Value ⊕ Nat → am_Mem → Prop} {μ : am_Mem} {r0 : Nat} {x1 x2 : Int32}
    (k1 : ¬ x2 = ((Int8.ofInt 60).toInt32) → Wp d 158 (116, [some (.ref r0), some (.int x1), some (.int x2)], [], μ) Q) (k2 : ¬ (¬ x2 = ((Int8.ofInt 60).toInt32)) → Wp d 158 (89, [some (.ref r0), some (.int x1), some (.int x2)], [], μ) Q) :
    Wp d 158 (83, [some (.ref r0), some (.int x1), some (.int x2)], [], μ) Q := wp_blk rfl e158_83 (And.intro k1 k2)
def q158_89 : List (Nat × Instr × Nat) := [(89, .aload_n 0, 1), (90, .iload_n 1, 1), (91, .iconst 1, 1), (92, .iadd, 1)]
theorem e158_89 : am_dec am_M158 q158_89 = true := by decide +kernel
theorem e158_89_c : am_dc1 am_M158 93 (.invokevirtual 227) 3 = true := by decide +kernel
theorem b158_89 {d : Nat} {Q : Option Value ⊕ Nat → am_Mem → Prop} {μ : am_Mem} {r0 : Nat} {x1 x2 : Int32} {P : Int32 → am_Mem → Prop} {X : Nat → am_Mem → Prop}
    (hk : am_kd μ r0 = (1, 12))
    (hc : Wp d 160 (0, [some (.ref r0), some (.int (x1 + (Int32.ofInt 1)))], [], μ) (pI P X)) (hr : ∀ x μ', P x μ' → Wp (d + 1) 158 (96, [some (.ref r0), some (.int x1), some (.int x2)], [.int x], (μ')) Q)
    (hx : ∀ x μ', X x μ' → Q (.inr x) μ') :
    Wp (d + 1) 158 (89, [some (.ref r0), some (.int x1), some (.int x2)], [], μ) Q := wp_blk rfl e158_89 (wp_cv (as := [.int (x1 + (Int32.ofInt 1))]) rfl e158_89_c rfl rfl rfl rfl rfl hk hc (fun v μ' hv => by obtain ⟨x, rfl, hp⟩ := pI_r hv; exact hr x μ' hp) hx)
def q158_96 : List (Nat × Instr × Nat) := [(96, .bipush 61, 2), (98, .if_icmp .ne 18, 3)]
theorem e158_96 : am_dec am_M158 q158_96 = true := by decide +kernel
theorem b158_96 {d : Nat} {Q : Option Value ⊕ Nat → am_Mem → Prop} {μ : am_Mem} {r0 : Nat} {x1 x2 s0 : Int32}
    (k1 : ¬ s0 = ((Int8.ofInt 61).toInt32) → Wp d 158 (116, [some (.ref r0), some (.int x1), some (.int x2)], [], μ) Q) (k2 : ¬ (¬ s0 = ((Int8.ofInt 61).toInt32)) → Wp d 158 (101, [some (.ref r0), some (.int x1), some (.int x2)], [], μ) Q) :
    Wp d 158 (96, [some (.ref r0), some (.int x1), some (.int x2)], [.int s0], μ) Q := wp_blk rfl e158_96 (And.intro k1 k2)
def q158_101 : List (Nat × Instr × Nat) := [(101, .aload_n 0, 1), (102, .iconst 5, 1), (103, .putfield 247, 3), (106, .aload_n 0, 1), (107, .iload_n 1, 1), (108, .iconst 2, 1), (109, .iadd, 1), (110, .putfield 235, 3), (113, .goto 101, 3)]
theorem e158_101 : am_dec am_M158 q158_101 = true := by decide +kernel
theorem b158_101 {d : Nat} {Q : Option Value ⊕ Nat → am_Mem → Prop} {μ : am_Mem} {r0 : Nat} {x1 x2 : Int32}
    (h1 : am_kd μ r0 = (1, 12))
    (h2 : am_kd (am_pA μ r0 28 (Int32.ofInt 5)) r0 = (1, 12))
    (k : Wp d 158 (214, [some (.ref r0), some (.int x1), some (.int x2)], [], (am_pA (am_pA μ r0 28 (Int32.ofInt 5)) r0 31 (x1 + (Int32.ofInt 2)))) Q) :
    Wp d 158 (101, [some (.ref r0), some (.int x1), some (.int x2)], [], μ) Q := wp_blk rfl e158_101 (And.intro h1 (And.intro ⟨rfl, rfl⟩ (And.intro h2 (And.intro ⟨rfl, rfl⟩ k))))
def q158_116 : List (Nat × Instr × Nat) := [(116, .iload_n 2, 1)]
theorem e158_116 : am_dec am_M158 q158_116 = true := by decide +kernel
theorem e158_116_c : am_dc1 am_M158 117 (.invokestatic 231) 3 = true := by decide +kernel
theorem b158_116 {d : Nat} {Q : Option Value ⊕ Nat → am_Mem → Prop} {μ : am_Mem} {r0 : Nat} {x1 x2 : Int32} {P : Int32 → am_Mem → Prop} {X : Nat → am_Mem → Prop}
    (hc : Wp d 161 (0, [some (.int x2)], [], μ) (pI P X)) (hr : ∀ x μ', P x μ' → Wp (d + 1) 158 (120, [some (.ref r0), some (.int x1), some (.int x2)], [.int x], (μ')) Q)
    (hx : ∀ x μ', X x μ' → Q (.inr x) μ') :
    Wp (d + 1) 158 (116, [some (.ref r0), some (.int x1), some (.int x2)], [], μ) Q := wp_blk rfl e158_116 (wp_cs (vs := [.int x2]) rfl e158_116_c rfl rfl rfl rfl rfl hc (fun v μ' hv => by obtain ⟨x, rfl, hp⟩ := pI_r hv; exact hr x μ' hp) hx)
def q158_120 : List (Nat × Instr × Nat) := [(120, .ifCond .ne 22, 3)]
theorem e158_120 : am_dec am_M158 q158_120 = true := by decide +kernel
theorem b158_120 {d : Nat} {Q : Option Value ⊕ Nat → am_Mem → Prop} {μ : am_Mem} {r0 : Nat} {x1 x2 s0 : Int32}
    (k1 : ¬ s0 = 0 → Wp d 158 (142, [some (.ref r0), some (.int x1), some (.int x2)], [], μ) Q) (k2 : ¬ (¬ s0 = 0) → Wp d 158 (123, [some (.ref r0), some (.int x1), some (.int x2)], [], μ) Q) :
    Wp d 158 (120, [some (.ref r0), some (.int x1), some (.int x2)], [.int s0], μ) Q := wp_blk rfl e158_120 (And.intro k1 k2)
def q158_123 : List (Nat × Instr × Nat) := [(123, .iload_n 2, 1), (124, .bipush 63, 2), (126, .if_icmp .ne 82, 3)]
theorem e158_123 : am_dec am_M158 q158_123 = true := by decide +kernel
theorem b158_123 {d : Nat} {Q : Option Value ⊕ Nat → am_Mem → Prop} {μ : am_Mem} {r0 : Nat} {x1 x2 : Int32}
    (k1 : ¬ x2 = ((Int8.ofInt 63).toInt32) → Wp d 158 (208, [some (.ref r0), some (.int x1), some (.int x2)], [], μ) Q) (k2 : ¬ (¬ x2 = ((Int8.ofInt 63).toInt32)) → Wp d 158 (129, [some (.ref r0), some (.int x1), some (.int x2)], [], μ) Q) :
    Wp d 158 (123, [some (.ref r0), some (.int x1), some (.int x2)], [], μ) Q := wp_blk rfl e158_123 (And.intro k1 k2)
def q158_129 : List (Nat × Instr × Nat) := [(129, .aload_n 0, 1), (130, .iload_n 1, 1), (131, .iconst 1, 1), (132, .iadd, 1)]
theorem e158_129 : am_dec am_M158 q158_129 = true := by decide +kernel
theorem e158_129_c : am_dc1 am_M158 133 (.invokevirtual 227) 3 = true := by decide +kernel
theorem b158_129 {d : Nat} {Q : Option Value ⊕ Nat → am_Mem → Prop} {μ : am_Mem} {r0 : Nat} {x1 x2 : Int32} {P : Int32 → am_Mem → Prop} {X : Nat → am_Mem → Prop}
    (hk : am_kd μ r0 = (1, 12))
    (hc : Wp d 160 (0, [some (.ref r0), some (.int (x1 + (Int32.ofInt 1)))], [], μ) (pI P X)) (hr : ∀ x μ', P x μ' → Wp (d + 1) 158 (136, [some (.ref r0), some (.int x1), some (.int x2)], [.int x], (μ')) Q)
    (hx : ∀ x μ', X x μ' → Q (.inr x) μ') :
    Wp (d + 1) 158 (129, [some (.ref r0), some (.int x1), some (.int x2)], [], μ) Q := wp_blk rfl e158_129 (wp_cv (as := [.int (x1 + (Int32.ofInt 1))]) rfl e158_129_c rfl rfl rfl rfl rfl hk hc (fun v μ' hv => by obtain ⟨x, rfl, hp⟩ := pI_r hv; exact hr x μ' hp) hx)
theorem e158_136_c : am_dc1 am_M158 136 (.invokestatic 231) 3 = true := by decide +kernel
theorem b158_136 {d : Nat} {Q : Option Value ⊕ Nat → am_Mem → Prop} {μ : am_Mem} {r0 : Nat} {x1 x2 s0 : Int32} {P : Int32 → am_Mem → Prop} {X : Nat → am_Mem → Prop}
    (hc : Wp d 161 (0, [some (.int s0)], [], μ) (pI P X)) (hr : ∀ x μ', P x μ' → Wp (d + 1) 158 (139, [some (.ref r0), some (.int x1), some (.int x2)], [.int x], (μ')) Q)
    (hx : ∀ x μ', X x μ' → Q (.inr x) μ') :
    Wp (d + 1) 158 (136, [some (.ref r0), some (.int x1), some (.int x2)], [.int s0], μ) Q := (wp_cs (vs := [.int s0]) rfl e158_136_c rfl rfl rfl rfl rfl hc (fun v μ' hv => by obtain ⟨x, rfl, hp⟩ := pI_r hv; exact hr x μ' hp) hx)
def q158_139 : List (Nat × Instr × Nat) := [(139, .ifCond .eq 69, 3)]
theorem e158_139 : am_dec am_M158 q158_139 = true := by decide +kernel
theorem b158_139 {d : Nat} {Q : Option Value ⊕ Nat → am_Mem → Prop} {μ : am_Mem} {r0 : Nat} {x1 x2 s0 : Int32}
    (k1 : s0 = 0 → Wp d 158 (208, [some (.ref r0), some (.int x1), some (.int x2)], [], μ) Q) (k2 : ¬ (s0 = 0) → Wp d 158 (142, [some (.ref r0), some (.int x1), some (.int x2)], [], μ) Q) :
    Wp d 158 (139, [some (.ref r0), some (.int x1), some (.int x2)], [.int s0], μ) Q := wp_blk rfl e158_139 (And.intro k1 k2)
def q158_142 : List (Nat × Instr × Nat) := [(142, .aload_n 0, 1), (143, .iload_n 2, 1), (144, .bipush 63, 2), (146, .if_icmp .ne 9, 3)]
theorem e158_142 : am_dec am_M158 q158_142 = true := by decide +kernel
theorem b158_142 {d : Nat} {Q : Option Value ⊕ Nat → am_Mem → Prop} {μ : am_Mem} {r0 : Nat} {x1 x2 : Int32}
    (k1 : ¬ x2 = ((Int8.ofInt 63).toInt32) → Wp d 158 (155, [some (.ref r0), some (.int x1), some (.int x2)], [.ref r0], μ) Q) (k2 : ¬ (¬ x2 = ((Int8.ofInt 63).toInt32)) → Wp d 158 (149, [some (.ref r0), some (.int x1), some (.int x2)], [.ref r0], μ) Q) :
    Wp d 158 (142, [some (.ref r0), some (.int x1), some (.int x2)], [], μ) Q := wp_blk rfl e158_142 (And.intro k1 k2)
def q158_149 : List (Nat × Instr × Nat) := [(149, .iload_n 1, 1), (150, .iconst 1, 1), (151, .iadd, 1), (152, .goto 4, 3)]
theorem e158_149 : am_dec am_M158 q158_149 = true := by decide +kernel
theorem b158_149 {d : Nat} {Q : Option Value ⊕ Nat → am_Mem → Prop} {μ : am_Mem} {r0 r90 : Nat} {x1 x2 : Int32}
    (k : Wp d 158 (156, [some (.ref r0), some (.int x1), some (.int x2)], [.int (x1 + (Int32.ofInt 1)), .ref r90], μ) Q) :
    Wp d 158 (149, [some (.ref r0), some (.int x1), some (.int x2)], [.ref r90], μ) Q := wp_blk rfl e158_149 k
def q158_155 : List (Nat × Instr × Nat) := [(155, .iload_n 1, 1)]
theorem e158_155 : am_dec am_M158 q158_155 = true := by decide +kernel
theorem b158_155 {d : Nat} {Q : Option Value ⊕ Nat → am_Mem → Prop} {μ : am_Mem} {r0 r90 : Nat} {x1 x2 : Int32}
    (k : Wp d 158 (156, [some (.ref r0), some (.int x1), some (.int x2)], [.int x1, .ref r90], μ) Q) :
    Wp d 158 (155, [some (.ref r0), some (.int x1), some (.int x2)], [.ref r90], μ) Q := wp_blk rfl e158_155 k
def q158_156 : List (Nat × Instr × Nat) := [(156, .putfield 244, 3), (159, .aload_n 0, 1), (160, .aload_n 0, 1), (161, .aload_n 0, 1), (162, .getfield 244, 3)]
theorem e158_156 : am_dec am_M158 q158_156 = true := by decide +kernel
theorem e158_156_c : am_dc1 am_M158 165 (.invokevirtual 250) 3 = true := by decide +kernel
theorem b158_156 {d : Nat} {Q : Option Value ⊕ Nat → am_Mem → Prop} {μ : am_Mem} {r0 r90 : Nat} {x1 x2 s1 : Int32} {P : Int32 → am_Mem → Prop} {X : Nat → am_Mem → Prop}
    (h1 : am_kd μ r90 = (1, 12))
    (h2 : am_kd (am_pA μ r90 30 s1) r0 = (1, 12))
    (hk : am_kd (am_pA μ r90 30 s1) r0 = (1, 12))
    (hc : Wp d 162 (0, [some (.ref r0), some (.int (am_A (am_pA μ r90 30 s1) r0 30)), none], [], (am_pA μ r90 30 s1)) (pI P X)) (hr : ∀ x μ', P x μ' → Wp (d + 1) 158 (168, [some (.ref r0), some (.int x1), some (.int x2)], [.int x, .ref r0], (μ')) Q)
    (hx : ∀ x μ', X x μ' → Q (.inr x) μ') :
    Wp (d + 1) 158 (156, [some (.ref r0), some (.int x1), some (.int x2)], [.int s1, .ref r90], μ) Q := wp_blk rfl e158_156 (And.intro h1 (And.intro ⟨rfl, rfl⟩ (And.intro h2 (wp_cv (as := [.int (am_A (am_pA μ r90 30 s1) r0 30)]) rfl e158_156_c rfl rfl rfl rfl rfl hk hc (fun v μ' hv => by obtain ⟨x, rfl, hp⟩ := pI_r hv; exact hr x μ' hp) hx))))
def q158_168 : List (Nat × Instr × Nat) := [(168, .putfield 235, 3), (171, .aload_n 0, 1), (172, .aload_n 0, 1), (173, .getfield 235, 3), (176, .aload_n 0, 1), (177, .getfield 244, 3), (180, .isub, 1), (181, .bipush 16, 2), (183, .if_icmp .le 8, 3)]
theorem e158_168 : am_dec am_M158 q158_168 = true := by decide +kernel
theorem b158_168 {d : Nat} {Q : Option Value ⊕ Nat → am_Mem → Prop} {μ : am_Mem} {r0 r90 : Nat} {x1 x2 s1 : Int32}
    (h1 : am_kd μ r90 = (1, 12))
    (h2 : am_kd (am_pA μ r90 31 s1) r0 = (1, 12))
    (h3 : am_kd (am_pA μ r90 31 s1) r0 = (1, 12))
    (k1 : ((am_A (am_pA μ r90 31 s1) r0 31) - (am_A (am_pA μ r90 31 s1) r0 30)) ≤ ((Int8.ofInt 16).toInt32) → Wp d 158 (191, [some (.ref r0), some (.int x1), some (.int x2)], [.ref r0], (am_pA μ r90 31 s1)) Q) (k2 : ¬ (((am_A (am_pA μ r90 31 s1) r0 31) - (am_A (am_pA μ r90 31 s1) r0 30)) ≤ ((Int8.ofInt 16).toInt32)) → Wp d 158 (186, [some (.ref r0), some (.int x1), some (.int x2)], [.ref r0], (am_pA μ r90 31 s1)) Q) :
    Wp d 158 (168, [some (.ref r0), some (.int x1), some (.int x2)], [.int s1, .ref r90], μ) Q := wp_blk rfl e158_168 (And.intro h1 (And.intro ⟨rfl, rfl⟩ (And.intro h2 (And.intro h3 (And.intro k1 k2)))))
def q158_186 : List (Nat × Instr × Nat) := [(186, .bipush 6, 2), (188, .goto 14, 3)]
theorem e158_186 : am_dec am_M158 q158_186 = true := by decide +kernel
theorem b158_186 {d : Nat} {Q : Option Value ⊕ Nat → am_Mem → Prop} {μ : am_Mem} {r0 r90 : Nat} {x1 x2 : Int32}
    (k : Wp d 158 (202, [some (.ref r0), some (.int x1), some (.int x2)], [.int ((Int8.ofInt 6).toInt32), .ref r90], μ) Q) :
    Wp d 158 (186, [some (.ref r0), some (.int x1), some (.int x2)], [.ref r90], μ) Q := wp_blk rfl e158_186 k
def q158_191 : List (Nat × Instr × Nat) := [(191, .iload_n 2, 1), (192, .bipush 63, 2), (194, .if_icmp .ne 7, 3)]
theorem e158_191 : am_dec am_M158 q158_191 = true := by decide +kernel
theorem b158_191 {d : Nat} {Q : Option Value ⊕ Nat → am_Mem → Prop} {μ : am_Mem} {r0 r90 : Nat} {x1 x2 : Int32}
    (k1 : ¬ x2 = ((Int8.ofInt 63).toInt32) → Wp d 158 (201, [some (.ref r0), some (.int x1), some (.int x2)], [.ref r90], μ) Q) (k2 : ¬ (¬ x2 = ((Int8.ofInt 63).toInt32)) → Wp d 158 (197, [some (.ref r0), some (.int x1), some (.int x2)], [.ref r90], μ) Q) :
    Wp d 158 (191, [some (.ref r0), some (.int x1), some (.int x2)], [.ref r90], μ) Q := wp_blk rfl e158_191 (And.intro k1 k2)
def q158_197 : List (Nat × Instr × Nat) := [(197, .iconst 4, 1), (198, .goto 4, 3)]
theorem e158_197 : am_dec am_M158 q158_197 = true := by decide +kernel
theorem b158_197 {d : Nat} {Q : Option Value ⊕ Nat → am_Mem → Prop} {μ : am_Mem} {r0 r90 : Nat} {x1 x2 : Int32}
    (k : Wp d 158 (202, [some (.ref r0), some (.int x1), some (.int x2)], [.int (Int32.ofInt 4), .ref r90], μ) Q) :
    Wp d 158 (197, [some (.ref r0), some (.int x1), some (.int x2)], [.ref r90], μ) Q := wp_blk rfl e158_197 k
def q158_201 : List (Nat × Instr × Nat) := [(201, .iconst 3, 1)]
theorem e158_201 : am_dec am_M158 q158_201 = true := by decide +kernel
theorem b158_201 {d : Nat} {Q : Option Value ⊕ Nat → am_Mem → Prop} {μ : am_Mem} {r0 r90 : Nat} {x1 x2 : Int32}
    (k : Wp d 158 (202, [some (.ref r0), some (.int x1), some (.int x2)], [.int (Int32.ofInt 3), .ref r90], μ) Q) :
    Wp d 158 (201, [some (.ref r0), some (.int x1), some (.int x2)], [.ref r90], μ) Q := wp_blk rfl e158_201 k
def q158_202 : List (Nat × Instr × Nat) := [(202, .putfield 247, 3), (205, .goto 9, 3)]
theorem e158_202 : am_dec am_M158 q158_202 = true := by decide +kernel
theorem b158_202 {d : Nat} {Q : Option Value ⊕ Nat → am_Mem → Prop} {μ : am_Mem} {r0 r90 : Nat} {x1 x2 s1 : Int32}
    (h1 : am_kd μ r90 = (1, 12))
    (k : Wp d 158 (214, [some (.ref r0), some (.int x1), some (.int x2)], [], (am_pA μ r90 28 s1)) Q) :
    Wp d 158 (202, [some (.ref r0), some (.int x1), some (.int x2)], [.int s1, .ref r90], μ) Q := wp_blk rfl e158_202 (And.intro h1 (And.intro ⟨rfl, rfl⟩ k))
def q158_208 : List (Nat × Instr × Nat) := [(208, .aload_n 0, 1), (209, .bipush 6, 2), (211, .putfield 247, 3)]
theorem e158_208 : am_dec am_M158 q158_208 = true := by decide +kernel
theorem b158_208 {d : Nat} {Q : Option Value ⊕ Nat → am_Mem → Prop} {μ : am_Mem} {r0 : Nat} {x1 x2 : Int32}
    (h1 : am_kd μ r0 = (1, 12))
    (k : Wp d 158 (214, [some (.ref r0), some (.int x1), some (.int x2)], [], (am_pA μ r0 28 ((Int8.ofInt 6).toInt32))) Q) :
    Wp d 158 (208, [some (.ref r0), some (.int x1), some (.int x2)], [], μ) Q := wp_blk rfl e158_208 (And.intro h1 (And.intro ⟨rfl, rfl⟩ k))
theorem e158_214_r : am_dec am_M158 [(214, .return_, 1)] = true := by decide +kernel
theorem b158_214 {d : Nat} {Q : Option Value ⊕ Nat → am_Mem → Prop} {μ : am_Mem} {r0 : Nat} {x1 x2 : Int32}
    (k : Q (.inl none) μ) :
    Wp d 158 (214, [some (.ref r0), some (.int x1), some (.int x2)], [], μ) Q := (wp_rv rfl e158_214_r rfl k)
/-! RuleSheetsModel.skip(I)I -/
def q159_0 : List (Nat × Instr × Nat) := [(0, .iload_n 1, 1), (1, .istore_n 2, 1)]
theorem e159_0 : am_dec am_M159 q159_0 = true := by decide +kernel
theorem b159_0 {d : Nat} {Q : Option Value ⊕ Nat → am_Mem → Prop} {μ : am_Mem} {r0 : Nat} {x1 : Int32}
    (k : Wp d 159 (2, [some (.ref r0), some (.int x1), some (.int x1)], [], μ) Q) :
    Wp d 159 (0, [some (.ref r0), some (.int x1), none], [], μ) Q := wp_blk rfl e159_0 k
def q159_2 : List (Nat × Instr × Nat) := [(2, .aload_n 0, 1), (3, .iload_n 2, 1)]
theorem e159_2 : am_dec am_M159 q159_2 = true := by decide +kernel
theorem e159_2_c : am_dc1 am_M159 4 (.invokevirtual 227) 3 = true := by decide +kernel
theorem b159_2 {d : Nat} {Q : Option Value ⊕ Nat → am_Mem → Prop} {μ : am_Mem} {r0 : Nat} {x1 x2 : Int32} {P : Int32 → am_Mem → Prop} {X : Nat → am_Mem → Prop}
    (hk : am_kd μ r0 = (1, 12))
    (hc : Wp d 160 (0, [some (.ref r0), some (.int x2)], [], μ) (pI P X)) (hr : ∀ x μ', P x μ' → Wp (d + 1) 159 (7, [some (.ref r0), some (.int x1), some (.int x2)], [.int x], (μ')) Q)
    (hx : ∀ x μ', X x μ' → Q (.inr x) μ') :
    Wp (d + 1) 159 (2, [some (.ref r0), some (.int x1), some (.int x2)], [], μ) Q := wp_blk rfl e159_2 (wp_cv (as := [.int x2]) rfl e159_2_c rfl rfl rfl rfl rfl hk hc (fun v μ' hv => by obtain ⟨x, rfl, hp⟩ := pI_r hv; exact hr x μ' hp) hx)
def q159_7 : List (Nat × Instr × Nat) := [(7, .bipush 32, 2), (9, .if_icmp .eq 23, 3)]
theorem e159_7 : am_dec am_M159 q159_7 = true := by decide +kernel
theorem b159_7 {d : Nat} {Q : Option Value ⊕ Nat → am_Mem → Prop} {μ : am_Mem} {r0 : Nat} {x1 x2 s0 : Int32}
    (k1 : s0 = ((Int8.ofInt 32).toInt32) → Wp d 159 (32, [some (.ref r0), some (.int x1), some (.int x2)], [], μ) Q) (k2 : ¬ (s0 = ((Int8.ofInt 32).toInt32)) → Wp d 159 (12, [some (.ref r0), some (.int x1), some (.int x2)], [], μ) Q) :
    Wp d 159 (7, [some (.ref r0), some (.int x1), some (.int x2)], [.int s0], μ) Q := wp_blk rfl e159_7 (And.intro k1 k2)
def q159_12 : List (Nat × Instr × Nat) := [(12, .aload_n 0, 1), (13, .iload_n 2, 1)]
theorem e159_12 : am_dec am_M159 q159_12 = true := by decide +kernel
theorem e159_12_c : am_dc1 am_M159 14 (.invokevirtual 227) 3 = true := by decide +kernel
theorem b159_12 {d : Nat} {Q : Option Value ⊕ Nat → am_Mem → Prop} {μ : am_Mem} {r0 : Nat} {x1 x2 : Int32} {P : Int32 → am_Mem → Prop} {X : Nat → am_Mem → Prop}
    (hk : am_kd μ r0 = (1, 12))
    (hc : Wp d 160 (0, [some (.ref r0), some (.int x2)], [], μ) (pI P X)) (hr : ∀ x μ', P x μ' → Wp (d + 1) 159 (17, [some (.ref r0), some (.int x1), some (.int x2)], [.int x], (μ')) Q)
    (hx : ∀ x μ', X x μ' → Q (.inr x) μ') :
    Wp (d + 1) 159 (12, [some (.ref r0), some (.int x1), some (.int x2)], [], μ) Q := wp_blk rfl e159_12 (wp_cv (as := [.int x2]) rfl e159_12_c rfl rfl rfl rfl rfl hk hc (fun v μ' hv => by obtain ⟨x, rfl, hp⟩ := pI_r hv; exact hr x μ' hp) hx)
def q159_17 : List (Nat × Instr × Nat) := [(17, .bipush 10, 2), (19, .if_icmp .eq 13, 3)]
theorem e159_17 : am_dec am_M159 q159_17 = true := by decide +kernel
theorem b159_17 {d : Nat} {Q : Option Value ⊕ Nat → am_Mem → Prop} {μ : am_Mem} {r0 : Nat} {x1 x2 s0 : Int32}
    (k1 : s0 = ((Int8.ofInt 10).toInt32) → Wp d 159 (32, [some (.ref r0), some (.int x1), some (.int x2)], [], μ) Q) (k2 : ¬ (s0 = ((Int8.ofInt 10).toInt32)) → Wp d 159 (22, [some (.ref r0), some (.int x1), some (.int x2)], [], μ) Q) :
    Wp d 159 (17, [some (.ref r0), some (.int x1), some (.int x2)], [.int s0], μ) Q := wp_blk rfl e159_17 (And.intro k1 k2)
def q159_22 : List (Nat × Instr × Nat) := [(22, .aload_n 0, 1), (23, .iload_n 2, 1)]
theorem e159_22 : am_dec am_M159 q159_22 = true := by decide +kernel
theorem e159_22_c : am_dc1 am_M159 24 (.invokevirtual 227) 3 = true := by decide +kernel
theorem b159_22 {d : Nat} {Q : Option Value ⊕ Nat → am_Mem → Prop} {μ : am_Mem} {r0 : Nat} {x1 x2 : Int32} {P : Int32 → am_Mem → Prop} {X : Nat → am_Mem → Prop}
    (hk : am_kd μ r0 = (1, 12))
    (hc : Wp d 160 (0, [some (.ref r0), some (.int x2)], [], μ) (pI P X)) (hr : ∀ x μ', P x μ' → Wp (d + 1) 159 (27, [some (.ref r0), some (.int x1), some (.int x2)], [.int x], (μ')) Q)
    (hx : ∀ x μ', X x μ' → Q (.inr x) μ') :
    Wp (d + 1) 159 (22, [some (.ref r0), some (.int x1), some (.int x2)], [], μ) Q := wp_blk rfl e159_22 (wp_cv (as := [.int x2]) rfl e159_22_c rfl rfl rfl rfl rfl hk hc (fun v μ' hv => by obtain ⟨x, rfl, hp⟩ := pI_r hv; exact hr x μ' hp) hx)
def q159_27 : List (Nat × Instr × Nat) := [(27, .bipush 59, 2), (29, .if_icmp .ne 44, 3)]
theorem e159_27 : am_dec am_M159 q159_27 = true := by decide +kernel
theorem b159_27 {d : Nat} {Q : Option Value ⊕ Nat → am_Mem → Prop} {μ : am_Mem} {r0 : Nat} {x1 x2 s0 : Int32}
    (k1 : ¬ s0 = ((Int8.ofInt 59).toInt32) → Wp d 159 (73, [some (.ref r0), some (.int x1), some (.int x2)], [], μ) Q) (k2 : ¬ (¬ s0 = ((Int8.ofInt 59).toInt32)) → Wp d 159 (32, [some (.ref r0), some (.int x1), some (.int x2)], [], μ) Q) :
    Wp d 159 (27, [some (.ref r0), some (.int x1), some (.int x2)], [.int s0], μ) Q := wp_blk rfl e159_27 (And.intro k1 k2)
def q159_32 : List (Nat × Instr × Nat) := [(32, .aload_n 0, 1), (33, .iload_n 2, 1)]
theorem e159_32 : am_dec am_M159 q159_32 = true := by decide +kernel
theorem e159_32_c : am_dc1 am_M159 34 (.invokevirtual 227) 3 = true := by decide +kernel
theorem b159_32 {d : Nat} {Q : Option Value ⊕ Nat → am_Mem → Prop} {μ : am_Mem} {r0 : Nat} {x1 x2 : Int32} {P : Int32 → am_Mem → Prop} {X : Nat → am_Mem → Prop}
    (hk : am_kd μ r0 = (1, 12))
    (hc : Wp d 160 (0, [some (.ref r0), some (.int x2)], [], μ) (pI P X)) (hr : ∀ x μ', P x μ' → Wp (d + 1) 159 (37, [some (.ref r0), some (.int x1), some (.int x2)], [.int x], (μ')) Q)
    (hx : ∀ x μ', X x μ' → Q (.inr x) μ') :
    Wp (d + 1) 159 (32, [some (.ref r0), some (.int x1), some (.int x2)], [], μ) Q := wp_blk rfl e159_32 (wp_cv (as := [.int x2]) rfl e159_32_c rfl rfl rfl rfl rfl hk hc (fun v μ' hv => by obtain ⟨x, rfl, hp⟩ := pI_r hv; exact hr x μ' hp) hx)
def q159_37 : List (Nat × Instr × Nat) := [(37, .bipush 59, 2), (39, .if_icmp .ne 28, 3)]
theorem e159_37 : am_dec am_M159 q159_37 = true := by decide +kernel
theorem b159_37 {d : Nat} {Q : Option Value ⊕ Nat → am_Mem → Prop} {μ : am_Mem} {r0 : Nat} {x1 x2 s0 : Int32}
    (k1 : ¬ s0 = ((Int8.ofInt 59).toInt32) → Wp d 159 (67, [some (.ref r0), some (.int x1), some (.int x2)], [], μ) Q) (k2 : ¬ (¬ s0 = ((Int8.ofInt 59).toInt32)) → Wp d 159 (42, [some (.ref r0), some (.int x1), some (.int x2)], [], μ) Q) :
    Wp d 159 (37, [some (.ref r0), some (.int x1), some (.int x2)], [.int s0], μ) Q := wp_blk rfl e159_37 (And.intro k1 k2)
def q159_42 : List (Nat × Instr × Nat) := [(42, .iload_n 2, 1), (43, .aload_n 0, 1), (44, .getfield 216, 3), (47, .if_icmp .ge (-45), 3)]
theorem e159_42 : am_dec am_M159 q159_42 = true := by decide +kernel
theorem b159_42 {d : Nat} {Q : Option Value ⊕ Nat → am_Mem → Prop} {μ : am_Mem} {r0 : Nat} {x1 x2 : Int32}
    (h1 : am_kd μ r0 = (1, 12))
    (k1 : (am_A μ r0 8) ≤ x2 → Wp d 159 (2, [some (.ref r0), some (.int x1), some (.int x2)], [], μ) Q) (k2 : ¬ ((am_A μ r0 8) ≤ x2) → Wp d 159 (50, [some (.ref r0), some (.int x1), some (.int x2)], [], μ) Q) :
    Wp d 159 (42, [some (.ref r0), some (.int x1), some (.int x2)], [], μ) Q := wp_blk rfl e159_42 (And.intro h1 (And.intro k1 k2))
def q159_50 : List (Nat × Instr × Nat) := [(50, .aload_n 0, 1), (51, .getfield 20, 3), (54, .iload_n 2, 1), (55, .iaload, 1), (56, .bipush 10, 2), (58, .if_icmp .eq (-56), 3)]
theorem e159_50 : am_dec am_M159 q159_50 = true := by decide +kernel
theorem b159_50 {d : Nat} {Q : Option Value ⊕ Nat → am_Mem → Prop} {μ : am_Mem} {r0 : Nat} {x1 x2 : Int32}
    (h1 : am_kd μ r0 = (1, 12))
    (h2 : ¬ am_F μ r0 7 = 15)
    (h3 : (am_kd μ (am_F μ r0 7)).1 = 2 ∨ (am_kd μ (am_F μ r0 7)).1 = 8)
    (h4 : ¬ (x2 < 0 ∨ (am_kd μ (am_F μ r0 7)).2 ≤ x2.toNatClampNeg))
    (k1 : (am_A μ (am_F μ r0 7) x2.toNatClampNeg) = ((Int8.ofInt 10).toInt32) → Wp d 159 (2, [some (.ref r0), some (.int x1), some (.int x2)], [], μ) Q) (k2 : ¬ ((am_A μ (am_F μ r0 7) x2.toNatClampNeg) = ((Int8.ofInt 10).toInt32)) → Wp d 159 (61, [some (.ref r0), some (.int x1), some (.int x2)], [], μ) Q) :
    Wp d 159 (50, [some (.ref r0), some (.int x1), some (.int x2)], [], μ) Q := wp_blk rfl e159_50 (And.intro h1 (And.intro h2 (And.intro h3 (And.intro h4 (And.intro k1 k2)))))
def q159_61 : List (Nat × Instr × Nat) := [(61, .iinc 2 1, 3), (64, .goto (-22), 3)]
theorem e159_61 : am_dec am_M159 q159_61 = true := by decide +kernel
theorem b159_61 {d : Nat} {Q : Option Value ⊕ Nat → am_Mem → Prop} {μ : am_Mem} {r0 : Nat} {x1 x2 : Int32}
    (k : Wp d 159 (42, [some (.ref r0), some (.int x1), some (.int (x2 + Int32.ofInt 1))], [], μ) Q) :
    Wp d 159 (61, [some (.ref r0), some (.int x1), some (.int x2)], [], μ) Q := wp_blk rfl e159_61 k
def q159_67 : List (Nat × Instr × Nat) := [(67, .iinc 2 1, 3), (70, .goto (-68), 3)]
theorem e159_67 : am_dec am_M159 q159_67 = true := by decide +kernel
theorem b159_67 {d : Nat} {Q : Option Value ⊕ Nat → am_Mem → Prop} {μ : am_Mem} {r0 : Nat} {x1 x2 : Int32}
    (k : Wp d 159 (2, [some (.ref r0), some (.int x1), some (.int (x2 + Int32.ofInt 1))], [], μ) Q) :
    Wp d 159 (67, [some (.ref r0), some (.int x1), some (.int x2)], [], μ) Q := wp_blk rfl e159_67 k
def q159_73 : List (Nat × Instr × Nat) := [(73, .iload_n 2, 1)]
theorem e159_73 : am_dec am_M159 q159_73 = true := by decide +kernel
theorem e159_73_r : am_dec am_M159 [(74, .ireturn, 1)] = true := by decide +kernel
theorem b159_73 {d : Nat} {Q : Option Value ⊕ Nat → am_Mem → Prop} {μ : am_Mem} {r0 : Nat} {x1 x2 : Int32}
    (k : Q (.inl (some (.int x2))) μ) :
    Wp d 159 (73, [some (.ref r0), some (.int x1), some (.int x2)], [], μ) Q := wp_blk rfl e159_73 (wp_ri (ty := .int) rfl e159_73_r rfl ⟨rfl, rfl⟩ k)
/-! RuleSheetsModel.signAt(I)I -/
def q160_0 : List (Nat × Instr × Nat) := [(0, .iload_n 1, 1), (1, .aload_n 0, 1), (2, .getfield 216, 3), (5, .if_icmp .ge 12, 3)]
theorem e160_0 : am_dec am_M160 q160_0 = true := by decide +kernel
theorem b160_0 {d : Nat} {Q : Option Value ⊕ Nat → am_Mem → Prop} {μ : am_Mem} {r0 : Nat} {x1 : Int32}
    (h1 : am_kd μ r0 = (1, 12))
    (k1 : (am_A μ r0 8) ≤ x1 → Wp d 160 (17, [some (.ref r0), some (.int x1)], [], μ) Q) (k2 : ¬ ((am_A μ r0 8) ≤ x1) → Wp d 160 (8, [some (.ref r0), some (.int x1)], [], μ) Q) :
    Wp d 160 (0, [some (.ref r0), some (.int x1)], [], μ) Q := wp_blk rfl e160_0 (And.intro h1 (And.intro k1 k2))
def q160_8 : List (Nat × Instr × Nat) := [(8, .aload_n 0, 1), (9, .getfield 20, 3), (12, .iload_n 1, 1), (13, .iaload, 1), (14, .goto 4, 3)]
theorem e160_8 : am_dec am_M160 q160_8 = true := by decide +kernel
theorem b160_8 {d : Nat} {Q : Option Value ⊕ Nat → am_Mem → Prop} {μ : am_Mem} {r0 : Nat} {x1 : Int32}
    (h1 : am_kd μ r0 = (1, 12))
    (h2 : ¬ am_F μ r0 7 = 15)
    (h3 : (am_kd μ (am_F μ r0 7)).1 = 2 ∨ (am_kd μ (am_F μ r0 7)).1 = 8)
    (h4 : ¬ (x1 < 0 ∨ (am_kd μ (am_F μ r0 7)).2 ≤ x1.toNatClampNeg))
    (k : Wp d 160 (18, [some (.ref r0), some (.int x1)], [.int (am_A μ (am_F μ r0 7) x1.toNatClampNeg)], μ) Q) :
    Wp d 160 (8, [some (.ref r0), some (.int x1)], [], μ) Q := wp_blk rfl e160_8 (And.intro h1 (And.intro h2 (And.intro h3 (And.intro h4 k))))
def q160_17 : List (Nat × Instr × Nat) := [(17, .iconst 0, 1)]
theorem e160_17 : am_dec am_M160 q160_17 = true := by decide +kernel
theorem b160_17 {d : Nat} {Q : Option Value ⊕ Nat → am_Mem → Prop} {μ : am_Mem} {r0 : Nat} {x1 : Int32}
    (k : Wp d 160 (18, [some (.ref r0), some (.int x1)], [.int (Int32.ofInt 0)], μ) Q) :
    Wp d 160 (17, [some (.ref r0), some (.int x1)], [], μ) Q := wp_blk rfl e160_17 k
theorem e160_18_r : am_dec am_M160 [(18, .ireturn, 1)] = true := by decide +kernel
theorem b160_18 {d : Nat} {Q : Option Value ⊕ Nat → am_Mem → Prop} {μ : am_Mem} {r0 : Nat} {x1 s0 : Int32}
    (k : Q (.inl (some (.int s0))) μ) :
    Wp d 160 (18, [some (.ref r0), some (.int x1)], [.int s0], μ) Q := (wp_ri (ty := .int) rfl e160_18_r rfl ⟨rfl, rfl⟩ k)
/-! RuleSheetsModel.isNameSign(I)Z -/
def q161_0 : List (Nat × Instr × Nat) := [(0, .iload_n 0, 1), (1, .i2l, 1), (2, .ldc2_w 219, 3), (5, .ldc2_w 221, 3)]
theorem e161_0 : am_dec am_M161 q161_0 = true := by decide +kernel
theorem e161_0_c : am_dc1 am_M161 8 (.invokestatic 205) 3 = true := by decide +kernel
theorem b161_0 {d : Nat} {Q : Option Value ⊕ Nat → am_Mem → Prop} {μ : am_Mem} {x0 : Int32} {P : Int32 → am_Mem → Prop} {X : Nat → am_Mem → Prop}
    (hc : Wp d 150 (0, [some (.long x0.toInt64), none, some (.long (97 : Int64)), none, some (.long (122 : Int64)), none], [], μ) (pI P X)) (hr : ∀ x μ', P x μ' → Wp (d + 1) 161 (11, [some (.int x0)], [.int x], (μ')) Q)
    (hx : ∀ x μ', X x μ' → Q (.inr x) μ') :
    Wp (d + 1) 161 (0, [some (.int x0)], [], μ) Q := wp_blk rfl e161_0 (wp_cs (vs := [.long x0.toInt64, .long (97 : Int64), .long (122 : Int64)]) rfl e161_0_c rfl rfl rfl rfl rfl hc (fun v μ' hv => by obtain ⟨x, rfl, hp⟩ := pI_r hv; exact hr x μ' hp) hx)
def q161_11 : List (Nat × Instr × Nat) := [(11, .ifCond .ne 23, 3)]
theorem e161_11 : am_dec am_M161 q161_11 = true := by decide +kernel
theorem b161_11 {d : Nat} {Q : Option Value ⊕ Nat → am_Mem → Prop} {μ : am_Mem} {x0 s0 : Int32}
    (k1 : ¬ s0 = 0 → Wp d 161 (34, [some (.int x0)], [], μ) Q) (k2 : ¬ (¬ s0 = 0) → Wp d 161 (14, [some (.int x0)], [], μ) Q) :
    Wp d 161 (11, [some (.int x0)], [.int s0], μ) Q := wp_blk rfl e161_11 (And.intro k1 k2)
def q161_14 : List (Nat × Instr × Nat) := [(14, .iload_n 0, 1), (15, .i2l, 1), (16, .ldc2_w 223, 3), (19, .ldc2_w 225, 3)]
theorem e161_14 : am_dec am_M161 q161_14 = true := by decide +kernel
theorem e161_14_c : am_dc1 am_M161 22 (.invokestatic 205) 3 = true := by decide +kernel
theorem b161_14 {d : Nat} {Q : Option Value ⊕ Nat → am_Mem → Prop} {μ : am_Mem} {x0 : Int32} {P : Int32 → am_Mem → Prop} {X : Nat → am_Mem → Prop}
    (hc : Wp d 150 (0, [some (.long x0.toInt64), none, some (.long (48 : Int64)), none, some (.long (57 : Int64)), none], [], μ) (pI P X)) (hr : ∀ x μ', P x μ' → Wp (d + 1) 161 (25, [some (.int x0)], [.int x], (μ')) Q)
    (hx : ∀ x μ', X x μ' → Q (.inr x) μ') :
    Wp (d + 1) 161 (14, [some (.int x0)], [], μ) Q := wp_blk rfl e161_14 (wp_cs (vs := [.long x0.toInt64, .long (48 : Int64), .long (57 : Int64)]) rfl e161_14_c rfl rfl rfl rfl rfl hc (fun v μ' hv => by obtain ⟨x, rfl, hp⟩ := pI_r hv; exact hr x μ' hp) hx)
def q161_25 : List (Nat × Instr × Nat) := [(25, .ifCond .ne 9, 3)]
theorem e161_25 : am_dec am_M161 q161_25 = true := by decide +kernel
theorem b161_25 {d : Nat} {Q : Option Value ⊕ Nat → am_Mem → Prop} {μ : am_Mem} {x0 s0 : Int32}
    (k1 : ¬ s0 = 0 → Wp d 161 (34, [some (.int x0)], [], μ) Q) (k2 : ¬ (¬ s0 = 0) → Wp d 161 (28, [some (.int x0)], [], μ) Q) :
    Wp d 161 (25, [some (.int x0)], [.int s0], μ) Q := wp_blk rfl e161_25 (And.intro k1 k2)
def q161_28 : List (Nat × Instr × Nat) := [(28, .iload_n 0, 1), (29, .bipush 95, 2), (31, .if_icmp .ne 7, 3)]
theorem e161_28 : am_dec am_M161 q161_28 = true := by decide +kernel
theorem b161_28 {d : Nat} {Q : Option Value ⊕ Nat → am_Mem → Prop} {μ : am_Mem} {x0 : Int32}
    (k1 : ¬ x0 = ((Int8.ofInt 95).toInt32) → Wp d 161 (38, [some (.int x0)], [], μ) Q) (k2 : ¬ (¬ x0 = ((Int8.ofInt 95).toInt32)) → Wp d 161 (34, [some (.int x0)], [], μ) Q) :
    Wp d 161 (28, [some (.int x0)], [], μ) Q := wp_blk rfl e161_28 (And.intro k1 k2)
def q161_34 : List (Nat × Instr × Nat) := [(34, .iconst 1, 1), (35, .goto 4, 3)]
theorem e161_34 : am_dec am_M161 q161_34 = true := by decide +kernel
theorem b161_34 {d : Nat} {Q : Option Value ⊕ Nat → am_Mem → Prop} {μ : am_Mem} {x0 : Int32}
    (k : Wp d 161 (39, [some (.int x0)], [.int (Int32.ofInt 1)], μ) Q) :
    Wp d 161 (34, [some (.int x0)], [], μ) Q := wp_blk rfl e161_34 k
def q161_38 : List (Nat × Instr × Nat) := [(38, .iconst 0, 1)]
theorem e161_38 : am_dec am_M161 q161_38 = true := by decide +kernel
theorem b161_38 {d : Nat} {Q : Option Value ⊕ Nat → am_Mem → Prop} {μ : am_Mem} {x0 : Int32}
    (k : Wp d 161 (39, [some (.int x0)], [.int (Int32.ofInt 0)], μ) Q) :
    Wp d 161 (38, [some (.int x0)], [], μ) Q := wp_blk rfl e161_38 k
theorem e161_39_r : am_dec am_M161 [(39, .ireturn, 1)] = true := by decide +kernel
theorem b161_39 {d : Nat} {Q : Option Value ⊕ Nat → am_Mem → Prop} {μ : am_Mem} {x0 s0 : Int32}
    (hn : narrow .boolean (.int s0) = .int s0 ∧ fits .boolean (.int s0) = true)
    (k : Q (.inl (some (.int s0))) μ) :
    Wp d 161 (39, [some (.int x0)], [.int s0], μ) Q := (wp_ri (ty := .boolean) rfl e161_39_r rfl hn k)
/-! RuleSheetsModel.nameEnd(I)I -/
def q162_0 : List (Nat × Instr × Nat) := [(0, .iload_n 1, 1), (1, .istore_n 2, 1)]
theorem e162_0 : am_dec am_M162 q162_0 = true := by decide +kernel
theorem b162_0 {d : Nat} {Q : Option Value ⊕ Nat → am_Mem → Prop} {μ : am_Mem} {r0 : Nat} {x1 : Int32}
    (k : Wp d 162 (2, [some (.ref r0), some (.int x1), some (.int x1)], [], μ) Q) :
    Wp d 162 (0, [some (.ref r0), some (.int x1), none], [], μ) Q := wp_blk rfl e162_0 k
def q162_2 : List (Nat × Instr × Nat) := [(2, .aload_n 0, 1), (3, .iload_n 2, 1)]
theorem e162_2 : am_dec am_M162 q162_2 = true := by decide +kernel
theorem e162_2_c : am_dc1 am_M162 4 (.invokevirtual 227) 3 = true := by decide +kernel
theorem b162_2 {d : Nat} {Q : Option Value ⊕ Nat → am_Mem → Prop} {μ : am_Mem} {r0 : Nat} {x1 x2 : Int32} {P : Int32 → am_Mem → Prop} {X : Nat → am_Mem → Prop}
    (hk : am_kd μ r0 = (1, 12))
    (hc : Wp d 160 (0, [some (.ref r0), some (.int x2)], [], μ) (pI P X)) (hr : ∀ x μ', P x μ' → Wp (d + 1) 162 (7, [some (.ref r0), some (.int x1), some (.int x2)], [.int x], (μ')) Q)
    (hx : ∀ x μ', X x μ' → Q (.inr x) μ') :
    Wp (d + 1) 162 (2, [some (.ref r0), some (.int x1), some (.int x2)], [], μ) Q := wp_blk rfl e162_2 (wp_cv (as := [.int x2]) rfl e162_2_c rfl rfl rfl rfl rfl hk hc (fun v μ' hv => by obtain ⟨x, rfl, hp⟩ := pI_r hv; exact hr x μ' hp) hx)
theorem e162_7_c : am_dc1 am_M162 7 (.invokestatic 231) 3 = true := by decide +kernel
theorem b162_7 {d : Nat} {Q : Option Value ⊕ Nat → am_Mem → Prop} {μ : am_Mem} {r0 : Nat} {x1 x2 s0 : Int32} {P : Int32 → am_Mem → Prop} {X : Nat → am_Mem → Prop}
    (hc : Wp d 161 (0, [some (.int s0)], [], μ) (pI P X)) (hr : ∀ x μ', P x μ' → Wp (d + 1) 162 (10, [some (.ref r0), some (.int x1), some (.int x2)], [.int x], (μ')) Q)
    (hx : ∀ x μ', X x μ' → Q (.inr x) μ') :
    Wp (d + 1) 162 (7, [some (.ref r0), some (.int x1), some (.int x2)], [.int s0], μ) Q := (wp_cs (vs := [.int s0]) rfl e162_7_c rfl rfl rfl rfl rfl hc (fun v μ' hv => by obtain ⟨x, rfl, hp⟩ := pI_r hv; exact hr x μ' hp) hx)
def q162_10 : List (Nat × Instr × Nat) := [(10, .ifCond .eq 9, 3)]
theorem e162_10 : am_dec am_M162 q162_10 = true := by decide +kernel
theorem b162_10 {d : Nat} {Q : Option Value ⊕ Nat → am_Mem → Prop} {μ : am_Mem} {r0 : Nat} {x1 x2 s0 : Int32}
    (k1 : s0 = 0 → Wp d 162 (19, [some (.ref r0), some (.int x1), some (.int x2)], [], μ) Q) (k2 : ¬ (s0 = 0) → Wp d 162 (13, [some (.ref r0), some (.int x1), some (.int x2)], [], μ) Q) :
    Wp d 162 (10, [some (.ref r0), some (.int x1), some (.int x2)], [.int s0], μ) Q := wp_blk rfl e162_10 (And.intro k1 k2)
def q162_13 : List (Nat × Instr × Nat) := [(13, .iinc 2 1, 3), (16, .goto (-14), 3)]
theorem e162_13 : am_dec am_M162 q162_13 = true := by decide +kernel
theorem b162_13 {d : Nat} {Q : Option Value ⊕ Nat → am_Mem → Prop} {μ : am_Mem} {r0 : Nat} {x1 x2 : Int32}
    (k : Wp d 162 (2, [some (.ref r0), some (.int x1), some (.int (x2 + Int32.ofInt 1))], [], μ) Q) :
    Wp d 162 (13, [some (.ref r0), some (.int x1), some (.int x2)], [], μ) Q := wp_blk rfl e162_13 k
def q162_19 : List (Nat × Instr × Nat) := [(19, .iload_n 2, 1)]
theorem e162_19 : am_dec am_M162 q162_19 = true := by decide +kernel
theorem e162_19_r : am_dec am_M162 [(20, .ireturn, 1)] = true := by decide +kernel
theorem b162_19 {d : Nat} {Q : Option Value ⊕ Nat → am_Mem → Prop} {μ : am_Mem} {r0 : Nat} {x1 x2 : Int32}
    (k : Q (.inl (some (.int x2))) μ) :
    Wp d 162 (19, [some (.ref r0), some (.int x1), some (.int x2)], [], μ) Q := wp_blk rfl e162_19 (wp_ri (ty := .int) rfl e162_19_r rfl ⟨rfl, rfl⟩ k)
/-! RuleSheetsModel.beginRule()V -/
def q163_0 : List (Nat × Instr × Nat) := [(0, .aload_n 0, 1), (1, .getfield 287, 3), (4, .bipush 60, 2), (6, .if_icmp .eq 18, 3)]
theorem e163_0 : am_dec am_M163 q163_0 = true := by decide +kernel
theorem b163_0 {d : Nat} {Q : Option Value ⊕ Nat → am_Mem → Prop} {μ : am_Mem} {r0 : Nat}
    (h1 : am_kd μ r0 = (1, 12))
    (k1 : (am_A μ r0 12) = ((Int8.ofInt 60).toInt32) → Wp d 163 (24, [some (.ref r0)], [], μ) Q) (k2 : ¬ ((am_A μ r0 12) = ((Int8.ofInt 60).toInt32)) → Wp d 163 (9, [some (.ref r0)], [], μ) Q) :
    Wp d 163 (0, [some (.ref r0)], [], μ) Q := wp_blk rfl e163_0 (And.intro h1 (And.intro k1 k2))
def q163_9 : List (Nat × Instr × Nat) := [(9, .aload_n 0, 1), (10, .getfield 247, 3), (13, .iconst 1, 1), (14, .if_icmp .eq 20, 3)]
theorem e163_9 : am_dec am_M163 q163_9 = true := by decide +kernel
theorem b163_9 {d : Nat} {Q : Option Value ⊕ Nat → am_Mem → Prop} {μ : am_Mem} {r0 : Nat}
    (h1 : am_kd μ r0 = (1, 12))
    (k1 : (am_A μ r0 28) = (Int32.ofInt 1) → Wp d 163 (34, [some (.ref r0)], [], μ) Q) (k2 : ¬ ((am_A μ r0 28) = (Int32.ofInt 1)) → Wp d 163 (17, [some (.ref r0)], [], μ) Q) :
    Wp d 163 (9, [some (.ref r0)], [], μ) Q := wp_blk rfl e163_9 (And.intro h1 (And.intro k1 k2))
def q163_17 : List (Nat × Instr × Nat) := [(17, .aload_n 0, 1)]
theorem e163_17 : am_dec am_M163 q163_17 = true := by decide +kernel
theorem e163_17_c : am_dc1 am_M163 18 (.invokevirtual 293) 3 = true := by decide +kernel
theorem b163_17 {d : Nat} {Q : Option Value ⊕ Nat → am_Mem → Prop} {μ : am_Mem} {r0 : Nat} {P : Int32 → am_Mem → Prop} {X : Nat → am_Mem → Prop}
    (hk : am_kd μ r0 = (1, 12))
    (hc : Wp d 164 (0, [some (.ref r0), none], [], μ) (pI P X)) (hr : ∀ x μ', P x μ' → Wp (d + 1) 163 (21, [some (.ref r0)], [.int x], (μ')) Q)
    (hx : ∀ x μ', X x μ' → Q (.inr x) μ') :
    Wp (d + 1) 163 (17, [some (.ref r0)], [], μ) Q := wp_blk rfl e163_17 (wp_cv (as := []) rfl e163_17_c rfl rfl rfl rfl rfl hk hc (fun v μ' hv => by obtain ⟨x, rfl, hp⟩ := pI_r hv; exact hr x μ' hp) hx)
def q163_21 : List (Nat × Instr × Nat) := [(21, .ifCond .ne 13, 3)]
theorem e163_21 : am_dec am_M163 q163_21 = true := by decide +kernel
theorem b163_21 {d : Nat} {Q : Option Value ⊕ Nat → am_Mem → Prop} {μ : am_Mem} {r0 : Nat} {s0 : Int32}
    (k1 : ¬ s0 = 0 → Wp d 163 (34, [some (.ref r0)], [], μ) Q) (k2 : ¬ (¬ s0 = 0) → Wp d 163 (24, [some (.ref r0)], [], μ) Q) :
    Wp d 163 (21, [some (.ref r0)], [.int s0], μ) Q := wp_blk rfl e163_21 (And.intro k1 k2)
def q163_24 : List (Nat × Instr × Nat) := [(24, .aload_n 0, 1), (25, .iconst 1, 1), (26, .aload_n 0, 1), (27, .getfield 241, 3)]
theorem e163_24 : am_dec am_M163 q163_24 = true := by decide +kernel
theorem e163_24_c : am_dc1 am_M163 30 (.invokevirtual 271) 3 = true := by decide +kernel
theorem b163_24 {d : Nat} {Q : Option Value ⊕ Nat → am_Mem → Prop} {μ : am_Mem} {r0 : Nat} {P : am_Mem → Prop} {X : Nat → am_Mem → Prop}
    (h1 : am_kd μ r0 = (1, 12))
    (hk : am_kd μ r0 = (1, 12))
    (hc : Wp d 166 (0, [some (.ref r0), some (.int (Int32.ofInt 1)), some (.int (am_A μ r0 29))], [], μ) (pV P X)) (hr : ∀ μ', P μ' → Wp (d + 1) 163 (33, [some (.ref r0)], [], (μ')) Q)
    (hx : ∀ x μ', X x μ' → Q (.inr x) μ') :
    Wp (d + 1) 163 (24, [some (.ref r0)], [], μ) Q := wp_blk rfl e163_24 (And.intro h1 (wp_cv (as := [.int (Int32.ofInt 1), .int (am_A μ r0 29)]) rfl e163_24_c rfl rfl rfl rfl rfl hk hc (fun v μ' hv => by obtain ⟨rfl, hp⟩ := pV_r hv; exact hr μ' hp) hx))
theorem e163_33_r : am_dec am_M163 [(33, .return_, 1)] = true := by decide +kernel
theorem b163_33 {d : Nat} {Q : Option Value ⊕ Nat → am_Mem → Prop} {μ : am_Mem} {r0 : Nat}
    (k : Q (.inl none) μ) :
    Wp d 163 (33, [some (.ref r0)], [], μ) Q := (wp_rv rfl e163_33_r rfl k)
def q163_34 : List (Nat × Instr × Nat) := [(34, .aload_n 0, 1), (35, .getfield 247, 3), (38, .iconst 3, 1), (39, .if_icmp .ne 28, 3)]
theorem e163_34 : am_dec am_M163 q163_34 = true := by decide +kernel
theorem b163_34 {d : Nat} {Q : Option Value ⊕ Nat → am_Mem → Prop} {μ : am_Mem} {r0 : Nat}
    (h1 : am_kd μ r0 = (1, 12))
    (k1 : ¬ (am_A μ r0 28) = (Int32.ofInt 3) → Wp d 163 (67, [some (.ref r0)], [], μ) Q) (k2 : ¬ (¬ (am_A μ r0 28) = (Int32.ofInt 3)) → Wp d 163 (42, [some (.ref r0)], [], μ) Q) :
    Wp d 163 (34, [some (.ref r0)], [], μ) Q := wp_blk rfl e163_34 (And.intro h1 (And.intro k1 k2))
def q163_42 : List (Nat × Instr × Nat) := [(42, .aload_n 0, 1), (43, .aload_n 0, 1), (44, .aload_n 0, 1), (45, .aload_n 0, 1), (46, .getfield 244, 3), (49, .aload_n 0, 1), (50, .getfield 235, 3)]
theorem e163_42 : am_dec am_M163 q163_42 = true := by decide +kernel
theorem e163_42_c : am_dc1 am_M163 53 (.invokevirtual 264) 3 = true := by decide +kernel
theorem b163_42 {d : Nat} {Q : Option Value ⊕ Nat → am_Mem → Prop} {μ : am_Mem} {r0 : Nat} {P : Int32 → am_Mem → Prop} {X : Nat → am_Mem → Prop}
    (h1 : am_kd μ r0 = (1, 12))
    (h2 : am_kd μ r0 = (1, 12))
    (hk : am_kd μ r0 = (1, 12))
    (hc : Wp d 165 (0, [some (.ref r0), some (.int (am_A μ r0 30)), some (.int (am_A μ r0 31)), none, none, none], [], μ) (pI P X)) (hr : ∀ x μ', P x μ' → Wp (d + 1) 163 (56, [some (.ref r0)], [.int x, .ref r0, .ref r0], (μ')) Q)
    (hx : ∀ x μ', X x μ' → Q (.inr x) μ') :
    Wp (d + 1) 163 (42, [some (.ref r0)], [], μ) Q := wp_blk rfl e163_42 (And.intro h1 (And.intro h2 (wp_cv (as := [.int (am_A μ r0 30), .int (am_A μ r0 31)]) rfl e163_42_c rfl rfl rfl rfl rfl hk hc (fun v μ' hv => by obtain ⟨x, rfl, hp⟩ := pI_r hv; exact hr x μ' hp) hx)))
theorem e163_56_c : am_dc1 am_M163 56 (.invokevirtual 297) 3 = true := by decide +kernel
theorem b163_56 {d : Nat} {Q : Option Value ⊕ Nat → am_Mem → Prop} {μ : am_Mem} {r0 r90 r91 : Nat} {s2 : Int32} {P : Int32 → am_Mem → Prop} {X : Nat → am_Mem → Prop}
    (hk : am_kd μ r91 = (1, 12))
    (hc : Wp d 167 (0, [some (.ref r91), some (.int s2)], [], μ) (pI P X)) (hr : ∀ x μ', P x μ' → Wp (d + 1) 163 (59, [some (.ref r0)], [.int x, .ref r90], (μ')) Q)
    (hx : ∀ x μ', X x μ' → Q (.inr x) μ') :
    Wp (d + 1) 163 (56, [some (.ref r0)], [.int s2, .ref r91, .ref r90], μ) Q := (wp_cv (as := [.int s2]) rfl e163_56_c rfl rfl rfl rfl rfl hk hc (fun v μ' hv => by obtain ⟨x, rfl, hp⟩ := pI_r hv; exact hr x μ' hp) hx)
theorem e163_59_c : am_dc1 am_M163 59 (.invokevirtual 300) 3 = true := by decide +kernel
theorem b163_59 {d : Nat} {Q : Option Value ⊕ Nat → am_Mem → Prop} {μ : am_Mem} {r0 r90 : Nat} {s1 : Int32} {P : am_Mem → Prop} {X : Nat → am_Mem → Prop}
    (hk : am_kd μ r90 = (1, 12))
    (hc : Wp d 168 (0, [some (.ref r90), some (.int s1)], [], μ) (pV P X)) (hr : ∀ μ', P μ' → Wp (d + 1) 163 (62, [some (.ref r0)], [], (μ')) Q)
    (hx : ∀ x μ', X x μ' → Q (.inr x) μ') :
    Wp (d + 1) 163 (59, [some (.ref r0)], [.int s1, .ref r90], μ) Q := (wp_cv (as := [.int s1]) rfl e163_59_c rfl rfl rfl rfl rfl hk hc (fun v μ' hv => by obtain ⟨rfl, hp⟩ := pV_r hv; exact hr μ' hp) hx)
def q163_62 : List (Nat × Instr × Nat) := [(62, .aload_n 0, 1)]
theorem e163_62 : am_dec am_M163 q163_62 = true := by decide +kernel
theorem e163_62_c : am_dc1 am_M163 63 (.invokevirtual 275) 3 = true := by decide +kernel
theorem b163_62 {d : Nat} {Q : Option Value ⊕ Nat → am_Mem → Prop} {μ : am_Mem} {r0 : Nat} {P : am_Mem → Prop} {X : Nat → am_Mem → Prop}
    (hk : am_kd μ r0 = (1, 12))
    (hc : Wp d 158 (0, [some (.ref r0), none, none], [], μ) (pV P X)) (hr : ∀ μ', P μ' → Wp (d + 1) 163 (66, [some (.ref r0)], [], (μ')) Q)
    (hx : ∀ x μ', X x μ' → Q (.inr x) μ') :
    Wp (d + 1) 163 (62, [some (.ref r0)], [], μ) Q := wp_blk rfl e163_62 (wp_cv (as := []) rfl e163_62_c rfl rfl rfl rfl rfl hk hc (fun v μ' hv => by obtain ⟨rfl, hp⟩ := pV_r hv; exact hr μ' hp) hx)
theorem e163_66_r : am_dec am_M163 [(66, .return_, 1)] = true := by decide +kernel
theorem b163_66 {d : Nat} {Q : Option Value ⊕ Nat → am_Mem → Prop} {μ : am_Mem} {r0 : Nat}
    (k : Q (.inl none) μ) :
    Wp d 163 (66, [some (.ref r0)], [], μ) Q := (wp_rv rfl e163_66_r rfl k)
def q163_67 : List (Nat × Instr × Nat) := [(67, .aload_n 0, 1)]
theorem e163_67 : am_dec am_M163 q163_67 = true := by decide +kernel
theorem e163_67_c : am_dc1 am_M163 68 (.invokevirtual 304) 3 = true := by decide +kernel
theorem b163_67 {d : Nat} {Q : Option Value ⊕ Nat → am_Mem → Prop} {μ : am_Mem} {r0 : Nat} {P : Int32 → am_Mem → Prop} {X : Nat → am_Mem → Prop}
    (hk : am_kd μ r0 = (1, 12))
    (hc : Wp d 169 (0, [some (.ref r0)], [], μ) (pI P X)) (hr : ∀ x μ', P x μ' → Wp (d + 1) 163 (71, [some (.ref r0)], [.int x], (μ')) Q)
    (hx : ∀ x μ', X x μ' → Q (.inr x) μ') :
    Wp (d + 1) 163 (67, [some (.ref r0)], [], μ) Q := wp_blk rfl e163_67 (wp_cv (as := []) rfl e163_67_c rfl rfl rfl rfl rfl hk hc (fun v μ' hv => by obtain ⟨x, rfl, hp⟩ := pI_r hv; exact hr x μ' hp) hx)
def q163_71 : List (Nat × Instr × Nat) := [(71, .ifCond .ne 4, 3)]
theorem e163_71 : am_dec am_M163 q163_71 = true := by decide +kernel
theorem b163_71 {d : Nat} {Q : Option Value ⊕ Nat → am_Mem → Prop} {μ : am_Mem} {r0 : Nat} {s0 : Int32}
    (k1 : ¬ s0 = 0 → Wp d 163 (75, [some (.ref r0)], [], μ) Q) (k2 : ¬ (¬ s0 = 0) → Wp d 163 (74, [some (.ref r0)], [], μ) Q) :
    Wp d 163 (71, [some (.ref r0)], [.int s0], μ) Q := wp_blk rfl e163_71 (And.intro k1 k2)
theorem e163_74_r : am_dec am_M163 [(74, .return_, 1)] = true := by decide +kernel
theorem b163_74 {d : Nat} {Q : Option Value ⊕ Nat → am_Mem → Prop} {μ : am_Mem} {r0 : Nat}
    (k : Q (.inl none) μ) :
    Wp d 163 (74, [some (.ref r0)], [], μ) Q := (wp_rv rfl e163_74_r rfl k)
def q163_75 : List (Nat × Instr × Nat) := [(75, .aload_n 0, 1), (76, .getfield 247, 3), (79, .iconst 5, 1), (80, .if_icmp .ne 26, 3)]
theorem e163_75 : am_dec am_M163 q163_75 = true := by decide +kernel
theorem b163_75 {d : Nat} {Q : Option Value ⊕ Nat → am_Mem → Prop} {μ : am_Mem} {r0 : Nat}
    (h1 : am_kd μ r0 = (1, 12))
    (k1 : ¬ (am_A μ r0 28) = (Int32.ofInt 5) → Wp d 163 (106, [some (.ref r0)], [], μ) Q) (k2 : ¬ (¬ (am_A μ r0 28) = (Int32.ofInt 5)) → Wp d 163 (83, [some (.ref r0)], [], μ) Q) :
    Wp d 163 (75, [some (.ref r0)], [], μ) Q := wp_blk rfl e163_75 (And.intro h1 (And.intro k1 k2))
def q163_83 : List (Nat × Instr × Nat) := [(83, .aload_n 0, 1), (84, .iconst (-1), 1)]
theorem e163_83 : am_dec am_M163 q163_83 = true := by decide +kernel
theorem e163_83_c : am_dc1 am_M163 85 (.invokevirtual 300) 3 = true := by decide +kernel
theorem b163_83 {d : Nat} {Q : Option Value ⊕ Nat → am_Mem → Prop} {μ : am_Mem} {r0 : Nat} {P : am_Mem → Prop} {X : Nat → am_Mem → Prop}
    (hk : am_kd μ r0 = (1, 12))
    (hc : Wp d 168 (0, [some (.ref r0), some (.int (Int32.ofInt (-1)))], [], μ) (pV P X)) (hr : ∀ μ', P μ' → Wp (d + 1) 163 (88, [some (.ref r0)], [], (μ')) Q)
    (hx : ∀ x μ', X x μ' → Q (.inr x) μ') :
    Wp (d + 1) 163 (83, [some (.ref r0)], [], μ) Q := wp_blk rfl e163_83 (wp_cv (as := [.int (Int32.ofInt (-1))]) rfl e163_83_c rfl rfl rfl rfl rfl hk hc (fun v μ' hv => by obtain ⟨rfl, hp⟩ := pV_r hv; exact hr μ' hp) hx)
def q163_88 : List (Nat × Instr × Nat) := [(88, .aload_n 0, 1), (89, .iconst 1, 1), (90, .aload_n 0, 1), (91, .getfield 287, 3), (94, .iconst 1, 1), (95, .isub, 1)]
theorem e163_88 : am_dec am_M163 q163_88 = true := by decide +kernel
theorem e163_88_c : am_dc1 am_M163 96 (.invokevirtual 307) 3 = true := by decide +kernel
theorem b163_88 {d : Nat} {Q : Option Value ⊕ Nat → am_Mem → Prop} {μ : am_Mem} {r0 : Nat} {P : am_Mem → Prop} {X : Nat → am_Mem → Prop}
    (h1 : am_kd μ r0 = (1, 12))
    (hk : am_kd μ r0 = (1, 12))
    (hc : Wp d 170 (0, [some (.ref r0), some (.int (Int32.ofInt 1)), some (.int ((am_A μ r0 12) - (Int32.ofInt 1)))], [], μ) (pV P X)) (hr : ∀ μ', P μ' → Wp (d + 1) 163 (99, [some (.ref r0)], [], (μ')) Q)
    (hx : ∀ x μ', X x μ' → Q (.inr x) μ') :
    Wp (d + 1) 163 (88, [some (.ref r0)], [], μ) Q := wp_blk rfl e163_88 (And.intro h1 (wp_cv (as := [.int (Int32.ofInt 1), .int ((am_A μ r0 12) - (Int32.ofInt 1))]) rfl e163_88_c rfl rfl rfl rfl rfl hk hc (fun v μ' hv => by obtain ⟨rfl, hp⟩ := pV_r hv; exact hr μ' hp) hx))
def q163_99 : List (Nat × Instr × Nat) := [(99, .aload_n 0, 1)]
theorem e163_99 : am_dec am_M163 q163_99 = true := by decide +kernel
theorem e163_99_c : am_dc1 am_M163 100 (.invokevirtual 275) 3 = true := by decide +kernel
theorem b163_99 {d : Nat} {Q : Option Value ⊕ Nat → am_Mem → Prop} {μ : am_Mem} {r0 : Nat} {P : am_Mem → Prop} {X : Nat → am_Mem → Prop}
    (hk : am_kd μ r0 = (1, 12))
    (hc : Wp d 158 (0, [some (.ref r0), none, none], [], μ) (pV P X)) (hr : ∀ μ', P μ' → Wp (d + 1) 163 (103, [some (.ref r0)], [], (μ')) Q)
    (hx : ∀ x μ', X x μ' → Q (.inr x) μ') :
    Wp (d + 1) 163 (99, [some (.ref r0)], [], μ) Q := wp_blk rfl e163_99 (wp_cv (as := []) rfl e163_99_c rfl rfl rfl rfl rfl hk hc (fun v μ' hv => by obtain ⟨rfl, hp⟩ := pV_r hv; exact hr μ' hp) hx)
def q163_103 : List (Nat × Instr × Nat) := [(103, .goto 57, 3)]
theorem e163_103 : am_dec am_M163 q163_103 = true := by decide +kernel
theorem b163_103 {d : Nat} {Q : Option Value ⊕ Nat → am_Mem → Prop} {μ : am_Mem} {r0 : Nat}
    (k : Wp d 163 (160, [some (.ref r0)], [], μ) Q) :
    Wp d 163 (103, [some (.ref r0)], [], μ) Q := wp_blk rfl e163_103 k
def q163_106 : List (Nat × Instr × Nat) := [(106, .aload_n 0, 1)]
theorem e163_106 : am_dec am_M163 q163_106 = true := by decide +kernel
theorem e163_106_c : am_dc1 am_M163 107 (.invokevirtual 293) 3 = true := by decide +kernel
theorem b163_106 {d : Nat} {Q : Option Value ⊕ Nat → am_Mem → Prop} {μ : am_Mem} {r0 : Nat} {P : Int32 → am_Mem → Prop} {X : Nat → am_Mem → Prop}
    (hk : am_kd μ r0 = (1, 12))
    (hc : Wp d 164 (0, [some (.ref r0), none], [], μ) (pI P X)) (hr : ∀ x μ', P x μ' → Wp (d + 1) 163 (110, [some (.ref r0)], [.int x], (μ')) Q)
    (hx : ∀ x μ', X x μ' → Q (.inr x) μ') :
    Wp (d + 1) 163 (106, [some (.ref r0)], [], μ) Q := wp_blk rfl e163_106 (wp_cv (as := []) rfl e163_106_c rfl rfl rfl rfl rfl hk hc (fun v μ' hv => by obtain ⟨x, rfl, hp⟩ := pI_r hv; exact hr x μ' hp) hx)
def q163_110 : List (Nat × Instr × Nat) := [(110, .ifCond .eq 41, 3)]
theorem e163_110 : am_dec am_M163 q163_110 = true := by decide +kernel
theorem b163_110 {d : Nat} {Q : Option Value ⊕ Nat → am_Mem → Prop} {μ : am_Mem} {r0 : Nat} {s0 : Int32}
    (k1 : s0 = 0 → Wp d 163 (151, [some (.ref r0)], [], μ) Q) (k2 : ¬ (s0 = 0) → Wp d 163 (113, [some (.ref r0)], [], μ) Q) :
    Wp d 163 (110, [some (.ref r0)], [.int s0], μ) Q := wp_blk rfl e163_110 (And.intro k1 k2)
def q163_113 : List (Nat × Instr × Nat) := [(113, .aload_n 0, 1), (114, .aload_n 0, 1), (115, .aload_n 0, 1), (116, .aload_n 0, 1), (117, .getfield 244, 3), (120, .aload_n 0, 1), (121, .getfield 235, 3)]
theorem e163_113 : am_dec am_M163 q163_113 = true := by decide +kernel
theorem e163_113_c : am_dc1 am_M163 124 (.invokevirtual 264) 3 = true := by decide +kernel
theorem b163_113 {d : Nat} {Q : Option Value ⊕ Nat → am_Mem → Prop} {μ : am_Mem} {r0 : Nat} {P : Int32 → am_Mem → Prop} {X : Nat → am_Mem → Prop}
    (h1 : am_kd μ r0 = (1, 12))
    (h2 : am_kd μ r0 = (1, 12))
    (hk : am_kd μ r0 = (1, 12))
    (hc : Wp d 165 (0, [some (.ref r0), some (.int (am_A μ r0 30)), some (.int (am_A μ r0 31)), none, none, none], [], μ) (pI P X)) (hr : ∀ x μ', P x μ' → Wp (d + 1) 163 (127, [some (.ref r0)], [.int x, .ref r0, .ref r0], (μ')) Q)
    (hx : ∀ x μ', X x μ' → Q (.inr x) μ') :
    Wp (d + 1) 163 (113, [some (.ref r0)], [], μ) Q := wp_blk rfl e163_113 (And.intro h1 (And.intro h2 (wp_cv (as := [.int (am_A μ r0 30), .int (am_A μ r0 31)]) rfl e163_113_c rfl rfl rfl rfl rfl hk hc (fun v μ' hv => by obtain ⟨x, rfl, hp⟩ := pI_r hv; exact hr x μ' hp) hx)))
theorem e163_127_c : am_dc1 am_M163 127 (.invokevirtual 297) 3 = true := by decide +kernel
theorem b163_127 {d : Nat} {Q : Option Value ⊕ Nat → am_Mem → Prop} {μ : am_Mem} {r0 r90 r91 : Nat} {s2 : Int32} {P : Int32 → am_Mem → Prop} {X : Nat → am_Mem → Prop}
    (hk : am_kd μ r91 = (1, 12))
    (hc : Wp d 167 (0, [some (.ref r91), some (.int s2)], [], μ) (pI P X)) (hr : ∀ x μ', P x μ' → Wp (d + 1) 163 (130, [some (.ref r0)], [.int x, .ref r90], (μ')) Q)
    (hx : ∀ x μ', X x μ' → Q (.inr x) μ') :
    Wp (d + 1) 163 (127, [some (.ref r0)], [.int s2, .ref r91, .ref r90], μ) Q := (wp_cv (as := [.int s2]) rfl e163_127_c rfl rfl rfl rfl rfl hk hc (fun v μ' hv => by obtain ⟨x, rfl, hp⟩ := pI_r hv; exact hr x μ' hp) hx)
theorem e163_130_c : am_dc1 am_M163 130 (.invokevirtual 300) 3 = true := by decide +kernel
theorem b163_130 {d : Nat} {Q : Option Value ⊕ Nat → am_Mem → Prop} {μ : am_Mem} {r0 r90 : Nat} {s1 : Int32} {P : am_Mem → Prop} {X : Nat → am_Mem → Prop}
    (hk : am_kd μ r90 = (1, 12))
    (hc : Wp d 168 (0, [some (.ref r90), some (.int s1)], [], μ) (pV P X)) (hr : ∀ μ', P μ' → Wp (d + 1) 163 (133, [some (.ref r0)], [], (μ')) Q)
    (hx : ∀ x μ', X x μ' → Q (.inr x) μ') :
    Wp (d + 1) 163 (130, [some (.ref r0)], [.int s1, .ref r90], μ) Q := (wp_cv (as := [.int s1]) rfl e163_130_c rfl rfl rfl rfl rfl hk hc (fun v μ' hv => by obtain ⟨rfl, hp⟩ := pV_r hv; exact hr μ' hp) hx)
def q163_133 : List (Nat × Instr × Nat) := [(133, .aload_n 0, 1), (134, .iconst 2, 1), (135, .aload_n 0, 1), (136, .getfield 278, 3), (139, .iconst 1, 1), (140, .isub, 1)]
theorem e163_133 : am_dec am_M163 q163_133 = true := by decide +kernel
theorem e163_133_c : am_dc1 am_M163 141 (.invokevirtual 307) 3 = true := by decide +kernel
theorem b163_133 {d : Nat} {Q : Option Value ⊕ Nat → am_Mem → Prop} {μ : am_Mem} {r0 : Nat} {P : am_Mem → Prop} {X : Nat → am_Mem → Prop}
    (h1 : am_kd μ r0 = (1, 12))
    (hk : am_kd μ r0 = (1, 12))
    (hc : Wp d 170 (0, [some (.ref r0), some (.int (Int32.ofInt 2)), some (.int ((am_A μ r0 18) - (Int32.ofInt 1)))], [], μ) (pV P X)) (hr : ∀ μ', P μ' → Wp (d + 1) 163 (144, [some (.ref r0)], [], (μ')) Q)
    (hx : ∀ x μ', X x μ' → Q (.inr x) μ') :
    Wp (d + 1) 163 (133, [some (.ref r0)], [], μ) Q := wp_blk rfl e163_133 (And.intro h1 (wp_cv (as := [.int (Int32.ofInt 2), .int ((am_A μ r0 18) - (Int32.ofInt 1))]) rfl e163_133_c rfl rfl rfl rfl rfl hk hc (fun v μ' hv => by obtain ⟨rfl, hp⟩ := pV_r hv; exact hr μ' hp) hx))
def q163_144 : List (Nat × Instr × Nat) := [(144, .aload_n 0, 1)]
theorem e163_144 : am_dec am_M163 q163_144 = true := by decide +kernel
theorem e163_144_c : am_dc1 am_M163 145 (.invokevirtual 275) 3 = true := by decide +kernel
theorem b163_144 {d : Nat} {Q : Option Value ⊕ Nat → am_Mem → Prop} {μ : am_Mem} {r0 : Nat} {P : am_Mem → Prop} {X : Nat → am_Mem → Prop}
    (hk : am_kd μ r0 = (1, 12))
    (hc : Wp d 158 (0, [some (.ref r0), none, none], [], μ) (pV P X)) (hr : ∀ μ', P μ' → Wp (d + 1) 163 (148, [some (.ref r0)], [], (μ')) Q)
    (hx : ∀ x μ', X x μ' → Q (.inr x) μ') :
    Wp (d + 1) 163 (144, [some (.ref r0)], [], μ) Q := wp_blk rfl e163_144 (wp_cv (as := []) rfl e163_144_c rfl rfl rfl rfl rfl hk hc (fun v μ' hv => by obtain ⟨rfl, hp⟩ := pV_r hv; exact hr μ' hp) hx)
def q163_148 : List (Nat × Instr × Nat) := [(148, .goto 12, 3)]
theorem e163_148 : am_dec am_M163 q163_148 = true := by decide +kernel
theorem b163_148 {d : Nat} {Q : Option Value ⊕ Nat → am_Mem → Prop} {μ : am_Mem} {r0 : Nat}
    (k : Wp d 163 (160, [some (.ref r0)], [], μ) Q) :
    Wp d 163 (148, [some (.ref r0)], [], μ) Q := wp_blk rfl e163_148 k
def q163_151 : List (Nat × Instr × Nat) := [(151, .aload_n 0, 1), (152, .iconst 1, 1), (153, .aload_n 0, 1), (154, .getfield 241, 3)]
theorem e163_151 : am_dec am_M163 q163_151 = true := by decide +kernel
theorem e163_151_c : am_dc1 am_M163 157 (.invokevirtual 271) 3 = true := by decide +kernel
theorem b163_151 {d : Nat} {Q : Option Value ⊕ Nat → am_Mem → Prop} {μ : am_Mem} {r0 : Nat} {P : am_Mem → Prop} {X : Nat → am_Mem → Prop}
    (h1 : am_kd μ r0 = (1, 12))
    (hk : am_kd μ r0 = (1, 12))
    (hc : Wp d 166 (0, [some (.ref r0), some (.int (Int32.ofInt 1)), some (.int (am_A μ r0 29))], [], μ) (pV P X)) (hr : ∀ μ', P μ' → Wp (d + 1) 163 (160, [some (.ref r0)], [], (μ')) Q)
    (hx : ∀ x μ', X x μ' → Q (.inr x) μ') :
    Wp (d + 1) 163 (151, [some (.ref r0)], [], μ) Q := wp_blk rfl e163_151 (And.intro h1 (wp_cv (as := [.int (Int32.ofInt 1), .int (am_A μ r0 29)]) rfl e163_151_c rfl rfl rfl rfl rfl hk hc (fun v μ' hv => by obtain ⟨rfl, hp⟩ := pV_r hv; exact hr μ' hp) hx))
theorem e163_160_r : am_dec am_M163 [(160, .return_, 1)] = true := by decide +kernel
theorem b163_160 {d : Nat} {Q : Option Value ⊕ Nat → am_Mem → Prop} {μ : am_Mem} {r0 : Nat}
    (k : Q (.inl none) μ) :
    Wp d 163 (160, [some (.ref r0)], [], μ) Q := (wp_rv rfl e163_160_r rfl k)
/-! RuleSheetsModel.isPlainName()Z -/
def q164_0 : List (Nat × Instr × Nat) := [(0, .aload_n 0, 1), (1, .getfield 247, 3), (4, .iconst 3, 1), (5, .if_icmp .eq 5, 3)]
theorem e164_0 : am_dec am_M164 q164_0 = true := by decide +kernel
theorem b164_0 {d : Nat} {Q : Option Value ⊕ Nat → am_Mem → Prop} {μ : am_Mem} {r0 : Nat}
    (h1 : am_kd μ r0 = (1, 12))
    (k1 : (am_A μ r0 28) = (Int32.ofInt 3) → Wp d 164 (10, [some (.ref r0), none], [], μ) Q) (k2 : ¬ ((am_A μ r0 28) = (Int32.ofInt 3)) → Wp d 164 (8, [some (.ref r0), none], [], μ) Q) :
    Wp d 164 (0, [some (.ref r0), none], [], μ) Q := wp_blk rfl e164_0 (And.intro h1 (And.intro k1 k2))
def q164_8 : List (Nat × Instr × Nat) := [(8, .iconst 0, 1)]
theorem e164_8 : am_dec am_M164 q164_8 = true := by decide +kernel
theorem e164_8_r : am_dec am_M164 [(9, .ireturn, 1)] = true := by decide +kernel
theorem b164_8 {d : Nat} {Q : Option Value ⊕ Nat → am_Mem → Prop} {μ : am_Mem} {r0 : Nat}
    (k : Q (.inl (some (.int (Int32.ofInt 0)))) μ) :
    Wp d 164 (8, [some (.ref r0), none], [], μ) Q := wp_blk rfl e164_8 (wp_ri (ty := .boolean) rfl e164_8_r rfl (by decide) k)
def q164_10 : List (Nat × Instr × Nat) := [(10, .aload_n 0, 1), (11, .aload_n 0, 1), (12, .getfield 244, 3), (15, .aload_n 0, 1), (16, .getfield 235, 3)]
theorem e164_10 : am_dec am_M164 q164_10 = true := by decide +kernel
theorem e164_10_c : am_dc1 am_M164 19 (.invokevirtual 264) 3 = true := by decide +kernel
theorem b164_10 {d : Nat} {Q : Option Value ⊕ Nat → am_Mem → Prop} {μ : am_Mem} {r0 : Nat} {P : Int32 → am_Mem → Prop} {X : Nat → am_Mem → Prop}
    (h1 : am_kd μ r0 = (1, 12))
    (h2 : am_kd μ r0 = (1, 12))
    (hk : am_kd μ r0 = (1, 12))
    (hc : Wp d 165 (0, [some (.ref r0), some (.int (am_A μ r0 30)), some (.int (am_A μ r0 31)), none, none, none], [], μ) (pI P X)) (hr : ∀ x μ', P x μ' → Wp (d + 1) 164 (22, [some (.ref r0), none], [.int x], (μ')) Q)
    (hx : ∀ x μ', X x μ' → Q (.inr x) μ') :
    Wp (d + 1) 164 (10, [some (.ref r0), none], [], μ) Q := wp_blk rfl e164_10 (And.intro h1 (And.intro h2 (wp_cv (as := [.int (am_A μ r0 30), .int (am_A μ r0 31)]) rfl e164_10_c rfl rfl rfl rfl rfl hk hc (fun v μ' hv => by obtain ⟨x, rfl, hp⟩ := pI_r hv; exact hr x μ' hp) hx)))
def q164_22 : List (Nat × Instr × Nat) := [(22, .istore_n 1, 1), (23, .iload_n 1, 1), (24, .ifCond .eq 12, 3)]
theorem e164_22 : am_dec am_M164 q164_22 = true := by decide +kernel
theorem b164_22 {d : Nat} {Q : Option Value ⊕ Nat → am_Mem → Prop} {μ : am_Mem} {r0 : Nat} {s0 : Int32}
    (k1 : s0 = 0 → Wp d 164 (36, [some (.ref r0), some (.int s0)], [], μ) Q) (k2 : ¬ (s0 = 0) → Wp d 164 (27, [some (.ref r0), some (.int s0)], [], μ) Q) :
    Wp d 164 (22, [some (.ref r0), none], [.int s0], μ) Q := wp_blk rfl e164_22 (And.intro k1 k2)
def q164_27 : List (Nat × Instr × Nat) := [(27, .iload_n 1, 1), (28, .iconst 1, 1), (29, .if_icmp .eq 7, 3)]
theorem e164_27 : am_dec am_M164 q164_27 = true := by decide +kernel
theorem b164_27 {d : Nat} {Q : Option Value ⊕ Nat → am_Mem → Prop} {μ : am_Mem} {r0 : Nat} {x1 : Int32}
    (k1 : x1 = (Int32.ofInt 1) → Wp d 164 (36, [some (.ref r0), some (.int x1)], [], μ) Q) (k2 : ¬ (x1 = (Int32.ofInt 1)) → Wp d 164 (32, [some (.ref r0), some (.int x1)], [], μ) Q) :
    Wp d 164 (27, [some (.ref r0), some (.int x1)], [], μ) Q := wp_blk rfl e164_27 (And.intro k1 k2)
def q164_32 : List (Nat × Instr × Nat) := [(32, .iconst 1, 1), (33, .goto 4, 3)]
theorem e164_32 : am_dec am_M164 q164_32 = true := by decide +kernel
theorem b164_32 {d : Nat} {Q : Option Value ⊕ Nat → am_Mem → Prop} {μ : am_Mem} {r0 : Nat} {x1 : Int32}
    (k : Wp d 164 (37, [some (.ref r0), some (.int x1)], [.int (Int32.ofInt 1)], μ) Q) :
    Wp d 164 (32, [some (.ref r0), some (.int x1)], [], μ) Q := wp_blk rfl e164_32 k
def q164_36 : List (Nat × Instr × Nat) := [(36, .iconst 0, 1)]
theorem e164_36 : am_dec am_M164 q164_36 = true := by decide +kernel
theorem b164_36 {d : Nat} {Q : Option Value ⊕ Nat → am_Mem → Prop} {μ : am_Mem} {r0 : Nat} {x1 : Int32}
    (k : Wp d 164 (37, [some (.ref r0), some (.int x1)], [.int (Int32.ofInt 0)], μ) Q) :
    Wp d 164 (36, [some (.ref r0), some (.int x1)], [], μ) Q := wp_blk rfl e164_36 k
theorem e164_37_r : am_dec am_M164 [(37, .ireturn, 1)] = true := by decide +kernel
theorem b164_37 {d : Nat} {Q : Option Value ⊕ Nat → am_Mem → Prop} {μ : am_Mem} {r0 : Nat} {x1 s0 : Int32}
    (hn : narrow .boolean (.int s0) = .int s0 ∧ fits .boolean (.int s0) = true)
    (k : Q (.inl (some (.int s0))) μ) :
    Wp d 164 (37, [some (.ref r0), some (.int x1)], [.int s0], μ) Q := (wp_ri (ty := .boolean) rfl e164_37_r rfl hn k)
/-! RuleSheetsModel.nameOf(II)I -/
def q165_0 : List (Nat × Instr × Nat) := [(0, .iconst 0, 1), (1, .istore_n 3, 1)]
theorem e165_0 : am_dec am_M165 q165_0 = true := by decide +kernel
theorem b165_0 {d : Nat} {Q : Option Value ⊕ Nat → am_Mem → Prop} {μ : am_Mem} {r0 : Nat} {x1 x2 : Int32}
    (k : Wp d 165 (2, [some (.ref r0), some (.int x1), some (.int x2), some (.int (Int32.ofInt 0)), none, none], [], μ) Q) :
    Wp d 165 (0, [some (.ref r0), some (.int x1), some (.int x2), none, none, none], [], μ) Q := wp_blk rfl e165_0 k
def q165_2 : List (Nat × Instr × Nat) := [(2, .iload_n 3, 1), (3, .aload_n 0, 1), (4, .getfield 253, 3), (7, .if_icmp .ge 88, 3)]
theorem e165_2 : am_dec am_M165 q165_2 = true := by decide +kernel
theorem b165_2 {d : Nat} {Q : Option Value ⊕ Nat → am_Mem → Prop} {μ : am_Mem} {r0 : Nat} {x1 x2 x3 : Int32} {o4 o5 : Option Value}
    (h1 : am_kd μ r0 = (1, 12))
    (k1 : (am_A μ r0 9) ≤ x3 → Wp d 165 (95, [some (.ref r0), some (.int x1), some (.int x2), some (.int x3), o4, o5], [], μ) Q) (k2 : ¬ ((am_A μ r0 9) ≤ x3) → Wp d 165 (10, [some (.ref r0), some (.int x1), some (.int x2), some (.int x3), o4, o5], [], μ) Q) :
    Wp d 165 (2, [some (.ref r0), some (.int x1), some (.int x2), some (.int x3), o4, o5], [], μ) Q := wp_blk rfl e165_2 (And.intro h1 (And.intro k1 k2))
def q165_10 : List (Nat × Instr × Nat) := [(10, .aload_n 0, 1), (11, .getfield 26, 3), (14, .iload_n 3, 1), (15, .iaload, 1), (16, .iload_n 2, 1), (17, .iload_n 1, 1), (18, .isub, 1), (19, .if_icmp .ne 7, 3)]
theorem e165_10 : am_dec am_M165 q165_10 = true := by decide +kernel
theorem b165_10 {d : Nat} {Q : Option Value ⊕ Nat → am_Mem → Prop} {μ : am_Mem} {r0 : Nat} {x1 x2 x3 : Int32} {o4 o5 : Option Value}
    (h1 : am_kd μ r0 = (1, 12))
    (h2 : ¬ am_F μ r0 11 = 15)
    (h3 : (am_kd μ (am_F μ r0 11)).1 = 2 ∨ (am_kd μ (am_F μ r0 11)).1 = 8)
    (h4 : ¬ (x3 < 0 ∨ (am_kd μ (am_F μ r0 11)).2 ≤ x3.toNatClampNeg))
    (k1 : ¬ (am_A μ (am_F μ r0 11) x3.toNatClampNeg) = (x2 - x1) → Wp d 165 (26, [some (.ref r0), some (.int x1), some (.int x2), some (.int x3), o4, o5], [], μ) Q) (k2 : ¬ (¬ (am_A μ (am_F μ r0 11) x3.toNatClampNeg) = (x2 - x1)) → Wp d 165 (22, [some (.ref r0), some (.int x1), some (.int x2), some (.int x3), o4, o5], [], μ) Q) :
    Wp d 165 (10, [some (.ref r0), some (.int x1), some (.int x2), some (.int x3), o4, o5], [], μ) Q := wp_blk rfl e165_10 (And.intro h1 (And.intro h2 (And.intro h3 (And.intro h4 (And.intro k1 k2)))))
def q165_22 : List (Nat × Instr × Nat) := [(22, .iconst 1, 1), (23, .goto 4, 3)]
theorem e165_22 : am_dec am_M165 q165_22 = true := by decide +kernel
theorem b165_22 {d : Nat} {Q : Option Value ⊕ Nat → am_Mem → Prop} {μ : am_Mem} {r0 : Nat} {x1 x2 x3 : Int32} {o4 o5 : Option Value}
    (k : Wp d 165 (27, [some (.ref r0), some (.int x1), some (.int x2), some (.int x3), o4, o5], [.int (Int32.ofInt 1)], μ) Q) :
    Wp d 165 (22, [some (.ref r0), some (.int x1), some (.int x2), some (.int x3), o4, o5], [], μ) Q := wp_blk rfl e165_22 k
def q165_26 : List (Nat × Instr × Nat) := [(26, .iconst 0, 1)]
theorem e165_26 : am_dec am_M165 q165_26 = true := by decide +kernel
theorem b165_26 {d : Nat} {Q : Option Value ⊕ Nat → am_Mem → Prop} {μ : am_Mem} {r0 : Nat} {x1 x2 x3 : Int32} {o4 o5 : Option Value}
    (k : Wp d 165 (27, [some (.ref r0), some (.int x1), some (.int x2), some (.int x3), o4, o5], [.int (Int32.ofInt 0)], μ) Q) :
    Wp d 165 (26, [some (.ref r0), some (.int x1), some (.int x2), some (.int x3), o4, o5], [], μ) Q := wp_blk rfl e165_26 k
def q165_27 : List (Nat × Instr × Nat) := [(27, .istore 4, 2), (29, .iconst 0, 1), (30, .istore 5, 2)]
theorem e165_27 : am_dec am_M165 q165_27 = true := by decide +kernel
theorem b165_27 {d : Nat} {Q : Option Value ⊕ Nat → am_Mem → Prop} {μ : am_Mem} {r0 : Nat} {x1 x2 x3 s0 : Int32} {o4 o5 : Option Value}
    (k : Wp d 165 (32, [some (.ref r0), some (.int x1), some (.int x2), some (.int x3), some (.int s0), some (.int (Int32.ofInt 0))], [], μ) Q) :
    Wp d 165 (27, [some (.ref r0), some (.int x1), some (.int x2), some (.int x3), o4, o5], [.int s0], μ) Q := wp_blk rfl e165_27 k
def q165_32 : List (Nat × Instr × Nat) := [(32, .iload 5, 2), (34, .iload_n 2, 1), (35, .iload_n 1, 1), (36, .isub, 1), (37, .if_icmp .ge 45, 3)]
theorem e165_32 : am_dec am_M165 q165_32 = true := by decide +kernel
theorem b165_32 {d : Nat} {Q : Option Value ⊕ Nat → am_Mem → Prop} {μ : am_Mem} {r0 : Nat} {x1 x2 x3 x4 x5 : Int32}
    (k1 : (x2 - x1) ≤ x5 → Wp d 165 (82, [some (.ref r0), some (.int x1), some (.int x2), some (.int x3), some (.int x4), some (.int x5)], [], μ) Q) (k2 : ¬ ((x2 - x1) ≤ x5) → Wp d 165 (40, [some (.ref r0), some (.int x1), some (.int x2), some (.int x3), some (.int x4), some (.int x5)], [], μ) Q) :
    Wp d 165 (32, [some (.ref r0), some (.int x1), some (.int x2), some (.int x3), some (.int x4), some (.int x5)], [], μ) Q := wp_blk rfl e165_32 (And.intro k1 k2)
def q165_40 : List (Nat × Instr × Nat) := [(40, .iload 4, 2), (42, .ifCond .eq 40, 3)]
theorem e165_40 : am_dec am_M165 q165_40 = true := by decide +kernel
theorem b165_40 {d : Nat} {Q : Option Value ⊕ Nat → am_Mem → Prop} {μ : am_Mem} {r0 : Nat} {x1 x2 x3 x4 x5 : Int32}
    (k1 : x4 = 0 → Wp d 165 (82, [some (.ref r0), some (.int x1), some (.int x2), some (.int x3), some (.int x4), some (.int x5)], [], μ) Q) (k2 : ¬ (x4 = 0) → Wp d 165 (45, [some (.ref r0), some (.int x1), some (.int x2), some (.int x3), some (.int x4), some (.int x5)], [], μ) Q) :
    Wp d 165 (40, [some (.ref r0), some (.int x1), some (.int x2), some (.int x3), some (.int x4), some (.int x5)], [], μ) Q := wp_blk rfl e165_40 (And.intro k1 k2)
def q165_45 : List (Nat × Instr × Nat) := [(45, .aload_n 0, 1), (46, .getfield 23, 3), (49, .bipush 16, 2), (51, .iload_n 3, 1), (52, .imul, 1), (53, .iload 5, 2), (55, .iadd, 1), (56, .iaload, 1), (57, .aload_n 0, 1), (58, .getfield 20, 3), (61, .iload_n 1, 1), (62, .iload 5, 2), (64, .iadd, 1), (65, .iaload, 1), (66, .if_icmp .ne 7, 3)]
theorem e165_45 : am_dec am_M165 q165_45 = true := by decide +kernel
theorem b165_45 {d : Nat} {Q : Option Value ⊕ Nat → am_Mem → Prop} {μ : am_Mem} {r0 : Nat} {x1 x2 x3 x4 x5 : Int32}
    (h1 : am_kd μ r0 = (1, 12))
    (h2 : ¬ am_F μ r0 10 = 15)
    (h3 : (am_kd μ (am_F μ r0 10)).1 = 2 ∨ (am_kd μ (am_F μ r0 10)).1 = 8)
    (h4 : ¬ (((((Int8.ofInt 16).toInt32) * x3) + x5) < 0 ∨ (am_kd μ (am_F μ r0 10)).2 ≤ ((((Int8.ofInt 16).toInt32) * x3) + x5).toNatClampNeg))
    (h5 : am_kd μ r0 = (1, 12))
    (h6 : ¬ am_F μ r0 7 = 15)
    (h7 : (am_kd μ (am_F μ r0 7)).1 = 2 ∨ (am_kd μ (am_F μ r0 7)).1 = 8)
    (h8 : ¬ ((x1 + x5) < 0 ∨ (am_kd μ (am_F μ r0 7)).2 ≤ (x1 + x5).toNatClampNeg))
    (k1 : ¬ (am_A μ (am_F μ r0 10) ((((Int8.ofInt 16).toInt32) * x3) + x5).toNatClampNeg) = (am_A μ (am_F μ r0 7) (x1 + x5).toNatClampNeg) → Wp d 165 (73, [some (.ref r0), some (.int x1), some (.int x2), some (.int x3), some (.int x4), some (.int x5)], [], μ) Q) (k2 : ¬ (¬ (am_A μ (am_F μ r0 10) ((((Int8.ofInt 16).toInt32) * x3) + x5).toNatClampNeg) = (am_A μ (am_F μ r0 7) (x1 + x5).toNatClampNeg)) → Wp d 165 (69, [some (.ref r0), some (.int x1), some (.int x2), some (.int x3), some (.int x4), some (.int x5)], [], μ) Q) :
    Wp d 165 (45, [some (.ref r0), some (.int x1), some (.int x2), some (.int x3), some (.int x4), some (.int x5)], [], μ) Q := wp_blk rfl e165_45 (And.intro h1 (And.intro h2 (And.intro h3 (And.intro h4 (And.intro h5 (And.intro h6 (And.intro h7 (And.intro h8 (And.intro k1 k2)))))))))
def q165_69 : List (Nat × Instr × Nat) := [(69, .iconst 1, 1), (70, .goto 4, 3)]
theorem e165_69 : am_dec am_M165 q165_69 = true := by decide +kernel
theorem b165_69 {d : Nat} {Q : Option Value ⊕ Nat → am_Mem → Prop} {μ : am_Mem} {r0 : Nat} {x1 x2 x3 x4 x5 : Int32}
    (k : Wp d 165 (74, [some (.ref r0), some (.int x1), some (.int x2), some (.int x3), some (.int x4), some (.int x5)], [.int (Int32.ofInt 1)], μ) Q) :
    Wp d 165 (69, [some (.ref r0), some (.int x1), some (.int x2), some (.int x3), some (.int x4), some (.int x5)], [], μ) Q := wp_blk rfl e165_69 k
def q165_73 : List (Nat × Instr × Nat) := [(73, .iconst 0, 1)]
theorem e165_73 : am_dec am_M165 q165_73 = true := by decide +kernel
theorem b165_73 {d : Nat} {Q : Option Value ⊕ Nat → am_Mem → Prop} {μ : am_Mem} {r0 : Nat} {x1 x2 x3 x4 x5 : Int32}
    (k : Wp d 165 (74, [some (.ref r0), some (.int x1), some (.int x2), some (.int x3), some (.int x4), some (.int x5)], [.int (Int32.ofInt 0)], μ) Q) :
    Wp d 165 (73, [some (.ref r0), some (.int x1), some (.int x2), some (.int x3), some (.int x4), some (.int x5)], [], μ) Q := wp_blk rfl e165_73 k
def q165_74 : List (Nat × Instr × Nat) := [(74, .istore 4, 2), (76, .iinc 5 1, 3), (79, .goto (-47), 3)]
theorem e165_74 : am_dec am_M165 q165_74 = true := by decide +kernel
theorem b165_74 {d : Nat} {Q : Option Value ⊕ Nat → am_Mem → Prop} {μ : am_Mem} {r0 : Nat} {x1 x2 x3 x4 x5 s0 : Int32}
    (k : Wp d 165 (32, [some (.ref r0), some (.int x1), some (.int x2), some (.int x3), some (.int s0), some (.int (x5 + Int32.ofInt 1))], [], μ) Q) :
    Wp d 165 (74, [some (.ref r0), some (.int x1), some (.int x2), some (.int x3), some (.int x4), some (.int x5)], [.int s0], μ) Q := wp_blk rfl e165_74 k
def q165_82 : List (Nat × Instr × Nat) := [(82, .iload 4, 2), (84, .ifCond .eq 5, 3)]
theorem e165_82 : am_dec am_M165 q165_82 = true := by decide +kernel
theorem b165_82 {d : Nat} {Q : Option Value ⊕ Nat → am_Mem → Prop} {μ : am_Mem} {r0 : Nat} {x1 x2 x3 x4 x5 : Int32}
    (k1 : x4 = 0 → Wp d 165 (89, [some (.ref r0), some (.int x1), some (.int x2), some (.int x3), some (.int x4), some (.int x5)], [], μ) Q) (k2 : ¬ (x4 = 0) → Wp d 165 (87, [some (.ref r0), some (.int x1), some (.int x2), some (.int x3), some (.int x4), some (.int x5)], [], μ) Q) :
    Wp d 165 (82, [some (.ref r0), some (.int x1), some (.int x2), some (.int x3), some (.int x4), some (.int x5)], [], μ) Q := wp_blk rfl e165_82 (And.intro k1 k2)
def q165_87 : List (Nat × Instr × Nat) := [(87, .iload_n 3, 1)]
theorem e165_87 : am_dec am_M165 q165_87 = true := by decide +kernel
theorem e165_87_r : am_dec am_M165 [(88, .ireturn, 1)] = true := by decide +kernel
theorem b165_87 {d : Nat} {Q : Option Value ⊕ Nat → am_Mem → Prop} {μ : am_Mem} {r0 : Nat} {x1 x2 x3 x4 x5 : Int32}
    (k : Q (.inl (some (.int x3))) μ) :
    Wp d 165 (87, [some (.ref r0), some (.int x1), some (.int x2), some (.int x3), some (.int x4), some (.int x5)], [], μ) Q := wp_blk rfl e165_87 (wp_ri (ty := .int) rfl e165_87_r rfl ⟨rfl, rfl⟩ k)
def q165_89 : List (Nat × Instr × Nat) := [(89, .iinc 3 1, 3), (92, .goto (-90), 3)]
theorem e165_89 : am_dec am_M165 q165_89 = true := by decide +kernel
theorem b165_89 {d : Nat} {Q : Option Value ⊕ Nat → am_Mem → Prop} {μ : am_Mem} {r0 : Nat} {x1 x2 x3 x4 x5 : Int32}
    (k : Wp d 165 (2, [some (.ref r0), some (.int x1), some (.int x2), some (.int (x3 + Int32.ofInt 1)), some (.int x4), some (.int x5)], [], μ) Q) :
    Wp d 165 (89, [some (.ref r0), some (.int x1), some (.int x2), some (.int x3), some (.int x4), some (.int x5)], [], μ) Q := wp_blk rfl e165_89 k
def q165_95 : List (Nat × Instr × Nat) := [(95, .iconst 0, 1), (96, .istore_n 3, 1)]
theorem e165_95 : am_dec am_M165 q165_95 = true := by decide +kernel
theorem b165_95 {d : Nat} {Q : Option Value ⊕ Nat → am_Mem → Prop} {μ : am_Mem} {r0 : Nat} {x1 x2 x3 : Int32} {o4 o5 : Option Value}
    (k : Wp d 165 (97, [some (.ref r0), some (.int x1), some (.int x2), some (.int (Int32.ofInt 0)), o4, o5], [], μ) Q) :
    Wp d 165 (95, [some (.ref r0), some (.int x1), some (.int x2), some (.int x3), o4, o5], [], μ) Q := wp_blk rfl e165_95 k
def q165_97 : List (Nat × Instr × Nat) := [(97, .iload_n 3, 1), (98, .iload_n 2, 1), (99, .iload_n 1, 1), (100, .isub, 1), (101, .if_icmp .ge 31, 3)]
theorem e165_97 : am_dec am_M165 q165_97 = true := by decide +kernel
theorem b165_97 {d : Nat} {Q : Option Value ⊕ Nat → am_Mem → Prop} {μ : am_Mem} {r0 : Nat} {x1 x2 x3 : Int32} {o4 o5 : Option Value}
    (k1 : (x2 - x1) ≤ x3 → Wp d 165 (132, [some (.ref r0), some (.int x1), some (.int x2), some (.int x3), o4, o5], [], μ) Q) (k2 : ¬ ((x2 - x1) ≤ x3) → Wp d 165 (104, [some (.ref r0), some (.int x1), some (.int x2), some (.int x3), o4, o5], [], μ) Q) :
    Wp d 165 (97, [some (.ref r0), some (.int x1), some (.int x2), some (.int x3), o4, o5], [], μ) Q := wp_blk rfl e165_97 (And.intro k1 k2)
def q165_104 : List (Nat × Instr × Nat) := [(104, .aload_n 0, 1), (105, .getfield 23, 3), (108, .bipush 16, 2), (110, .aload_n 0, 1), (111, .getfield 253, 3), (114, .imul, 1), (115, .iload_n 3, 1), (116, .iadd, 1), (117, .aload_n 0, 1), (118, .getfield 20, 3), (121, .iload_n 1, 1), (122, .iload_n 3, 1), (123, .iadd, 1), (124, .iaload, 1), (125, .iastore, 1), (126, .iinc 3 1, 3), (129, .goto (-32), 3)]
theorem e165_104 : am_dec am_M165 q165_104 = true := by decide +kernel
theorem b165_104 {d : Nat} {Q : Option Value ⊕ Nat → am_Mem → Prop} {μ : am_Mem} {r0 : Nat} {x1 x2 x3 : Int32} {o4 o5 : Option Value}
    (h1 : am_kd μ r0 = (1, 12))
    (h2 : ¬ am_F μ r0 10 = 15)
    (h3 : am_kd μ r0 = (1, 12))
    (h4 : am_kd μ r0 = (1, 12))
    (h5 : ¬ am_F μ r0 7 = 15)
    (h6 : (am_kd μ (am_F μ r0 7)).1 = 2 ∨ (am_kd μ (am_F μ r0 7)).1 = 8)
    (h7 : ¬ ((x1 + x3) < 0 ∨ (am_kd μ (am_F μ r0 7)).2 ≤ (x1 + x3).toNatClampNeg))
    (h8 : (am_kd μ (am_F μ r0 10)).1 = 2)
    (h9 : ¬ (((((Int8.ofInt 16).toInt32) * (am_A μ r0 9)) + x3) < 0 ∨ (am_kd μ (am_F μ r0 10)).2 ≤ ((((Int8.ofInt 16).toInt32) * (am_A μ r0 9)) + x3).toNatClampNeg))
    (k : Wp d 165 (97, [some (.ref r0), some (.int x1), some (.int x2), some (.int (x3 + Int32.ofInt 1)), o4, o5], [], (am_pA μ (am_F μ r0 10) ((((Int8.ofInt 16).toInt32) * (am_A μ r0 9)) + x3).toNatClampNeg (am_A μ (am_F μ r0 7) (x1 + x3).toNatClampNeg))) Q) :
    Wp d 165 (104, [some (.ref r0), some (.int x1), some (.int x2), some (.int x3), o4, o5], [], μ) Q := wp_blk rfl e165_104 (And.intro h1 (And.intro h2 (And.intro h3 (And.intro h4 (And.intro h5 (And.intro h6 (And.intro h7 (And.intro h8 (And.intro h9 k)))))))))
def q165_132 : List (Nat × Instr × Nat) := [(132, .aload_n 0, 1), (133, .getfield 26, 3), (136, .aload_n 0, 1), (137, .getfield 253, 3), (140, .iload_n 2, 1), (141, .iload_n 1, 1), (142, .isub, 1), (143, .iastore, 1), (144, .aload_n 0, 1), (145, .dup, 1), (146, .getfield 253, 3), (149, .iconst 1, 1), (150, .iadd, 1), (151, .putfield 253, 3)]
theorem e165_132 : am_dec am_M165 q165_132 = true := by decide +kernel
theorem b165_132 {d : Nat} {Q : Option Value ⊕ Nat → am_Mem → Prop} {μ : am_Mem} {r0 : Nat} {x1 x2 x3 : Int32} {o4 o5 : Option Value}
    (h1 : am_kd μ r0 = (1, 12))
    (h2 : ¬ am_F μ r0 11 = 15)
    (h3 : am_kd μ r0 = (1, 12))
    (h4 : (am_kd μ (am_F μ r0 11)).1 = 2)
    (h5 : ¬ ((am_A μ r0 9) < 0 ∨ (am_kd μ (am_F μ r0 11)).2 ≤ (am_A μ r0 9).toNatClampNeg))
    (h6 : am_kd (am_pA μ (am_F μ r0 11) (am_A μ r0 9).toNatClampNeg (x2 - x1)) r0 = (1, 12))
    (h7 : am_kd (am_pA μ (am_F μ r0 11) (am_A μ r0 9).toNatClampNeg (x2 - x1)) r0 = (1, 12))
    (k : Wp d 165 (154, [some (.ref r0), some (.int x1), some (.int x2), some (.int x3), o4, o5], [], (am_pA (am_pA μ (am_F μ r0 11) (am_A μ r0 9).toNatClampNeg (x2 - x1)) r0 9 ((am_A (am_pA μ (am_F μ r0 11) (am_A μ r0 9).toNatClampNeg (x2 - x1)) r0 9) + (Int32.ofInt 1)))) Q) :
    Wp d 165 (132, [some (.ref r0), some (.int x1), some (.int x2), some (.int x3), o4, o5], [], μ) Q := wp_blk rfl e165_132 (And.intro h1 (And.intro h2 (And.intro h3 (And.intro h4 (And.intro h5 (And.intro h6 (And.intro h7 (And.intro ⟨rfl, rfl⟩ k))))))))
def q165_154 : List (Nat × Instr × Nat) := [(154, .aload_n 0, 1), (155, .getfield 253, 3), (158, .iconst 1, 1), (159, .isub, 1)]
theorem e165_154 : am_dec am_M165 q165_154 = true := by decide +kernel
theorem e165_154_r : am_dec am_M165 [(160, .ireturn, 1)] = true := by decide +kernel
theorem b165_154 {d : Nat} {Q : Option Value ⊕ Nat → am_Mem → Prop} {μ : am_Mem} {r0 : Nat} {x1 x2 x3 : Int32} {o4 o5 : Option Value}
    (h1 : am_kd μ r0 = (1, 12))
    (k : Q (.inl (some (.int ((am_A μ r0 9) - (Int32.ofInt 1))))) μ) :
    Wp d 165 (154, [some (.ref r0), some (.int x1), some (.int x2), some (.int x3), o4, o5], [], μ) Q := wp_blk rfl e165_154 (And.intro h1 (wp_ri (ty := .int) rfl e165_154_r rfl ⟨rfl, rfl⟩ k))
/-! RuleSheetsModel.fail(II)V -/
def q166_0 : List (Nat × Instr × Nat) := [(0, .aload_n 0, 1), (1, .getfield 258, 3), (4, .ifCond .ne 13, 3)]
theorem e166_0 : am_dec am_M166 q166_0 = true := by decide +kernel
theorem b166_0 {d : Nat} {Q : Option Value ⊕ Nat → am_Mem → Prop} {μ : am_Mem} {r0 : Nat} {x1 x2 : Int32}
    (h1 : am_kd μ r0 = (1, 12))
    (k1 : ¬ (am_A μ r0 32) = 0 → Wp d 166 (17, [some (.ref r0), some (.int x1), some (.int x2)], [], μ) Q) (k2 : ¬ (¬ (am_A μ r0 32) = 0) → Wp d 166 (7, [some (.ref r0), some (.int x1), some (.int x2)], [], μ) Q) :
    Wp d 166 (0, [some (.ref r0), some (.int x1), some (.int x2)], [], μ) Q := wp_blk rfl e166_0 (And.intro h1 (And.intro k1 k2))
def q166_7 : List (Nat × Instr × Nat) := [(7, .aload_n 0, 1), (8, .iload_n 1, 1), (9, .putfield 258, 3), (12, .aload_n 0, 1), (13, .iload_n 2, 1), (14, .putfield 261, 3)]
theorem e166_7 : am_dec am_M166 q166_7 = true := by decide +kernel
theorem b166_7 {d : Nat} {Q : Option Value ⊕ Nat → am_Mem → Prop} {μ : am_Mem} {r0 : Nat} {x1 x2 : Int32}
    (h1 : am_kd μ r0 = (1, 12))
    (h2 : am_kd (am_pA μ r0 32 x1) r0 = (1, 12))
    (k : Wp d 166 (17, [some (.ref r0), some (.int x1), some (.int x2)], [], (am_pA (am_pA μ r0 32 x1) r0 33 x2)) Q) :
    Wp d 166 (7, [some (.ref r0), some (.int x1), some (.int x2)], [], μ) Q := wp_blk rfl e166_7 (And.intro h1 (And.intro ⟨rfl, rfl⟩ (And.intro h2 (And.intro ⟨rfl, rfl⟩ k))))
theorem e166_17_r : am_dec am_M166 [(17, .return_, 1)] = true := by decide +kernel
theorem b166_17 {d : Nat} {Q : Option Value ⊕ Nat → am_Mem → Prop} {μ : am_Mem} {r0 : Nat} {x1 x2 : Int32}
    (k : Q (.inl none) μ) :
    Wp d 166 (17, [some (.ref r0), some (.int x1), some (.int x2)], [], μ) Q := (wp_rv rfl e166_17_r rfl k)
/-! RuleSheetsModel.newAtom(I)I -/
def q167_0 : List (Nat × Instr × Nat) := [(0, .aload_n 0, 1), (1, .getfield 41, 3), (4, .aload_n 0, 1), (5, .getfield 278, 3), (8, .iload_n 1, 1), (9, .iastore, 1), (10, .aload_n 0, 1), (11, .getfield 47, 3), (14, .aload_n 0, 1), (15, .getfield 278, 3), (18, .iconst 0, 1), (19, .iastore, 1)]
theorem e167_0 : am_dec am_M167 q167_0 = true := by decide +kernel
theorem b167_0 {d : Nat} {Q : Option Value ⊕ Nat → am_Mem → Prop} {μ : am_Mem} {r0 : Nat} {x1 : Int32}
    (h1 : am_kd μ r0 = (1, 12))
    (h2 : ¬ am_F μ r0 19 = 15)
    (h3 : am_kd μ r0 = (1, 12))
    (h4 : (am_kd μ (am_F μ r0 19)).1 = 2)
    (h5 : ¬ ((am_A μ r0 18) < 0 ∨ (am_kd μ (am_F μ r0 19)).2 ≤ (am_A μ r0 18).toNatClampNeg))
    (h6 : am_kd (am_pA μ (am_F μ r0 19) (am_A μ r0 18).toNatClampNeg x1) r0 = (1, 12))
    (h7 : ¬ am_F (am_pA μ (am_F μ r0 19) (am_A μ r0 18).toNatClampNeg x1) r0 21 = 15)
    (h8 : am_kd (am_pA μ (am_F μ r0 19) (am_A μ r0 18).toNatClampNeg x1) r0 = (1, 12))
    (h9 : (am_kd (am_pA μ (am_F μ r0 19) (am_A μ r0 18).toNatClampNeg x1) (am_F (am_pA μ (am_F μ r0 19) (am_A μ r0 18).toNatClampNeg x1) r0 21)).1 = 2)
    (h10 : ¬ ((am_A (am_pA μ (am_F μ r0 19) (am_A μ r0 18).toNatClampNeg x1) r0 18) < 0 ∨ (am_kd (am_pA μ (am_F μ r0 19) (am_A μ r0 18).toNatClampNeg x1) (am_F (am_pA μ (am_F μ r0 19) (am_A μ r0 18).toNatClampNeg x1) r0 21)).2 ≤ (am_A (am_pA μ (am_F μ r0 19) (am_A μ r0 18).toNatClampNeg x1) r0 18).toNatClampNeg))
    (k : Wp d 167 (20, [some (.ref r0), some (.int x1)], [], (am_pA (am_pA μ (am_F μ r0 19) (am_A μ r0 18).toNatClampNeg x1) (am_F (am_pA μ (am_F μ r0 19) (am_A μ r0 18).toNatClampNeg x1) r0 21) (am_A (am_pA μ (am_F μ r0 19) (am_A μ r0 18).toNatClampNeg x1) r0 18).toNatClampNeg (Int32.ofInt 0))) Q) :
    Wp d 167 (0, [some (.ref r0), some (.int x1)], [], μ) Q := wp_blk rfl e167_0 (And.intro h1 (And.intro h2 (And.intro h3 (And.intro h4 (And.intro h5 (And.intro h6 (And.intro h7 (And.intro h8 (And.intro h9 (And.intro h10 k))))))))))
def q167_20 : List (Nat × Instr × Nat) := [(20, .aload_n 0, 1), (21, .dup, 1), (22, .getfield 278, 3), (25, .iconst 1, 1), (26, .iadd, 1), (27, .putfield 278, 3), (30, .aload_n 0, 1), (31, .getfield 278, 3), (34, .iconst 1, 1), (35, .isub, 1)]
theorem e167_20 : am_dec am_M167 q167_20 = true := by decide +kernel
theorem e167_20_r : am_dec am_M167 [(36, .ireturn, 1)] = true := by decide +kernel
theorem b167_20 {d : Nat} {Q : Option Value ⊕ Nat → am_Mem → Prop} {μ : am_Mem} {r0 : Nat} {x1 : Int32}
    (h1 : am_kd μ r0 = (1, 12))
    (h2 : am_kd μ r0 = (1, 12))
    (h3 : am_kd (am_pA μ r0 18 ((am_A μ r0 18) + (Int32.ofInt 1))) r0 = (1, 12))
    (k : Q (.inl (some (.int ((am_A (am_pA μ r0 18 ((am_A μ r0 18) + (Int32.ofInt 1))) r0 18) - (Int32.ofInt 1))))) (am_pA μ r0 18 ((am_A μ r0 18) + (Int32.ofInt 1)))) :
    Wp d 167 (20, [some (.ref r0), some (.int x1)], [], μ) Q := wp_blk rfl e167_20 (And.intro h1 (And.intro h2 (And.intro ⟨rfl, rfl⟩ (And.intro h3 (wp_ri (ty := .int) rfl e167_20_r rfl ⟨rfl, rfl⟩ k)))))
/-! RuleSheetsModel.newRule(I)V -/
def q168_0 : List (Nat × Instr × Nat) := [(0, .aload_n 0, 1), (1, .getfield 29, 3), (4, .aload_n 0, 1), (5, .getfield 287, 3), (8, .iload_n 1, 1), (9, .iastore, 1), (10, .aload_n 0, 1), (11, .iconst 0, 1), (12, .putfield 290, 3), (15, .aload_n 0, 1), (16, .dup, 1), (17, .getfield 287, 3), (20, .iconst 1, 1), (21, .iadd, 1), (22, .putfield 287, 3)]
theorem e168_0 : am_dec am_M168 q168_0 = true := by decide +kernel
theorem b168_0 {d : Nat} {Q : Option Value ⊕ Nat → am_Mem → Prop} {μ : am_Mem} {r0 : Nat} {x1 : Int32}
    (h1 : am_kd μ r0 = (1, 12))
    (h2 : ¬ am_F μ r0 13 = 15)
    (h3 : am_kd μ r0 = (1, 12))
    (h4 : (am_kd μ (am_F μ r0 13)).1 = 2)
    (h5 : ¬ ((am_A μ r0 12) < 0 ∨ (am_kd μ (am_F μ r0 13)).2 ≤ (am_A μ r0 12).toNatClampNeg))
    (h6 : am_kd (am_pA μ (am_F μ r0 13) (am_A μ r0 12).toNatClampNeg x1) r0 = (1, 12))
    (h7 : am_kd (am_pA (am_pA μ (am_F μ r0 13) (am_A μ r0 12).toNatClampNeg x1) r0 38 (Int32.ofInt 0)) r0 = (1, 12))
    (h8 : am_kd (am_pA (am_pA μ (am_F μ r0 13) (am_A μ r0 12).toNatClampNeg x1) r0 38 (Int32.ofInt 0)) r0 = (1, 12))
    (k : Wp d 168 (25, [some (.ref r0), some (.int x1)], [], (am_pA (am_pA (am_pA μ (am_F μ r0 13) (am_A μ r0 12).toNatClampNeg x1) r0 38 (Int32.ofInt 0)) r0 12 ((am_A (am_pA (am_pA μ (am_F μ r0 13) (am_A μ r0 12).toNatClampNeg x1) r0 38 (Int32.ofInt 0)) r0 12) + (Int32.ofInt 1)))) Q) :
    Wp d 168 (0, [some (.ref r0), some (.int x1)], [], μ) Q := wp_blk rfl e168_0 (And.intro h1 (And.intro h2 (And.intro h3 (And.intro h4 (And.intro h5 (And.intro h6 (And.intro ⟨rfl, rfl⟩ (And.intro h7 (And.intro h8 (And.intro ⟨rfl, rfl⟩ k))))))))))
def q168_25 : List (Nat × Instr × Nat) := [(25, .aload_n 0, 1), (26, .getfield 32, 3), (29, .aload_n 0, 1), (30, .getfield 287, 3), (33, .aload_n 0, 1), (34, .getfield 284, 3), (37, .iastore, 1)]
theorem e168_25 : am_dec am_M168 q168_25 = true := by decide +kernel
theorem e168_25_r : am_dec am_M168 [(38, .return_, 1)] = true := by decide +kernel
theorem b168_25 {d : Nat} {Q : Option Value ⊕ Nat → am_Mem → Prop} {μ : am_Mem} {r0 : Nat} {x1 : Int32}
    (h1 : am_kd μ r0 = (1, 12))
    (h2 : ¬ am_F μ r0 14 = 15)
    (h3 : am_kd μ r0 = (1, 12))
    (h4 : am_kd μ r0 = (1, 12))
    (h5 : (am_kd μ (am_F μ r0 14)).1 = 2)
    (h6 : ¬ ((am_A μ r0 12) < 0 ∨ (am_kd μ (am_F μ r0 14)).2 ≤ (am_A μ r0 12).toNatClampNeg))
    (k : Q (.inl none) (am_pA μ (am_F μ r0 14) (am_A μ r0 12).toNatClampNeg (am_A μ r0 15))) :
    Wp d 168 (25, [some (.ref r0), some (.int x1)], [], μ) Q := wp_blk rfl e168_25 (And.intro h1 (And.intro h2 (And.intro h3 (And.intro h4 (And.intro h5 (And.intro h6 (wp_rv rfl e168_25_r rfl k)))))))
/-! RuleSheetsModel.opens()Z -/
def q169_0 : List (Nat × Instr × Nat) := [(0, .aload_n 0, 1), (1, .getfield 268, 3), (4, .bipush 10, 2), (6, .if_icmp .ne 14, 3)]
theorem e169_0 : am_dec am_M169 q169_0 = true := by decide +kernel
theorem b169_0 {d : Nat} {Q : Option Value ⊕ Nat → am_Mem → Prop} {μ : am_Mem} {r0 : Nat}
    (h1 : am_kd μ r0 = (1, 12))
    (k1 : ¬ (am_A μ r0 34) = ((Int8.ofInt 10).toInt32) → Wp d 169 (20, [some (.ref r0)], [], μ) Q) (k2 : ¬ (¬ (am_A μ r0 34) = ((Int8.ofInt 10).toInt32)) → Wp d 169 (9, [some (.ref r0)], [], μ) Q) :
    Wp d 169 (0, [some (.ref r0)], [], μ) Q := wp_blk rfl e169_0 (And.intro h1 (And.intro k1 k2))
def q169_9 : List (Nat × Instr × Nat) := [(9, .aload_n 0, 1), (10, .iconst 1, 1), (11, .aload_n 0, 1), (12, .getfield 241, 3)]
theorem e169_9 : am_dec am_M169 q169_9 = true := by decide +kernel
theorem e169_9_c : am_dc1 am_M169 15 (.invokevirtual 271) 3 = true := by decide +kernel
theorem b169_9 {d : Nat} {Q : Option Value ⊕ Nat → am_Mem → Prop} {μ : am_Mem} {r0 : Nat} {P : am_Mem → Prop} {X : Nat → am_Mem → Prop}
    (h1 : am_kd μ r0 = (1, 12))
    (hk : am_kd μ r0 = (1, 12))
    (hc : Wp d 166 (0, [some (.ref r0), some (.int (Int32.ofInt 1)), some (.int (am_A μ r0 29))], [], μ) (pV P X)) (hr : ∀ μ', P μ' → Wp (d + 1) 169 (18, [some (.ref r0)], [], (μ')) Q)
    (hx : ∀ x μ', X x μ' → Q (.inr x) μ') :
    Wp (d + 1) 169 (9, [some (.ref r0)], [], μ) Q := wp_blk rfl e169_9 (And.intro h1 (wp_cv (as := [.int (Int32.ofInt 1), .int (am_A μ r0 29)]) rfl e169_9_c rfl rfl rfl rfl rfl hk hc (fun v μ' hv => by obtain ⟨rfl, hp⟩ := pV_r hv; exact hr μ' hp) hx))
def q169_18 : List (Nat × Instr × Nat) := [(18, .iconst 0, 1)]
theorem e169_18 : am_dec am_M169 q169_18 = true := by decide +kernel
theorem e169_18_r : am_dec am_M169 [(19, .ireturn, 1)] = true := by decide +kernel
theorem b169_18 {d : Nat} {Q : Option Value ⊕ Nat → am_Mem → Prop} {μ : am_Mem} {r0 : Nat}
    (k : Q (.inl (some (.int (Int32.ofInt 0)))) μ) :
    Wp d 169 (18, [some (.ref r0)], [], μ) Q := wp_blk rfl e169_18 (wp_ri (ty := .boolean) rfl e169_18_r rfl (by decide) k)
def q169_20 : List (Nat × Instr × Nat) := [(20, .aload_n 0, 1)]
theorem e169_20 : am_dec am_M169 q169_20 = true := by decide +kernel
theorem e169_20_c : am_dc1 am_M169 21 (.invokevirtual 275) 3 = true := by decide +kernel
theorem b169_20 {d : Nat} {Q : Option Value ⊕ Nat → am_Mem → Prop} {μ : am_Mem} {r0 : Nat} {P : am_Mem → Prop} {X : Nat → am_Mem → Prop}
    (hk : am_kd μ r0 = (1, 12))
    (hc : Wp d 158 (0, [some (.ref r0), none, none], [], μ) (pV P X)) (hr : ∀ μ', P μ' → Wp (d + 1) 169 (24, [some (.ref r0)], [], (μ')) Q)
    (hx : ∀ x μ', X x μ' → Q (.inr x) μ') :
    Wp (d + 1) 169 (20, [some (.ref r0)], [], μ) Q := wp_blk rfl e169_20 (wp_cv (as := []) rfl e169_20_c rfl rfl rfl rfl rfl hk hc (fun v μ' hv => by obtain ⟨rfl, hp⟩ := pV_r hv; exact hr μ' hp) hx)
def q169_24 : List (Nat × Instr × Nat) := [(24, .iconst 1, 1)]
theorem e169_24 : am_dec am_M169 q169_24 = true := by decide +kernel
theorem e169_24_r : am_dec am_M169 [(25, .ireturn, 1)] = true := by decide +kernel
theorem b169_24 {d : Nat} {Q : Option Value ⊕ Nat → am_Mem → Prop} {μ : am_Mem} {r0 : Nat}
    (k : Q (.inl (some (.int (Int32.ofInt 1)))) μ) :
    Wp d 169 (24, [some (.ref r0)], [], μ) Q := wp_blk rfl e169_24 (wp_ri (ty := .boolean) rfl e169_24_r rfl (by decide) k)
/-! RuleSheetsModel.within(II)V -/
def q170_0 : List (Nat × Instr × Nat) := [(0, .aload_n 0, 1), (1, .getfield 65, 3), (4, .aload_n 0, 1), (5, .getfield 268, 3), (8, .iload_n 1, 1), (9, .iastore, 1), (10, .aload_n 0, 1), (11, .getfield 68, 3), (14, .aload_n 0, 1), (15, .getfield 268, 3), (18, .iconst 0, 1), (19, .iastore, 1)]
theorem e170_0 : am_dec am_M170 q170_0 = true := by decide +kernel
theorem b170_0 {d : Nat} {Q : Option Value ⊕ Nat → am_Mem → Prop} {μ : am_Mem} {r0 : Nat} {x1 x2 : Int32}
    (h1 : am_kd μ r0 = (1, 12))
    (h2 : ¬ am_F μ r0 35 = 15)
    (h3 : am_kd μ r0 = (1, 12))
    (h4 : (am_kd μ (am_F μ r0 35)).1 = 2)
    (h5 : ¬ ((am_A μ r0 34) < 0 ∨ (am_kd μ (am_F μ r0 35)).2 ≤ (am_A μ r0 34).toNatClampNeg))
    (h6 : am_kd (am_pA μ (am_F μ r0 35) (am_A μ r0 34).toNatClampNeg x1) r0 = (1, 12))
    (h7 : ¬ am_F (am_pA μ (am_F μ r0 35) (am_A μ r0 34).toNatClampNeg x1) r0 36 = 15)
    (h8 : am_kd (am_pA μ (am_F μ r0 35) (am_A μ r0 34).toNatClampNeg x1) r0 = (1, 12))
    (h9 : (am_kd (am_pA μ (am_F μ r0 35) (am_A μ r0 34).toNatClampNeg x1) (am_F (am_pA μ (am_F μ r0 35) (am_A μ r0 34).toNatClampNeg x1) r0 36)).1 = 2)
    (h10 : ¬ ((am_A (am_pA μ (am_F μ r0 35) (am_A μ r0 34).toNatClampNeg x1) r0 34) < 0 ∨ (am_kd (am_pA μ (am_F μ r0 35) (am_A μ r0 34).toNatClampNeg x1) (am_F (am_pA μ (am_F μ r0 35) (am_A μ r0 34).toNatClampNeg x1) r0 36)).2 ≤ (am_A (am_pA μ (am_F μ r0 35) (am_A μ r0 34).toNatClampNeg x1) r0 34).toNatClampNeg))
    (k : Wp d 170 (20, [some (.ref r0), some (.int x1), some (.int x2)], [], (am_pA (am_pA μ (am_F μ r0 35) (am_A μ r0 34).toNatClampNeg x1) (am_F (am_pA μ (am_F μ r0 35) (am_A μ r0 34).toNatClampNeg x1) r0 36) (am_A (am_pA μ (am_F μ r0 35) (am_A μ r0 34).toNatClampNeg x1) r0 34).toNatClampNeg (Int32.ofInt 0))) Q) :
    Wp d 170 (0, [some (.ref r0), some (.int x1), some (.int x2)], [], μ) Q := wp_blk rfl e170_0 (And.intro h1 (And.intro h2 (And.intro h3 (And.intro h4 (And.intro h5 (And.intro h6 (And.intro h7 (And.intro h8 (And.intro h9 (And.intro h10 k))))))))))
def q170_20 : List (Nat × Instr × Nat) := [(20, .aload_n 0, 1), (21, .getfield 71, 3), (24, .aload_n 0, 1), (25, .getfield 268, 3), (28, .iload_n 2, 1), (29, .iastore, 1), (30, .aload_n 0, 1), (31, .dup, 1), (32, .getfield 268, 3), (35, .iconst 1, 1), (36, .iadd, 1), (37, .putfield 268, 3)]
theorem e170_20 : am_dec am_M170 q170_20 = true := by decide +kernel
theorem b170_20 {d : Nat} {Q : Option Value ⊕ Nat → am_Mem → Prop} {μ : am_Mem} {r0 : Nat} {x1 x2 : Int32}
    (h1 : am_kd μ r0 = (1, 12))
    (h2 : ¬ am_F μ r0 37 = 15)
    (h3 : am_kd μ r0 = (1, 12))
    (h4 : (am_kd μ (am_F μ r0 37)).1 = 2)
    (h5 : ¬ ((am_A μ r0 34) < 0 ∨ (am_kd μ (am_F μ r0 37)).2 ≤ (am_A μ r0 34).toNatClampNeg))
    (h6 : am_kd (am_pA μ (am_F μ r0 37) (am_A μ r0 34).toNatClampNeg x2) r0 = (1, 12))
    (h7 : am_kd (am_pA μ (am_F μ r0 37) (am_A μ r0 34).toNatClampNeg x2) r0 = (1, 12))
    (k : Wp d 170 (40, [some (.ref r0), some (.int x1), some (.int x2)], [], (am_pA (am_pA μ (am_F μ r0 37) (am_A μ r0 34).toNatClampNeg x2) r0 34 ((am_A (am_pA μ (am_F μ r0 37) (am_A μ r0 34).toNatClampNeg x2) r0 34) + (Int32.ofInt 1)))) Q) :
    Wp d 170 (20, [some (.ref r0), some (.int x1), some (.int x2)], [], μ) Q := wp_blk rfl e170_20 (And.intro h1 (And.intro h2 (And.intro h3 (And.intro h4 (And.intro h5 (And.intro h6 (And.intro h7 (And.intro ⟨rfl, rfl⟩ k))))))))
theorem e170_40_r : am_dec am_M170 [(40, .return_, 1)] = true := by decide +kernel
theorem b170_40 {d : Nat} {Q : Option Value ⊕ Nat → am_Mem → Prop} {μ : am_Mem} {r0 : Nat} {x1 x2 : Int32}
    (k : Q (.inl none) μ) :
    Wp d 170 (40, [some (.ref r0), some (.int x1), some (.int x2)], [], μ) Q := (wp_rv rfl e170_40_r rfl k)
/-! RuleSheetsModel.part()V -/
def q171_0 : List (Nat × Instr × Nat) := [(0, .aload_n 0, 1), (1, .getfield 268, 3), (4, .iconst 1, 1), (5, .isub, 1), (6, .istore_n 1, 1), (7, .aload_n 0, 1), (8, .getfield 65, 3), (11, .iload_n 1, 1), (12, .iaload, 1), (13, .istore_n 2, 1), (14, .aload_n 0, 1), (15, .getfield 247, 3), (18, .iconst 2, 1), (19, .if_icmp .ne 10, 3)]
theorem e171_0 : am_dec am_M171 q171_0 = true := by decide +kernel
theorem b171_0 {d : Nat} {Q : Option Value ⊕ Nat → am_Mem → Prop} {μ : am_Mem} {r0 : Nat}
    (h1 : am_kd μ r0 = (1, 12))
    (h2 : am_kd μ r0 = (1, 12))
    (h3 : ¬ am_F μ r0 35 = 15)
    (h4 : (am_kd μ (am_F μ r0 35)).1 = 2 ∨ (am_kd μ (am_F μ r0 35)).1 = 8)
    (h5 : ¬ (((am_A μ r0 34) - (Int32.ofInt 1)) < 0 ∨ (am_kd μ (am_F μ r0 35)).2 ≤ ((am_A μ r0 34) - (Int32.ofInt 1)).toNatClampNeg))
    (h6 : am_kd μ r0 = (1, 12))
    (k1 : ¬ (am_A μ r0 28) = (Int32.ofInt 2) → Wp d 171 (29, [some (.ref r0), some (.int ((am_A μ r0 34) - (Int32.ofInt 1))), some (.int (am_A μ (am_F μ r0 35) ((am_A μ r0 34) - (Int32.ofInt 1)).toNatClampNeg))], [], μ) Q) (k2 : ¬ (¬ (am_A μ r0 28) = (Int32.ofInt 2)) → Wp d 171 (22, [some (.ref r0), some (.int ((am_A μ r0 34) - (Int32.ofInt 1))), some (.int (am_A μ (am_F μ r0 35) ((am_A μ r0 34) - (Int32.ofInt 1)).toNatClampNeg))], [], μ) Q) :
    Wp d 171 (0, [some (.ref r0), none, none], [], μ) Q := wp_blk rfl e171_0 (And.intro h1 (And.intro h2 (And.intro h3 (And.intro h4 (And.intro h5 (And.intro h6 (And.intro k1 k2)))))))
def q171_22 : List (Nat × Instr × Nat) := [(22, .aload_n 0, 1)]
theorem e171_22 : am_dec am_M171 q171_22 = true := by decide +kernel
theorem e171_22_c : am_dc1 am_M171 23 (.invokevirtual 327) 3 = true := by decide +kernel
theorem b171_22 {d : Nat} {Q : Option Value ⊕ Nat → am_Mem → Prop} {μ : am_Mem} {r0 : Nat} {x1 x2 : Int32} {P : am_Mem → Prop} {X : Nat → am_Mem → Prop}
    (hk : am_kd μ r0 = (1, 12))
    (hc : Wp d 172 (0, [some (.ref r0), none, none, none], [], μ) (pV P X)) (hr : ∀ μ', P μ' → Wp (d + 1) 171 (26, [some (.ref r0), some (.int x1), some (.int x2)], [], (μ')) Q)
    (hx : ∀ x μ', X x μ' → Q (.inr x) μ') :
    Wp (d + 1) 171 (22, [some (.ref r0), some (.int x1), some (.int x2)], [], μ) Q := wp_blk rfl e171_22 (wp_cv (as := []) rfl e171_22_c rfl rfl rfl rfl rfl hk hc (fun v μ' hv => by obtain ⟨rfl, hp⟩ := pV_r hv; exact hr μ' hp) hx)
def q171_26 : List (Nat × Instr × Nat) := [(26, .goto 83, 3)]
theorem e171_26 : am_dec am_M171 q171_26 = true := by decide +kernel
theorem b171_26 {d : Nat} {Q : Option Value ⊕ Nat → am_Mem → Prop} {μ : am_Mem} {r0 : Nat} {x1 x2 : Int32}
    (k : Wp d 171 (109, [some (.ref r0), some (.int x1), some (.int x2)], [], μ) Q) :
    Wp d 171 (26, [some (.ref r0), some (.int x1), some (.int x2)], [], μ) Q := wp_blk rfl e171_26 k
def q171_29 : List (Nat × Instr × Nat) := [(29, .aload_n 0, 1), (30, .getfield 68, 3), (33, .iload_n 1, 1), (34, .iaload, 1), (35, .iload_n 2, 1)]
theorem e171_29 : am_dec am_M171 q171_29 = true := by decide +kernel
theorem e171_29_c : am_dc1 am_M171 36 (.invokestatic 330) 3 = true := by decide +kernel
theorem b171_29 {d : Nat} {Q : Option Value ⊕ Nat → am_Mem → Prop} {μ : am_Mem} {r0 : Nat} {x1 x2 : Int32} {P : Int32 → am_Mem → Prop} {X : Nat → am_Mem → Prop}
    (h1 : am_kd μ r0 = (1, 12))
    (h2 : ¬ am_F μ r0 36 = 15)
    (h3 : (am_kd μ (am_F μ r0 36)).1 = 2 ∨ (am_kd μ (am_F μ r0 36)).1 = 8)
    (h4 : ¬ (x1 < 0 ∨ (am_kd μ (am_F μ r0 36)).2 ≤ x1.toNatClampNeg))
    (hc : Wp d 173 (0, [some (.int x2)], [], μ) (pI P X)) (hr : ∀ x μ', P x μ' → Wp (d + 1) 171 (39, [some (.ref r0), some (.int x1), some (.int x2)], [.int x, .int (am_A μ (am_F μ r0 36) x1.toNatClampNeg)], (μ')) Q)
    (hx : ∀ x μ', X x μ' → Q (.inr x) μ') :
    Wp (d + 1) 171 (29, [some (.ref r0), some (.int x1), some (.int x2)], [], μ) Q := wp_blk rfl e171_29 (And.intro h1 (And.intro h2 (And.intro h3 (And.intro h4 (wp_cs (vs := [.int x2]) rfl e171_29_c rfl rfl rfl rfl rfl hc (fun v μ' hv => by obtain ⟨x, rfl, hp⟩ := pI_r hv; exact hr x μ' hp) hx)))))
def q171_39 : List (Nat × Instr × Nat) := [(39, .if_icmp .ne 15, 3)]
theorem e171_39 : am_dec am_M171 q171_39 = true := by decide +kernel
theorem b171_39 {d : Nat} {Q : Option Value ⊕ Nat → am_Mem → Prop} {μ : am_Mem} {r0 : Nat} {x1 x2 s0 s1 : Int32}
    (k1 : ¬ s0 = s1 → Wp d 171 (54, [some (.ref r0), some (.int x1), some (.int x2)], [], μ) Q) (k2 : ¬ (¬ s0 = s1) → Wp d 171 (42, [some (.ref r0), some (.int x1), some (.int x2)], [], μ) Q) :
    Wp d 171 (39, [some (.ref r0), some (.int x1), some (.int x2)], [.int s1, .int s0], μ) Q := wp_blk rfl e171_39 (And.intro k1 k2)
def q171_42 : List (Nat × Instr × Nat) := [(42, .aload_n 0, 1), (43, .iconst 1, 1), (44, .aload_n 0, 1), (45, .getfield 241, 3)]
theorem e171_42 : am_dec am_M171 q171_42 = true := by decide +kernel
theorem e171_42_c : am_dc1 am_M171 48 (.invokevirtual 271) 3 = true := by decide +kernel
theorem b171_42 {d : Nat} {Q : Option Value ⊕ Nat → am_Mem → Prop} {μ : am_Mem} {r0 : Nat} {x1 x2 : Int32} {P : am_Mem → Prop} {X : Nat → am_Mem → Prop}
    (h1 : am_kd μ r0 = (1, 12))
    (hk : am_kd μ r0 = (1, 12))
    (hc : Wp d 166 (0, [some (.ref r0), some (.int (Int32.ofInt 1)), some (.int (am_A μ r0 29))], [], μ) (pV P X)) (hr : ∀ μ', P μ' → Wp (d + 1) 171 (51, [some (.ref r0), some (.int x1), some (.int x2)], [], (μ')) Q)
    (hx : ∀ x μ', X x μ' → Q (.inr x) μ') :
    Wp (d + 1) 171 (42, [some (.ref r0), some (.int x1), some (.int x2)], [], μ) Q := wp_blk rfl e171_42 (And.intro h1 (wp_cv (as := [.int (Int32.ofInt 1), .int (am_A μ r0 29)]) rfl e171_42_c rfl rfl rfl rfl rfl hk hc (fun v μ' hv => by obtain ⟨rfl, hp⟩ := pV_r hv; exact hr μ' hp) hx))
def q171_51 : List (Nat × Instr × Nat) := [(51, .goto 58, 3)]
theorem e171_51 : am_dec am_M171 q171_51 = true := by decide +kernel
theorem b171_51 {d : Nat} {Q : Option Value ⊕ Nat → am_Mem → Prop} {μ : am_Mem} {r0 : Nat} {x1 x2 : Int32}
    (k : Wp d 171 (109, [some (.ref r0), some (.int x1), some (.int x2)], [], μ) Q) :
    Wp d 171 (51, [some (.ref r0), some (.int x1), some (.int x2)], [], μ) Q := wp_blk rfl e171_51 k
def q171_54 : List (Nat × Instr × Nat) := [(54, .iload_n 2, 1), (55, .iconst 1, 1), (56, .if_icmp .eq 8, 3)]
theorem e171_54 : am_dec am_M171 q171_54 = true := by decide +kernel
theorem b171_54 {d : Nat} {Q : Option Value ⊕ Nat → am_Mem → Prop} {μ : am_Mem} {r0 : Nat} {x1 x2 : Int32}
    (k1 : x2 = (Int32.ofInt 1) → Wp d 171 (64, [some (.ref r0), some (.int x1), some (.int x2)], [], μ) Q) (k2 : ¬ (x2 = (Int32.ofInt 1)) → Wp d 171 (59, [some (.ref r0), some (.int x1), some (.int x2)], [], μ) Q) :
    Wp d 171 (54, [some (.ref r0), some (.int x1), some (.int x2)], [], μ) Q := wp_blk rfl e171_54 (And.intro k1 k2)
def q171_59 : List (Nat × Instr × Nat) := [(59, .iload_n 2, 1), (60, .iconst 3, 1), (61, .if_icmp .ne 44, 3)]
theorem e171_59 : am_dec am_M171 q171_59 = true := by decide +kernel
theorem b171_59 {d : Nat} {Q : Option Value ⊕ Nat → am_Mem → Prop} {μ : am_Mem} {r0 : Nat} {x1 x2 : Int32}
    (k1 : ¬ x2 = (Int32.ofInt 3) → Wp d 171 (105, [some (.ref r0), some (.int x1), some (.int x2)], [], μ) Q) (k2 : ¬ (¬ x2 = (Int32.ofInt 3)) → Wp d 171 (64, [some (.ref r0), some (.int x1), some (.int x2)], [], μ) Q) :
    Wp d 171 (59, [some (.ref r0), some (.int x1), some (.int x2)], [], μ) Q := wp_blk rfl e171_59 (And.intro k1 k2)
def q171_64 : List (Nat × Instr × Nat) := [(64, .aload_n 0, 1), (65, .getfield 68, 3), (68, .iload_n 1, 1), (69, .dup2, 1), (70, .iaload, 1), (71, .iconst 1, 1), (72, .iadd, 1), (73, .iastore, 1), (74, .aload_n 0, 1), (75, .iload_n 2, 1), (76, .iconst 3, 1), (77, .if_icmp .ne 7, 3)]
theorem e171_64 : am_dec am_M171 q171_64 = true := by decide +kernel
theorem b171_64 {d : Nat} {Q : Option Value ⊕ Nat → am_Mem → Prop} {μ : am_Mem} {r0 : Nat} {x1 x2 : Int32}
    (h1 : am_kd μ r0 = (1, 12))
    (h2 : ¬ am_F μ r0 36 = 15)
    (h3 : (am_kd μ (am_F μ r0 36)).1 = 2 ∨ (am_kd μ (am_F μ r0 36)).1 = 8)
    (h4 : ¬ (x1 < 0 ∨ (am_kd μ (am_F μ r0 36)).2 ≤ x1.toNatClampNeg))
    (h5 : (am_kd μ (am_F μ r0 36)).1 = 2)
    (h6 : ¬ (x1 < 0 ∨ (am_kd μ (am_F μ r0 36)).2 ≤ x1.toNatClampNeg))
    (k1 : ¬ x2 = (Int32.ofInt 3) → Wp d 171 (84, [some (.ref r0), some (.int x1), some (.int x2)], [.ref r0], (am_pA μ (am_F μ r0 36) x1.toNatClampNeg ((am_A μ (am_F μ r0 36) x1.toNatClampNeg) + (Int32.ofInt 1)))) Q) (k2 : ¬ (¬ x2 = (Int32.ofInt 3)) → Wp d 171 (80, [some (.ref r0), some (.int x1), some (.int x2)], [.ref r0], (am_pA μ (am_F μ r0 36) x1.toNatClampNeg ((am_A μ (am_F μ r0 36) x1.toNatClampNeg) + (Int32.ofInt 1)))) Q) :
    Wp d 171 (64, [some (.ref r0), some (.int x1), some (.int x2)], [], μ) Q := wp_blk rfl e171_64 (And.intro h1 (And.intro h2 (And.intro h3 (And.intro h4 (And.intro h5 (And.intro h6 (And.intro k1 k2)))))))
def q171_80 : List (Nat × Instr × Nat) := [(80, .iconst 2, 1), (81, .goto 18, 3)]
theorem e171_80 : am_dec am_M171 q171_80 = true := by decide +kernel
theorem b171_80 {d : Nat} {Q : Option Value ⊕ Nat → am_Mem → Prop} {μ : am_Mem} {r0 r90 : Nat} {x1 x2 : Int32}
    (k : Wp d 171 (99, [some (.ref r0), some (.int x1), some (.int x2)], [.int (Int32.ofInt 2), .ref r90], μ) Q) :
    Wp d 171 (80, [some (.ref r0), some (.int x1), some (.int x2)], [.ref r90], μ) Q := wp_blk rfl e171_80 k
def q171_84 : List (Nat × Instr × Nat) := [(84, .aload_n 0, 1), (85, .getfield 68, 3), (88, .iload_n 1, 1), (89, .iaload, 1), (90, .iconst 1, 1), (91, .if_icmp .ne 7, 3)]
theorem e171_84 : am_dec am_M171 q171_84 = true := by decide +kernel
theorem b171_84 {d : Nat} {Q : Option Value ⊕ Nat → am_Mem → Prop} {μ : am_Mem} {r0 r90 : Nat} {x1 x2 : Int32}
    (h1 : am_kd μ r0 = (1, 12))
    (h2 : ¬ am_F μ r0 36 = 15)
    (h3 : (am_kd μ (am_F μ r0 36)).1 = 2 ∨ (am_kd μ (am_F μ r0 36)).1 = 8)
    (h4 : ¬ (x1 < 0 ∨ (am_kd μ (am_F μ r0 36)).2 ≤ x1.toNatClampNeg))
    (k1 : ¬ (am_A μ (am_F μ r0 36) x1.toNatClampNeg) = (Int32.ofInt 1) → Wp d 171 (98, [some (.ref r0), some (.int x1), some (.int x2)], [.ref r90], μ) Q) (k2 : ¬ (¬ (am_A μ (am_F μ r0 36) x1.toNatClampNeg) = (Int32.ofInt 1)) → Wp d 171 (94, [some (.ref r0), some (.int x1), some (.int x2)], [.ref r90], μ) Q) :
    Wp d 171 (84, [some (.ref r0), some (.int x1), some (.int x2)], [.ref r90], μ) Q := wp_blk rfl e171_84 (And.intro h1 (And.intro h2 (And.intro h3 (And.intro h4 (And.intro k1 k2)))))
def q171_94 : List (Nat × Instr × Nat) := [(94, .iconst 0, 1), (95, .goto 4, 3)]
theorem e171_94 : am_dec am_M171 q171_94 = true := by decide +kernel
theorem b171_94 {d : Nat} {Q : Option Value ⊕ Nat → am_Mem → Prop} {μ : am_Mem} {r0 r90 : Nat} {x1 x2 : Int32}
    (k : Wp d 171 (99, [some (.ref r0), some (.int x1), some (.int x2)], [.int (Int32.ofInt 0), .ref r90], μ) Q) :
    Wp d 171 (94, [some (.ref r0), some (.int x1), some (.int x2)], [.ref r90], μ) Q := wp_blk rfl e171_94 k
def q171_98 : List (Nat × Instr × Nat) := [(98, .iconst 1, 1)]
theorem e171_98 : am_dec am_M171 q171_98 = true := by decide +kernel
theorem b171_98 {d : Nat} {Q : Option Value ⊕ Nat → am_Mem → Prop} {μ : am_Mem} {r0 r90 : Nat} {x1 x2 : Int32}
    (k : Wp d 171 (99, [some (.ref r0), some (.int x1), some (.int x2)], [.int (Int32.ofInt 1), .ref r90], μ) Q) :
    Wp d 171 (98, [some (.ref r0), some (.int x1), some (.int x2)], [.ref r90], μ) Q := wp_blk rfl e171_98 k
theorem e171_99_c : am_dc1 am_M171 99 (.invokevirtual 333) 3 = true := by decide +kernel
theorem b171_99 {d : Nat} {Q : Option Value ⊕ Nat → am_Mem → Prop} {μ : am_Mem} {r0 r90 : Nat} {x1 x2 s1 : Int32} {P : am_Mem → Prop} {X : Nat → am_Mem → Prop}
    (hk : am_kd μ r90 = (1, 12))
    (hc : Wp d 174 (0, [some (.ref r90), some (.int s1)], [], μ) (pV P X)) (hr : ∀ μ', P μ' → Wp (d + 1) 171 (102, [some (.ref r0), some (.int x1), some (.int x2)], [], (μ')) Q)
    (hx : ∀ x μ', X x μ' → Q (.inr x) μ') :
    Wp (d + 1) 171 (99, [some (.ref r0), some (.int x1), some (.int x2)], [.int s1, .ref r90], μ) Q := (wp_cv (as := [.int s1]) rfl e171_99_c rfl rfl rfl rfl rfl hk hc (fun v μ' hv => by obtain ⟨rfl, hp⟩ := pV_r hv; exact hr μ' hp) hx)
def q171_102 : List (Nat × Instr × Nat) := [(102, .goto 7, 3)]
theorem e171_102 : am_dec am_M171 q171_102 = true := by decide +kernel
theorem b171_102 {d : Nat} {Q : Option Value ⊕ Nat → am_Mem → Prop} {μ : am_Mem} {r0 : Nat} {x1 x2 : Int32}
    (k : Wp d 171 (109, [some (.ref r0), some (.int x1), some (.int x2)], [], μ) Q) :
    Wp d 171 (102, [some (.ref r0), some (.int x1), some (.int x2)], [], μ) Q := wp_blk rfl e171_102 k
def q171_105 : List (Nat × Instr × Nat) := [(105, .aload_n 0, 1)]
theorem e171_105 : am_dec am_M171 q171_105 = true := by decide +kernel
theorem e171_105_c : am_dc1 am_M171 106 (.invokevirtual 336) 3 = true := by decide +kernel
theorem b171_105 {d : Nat} {Q : Option Value ⊕ Nat → am_Mem → Prop} {μ : am_Mem} {r0 : Nat} {x1 x2 : Int32} {P : am_Mem → Prop} {X : Nat → am_Mem → Prop}
    (hk : am_kd μ r0 = (1, 12))
    (hc : Wp d 178 (0, [some (.ref r0), none], [], μ) (pV P X)) (hr : ∀ μ', P μ' → Wp (d + 1) 171 (109, [some (.ref r0), some (.int x1), some (.int x2)], [], (μ')) Q)
    (hx : ∀ x μ', X x μ' → Q (.inr x) μ') :
    Wp (d + 1) 171 (105, [some (.ref r0), some (.int x1), some (.int x2)], [], μ) Q := wp_blk rfl e171_105 (wp_cv (as := []) rfl e171_105_c rfl rfl rfl rfl rfl hk hc (fun v μ' hv => by obtain ⟨rfl, hp⟩ := pV_r hv; exact hr μ' hp) hx)
theorem e171_109_r : am_dec am_M171 [(109, .return_, 1)] = true := by decide +kernel
theorem b171_109 {d : Nat} {Q : Option Value ⊕ Nat → am_Mem → Prop} {μ : am_Mem} {r0 : Nat} {x1 x2 : Int32}
    (k : Q (.inl none) μ) :
    Wp d 171 (109, [some (.ref r0), some (.int x1), some (.int x2)], [], μ) Q := (wp_rv rfl e171_109_r rfl k)
/-! RuleSheetsModel.close()V -/
def q172_0 : List (Nat × Instr × Nat) := [(0, .aload_n 0, 1), (1, .getfield 65, 3), (4, .aload_n 0, 1), (5, .getfield 268, 3), (8, .iconst 1, 1), (9, .isub, 1), (10, .iaload, 1), (11, .istore_n 1, 1), (12, .aload_n 0, 1), (13, .getfield 68, 3), (16, .aload_n 0, 1), (17, .getfield 268, 3), (20, .iconst 1, 1), (21, .isub, 1), (22, .iaload, 1), (23, .istore_n 2, 1), (24, .iload_n 1, 1), (25, .iconst 4, 1), (26, .if_icmp .ne 16, 3)]
theorem e172_0 : am_dec am_M172 q172_0 = true := by decide +kernel
theorem b172_0 {d : Nat} {Q : Option Value ⊕ Nat → am_Mem → Prop} {μ : am_Mem} {r0 : Nat}
    (h1 : am_kd μ r0 = (1, 12))
    (h2 : ¬ am_F μ r0 35 = 15)
    (h3 : am_kd μ r0 = (1, 12))
    (h4 : (am_kd μ (am_F μ r0 35)).1 = 2 ∨ (am_kd μ (am_F μ r0 35)).1 = 8)
    (h5 : ¬ (((am_A μ r0 34) - (Int32.ofInt 1)) < 0 ∨ (am_kd μ (am_F μ r0 35)).2 ≤ ((am_A μ r0 34) - (Int32.ofInt 1)).toNatClampNeg))
    (h6 : am_kd μ r0 = (1, 12))
    (h7 : ¬ am_F μ r0 36 = 15)
    (h8 : am_kd μ r0 = (1, 12))
    (h9 : (am_kd μ (am_F μ r0 36)).1 = 2 ∨ (am_kd μ (am_F μ r0 36)).1 = 8)
    (h10 : ¬ (((am_A μ r0 34) - (Int32.ofInt 1)) < 0 ∨ (am_kd μ (am_F μ r0 36)).2 ≤ ((am_A μ r0 34) - (Int32.ofInt 1)).toNatClampNeg))
    (k1 : ¬ (am_A μ (am_F μ r0 35) ((am_A μ r0 34) - (Int32.ofInt 1)).toNatClampNeg) = (Int32.ofInt 4) → Wp d 172 (42, [some (.ref r0), some (.int (am_A μ (am_F μ r0 35) ((am_A μ r0 34) - (Int32.ofInt 1)).toNatClampNeg)), some (.int (am_A μ (am_F μ r0 36) ((am_A μ r0 34) - (Int32.ofInt 1)).toNatClampNeg)), none], [], μ) Q) (k2 : ¬ (¬ (am_A μ (am_F μ r0 35) ((am_A μ r0 34) - (Int32.ofInt 1)).toNatClampNeg) = (Int32.ofInt 4)) → Wp d 172 (29, [some (.ref r0), some (.int (am_A μ (am_F μ r0 35) ((am_A μ r0 34) - (Int32.ofInt 1)).toNatClampNeg)), some (.int (am_A μ (am_F μ r0 36) ((am_A μ r0 34) - (Int32.ofInt 1)).toNatClampNeg)), none], [], μ) Q) :
    Wp d 172 (0, [some (.ref r0), none, none, none], [], μ) Q := wp_blk rfl e172_0 (And.intro h1 (And.intro h2 (And.intro h3 (And.intro h4 (And.intro h5 (And.intro h6 (And.intro h7 (And.intro h8 (And.intro h9 (And.intro h10 (And.intro k1 k2)))))))))))
def q172_29 : List (Nat × Instr × Nat) := [(29, .iload_n 2, 1), (30, .iconst 2, 1), (31, .if_icmp .ne 7, 3)]
theorem e172_29 : am_dec am_M172 q172_29 = true := by decide +kernel
theorem b172_29 {d : Nat} {Q : Option Value ⊕ Nat → am_Mem → Prop} {μ : am_Mem} {r0 : Nat} {x1 x2 : Int32}
    (k1 : ¬ x2 = (Int32.ofInt 2) → Wp d 172 (38, [some (.ref r0), some (.int x1), some (.int x2), none], [], μ) Q) (k2 : ¬ (¬ x2 = (Int32.ofInt 2)) → Wp d 172 (34, [some (.ref r0), some (.int x1), some (.int x2), none], [], μ) Q) :
    Wp d 172 (29, [some (.ref r0), some (.int x1), some (.int x2), none], [], μ) Q := wp_blk rfl e172_29 (And.intro k1 k2)
def q172_34 : List (Nat × Instr × Nat) := [(34, .iconst 1, 1), (35, .goto 16, 3)]
theorem e172_34 : am_dec am_M172 q172_34 = true := by decide +kernel
theorem b172_34 {d : Nat} {Q : Option Value ⊕ Nat → am_Mem → Prop} {μ : am_Mem} {r0 : Nat} {x1 x2 : Int32}
    (k : Wp d 172 (51, [some (.ref r0), some (.int x1), some (.int x2), none], [.int (Int32.ofInt 1)], μ) Q) :
    Wp d 172 (34, [some (.ref r0), some (.int x1), some (.int x2), none], [], μ) Q := wp_blk rfl e172_34 k
def q172_38 : List (Nat × Instr × Nat) := [(38, .iconst 0, 1), (39, .goto 12, 3)]
theorem e172_38 : am_dec am_M172 q172_38 = true := by decide +kernel
theorem b172_38 {d : Nat} {Q : Option Value ⊕ Nat → am_Mem → Prop} {μ : am_Mem} {r0 : Nat} {x1 x2 : Int32}
    (k : Wp d 172 (51, [some (.ref r0), some (.int x1), some (.int x2), none], [.int (Int32.ofInt 0)], μ) Q) :
    Wp d 172 (38, [some (.ref r0), some (.int x1), some (.int x2), none], [], μ) Q := wp_blk rfl e172_38 k
def q172_42 : List (Nat × Instr × Nat) := [(42, .iload_n 2, 1), (43, .ifCond .le 7, 3)]
theorem e172_42 : am_dec am_M172 q172_42 = true := by decide +kernel
theorem b172_42 {d : Nat} {Q : Option Value ⊕ Nat → am_Mem → Prop} {μ : am_Mem} {r0 : Nat} {x1 x2 : Int32}
    (k1 : x2 ≤ 0 → Wp d 172 (50, [some (.ref r0), some (.int x1), some (.int x2), none], [], μ) Q) (k2 : ¬ (x2 ≤ 0) → Wp d 172 (46, [some (.ref r0), some (.int x1), some (.int x2), none], [], μ) Q) :
    Wp d 172 (42, [some (.ref r0), some (.int x1), some (.int x2), none], [], μ) Q := wp_blk rfl e172_42 (And.intro k1 k2)
def q172_46 : List (Nat × Instr × Nat) := [(46, .iconst 1, 1), (47, .goto 4, 3)]
theorem e172_46 : am_dec am_M172 q172_46 = true := by decide +kernel
theorem b172_46 {d : Nat} {Q : Option Value ⊕ Nat → am_Mem → Prop} {μ : am_Mem} {r0 : Nat} {x1 x2 : Int32}
    (k : Wp d 172 (51, [some (.ref r0), some (.int x1), some (.int x2), none], [.int (Int32.ofInt 1)], μ) Q) :
    Wp d 172 (46, [some (.ref r0), some (.int x1), some (.int x2), none], [], μ) Q := wp_blk rfl e172_46 k
def q172_50 : List (Nat × Instr × Nat) := [(50, .iconst 0, 1)]
theorem e172_50 : am_dec am_M172 q172_50 = true := by decide +kernel
theorem b172_50 {d : Nat} {Q : Option Value ⊕ Nat → am_Mem → Prop} {μ : am_Mem} {r0 : Nat} {x1 x2 : Int32}
    (k : Wp d 172 (51, [some (.ref r0), some (.int x1), some (.int x2), none], [.int (Int32.ofInt 0)], μ) Q) :
    Wp d 172 (50, [some (.ref r0), some (.int x1), some (.int x2), none], [], μ) Q := wp_blk rfl e172_50 k
def q172_51 : List (Nat × Instr × Nat) := [(51, .istore_n 3, 1), (52, .iload_n 3, 1), (53, .ifCond .ne 13, 3)]
theorem e172_51 : am_dec am_M172 q172_51 = true := by decide +kernel
theorem b172_51 {d : Nat} {Q : Option Value ⊕ Nat → am_Mem → Prop} {μ : am_Mem} {r0 : Nat} {x1 x2 s0 : Int32}
    (k1 : ¬ s0 = 0 → Wp d 172 (66, [some (.ref r0), some (.int x1), some (.int x2), some (.int s0)], [], μ) Q) (k2 : ¬ (¬ s0 = 0) → Wp d 172 (56, [some (.ref r0), some (.int x1), some (.int x2), some (.int s0)], [], μ) Q) :
    Wp d 172 (51, [some (.ref r0), some (.int x1), some (.int x2), none], [.int s0], μ) Q := wp_blk rfl e172_51 (And.intro k1 k2)
def q172_56 : List (Nat × Instr × Nat) := [(56, .aload_n 0, 1), (57, .iconst 1, 1), (58, .aload_n 0, 1), (59, .getfield 241, 3)]
theorem e172_56 : am_dec am_M172 q172_56 = true := by decide +kernel
theorem e172_56_c : am_dc1 am_M172 62 (.invokevirtual 271) 3 = true := by decide +kernel
theorem b172_56 {d : Nat} {Q : Option Value ⊕ Nat → am_Mem → Prop} {μ : am_Mem} {r0 : Nat} {x1 x2 x3 : Int32} {P : am_Mem → Prop} {X : Nat → am_Mem → Prop}
    (h1 : am_kd μ r0 = (1, 12))
    (hk : am_kd μ r0 = (1, 12))
    (hc : Wp d 166 (0, [some (.ref r0), some (.int (Int32.ofInt 1)), some (.int (am_A μ r0 29))], [], μ) (pV P X)) (hr : ∀ μ', P μ' → Wp (d + 1) 172 (65, [some (.ref r0), some (.int x1), some (.int x2), some (.int x3)], [], (μ')) Q)
    (hx : ∀ x μ', X x μ' → Q (.inr x) μ') :
    Wp (d + 1) 172 (56, [some (.ref r0), some (.int x1), some (.int x2), some (.int x3)], [], μ) Q := wp_blk rfl e172_56 (And.intro h1 (wp_cv (as := [.int (Int32.ofInt 1), .int (am_A μ r0 29)]) rfl e172_56_c rfl rfl rfl rfl rfl hk hc (fun v μ' hv => by obtain ⟨rfl, hp⟩ := pV_r hv; exact hr μ' hp) hx))
theorem e172_65_r : am_dec am_M172 [(65, .return_, 1)] = true := by decide +kernel
theorem b172_65 {d : Nat} {Q : Option Value ⊕ Nat → am_Mem → Prop} {μ : am_Mem} {r0 : Nat} {x1 x2 x3 : Int32}
    (k : Q (.inl none) μ) :
    Wp d 172 (65, [some (.ref r0), some (.int x1), some (.int x2), some (.int x3)], [], μ) Q := (wp_rv rfl e172_65_r rfl k)
def q172_66 : List (Nat × Instr × Nat) := [(66, .iload_n 1, 1), (67, .iconst 5, 1), (68, .if_icmp .ne 23, 3)]
theorem e172_66 : am_dec am_M172 q172_66 = true := by decide +kernel
theorem b172_66 {d : Nat} {Q : Option Value ⊕ Nat → am_Mem → Prop} {μ : am_Mem} {r0 : Nat} {x1 x2 x3 : Int32}
    (k1 : ¬ x1 = (Int32.ofInt 5) → Wp d 172 (91, [some (.ref r0), some (.int x1), some (.int x2), some (.int x3)], [], μ) Q) (k2 : ¬ (¬ x1 = (Int32.ofInt 5)) → Wp d 172 (71, [some (.ref r0), some (.int x1), some (.int x2), some (.int x3)], [], μ) Q) :
    Wp d 172 (66, [some (.ref r0), some (.int x1), some (.int x2), some (.int x3)], [], μ) Q := wp_blk rfl e172_66 (And.intro k1 k2)
def q172_71 : List (Nat × Instr × Nat) := [(71, .aload_n 0, 1), (72, .getfield 62, 3), (75, .aload_n 0, 1), (76, .getfield 71, 3), (79, .aload_n 0, 1), (80, .getfield 268, 3), (83, .iconst 1, 1), (84, .isub, 1), (85, .iaload, 1), (86, .aload_n 0, 1), (87, .getfield 281, 3), (90, .iastore, 1)]
theorem e172_71 : am_dec am_M172 q172_71 = true := by decide +kernel
theorem b172_71 {d : Nat} {Q : Option Value ⊕ Nat → am_Mem → Prop} {μ : am_Mem} {r0 : Nat} {x1 x2 x3 : Int32}
    (h1 : am_kd μ r0 = (1, 12))
    (h2 : ¬ am_F μ r0 27 = 15)
    (h3 : am_kd μ r0 = (1, 12))
    (h4 : ¬ am_F μ r0 37 = 15)
    (h5 : am_kd μ r0 = (1, 12))
    (h6 : (am_kd μ (am_F μ r0 37)).1 = 2 ∨ (am_kd μ (am_F μ r0 37)).1 = 8)
    (h7 : ¬ (((am_A μ r0 34) - (Int32.ofInt 1)) < 0 ∨ (am_kd μ (am_F μ r0 37)).2 ≤ ((am_A μ r0 34) - (Int32.ofInt 1)).toNatClampNeg))
    (h8 : am_kd μ r0 = (1, 12))
    (h9 : (am_kd μ (am_F μ r0 27)).1 = 2)
    (h10 : ¬ ((am_A μ (am_F μ r0 37) ((am_A μ r0 34) - (Int32.ofInt 1)).toNatClampNeg) < 0 ∨ (am_kd μ (am_F μ r0 27)).2 ≤ (am_A μ (am_F μ r0 37) ((am_A μ r0 34) - (Int32.ofInt 1)).toNatClampNeg).toNatClampNeg))
    (k : Wp d 172 (91, [some (.ref r0), some (.int x1), some (.int x2), some (.int x3)], [], (am_pA μ (am_F μ r0 27) (am_A μ (am_F μ r0 37) ((am_A μ r0 34) - (Int32.ofInt 1)).toNatClampNeg).toNatClampNeg (am_A μ r0 22))) Q) :
    Wp d 172 (71, [some (.ref r0), some (.int x1), some (.int x2), some (.int x3)], [], μ) Q := wp_blk rfl e172_71 (And.intro h1 (And.intro h2 (And.intro h3 (And.intro h4 (And.intro h5 (And.intro h6 (And.intro h7 (And.intro h8 (And.intro h9 (And.intro h10 k))))))))))
def q172_91 : List (Nat × Instr × Nat) := [(91, .aload_n 0, 1), (92, .dup, 1), (93, .getfield 268, 3), (96, .iconst 1, 1), (97, .isub, 1), (98, .putfield 268, 3), (101, .aload_n 0, 1)]
theorem e172_91 : am_dec am_M172 q172_91 = true := by decide +kernel
theorem e172_91_c : am_dc1 am_M172 102 (.invokevirtual 275) 3 = true := by decide +kernel
theorem b172_91 {d : Nat} {Q : Option Value ⊕ Nat → am_Mem → Prop} {μ : am_Mem} {r0 : Nat} {x1 x2 x3 : Int32} {P : am_Mem → Prop} {X : Nat → am_Mem → Prop}
    (h1 : am_kd μ r0 = (1, 12))
    (h2 : am_kd μ r0 = (1, 12))
    (hk : am_kd (am_pA μ r0 34 ((am_A μ r0 34) - (Int32.ofInt 1))) r0 = (1, 12))
    (hc : Wp d 158 (0, [some (.ref r0), none, none], [], (am_pA μ r0 34 ((am_A μ r0 34) - (Int32.ofInt 1)))) (pV P X)) (hr : ∀ μ', P μ' → Wp (d + 1) 172 (105, [some (.ref r0), some (.int x1), some (.int x2), some (.int x3)], [], (μ')) Q)
    (hx : ∀ x μ', X x μ' → Q (.inr x) μ') :
    Wp (d + 1) 172 (91, [some (.ref r0), some (.int x1), some (.int x2), some (.int x3)], [], μ) Q := wp_blk rfl e172_91 (And.intro h1 (And.intro h2 (And.intro ⟨rfl, rfl⟩ (wp_cv (as := []) rfl e172_91_c rfl rfl rfl rfl rfl hk hc (fun v μ' hv => by obtain ⟨rfl, hp⟩ := pV_r hv; exact hr μ' hp) hx))))
theorem e172_105_r : am_dec am_M172 [(105, .return_, 1)] = true := by decide +kernel
theorem b172_105 {d : Nat} {Q : Option Value ⊕ Nat → am_Mem → Prop} {μ : am_Mem} {r0 : Nat} {x1 x2 x3 : Int32}
    (k : Q (.inl none) μ) :
    Wp d 172 (105, [some (.ref r0), some (.int x1), some (.int x2), some (.int x3)], [], μ) Q := (wp_rv rfl e172_105_r rfl k)
/-! RuleSheetsModel.mostParts(I)I -/
def q173_0 : List (Nat × Instr × Nat) := [(0, .iload_n 0, 1), (1, .iconst 1, 1), (2, .if_icmp .ne 8, 3)]
theorem e173_0 : am_dec am_M173 q173_0 = true := by decide +kernel
theorem b173_0 {d : Nat} {Q : Option Value ⊕ Nat → am_Mem → Prop} {μ : am_Mem} {x0 : Int32}
    (k1 : ¬ x0 = (Int32.ofInt 1) → Wp d 173 (10, [some (.int x0)], [], μ) Q) (k2 : ¬ (¬ x0 = (Int32.ofInt 1)) → Wp d 173 (5, [some (.int x0)], [], μ) Q) :
    Wp d 173 (0, [some (.int x0)], [], μ) Q := wp_blk rfl e173_0 (And.intro k1 k2)
def q173_5 : List (Nat × Instr × Nat) := [(5, .bipush 9, 2), (7, .goto 22, 3)]
theorem e173_5 : am_dec am_M173 q173_5 = true := by decide +kernel
theorem b173_5 {d : Nat} {Q : Option Value ⊕ Nat → am_Mem → Prop} {μ : am_Mem} {x0 : Int32}
    (k : Wp d 173 (29, [some (.int x0)], [.int ((Int8.ofInt 9).toInt32)], μ) Q) :
    Wp d 173 (5, [some (.int x0)], [], μ) Q := wp_blk rfl e173_5 k
def q173_10 : List (Nat × Instr × Nat) := [(10, .iload_n 0, 1), (11, .iconst 3, 1), (12, .if_icmp .ne 7, 3)]
theorem e173_10 : am_dec am_M173 q173_10 = true := by decide +kernel
theorem b173_10 {d : Nat} {Q : Option Value ⊕ Nat → am_Mem → Prop} {μ : am_Mem} {x0 : Int32}
    (k1 : ¬ x0 = (Int32.ofInt 3) → Wp d 173 (19, [some (.int x0)], [], μ) Q) (k2 : ¬ (¬ x0 = (Int32.ofInt 3)) → Wp d 173 (15, [some (.int x0)], [], μ) Q) :
    Wp d 173 (10, [some (.int x0)], [], μ) Q := wp_blk rfl e173_10 (And.intro k1 k2)
def q173_15 : List (Nat × Instr × Nat) := [(15, .iconst 1, 1), (16, .goto 13, 3)]
theorem e173_15 : am_dec am_M173 q173_15 = true := by decide +kernel
theorem b173_15 {d : Nat} {Q : Option Value ⊕ Nat → am_Mem → Prop} {μ : am_Mem} {x0 : Int32}
    (k : Wp d 173 (29, [some (.int x0)], [.int (Int32.ofInt 1)], μ) Q) :
    Wp d 173 (15, [some (.int x0)], [], μ) Q := wp_blk rfl e173_15 k
def q173_19 : List (Nat × Instr × Nat) := [(19, .iload_n 0, 1), (20, .iconst 4, 1), (21, .if_icmp .ne 7, 3)]
theorem e173_19 : am_dec am_M173 q173_19 = true := by decide +kernel
theorem b173_19 {d : Nat} {Q : Option Value ⊕ Nat → am_Mem → Prop} {μ : am_Mem} {x0 : Int32}
    (k1 : ¬ x0 = (Int32.ofInt 4) → Wp d 173 (28, [some (.int x0)], [], μ) Q) (k2 : ¬ (¬ x0 = (Int32.ofInt 4)) → Wp d 173 (24, [some (.int x0)], [], μ) Q) :
    Wp d 173 (19, [some (.int x0)], [], μ) Q := wp_blk rfl e173_19 (And.intro k1 k2)
def q173_24 : List (Nat × Instr × Nat) := [(24, .iconst 2, 1), (25, .goto 4, 3)]
theorem e173_24 : am_dec am_M173 q173_24 = true := by decide +kernel
theorem b173_24 {d : Nat} {Q : Option Value ⊕ Nat → am_Mem → Prop} {μ : am_Mem} {x0 : Int32}
    (k : Wp d 173 (29, [some (.int x0)], [.int (Int32.ofInt 2)], μ) Q) :
    Wp d 173 (24, [some (.int x0)], [], μ) Q := wp_blk rfl e173_24 k
def q173_28 : List (Nat × Instr × Nat) := [(28, .iconst 4, 1)]
theorem e173_28 : am_dec am_M173 q173_28 = true := by decide +kernel
theorem b173_28 {d : Nat} {Q : Option Value ⊕ Nat → am_Mem → Prop} {μ : am_Mem} {x0 : Int32}
    (k : Wp d 173 (29, [some (.int x0)], [.int (Int32.ofInt 4)], μ) Q) :
    Wp d 173 (28, [some (.int x0)], [], μ) Q := wp_blk rfl e173_28 k
theorem e173_29_r : am_dec am_M173 [(29, .ireturn, 1)] = true := by decide +kernel
theorem b173_29 {d : Nat} {Q : Option Value ⊕ Nat → am_Mem → Prop} {μ : am_Mem} {x0 s0 : Int32}
    (k : Q (.inl (some (.int s0))) μ) :
    Wp d 173 (29, [some (.int x0)], [.int s0], μ) Q := (wp_ri (ty := .int) rfl e173_29_r rfl ⟨rfl, rfl⟩ k)
/-! RuleSheetsModel.beginAtom(I)V -/
def q174_0 : List (Nat × Instr × Nat) := [(0, .aload_n 0, 1), (1, .getfield 247, 3), (4, .iconst 3, 1), (5, .if_icmp .ne 36, 3)]
theorem e174_0 : am_dec am_M174 q174_0 = true := by decide +kernel
theorem b174_0 {d : Nat} {Q : Option Value ⊕ Nat → am_Mem → Prop} {μ : am_Mem} {r0 : Nat} {x1 : Int32}
    (h1 : am_kd μ r0 = (1, 12))
    (k1 : ¬ (am_A μ r0 28) = (Int32.ofInt 3) → Wp d 174 (41, [some (.ref r0), some (.int x1)], [], μ) Q) (k2 : ¬ (¬ (am_A μ r0 28) = (Int32.ofInt 3)) → Wp d 174 (8, [some (.ref r0), some (.int x1)], [], μ) Q) :
    Wp d 174 (0, [some (.ref r0), some (.int x1)], [], μ) Q := wp_blk rfl e174_0 (And.intro h1 (And.intro k1 k2))
def q174_8 : List (Nat × Instr × Nat) := [(8, .aload_n 0, 1)]
theorem e174_8 : am_dec am_M174 q174_8 = true := by decide +kernel
theorem e174_8_c : am_dc1 am_M174 9 (.invokevirtual 293) 3 = true := by decide +kernel
theorem b174_8 {d : Nat} {Q : Option Value ⊕ Nat → am_Mem → Prop} {μ : am_Mem} {r0 : Nat} {x1 : Int32} {P : Int32 → am_Mem → Prop} {X : Nat → am_Mem → Prop}
    (hk : am_kd μ r0 = (1, 12))
    (hc : Wp d 164 (0, [some (.ref r0), none], [], μ) (pI P X)) (hr : ∀ x μ', P x μ' → Wp (d + 1) 174 (12, [some (.ref r0), some (.int x1)], [.int x], (μ')) Q)
    (hx : ∀ x μ', X x μ' → Q (.inr x) μ') :
    Wp (d + 1) 174 (8, [some (.ref r0), some (.int x1)], [], μ) Q := wp_blk rfl e174_8 (wp_cv (as := []) rfl e174_8_c rfl rfl rfl rfl rfl hk hc (fun v μ' hv => by obtain ⟨x, rfl, hp⟩ := pI_r hv; exact hr x μ' hp) hx)
def q174_12 : List (Nat × Instr × Nat) := [(12, .ifCond .eq 29, 3)]
theorem e174_12 : am_dec am_M174 q174_12 = true := by decide +kernel
theorem b174_12 {d : Nat} {Q : Option Value ⊕ Nat → am_Mem → Prop} {μ : am_Mem} {r0 : Nat} {x1 s0 : Int32}
    (k1 : s0 = 0 → Wp d 174 (41, [some (.ref r0), some (.int x1)], [], μ) Q) (k2 : ¬ (s0 = 0) → Wp d 174 (15, [some (.ref r0), some (.int x1)], [], μ) Q) :
    Wp d 174 (12, [some (.ref r0), some (.int x1)], [.int s0], μ) Q := wp_blk rfl e174_12 (And.intro k1 k2)
def q174_15 : List (Nat × Instr × Nat) := [(15, .aload_n 0, 1), (16, .aload_n 0, 1), (17, .aload_n 0, 1), (18, .aload_n 0, 1), (19, .getfield 244, 3), (22, .aload_n 0, 1), (23, .getfield 235, 3)]
theorem e174_15 : am_dec am_M174 q174_15 = true := by decide +kernel
theorem e174_15_c : am_dc1 am_M174 26 (.invokevirtual 264) 3 = true := by decide +kernel
theorem b174_15 {d : Nat} {Q : Option Value ⊕ Nat → am_Mem → Prop} {μ : am_Mem} {r0 : Nat} {x1 : Int32} {P : Int32 → am_Mem → Prop} {X : Nat → am_Mem → Prop}
    (h1 : am_kd μ r0 = (1, 12))
    (h2 : am_kd μ r0 = (1, 12))
    (hk : am_kd μ r0 = (1, 12))
    (hc : Wp d 165 (0, [some (.ref r0), some (.int (am_A μ r0 30)), some (.int (am_A μ r0 31)), none, none, none], [], μ) (pI P X)) (hr : ∀ x μ', P x μ' → Wp (d + 1) 174 (29, [some (.ref r0), some (.int x1)], [.int x, .ref r0, .ref r0], (μ')) Q)
    (hx : ∀ x μ', X x μ' → Q (.inr x) μ') :
    Wp (d + 1) 174 (15, [some (.ref r0), some (.int x1)], [], μ) Q := wp_blk rfl e174_15 (And.intro h1 (And.intro h2 (wp_cv (as := [.int (am_A μ r0 30), .int (am_A μ r0 31)]) rfl e174_15_c rfl rfl rfl rfl rfl hk hc (fun v μ' hv => by obtain ⟨x, rfl, hp⟩ := pI_r hv; exact hr x μ' hp) hx)))
theorem e174_29_c : am_dc1 am_M174 29 (.invokevirtual 297) 3 = true := by decide +kernel
theorem b174_29 {d : Nat} {Q : Option Value ⊕ Nat → am_Mem → Prop} {μ : am_Mem} {r0 r90 r91 : Nat} {x1 s2 : Int32} {P : Int32 → am_Mem → Prop} {X : Nat → am_Mem → Prop}
    (hk : am_kd μ r91 = (1, 12))
    (hc : Wp d 167 (0, [some (.ref r91), some (.int s2)], [], μ) (pI P X)) (hr : ∀ x μ', P x μ' → Wp (d + 1) 174 (32, [some (.ref r0), some (.int x1)], [.int x, .ref r90], (μ')) Q)
    (hx : ∀ x μ', X x μ' → Q (.inr x) μ') :
    Wp (d + 1) 174 (29, [some (.ref r0), some (.int x1)], [.int s2, .ref r91, .ref r90], μ) Q := (wp_cv (as := [.int s2]) rfl e174_29_c rfl rfl rfl rfl rfl hk hc (fun v μ' hv => by obtain ⟨x, rfl, hp⟩ := pI_r hv; exact hr x μ' hp) hx)
def q174_32 : List (Nat × Instr × Nat) := [(32, .iload_n 1, 1)]
theorem e174_32 : am_dec am_M174 q174_32 = true := by decide +kernel
theorem e174_32_c : am_dc1 am_M174 33 (.invokevirtual 313) 3 = true := by decide +kernel
theorem b174_32 {d : Nat} {Q : Option Value ⊕ Nat → am_Mem → Prop} {μ : am_Mem} {r0 r90 : Nat} {x1 s1 : Int32} {P : am_Mem → Prop} {X : Nat → am_Mem → Prop}
    (hk : am_kd μ r90 = (1, 12))
    (hc : Wp d 175 (0, [some (.ref r90), some (.int s1), some (.int x1)], [], μ) (pV P X)) (hr : ∀ μ', P μ' → Wp (d + 1) 174 (36, [some (.ref r0), some (.int x1)], [], (μ')) Q)
    (hx : ∀ x μ', X x μ' → Q (.inr x) μ') :
    Wp (d + 1) 174 (32, [some (.ref r0), some (.int x1)], [.int s1, .ref r90], μ) Q := wp_blk rfl e174_32 (wp_cv (as := [.int s1, .int x1]) rfl e174_32_c rfl rfl rfl rfl rfl hk hc (fun v μ' hv => by obtain ⟨rfl, hp⟩ := pV_r hv; exact hr μ' hp) hx)
def q174_36 : List (Nat × Instr × Nat) := [(36, .aload_n 0, 1)]
theorem e174_36 : am_dec am_M174 q174_36 = true := by decide +kernel
theorem e174_36_c : am_dc1 am_M174 37 (.invokevirtual 275) 3 = true := by decide +kernel
theorem b174_36 {d : Nat} {Q : Option Value ⊕ Nat → am_Mem → Prop} {μ : am_Mem} {r0 : Nat} {x1 : Int32} {P : am_Mem → Prop} {X : Nat → am_Mem → Prop}
    (hk : am_kd μ r0 = (1, 12))
    (hc : Wp d 158 (0, [some (.ref r0), none, none], [], μ) (pV P X)) (hr : ∀ μ', P μ' → Wp (d + 1) 174 (40, [some (.ref r0), some (.int x1)], [], (μ')) Q)
    (hx : ∀ x μ', X x μ' → Q (.inr x) μ') :
    Wp (d + 1) 174 (36, [some (.ref r0), some (.int x1)], [], μ) Q := wp_blk rfl e174_36 (wp_cv (as := []) rfl e174_36_c rfl rfl rfl rfl rfl hk hc (fun v μ' hv => by obtain ⟨rfl, hp⟩ := pV_r hv; exact hr μ' hp) hx)
theorem e174_40_r : am_dec am_M174 [(40, .return_, 1)] = true := by decide +kernel
theorem b174_40 {d : Nat} {Q : Option Value ⊕ Nat → am_Mem → Prop} {μ : am_Mem} {r0 : Nat} {x1 : Int32}
    (k : Q (.inl none) μ) :
    Wp d 174 (40, [some (.ref r0), some (.int x1)], [], μ) Q := (wp_rv rfl e174_40_r rfl k)
def q174_41 : List (Nat × Instr × Nat) := [(41, .aload_n 0, 1), (42, .getfield 247, 3), (45, .iconst 1, 1), (46, .if_icmp .eq 13, 3)]
theorem e174_41 : am_dec am_M174 q174_41 = true := by decide +kernel
theorem b174_41 {d : Nat} {Q : Option Value ⊕ Nat → am_Mem → Prop} {μ : am_Mem} {r0 : Nat} {x1 : Int32}
    (h1 : am_kd μ r0 = (1, 12))
    (k1 : (am_A μ r0 28) = (Int32.ofInt 1) → Wp d 174 (59, [some (.ref r0), some (.int x1)], [], μ) Q) (k2 : ¬ ((am_A μ r0 28) = (Int32.ofInt 1)) → Wp d 174 (49, [some (.ref r0), some (.int x1)], [], μ) Q) :
    Wp d 174 (41, [some (.ref r0), some (.int x1)], [], μ) Q := wp_blk rfl e174_41 (And.intro h1 (And.intro k1 k2))
def q174_49 : List (Nat × Instr × Nat) := [(49, .aload_n 0, 1), (50, .iconst 1, 1), (51, .aload_n 0, 1), (52, .getfield 241, 3)]
theorem e174_49 : am_dec am_M174 q174_49 = true := by decide +kernel
theorem e174_49_c : am_dc1 am_M174 55 (.invokevirtual 271) 3 = true := by decide +kernel
theorem b174_49 {d : Nat} {Q : Option Value ⊕ Nat → am_Mem → Prop} {μ : am_Mem} {r0 : Nat} {x1 : Int32} {P : am_Mem → Prop} {X : Nat → am_Mem → Prop}
    (h1 : am_kd μ r0 = (1, 12))
    (hk : am_kd μ r0 = (1, 12))
    (hc : Wp d 166 (0, [some (.ref r0), some (.int (Int32.ofInt 1)), some (.int (am_A μ r0 29))], [], μ) (pV P X)) (hr : ∀ μ', P μ' → Wp (d + 1) 174 (58, [some (.ref r0), some (.int x1)], [], (μ')) Q)
    (hx : ∀ x μ', X x μ' → Q (.inr x) μ') :
    Wp (d + 1) 174 (49, [some (.ref r0), some (.int x1)], [], μ) Q := wp_blk rfl e174_49 (And.intro h1 (wp_cv (as := [.int (Int32.ofInt 1), .int (am_A μ r0 29)]) rfl e174_49_c rfl rfl rfl rfl rfl hk hc (fun v μ' hv => by obtain ⟨rfl, hp⟩ := pV_r hv; exact hr μ' hp) hx))
theorem e174_58_r : am_dec am_M174 [(58, .return_, 1)] = true := by decide +kernel
theorem b174_58 {d : Nat} {Q : Option Value ⊕ Nat → am_Mem → Prop} {μ : am_Mem} {r0 : Nat} {x1 : Int32}
    (k : Q (.inl none) μ) :
    Wp d 174 (58, [some (.ref r0), some (.int x1)], [], μ) Q := (wp_rv rfl e174_58_r rfl k)
def q174_59 : List (Nat × Instr × Nat) := [(59, .aload_n 0, 1)]
theorem e174_59 : am_dec am_M174 q174_59 = true := by decide +kernel
theorem e174_59_c : am_dc1 am_M174 60 (.invokevirtual 304) 3 = true := by decide +kernel
theorem b174_59 {d : Nat} {Q : Option Value ⊕ Nat → am_Mem → Prop} {μ : am_Mem} {r0 : Nat} {x1 : Int32} {P : Int32 → am_Mem → Prop} {X : Nat → am_Mem → Prop}
    (hk : am_kd μ r0 = (1, 12))
    (hc : Wp d 169 (0, [some (.ref r0)], [], μ) (pI P X)) (hr : ∀ x μ', P x μ' → Wp (d + 1) 174 (63, [some (.ref r0), some (.int x1)], [.int x], (μ')) Q)
    (hx : ∀ x μ', X x μ' → Q (.inr x) μ') :
    Wp (d + 1) 174 (59, [some (.ref r0), some (.int x1)], [], μ) Q := wp_blk rfl e174_59 (wp_cv (as := []) rfl e174_59_c rfl rfl rfl rfl rfl hk hc (fun v μ' hv => by obtain ⟨x, rfl, hp⟩ := pI_r hv; exact hr x μ' hp) hx)
def q174_63 : List (Nat × Instr × Nat) := [(63, .ifCond .ne 4, 3)]
theorem e174_63 : am_dec am_M174 q174_63 = true := by decide +kernel
theorem b174_63 {d : Nat} {Q : Option Value ⊕ Nat → am_Mem → Prop} {μ : am_Mem} {r0 : Nat} {x1 s0 : Int32}
    (k1 : ¬ s0 = 0 → Wp d 174 (67, [some (.ref r0), some (.int x1)], [], μ) Q) (k2 : ¬ (¬ s0 = 0) → Wp d 174 (66, [some (.ref r0), some (.int x1)], [], μ) Q) :
    Wp d 174 (63, [some (.ref r0), some (.int x1)], [.int s0], μ) Q := wp_blk rfl e174_63 (And.intro k1 k2)
theorem e174_66_r : am_dec am_M174 [(66, .return_, 1)] = true := by decide +kernel
theorem b174_66 {d : Nat} {Q : Option Value ⊕ Nat → am_Mem → Prop} {μ : am_Mem} {r0 : Nat} {x1 : Int32}
    (k : Q (.inl none) μ) :
    Wp d 174 (66, [some (.ref r0), some (.int x1)], [], μ) Q := (wp_rv rfl e174_66_r rfl k)
def q174_67 : List (Nat × Instr × Nat) := [(67, .aload_n 0, 1)]
theorem e174_67 : am_dec am_M174 q174_67 = true := by decide +kernel
theorem e174_67_c : am_dc1 am_M174 68 (.invokevirtual 293) 3 = true := by decide +kernel
theorem b174_67 {d : Nat} {Q : Option Value ⊕ Nat → am_Mem → Prop} {μ : am_Mem} {r0 : Nat} {x1 : Int32} {P : Int32 → am_Mem → Prop} {X : Nat → am_Mem → Prop}
    (hk : am_kd μ r0 = (1, 12))
    (hc : Wp d 164 (0, [some (.ref r0), none], [], μ) (pI P X)) (hr : ∀ x μ', P x μ' → Wp (d + 1) 174 (71, [some (.ref r0), some (.int x1)], [.int x], (μ')) Q)
    (hx : ∀ x μ', X x μ' → Q (.inr x) μ') :
    Wp (d + 1) 174 (67, [some (.ref r0), some (.int x1)], [], μ) Q := wp_blk rfl e174_67 (wp_cv (as := []) rfl e174_67_c rfl rfl rfl rfl rfl hk hc (fun v μ' hv => by obtain ⟨x, rfl, hp⟩ := pI_r hv; exact hr x μ' hp) hx)
def q174_71 : List (Nat × Instr × Nat) := [(71, .ifCond .eq 38, 3)]
theorem e174_71 : am_dec am_M174 q174_71 = true := by decide +kernel
theorem b174_71 {d : Nat} {Q : Option Value ⊕ Nat → am_Mem → Prop} {μ : am_Mem} {r0 : Nat} {x1 s0 : Int32}
    (k1 : s0 = 0 → Wp d 174 (109, [some (.ref r0), some (.int x1)], [], μ) Q) (k2 : ¬ (s0 = 0) → Wp d 174 (74, [some (.ref r0), some (.int x1)], [], μ) Q) :
    Wp d 174 (71, [some (.ref r0), some (.int x1)], [.int s0], μ) Q := wp_blk rfl e174_71 (And.intro k1 k2)
def q174_74 : List (Nat × Instr × Nat) := [(74, .aload_n 0, 1), (75, .aload_n 0, 1), (76, .aload_n 0, 1), (77, .aload_n 0, 1), (78, .getfield 244, 3), (81, .aload_n 0, 1), (82, .getfield 235, 3)]
theorem e174_74 : am_dec am_M174 q174_74 = true := by decide +kernel
theorem e174_74_c : am_dc1 am_M174 85 (.invokevirtual 264) 3 = true := by decide +kernel
theorem b174_74 {d : Nat} {Q : Option Value ⊕ Nat → am_Mem → Prop} {μ : am_Mem} {r0 : Nat} {x1 : Int32} {P : Int32 → am_Mem → Prop} {X : Nat → am_Mem → Prop}
    (h1 : am_kd μ r0 = (1, 12))
    (h2 : am_kd μ r0 = (1, 12))
    (hk : am_kd μ r0 = (1, 12))
    (hc : Wp d 165 (0, [some (.ref r0), some (.int (am_A μ r0 30)), some (.int (am_A μ r0 31)), none, none, none], [], μ) (pI P X)) (hr : ∀ x μ', P x μ' → Wp (d + 1) 174 (88, [some (.ref r0), some (.int x1)], [.int x, .ref r0, .ref r0], (μ')) Q)
    (hx : ∀ x μ', X x μ' → Q (.inr x) μ') :
    Wp (d + 1) 174 (74, [some (.ref r0), some (.int x1)], [], μ) Q := wp_blk rfl e174_74 (And.intro h1 (And.intro h2 (wp_cv (as := [.int (am_A μ r0 30), .int (am_A μ r0 31)]) rfl e174_74_c rfl rfl rfl rfl rfl hk hc (fun v μ' hv => by obtain ⟨x, rfl, hp⟩ := pI_r hv; exact hr x μ' hp) hx)))
theorem e174_88_c : am_dc1 am_M174 88 (.invokevirtual 297) 3 = true := by decide +kernel
theorem b174_88 {d : Nat} {Q : Option Value ⊕ Nat → am_Mem → Prop} {μ : am_Mem} {r0 r90 r91 : Nat} {x1 s2 : Int32} {P : Int32 → am_Mem → Prop} {X : Nat → am_Mem → Prop}
    (hk : am_kd μ r91 = (1, 12))
    (hc : Wp d 167 (0, [some (.ref r91), some (.int s2)], [], μ) (pI P X)) (hr : ∀ x μ', P x μ' → Wp (d + 1) 174 (91, [some (.ref r0), some (.int x1)], [.int x, .ref r90], (μ')) Q)
    (hx : ∀ x μ', X x μ' → Q (.inr x) μ') :
    Wp (d + 1) 174 (88, [some (.ref r0), some (.int x1)], [.int s2, .ref r91, .ref r90], μ) Q := (wp_cv (as := [.int s2]) rfl e174_88_c rfl rfl rfl rfl rfl hk hc (fun v μ' hv => by obtain ⟨x, rfl, hp⟩ := pI_r hv; exact hr x μ' hp) hx)
def q174_91 : List (Nat × Instr × Nat) := [(91, .iload_n 1, 1)]
theorem e174_91 : am_dec am_M174 q174_91 = true := by decide +kernel
theorem e174_91_c : am_dc1 am_M174 92 (.invokevirtual 313) 3 = true := by decide +kernel
theorem b174_91 {d : Nat} {Q : Option Value ⊕ Nat → am_Mem → Prop} {μ : am_Mem} {r0 r90 : Nat} {x1 s1 : Int32} {P : am_Mem → Prop} {X : Nat → am_Mem → Prop}
    (hk : am_kd μ r90 = (1, 12))
    (hc : Wp d 175 (0, [some (.ref r90), some (.int s1), some (.int x1)], [], μ) (pV P X)) (hr : ∀ μ', P μ' → Wp (d + 1) 174 (95, [some (.ref r0), some (.int x1)], [], (μ')) Q)
    (hx : ∀ x μ', X x μ' → Q (.inr x) μ') :
    Wp (d + 1) 174 (91, [some (.ref r0), some (.int x1)], [.int s1, .ref r90], μ) Q := wp_blk rfl e174_91 (wp_cv (as := [.int s1, .int x1]) rfl e174_91_c rfl rfl rfl rfl rfl hk hc (fun v μ' hv => by obtain ⟨rfl, hp⟩ := pV_r hv; exact hr μ' hp) hx)
def q174_95 : List (Nat × Instr × Nat) := [(95, .aload_n 0, 1), (96, .iconst 2, 1), (97, .aload_n 0, 1), (98, .getfield 278, 3), (101, .iconst 1, 1), (102, .isub, 1)]
theorem e174_95 : am_dec am_M174 q174_95 = true := by decide +kernel
theorem e174_95_c : am_dc1 am_M174 103 (.invokevirtual 307) 3 = true := by decide +kernel
theorem b174_95 {d : Nat} {Q : Option Value ⊕ Nat → am_Mem → Prop} {μ : am_Mem} {r0 : Nat} {x1 : Int32} {P : am_Mem → Prop} {X : Nat → am_Mem → Prop}
    (h1 : am_kd μ r0 = (1, 12))
    (hk : am_kd μ r0 = (1, 12))
    (hc : Wp d 170 (0, [some (.ref r0), some (.int (Int32.ofInt 2)), some (.int ((am_A μ r0 18) - (Int32.ofInt 1)))], [], μ) (pV P X)) (hr : ∀ μ', P μ' → Wp (d + 1) 174 (106, [some (.ref r0), some (.int x1)], [], (μ')) Q)
    (hx : ∀ x μ', X x μ' → Q (.inr x) μ') :
    Wp (d + 1) 174 (95, [some (.ref r0), some (.int x1)], [], μ) Q := wp_blk rfl e174_95 (And.intro h1 (wp_cv (as := [.int (Int32.ofInt 2), .int ((am_A μ r0 18) - (Int32.ofInt 1))]) rfl e174_95_c rfl rfl rfl rfl rfl hk hc (fun v μ' hv => by obtain ⟨rfl, hp⟩ := pV_r hv; exact hr μ' hp) hx))
def q174_106 : List (Nat × Instr × Nat) := [(106, .goto 72, 3)]
theorem e174_106 : am_dec am_M174 q174_106 = true := by decide +kernel
theorem b174_106 {d : Nat} {Q : Option Value ⊕ Nat → am_Mem → Prop} {μ : am_Mem} {r0 : Nat} {x1 : Int32}
    (k : Wp d 174 (178, [some (.ref r0), some (.int x1)], [], μ) Q) :
    Wp d 174 (106, [some (.ref r0), some (.int x1)], [], μ) Q := wp_blk rfl e174_106 k
def q174_109 : List (Nat × Instr × Nat) := [(109, .iload_n 1, 1), (110, .iconst 1, 1), (111, .if_icmp .ne 20, 3)]
theorem e174_109 : am_dec am_M174 q174_109 = true := by decide +kernel
theorem b174_109 {d : Nat} {Q : Option Value ⊕ Nat → am_Mem → Prop} {μ : am_Mem} {r0 : Nat} {x1 : Int32}
    (k1 : ¬ x1 = (Int32.ofInt 1) → Wp d 174 (131, [some (.ref r0), some (.int x1)], [], μ) Q) (k2 : ¬ (¬ x1 = (Int32.ofInt 1)) → Wp d 174 (114, [some (.ref r0), some (.int x1)], [], μ) Q) :
    Wp d 174 (109, [some (.ref r0), some (.int x1)], [], μ) Q := wp_blk rfl e174_109 (And.intro k1 k2)
def q174_114 : List (Nat × Instr × Nat) := [(114, .aload_n 0, 1), (115, .iconst 0, 1)]
theorem e174_114 : am_dec am_M174 q174_114 = true := by decide +kernel
theorem e174_114_c : am_dc1 am_M174 116 (.invokevirtual 315) 3 = true := by decide +kernel
theorem b174_114 {d : Nat} {Q : Option Value ⊕ Nat → am_Mem → Prop} {μ : am_Mem} {r0 : Nat} {x1 : Int32} {P : Int32 → am_Mem → Prop} {X : Nat → am_Mem → Prop}
    (hk : am_kd μ r0 = (1, 12))
    (hc : Wp d 177 (0, [some (.ref r0), some (.int (Int32.ofInt 0))], [], μ) (pI P X)) (hr : ∀ x μ', P x μ' → Wp (d + 1) 174 (119, [some (.ref r0), some (.int x1)], [.int x], (μ')) Q)
    (hx : ∀ x μ', X x μ' → Q (.inr x) μ') :
    Wp (d + 1) 174 (114, [some (.ref r0), some (.int x1)], [], μ) Q := wp_blk rfl e174_114 (wp_cv (as := [.int (Int32.ofInt 0)]) rfl e174_114_c rfl rfl rfl rfl rfl hk hc (fun v μ' hv => by obtain ⟨x, rfl, hp⟩ := pI_r hv; exact hr x μ' hp) hx)
def q174_119 : List (Nat × Instr × Nat) := [(119, .ifCond .eq 12, 3)]
theorem e174_119 : am_dec am_M174 q174_119 = true := by decide +kernel
theorem b174_119 {d : Nat} {Q : Option Value ⊕ Nat → am_Mem → Prop} {μ : am_Mem} {r0 : Nat} {x1 s0 : Int32}
    (k1 : s0 = 0 → Wp d 174 (131, [some (.ref r0), some (.int x1)], [], μ) Q) (k2 : ¬ (s0 = 0) → Wp d 174 (122, [some (.ref r0), some (.int x1)], [], μ) Q) :
    Wp d 174 (119, [some (.ref r0), some (.int x1)], [.int s0], μ) Q := wp_blk rfl e174_119 (And.intro k1 k2)
def q174_122 : List (Nat × Instr × Nat) := [(122, .aload_n 0, 1), (123, .iconst 3, 1), (124, .iconst 0, 1)]
theorem e174_122 : am_dec am_M174 q174_122 = true := by decide +kernel
theorem e174_122_c : am_dc1 am_M174 125 (.invokevirtual 307) 3 = true := by decide +kernel
theorem b174_122 {d : Nat} {Q : Option Value ⊕ Nat → am_Mem → Prop} {μ : am_Mem} {r0 : Nat} {x1 : Int32} {P : am_Mem → Prop} {X : Nat → am_Mem → Prop}
    (hk : am_kd μ r0 = (1, 12))
    (hc : Wp d 170 (0, [some (.ref r0), some (.int (Int32.ofInt 3)), some (.int (Int32.ofInt 0))], [], μ) (pV P X)) (hr : ∀ μ', P μ' → Wp (d + 1) 174 (128, [some (.ref r0), some (.int x1)], [], (μ')) Q)
    (hx : ∀ x μ', X x μ' → Q (.inr x) μ') :
    Wp (d + 1) 174 (122, [some (.ref r0), some (.int x1)], [], μ) Q := wp_blk rfl e174_122 (wp_cv (as := [.int (Int32.ofInt 3), .int (Int32.ofInt 0)]) rfl e174_122_c rfl rfl rfl rfl rfl hk hc (fun v μ' hv => by obtain ⟨rfl, hp⟩ := pV_r hv; exact hr μ' hp) hx)
def q174_128 : List (Nat × Instr × Nat) := [(128, .goto 50, 3)]
theorem e174_128 : am_dec am_M174 q174_128 = true := by decide +kernel
theorem b174_128 {d : Nat} {Q : Option Value ⊕ Nat → am_Mem → Prop} {μ : am_Mem} {r0 : Nat} {x1 : Int32}
    (k : Wp d 174 (178, [some (.ref r0), some (.int x1)], [], μ) Q) :
    Wp d 174 (128, [some (.ref r0), some (.int x1)], [], μ) Q := wp_blk rfl e174_128 k
def q174_131 : List (Nat × Instr × Nat) := [(131, .iload_n 1, 1), (132, .iconst 1, 1), (133, .if_icmp .ne 35, 3)]
theorem e174_131 : am_dec am_M174 q174_131 = true := by decide +kernel
theorem b174_131 {d : Nat} {Q : Option Value ⊕ Nat → am_Mem → Prop} {μ : am_Mem} {r0 : Nat} {x1 : Int32}
    (k1 : ¬ x1 = (Int32.ofInt 1) → Wp d 174 (168, [some (.ref r0), some (.int x1)], [], μ) Q) (k2 : ¬ (¬ x1 = (Int32.ofInt 1)) → Wp d 174 (136, [some (.ref r0), some (.int x1)], [], μ) Q) :
    Wp d 174 (131, [some (.ref r0), some (.int x1)], [], μ) Q := wp_blk rfl e174_131 (And.intro k1 k2)
def q174_136 : List (Nat × Instr × Nat) := [(136, .aload_n 0, 1), (137, .iconst 1, 1)]
theorem e174_136 : am_dec am_M174 q174_136 = true := by decide +kernel
theorem e174_136_c : am_dc1 am_M174 138 (.invokevirtual 315) 3 = true := by decide +kernel
theorem b174_136 {d : Nat} {Q : Option Value ⊕ Nat → am_Mem → Prop} {μ : am_Mem} {r0 : Nat} {x1 : Int32} {P : Int32 → am_Mem → Prop} {X : Nat → am_Mem → Prop}
    (hk : am_kd μ r0 = (1, 12))
    (hc : Wp d 177 (0, [some (.ref r0), some (.int (Int32.ofInt 1))], [], μ) (pI P X)) (hr : ∀ x μ', P x μ' → Wp (d + 1) 174 (141, [some (.ref r0), some (.int x1)], [.int x], (μ')) Q)
    (hx : ∀ x μ', X x μ' → Q (.inr x) μ') :
    Wp (d + 1) 174 (136, [some (.ref r0), some (.int x1)], [], μ) Q := wp_blk rfl e174_136 (wp_cv (as := [.int (Int32.ofInt 1)]) rfl e174_136_c rfl rfl rfl rfl rfl hk hc (fun v μ' hv => by obtain ⟨x, rfl, hp⟩ := pI_r hv; exact hr x μ' hp) hx)
def q174_141 : List (Nat × Instr × Nat) := [(141, .ifCond .eq 27, 3)]
theorem e174_141 : am_dec am_M174 q174_141 = true := by decide +kernel
theorem b174_141 {d : Nat} {Q : Option Value ⊕ Nat → am_Mem → Prop} {μ : am_Mem} {r0 : Nat} {x1 s0 : Int32}
    (k1 : s0 = 0 → Wp d 174 (168, [some (.ref r0), some (.int x1)], [], μ) Q) (k2 : ¬ (s0 = 0) → Wp d 174 (144, [some (.ref r0), some (.int x1)], [], μ) Q) :
    Wp d 174 (141, [some (.ref r0), some (.int x1)], [.int s0], μ) Q := wp_blk rfl e174_141 (And.intro k1 k2)
def q174_144 : List (Nat × Instr × Nat) := [(144, .aload_n 0, 1), (145, .iconst 3, 1), (146, .aload_n 0, 1), (147, .iconst (-1), 1)]
theorem e174_144 : am_dec am_M174 q174_144 = true := by decide +kernel
theorem e174_144_c : am_dc1 am_M174 148 (.invokevirtual 297) 3 = true := by decide +kernel
theorem b174_144 {d : Nat} {Q : Option Value ⊕ Nat → am_Mem → Prop} {μ : am_Mem} {r0 : Nat} {x1 : Int32} {P : Int32 → am_Mem → Prop} {X : Nat → am_Mem → Prop}
    (hk : am_kd μ r0 = (1, 12))
    (hc : Wp d 167 (0, [some (.ref r0), some (.int (Int32.ofInt (-1)))], [], μ) (pI P X)) (hr : ∀ x μ', P x μ' → Wp (d + 1) 174 (151, [some (.ref r0), some (.int x1)], [.int x, .int (Int32.ofInt 3), .ref r0], (μ')) Q)
    (hx : ∀ x μ', X x μ' → Q (.inr x) μ') :
    Wp (d + 1) 174 (144, [some (.ref r0), some (.int x1)], [], μ) Q := wp_blk rfl e174_144 (wp_cv (as := [.int (Int32.ofInt (-1))]) rfl e174_144_c rfl rfl rfl rfl rfl hk hc (fun v μ' hv => by obtain ⟨x, rfl, hp⟩ := pI_r hv; exact hr x μ' hp) hx)
theorem e174_151_c : am_dc1 am_M174 151 (.invokevirtual 310) 3 = true := by decide +kernel
theorem b174_151 {d : Nat} {Q : Option Value ⊕ Nat → am_Mem → Prop} {μ : am_Mem} {r0 r90 : Nat} {x1 s1 s2 : Int32} {P : am_Mem → Prop} {X : Nat → am_Mem → Prop}
    (hk : am_kd μ r90 = (1, 12))
    (hc : Wp d 176 (0, [some (.ref r90), some (.int s1), some (.int s2)], [], μ) (pV P X)) (hr : ∀ μ', P μ' → Wp (d + 1) 174 (154, [some (.ref r0), some (.int x1)], [], (μ')) Q)
    (hx : ∀ x μ', X x μ' → Q (.inr x) μ') :
    Wp (d + 1) 174 (151, [some (.ref r0), some (.int x1)], [.int s2, .int s1, .ref r90], μ) Q := (wp_cv (as := [.int s1, .int s2]) rfl e174_151_c rfl rfl rfl rfl rfl hk hc (fun v μ' hv => by obtain ⟨rfl, hp⟩ := pV_r hv; exact hr μ' hp) hx)
def q174_154 : List (Nat × Instr × Nat) := [(154, .aload_n 0, 1), (155, .iconst 4, 1), (156, .aload_n 0, 1), (157, .getfield 278, 3), (160, .iconst 1, 1), (161, .isub, 1)]
theorem e174_154 : am_dec am_M174 q174_154 = true := by decide +kernel
theorem e174_154_c : am_dc1 am_M174 162 (.invokevirtual 307) 3 = true := by decide +kernel
theorem b174_154 {d : Nat} {Q : Option Value ⊕ Nat → am_Mem → Prop} {μ : am_Mem} {r0 : Nat} {x1 : Int32} {P : am_Mem → Prop} {X : Nat → am_Mem → Prop}
    (h1 : am_kd μ r0 = (1, 12))
    (hk : am_kd μ r0 = (1, 12))
    (hc : Wp d 170 (0, [some (.ref r0), some (.int (Int32.ofInt 4)), some (.int ((am_A μ r0 18) - (Int32.ofInt 1)))], [], μ) (pV P X)) (hr : ∀ μ', P μ' → Wp (d + 1) 174 (165, [some (.ref r0), some (.int x1)], [], (μ')) Q)
    (hx : ∀ x μ', X x μ' → Q (.inr x) μ') :
    Wp (d + 1) 174 (154, [some (.ref r0), some (.int x1)], [], μ) Q := wp_blk rfl e174_154 (And.intro h1 (wp_cv (as := [.int (Int32.ofInt 4), .int ((am_A μ r0 18) - (Int32.ofInt 1))]) rfl e174_154_c rfl rfl rfl rfl rfl hk hc (fun v μ' hv => by obtain ⟨rfl, hp⟩ := pV_r hv; exact hr μ' hp) hx))
def q174_165 : List (Nat × Instr × Nat) := [(165, .goto 13, 3)]
theorem e174_165 : am_dec am_M174 q174_165 = true := by decide +kernel
theorem b174_165 {d : Nat} {Q : Option Value ⊕ Nat → am_Mem → Prop} {μ : am_Mem} {r0 : Nat} {x1 : Int32}
    (k : Wp d 174 (178, [some (.ref r0), some (.int x1)], [], μ) Q) :
    Wp d 174 (165, [some (.ref r0), some (.int x1)], [], μ) Q := wp_blk rfl e174_165 k
def q174_168 : List (Nat × Instr × Nat) := [(168, .aload_n 0, 1), (169, .iconst 1, 1), (170, .aload_n 0, 1), (171, .getfield 241, 3)]
theorem e174_168 : am_dec am_M174 q174_168 = true := by decide +kernel
theorem e174_168_c : am_dc1 am_M174 174 (.invokevirtual 271) 3 = true := by decide +kernel
theorem b174_168 {d : Nat} {Q : Option Value ⊕ Nat → am_Mem → Prop} {μ : am_Mem} {r0 : Nat} {x1 : Int32} {P : am_Mem → Prop} {X : Nat → am_Mem → Prop}
    (h1 : am_kd μ r0 = (1, 12))
    (hk : am_kd μ r0 = (1, 12))
    (hc : Wp d 166 (0, [some (.ref r0), some (.int (Int32.ofInt 1)), some (.int (am_A μ r0 29))], [], μ) (pV P X)) (hr : ∀ μ', P μ' → Wp (d + 1) 174 (177, [some (.ref r0), some (.int x1)], [], (μ')) Q)
    (hx : ∀ x μ', X x μ' → Q (.inr x) μ') :
    Wp (d + 1) 174 (168, [some (.ref r0), some (.int x1)], [], μ) Q := wp_blk rfl e174_168 (And.intro h1 (wp_cv (as := [.int (Int32.ofInt 1), .int (am_A μ r0 29)]) rfl e174_168_c rfl rfl rfl rfl rfl hk hc (fun v μ' hv => by obtain ⟨rfl, hp⟩ := pV_r hv; exact hr μ' hp) hx))
theorem e174_177_r : am_dec am_M174 [(177, .return_, 1)] = true := by decide +kernel
theorem b174_177 {d : Nat} {Q : Option Value ⊕ Nat → am_Mem → Prop} {μ : am_Mem} {r0 : Nat} {x1 : Int32}
    (k : Q (.inl none) μ) :
    Wp d 174 (177, [some (.ref r0), some (.int x1)], [], μ) Q := (wp_rv rfl e174_177_r rfl k)
def q174_178 : List (Nat × Instr × Nat) := [(178, .aload_n 0, 1)]
theorem e174_178 : am_dec am_M174 q174_178 = true := by decide +kernel
theorem e174_178_c : am_dc1 am_M174 179 (.invokevirtual 275) 3 = true := by decide +kernel
theorem b174_178 {d : Nat} {Q : Option Value ⊕ Nat → am_Mem → Prop} {μ : am_Mem} {r0 : Nat} {x1 : Int32} {P : am_Mem → Prop} {X : Nat → am_Mem → Prop}
    (hk : am_kd μ r0 = (1, 12))
    (hc : Wp d 158 (0, [some (.ref r0), none, none], [], μ) (pV P X)) (hr : ∀ μ', P μ' → Wp (d + 1) 174 (182, [some (.ref r0), some (.int x1)], [], (μ')) Q)
    (hx : ∀ x μ', X x μ' → Q (.inr x) μ') :
    Wp (d + 1) 174 (178, [some (.ref r0), some (.int x1)], [], μ) Q := wp_blk rfl e174_178 (wp_cv (as := []) rfl e174_178_c rfl rfl rfl rfl rfl hk hc (fun v μ' hv => by obtain ⟨rfl, hp⟩ := pV_r hv; exact hr μ' hp) hx)
theorem e174_182_r : am_dec am_M174 [(182, .return_, 1)] = true := by decide +kernel
theorem b174_182 {d : Nat} {Q : Option Value ⊕ Nat → am_Mem → Prop} {μ : am_Mem} {r0 : Nat} {x1 : Int32}
    (k : Q (.inl none) μ) :
    Wp d 174 (182, [some (.ref r0), some (.int x1)], [], μ) Q := (wp_rv rfl e174_182_r rfl k)
/-! RuleSheetsModel.place(II)V -/
def q175_0 : List (Nat × Instr × Nat) := [(0, .iload_n 2, 1), (1, .ifCond .ne 18, 3)]
theorem e175_0 : am_dec am_M175 q175_0 = true := by decide +kernel
theorem b175_0 {d : Nat} {Q : Option Value ⊕ Nat → am_Mem → Prop} {μ : am_Mem} {r0 : Nat} {x1 x2 : Int32}
    (k1 : ¬ x2 = 0 → Wp d 175 (19, [some (.ref r0), some (.int x1), some (.int x2)], [], μ) Q) (k2 : ¬ (¬ x2 = 0) → Wp d 175 (4, [some (.ref r0), some (.int x1), some (.int x2)], [], μ) Q) :
    Wp d 175 (0, [some (.ref r0), some (.int x1), some (.int x2)], [], μ) Q := wp_blk rfl e175_0 (And.intro k1 k2)
def q175_4 : List (Nat × Instr × Nat) := [(4, .aload_n 0, 1), (5, .getfield 29, 3), (8, .aload_n 0, 1), (9, .getfield 287, 3), (12, .iconst 1, 1), (13, .isub, 1), (14, .iload_n 1, 1), (15, .iastore, 1), (16, .goto 9, 3)]
theorem e175_4 : am_dec am_M175 q175_4 = true := by decide +kernel
theorem b175_4 {d : Nat} {Q : Option Value ⊕ Nat → am_Mem → Prop} {μ : am_Mem} {r0 : Nat} {x1 x2 : Int32}
    (h1 : am_kd μ r0 = (1, 12))
    (h2 : ¬ am_F μ r0 13 = 15)
    (h3 : am_kd μ r0 = (1, 12))
    (h4 : (am_kd μ (am_F μ r0 13)).1 = 2)
    (h5 : ¬ (((am_A μ r0 12) - (Int32.ofInt 1)) < 0 ∨ (am_kd μ (am_F μ r0 13)).2 ≤ ((am_A μ r0 12) - (Int32.ofInt 1)).toNatClampNeg))
    (k : Wp d 175 (25, [some (.ref r0), some (.int x1), some (.int x2)], [], (am_pA μ (am_F μ r0 13) ((am_A μ r0 12) - (Int32.ofInt 1)).toNatClampNeg x1)) Q) :
    Wp d 175 (4, [some (.ref r0), some (.int x1), some (.int x2)], [], μ) Q := wp_blk rfl e175_4 (And.intro h1 (And.intro h2 (And.intro h3 (And.intro h4 (And.intro h5 k)))))
def q175_19 : List (Nat × Instr × Nat) := [(19, .aload_n 0, 1), (20, .iload_n 2, 1), (21, .iload_n 1, 1)]
theorem e175_19 : am_dec am_M175 q175_19 = true := by decide +kernel
theorem e175_19_c : am_dc1 am_M175 22 (.invokevirtual 310) 3 = true := by decide +kernel
theorem b175_19 {d : Nat} {Q : Option Value ⊕ Nat → am_Mem → Prop} {μ : am_Mem} {r0 : Nat} {x1 x2 : Int32} {P : am_Mem → Prop} {X : Nat → am_Mem → Prop}
    (hk : am_kd μ r0 = (1, 12))
    (hc : Wp d 176 (0, [some (.ref r0), some (.int x2), some (.int x1)], [], μ) (pV P X)) (hr : ∀ μ', P μ' → Wp (d + 1) 175 (25, [some (.ref r0), some (.int x1), some (.int x2)], [], (μ')) Q)
    (hx : ∀ x μ', X x μ' → Q (.inr x) μ') :
    Wp (d + 1) 175 (19, [some (.ref r0), some (.int x1), some (.int x2)], [], μ) Q := wp_blk rfl e175_19 (wp_cv (as := [.int x2, .int x1]) rfl e175_19_c rfl rfl rfl rfl rfl hk hc (fun v μ' hv => by obtain ⟨rfl, hp⟩ := pV_r hv; exact hr μ' hp) hx)
theorem e175_25_r : am_dec am_M175 [(25, .return_, 1)] = true := by decide +kernel
theorem b175_25 {d : Nat} {Q : Option Value ⊕ Nat → am_Mem → Prop} {μ : am_Mem} {r0 : Nat} {x1 x2 : Int32}
    (k : Q (.inl none) μ) :
    Wp d 175 (25, [some (.ref r0), some (.int x1), some (.int x2)], [], μ) Q := (wp_rv rfl e175_25_r rfl k)
/-! RuleSheetsModel.addCondition(II)V -/
def q176_0 : List (Nat × Instr × Nat) := [(0, .aload_n 0, 1), (1, .getfield 35, 3), (4, .aload_n 0, 1), (5, .getfield 284, 3), (8, .iload_n 1, 1), (9, .iastore, 1), (10, .aload_n 0, 1), (11, .getfield 38, 3), (14, .aload_n 0, 1), (15, .getfield 284, 3), (18, .iload_n 2, 1), (19, .iastore, 1)]
theorem e176_0 : am_dec am_M176 q176_0 = true := by decide +kernel
theorem b176_0 {d : Nat} {Q : Option Value ⊕ Nat → am_Mem → Prop} {μ : am_Mem} {r0 : Nat} {x1 x2 : Int32}
    (h1 : am_kd μ r0 = (1, 12))
    (h2 : ¬ am_F μ r0 16 = 15)
    (h3 : am_kd μ r0 = (1, 12))
    (h4 : (am_kd μ (am_F μ r0 16)).1 = 2)
    (h5 : ¬ ((am_A μ r0 15) < 0 ∨ (am_kd μ (am_F μ r0 16)).2 ≤ (am_A μ r0 15).toNatClampNeg))
    (h6 : am_kd (am_pA μ (am_F μ r0 16) (am_A μ r0 15).toNatClampNeg x1) r0 = (1, 12))
    (h7 : ¬ am_F (am_pA μ (am_F μ r0 16) (am_A μ r0 15).toNatClampNeg x1) r0 17 = 15)
    (h8 : am_kd (am_pA μ (am_F μ r0 16) (am_A μ r0 15).toNatClampNeg x1) r0 = (1, 12))
    (h9 : (am_kd (am_pA μ (am_F μ r0 16) (am_A μ r0 15).toNatClampNeg x1) (am_F (am_pA μ (am_F μ r0 16) (am_A μ r0 15).toNatClampNeg x1) r0 17)).1 = 2)
    (h10 : ¬ ((am_A (am_pA μ (am_F μ r0 16) (am_A μ r0 15).toNatClampNeg x1) r0 15) < 0 ∨ (am_kd (am_pA μ (am_F μ r0 16) (am_A μ r0 15).toNatClampNeg x1) (am_F (am_pA μ (am_F μ r0 16) (am_A μ r0 15).toNatClampNeg x1) r0 17)).2 ≤ (am_A (am_pA μ (am_F μ r0 16) (am_A μ r0 15).toNatClampNeg x1) r0 15).toNatClampNeg))
    (k : Wp d 176 (20, [some (.ref r0), some (.int x1), some (.int x2)], [], (am_pA (am_pA μ (am_F μ r0 16) (am_A μ r0 15).toNatClampNeg x1) (am_F (am_pA μ (am_F μ r0 16) (am_A μ r0 15).toNatClampNeg x1) r0 17) (am_A (am_pA μ (am_F μ r0 16) (am_A μ r0 15).toNatClampNeg x1) r0 15).toNatClampNeg x2)) Q) :
    Wp d 176 (0, [some (.ref r0), some (.int x1), some (.int x2)], [], μ) Q := wp_blk rfl e176_0 (And.intro h1 (And.intro h2 (And.intro h3 (And.intro h4 (And.intro h5 (And.intro h6 (And.intro h7 (And.intro h8 (And.intro h9 (And.intro h10 k))))))))))
def q176_20 : List (Nat × Instr × Nat) := [(20, .aload_n 0, 1), (21, .dup, 1), (22, .getfield 284, 3), (25, .iconst 1, 1), (26, .iadd, 1), (27, .putfield 284, 3), (30, .aload_n 0, 1), (31, .getfield 32, 3), (34, .aload_n 0, 1), (35, .getfield 287, 3), (38, .aload_n 0, 1), (39, .getfield 284, 3), (42, .iastore, 1)]
theorem e176_20 : am_dec am_M176 q176_20 = true := by decide +kernel
theorem b176_20 {d : Nat} {Q : Option Value ⊕ Nat → am_Mem → Prop} {μ : am_Mem} {r0 : Nat} {x1 x2 : Int32}
    (h1 : am_kd μ r0 = (1, 12))
    (h2 : am_kd μ r0 = (1, 12))
    (h3 : am_kd (am_pA μ r0 15 ((am_A μ r0 15) + (Int32.ofInt 1))) r0 = (1, 12))
    (h4 : ¬ am_F (am_pA μ r0 15 ((am_A μ r0 15) + (Int32.ofInt 1))) r0 14 = 15)
    (h5 : am_kd (am_pA μ r0 15 ((am_A μ r0 15) + (Int32.ofInt 1))) r0 = (1, 12))
    (h6 : am_kd (am_pA μ r0 15 ((am_A μ r0 15) + (Int32.ofInt 1))) r0 = (1, 12))
    (h7 : (am_kd (am_pA μ r0 15 ((am_A μ r0 15) + (Int32.ofInt 1))) (am_F (am_pA μ r0 15 ((am_A μ r0 15) + (Int32.ofInt 1))) r0 14)).1 = 2)
    (h8 : ¬ ((am_A (am_pA μ r0 15 ((am_A μ r0 15) + (Int32.ofInt 1))) r0 12) < 0 ∨ (am_kd (am_pA μ r0 15 ((am_A μ r0 15) + (Int32.ofInt 1))) (am_F (am_pA μ r0 15 ((am_A μ r0 15) + (Int32.ofInt 1))) r0 14)).2 ≤ (am_A (am_pA μ r0 15 ((am_A μ r0 15) + (Int32.ofInt 1))) r0 12).toNatClampNeg))
    (k : Wp d 176 (43, [some (.ref r0), some (.int x1), some (.int x2)], [], (am_pA (am_pA μ r0 15 ((am_A μ r0 15) + (Int32.ofInt 1))) (am_F (am_pA μ r0 15 ((am_A μ r0 15) + (Int32.ofInt 1))) r0 14) (am_A (am_pA μ r0 15 ((am_A μ r0 15) + (Int32.ofInt 1))) r0 12).toNatClampNeg (am_A (am_pA μ r0 15 ((am_A μ r0 15) + (Int32.ofInt 1))) r0 15))) Q) :
    Wp d 176 (20, [some (.ref r0), some (.int x1), some (.int x2)], [], μ) Q := wp_blk rfl e176_20 (And.intro h1 (And.intro h2 (And.intro ⟨rfl, rfl⟩ (And.intro h3 (And.intro h4 (And.intro h5 (And.intro h6 (And.intro h7 (And.intro h8 k)))))))))
theorem e176_43_r : am_dec am_M176 [(43, .return_, 1)] = true := by decide +kernel
theorem b176_43 {d : Nat} {Q : Option Value ⊕ Nat → am_Mem → Prop} {μ : am_Mem} {r0 : Nat} {x1 x2 : Int32}
    (k : Q (.inl none) μ) :
    Wp d 176 (43, [some (.ref r0), some (.int x1), some (.int x2)], [], μ) Q := (wp_rv rfl e176_43_r rfl k)
/-! RuleSheetsModel.isWord(I)Z -/
def q177_0 : List (Nat × Instr × Nat) := [(0, .aload_n 0, 1), (1, .getfield 247, 3), (4, .iconst 3, 1), (5, .if_icmp .ne 23, 3)]
theorem e177_0 : am_dec am_M177 q177_0 = true := by decide +kernel
theorem b177_0 {d : Nat} {Q : Option Value ⊕ Nat → am_Mem → Prop} {μ : am_Mem} {r0 : Nat} {x1 : Int32}
    (h1 : am_kd μ r0 = (1, 12))
    (k1 : ¬ (am_A μ r0 28) = (Int32.ofInt 3) → Wp d 177 (28, [some (.ref r0), some (.int x1)], [], μ) Q) (k2 : ¬ (¬ (am_A μ r0 28) = (Int32.ofInt 3)) → Wp d 177 (8, [some (.ref r0), some (.int x1)], [], μ) Q) :
    Wp d 177 (0, [some (.ref r0), some (.int x1)], [], μ) Q := wp_blk rfl e177_0 (And.intro h1 (And.intro k1 k2))
def q177_8 : List (Nat × Instr × Nat) := [(8, .aload_n 0, 1), (9, .aload_n 0, 1), (10, .getfield 244, 3), (13, .aload_n 0, 1), (14, .getfield 235, 3)]
theorem e177_8 : am_dec am_M177 q177_8 = true := by decide +kernel
theorem e177_8_c : am_dc1 am_M177 17 (.invokevirtual 264) 3 = true := by decide +kernel
theorem b177_8 {d : Nat} {Q : Option Value ⊕ Nat → am_Mem → Prop} {μ : am_Mem} {r0 : Nat} {x1 : Int32} {P : Int32 → am_Mem → Prop} {X : Nat → am_Mem → Prop}
    (h1 : am_kd μ r0 = (1, 12))
    (h2 : am_kd μ r0 = (1, 12))
    (hk : am_kd μ r0 = (1, 12))
    (hc : Wp d 165 (0, [some (.ref r0), some (.int (am_A μ r0 30)), some (.int (am_A μ r0 31)), none, none, none], [], μ) (pI P X)) (hr : ∀ x μ', P x μ' → Wp (d + 1) 177 (20, [some (.ref r0), some (.int x1)], [.int x], (μ')) Q)
    (hx : ∀ x μ', X x μ' → Q (.inr x) μ') :
    Wp (d + 1) 177 (8, [some (.ref r0), some (.int x1)], [], μ) Q := wp_blk rfl e177_8 (And.intro h1 (And.intro h2 (wp_cv (as := [.int (am_A μ r0 30), .int (am_A μ r0 31)]) rfl e177_8_c rfl rfl rfl rfl rfl hk hc (fun v μ' hv => by obtain ⟨x, rfl, hp⟩ := pI_r hv; exact hr x μ' hp) hx)))
def q177_20 : List (Nat × Instr × Nat) := [(20, .iload_n 1, 1), (21, .if_icmp .ne 7, 3)]
theorem e177_20 : am_dec am_M177 q177_20 = true := by decide +kernel
theorem b177_20 {d : Nat} {Q : Option Value ⊕ Nat → am_Mem → Prop} {μ : am_Mem} {r0 : Nat} {x1 s0 : Int32}
    (k1 : ¬ s0 = x1 → Wp d 177 (28, [some (.ref r0), some (.int x1)], [], μ) Q) (k2 : ¬ (¬ s0 = x1) → Wp d 177 (24, [some (.ref r0), some (.int x1)], [], μ) Q) :
    Wp d 177 (20, [some (.ref r0), some (.int x1)], [.int s0], μ) Q := wp_blk rfl e177_20 (And.intro k1 k2)
def q177_24 : List (Nat × Instr × Nat) := [(24, .iconst 1, 1), (25, .goto 4, 3)]
theorem e177_24 : am_dec am_M177 q177_24 = true := by decide +kernel
theorem b177_24 {d : Nat} {Q : Option Value ⊕ Nat → am_Mem → Prop} {μ : am_Mem} {r0 : Nat} {x1 : Int32}
    (k : Wp d 177 (29, [some (.ref r0), some (.int x1)], [.int (Int32.ofInt 1)], μ) Q) :
    Wp d 177 (24, [some (.ref r0), some (.int x1)], [], μ) Q := wp_blk rfl e177_24 k
def q177_28 : List (Nat × Instr × Nat) := [(28, .iconst 0, 1)]
theorem e177_28 : am_dec am_M177 q177_28 = true := by decide +kernel
theorem b177_28 {d : Nat} {Q : Option Value ⊕ Nat → am_Mem → Prop} {μ : am_Mem} {r0 : Nat} {x1 : Int32}
    (k : Wp d 177 (29, [some (.ref r0), some (.int x1)], [.int (Int32.ofInt 0)], μ) Q) :
    Wp d 177 (28, [some (.ref r0), some (.int x1)], [], μ) Q := wp_blk rfl e177_28 k
theorem e177_29_r : am_dec am_M177 [(29, .ireturn, 1)] = true := by decide +kernel
theorem b177_29 {d : Nat} {Q : Option Value ⊕ Nat → am_Mem → Prop} {μ : am_Mem} {r0 : Nat} {x1 s0 : Int32}
    (hn : narrow .boolean (.int s0) = .int s0 ∧ fits .boolean (.int s0) = true)
    (k : Q (.inl (some (.int s0))) μ) :
    Wp d 177 (29, [some (.ref r0), some (.int x1)], [.int s0], μ) Q := (wp_ri (ty := .boolean) rfl e177_29_r rfl hn k)
