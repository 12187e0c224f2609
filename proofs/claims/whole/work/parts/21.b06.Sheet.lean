/-! ===== printed: the blocks of Sheet ===== -/
/-! RuleSheets$Sheet.<init>()V -/
def q64_0 : List (Nat × Instr × Nat) := [(0, .aload_n 0, 1), (1, .invokespecial 3, 3), (4, .aload_n 0, 1), (5, .new 9, 3), (8, .dup, 1)]
theorem e64_0 : am_dec am_M64 q64_0 = true := by decide +kernel
theorem e64_0_c : am_dc1 am_M64 9 (.invokespecial 11) 3 = true := by decide +kernel
theorem b64_0 {d : Nat} {Q : Option Value ⊕ Nat → am_Mem → Prop} {μ : am_Mem} {r0 : Nat} {P : am_Mem → Prop}
    (hc : Wp d 47 (0, [some (.ref (am_n μ))], [], (am_nO μ 3 5)) (pV P noX)) (hr : ∀ μ', P μ' → Wp (d + 1) 64 (12, [some (.ref r0)], [.ref (am_n μ), .ref r0], (μ')) Q) :
    Wp (d + 1) 64 (0, [some (.ref r0)], [], μ) Q := wp_blk rfl e64_0 (wp_ci (as := []) rfl e64_0_c rfl rfl rfl rfl hc (fun v μ' hv => by obtain ⟨rfl, hp⟩ := pV_r hv; exact hr μ' hp) (fun _ _ h => h))
def q64_12 : List (Nat × Instr × Nat) := [(12, .putfield 12, 3), (15, .aload_n 0, 1), (16, .sipush 1024, 3), (19, .newarray .int, 2), (21, .putfield 18, 3)]
theorem e64_12 : am_dec am_M64 q64_12 = true := by decide +kernel
theorem b64_12 {d : Nat} {Q : Option Value ⊕ Nat → am_Mem → Prop} {μ : am_Mem} {r0 r90 r91 : Nat}
    (h1 : am_kd μ r90 = (1, 5))
    (h2 : ¬ r91 = 15)
    (h3 : am_kd (am_nA (am_pR μ r90 0 r91) 2 ((Int16.ofInt 1024).toInt32).toNatClampNeg) r0 = (1, 5))
    (h4 : ¬ (am_n (am_pR μ r90 0 r91)) = 15)
    (k : Wp d 64 (24, [some (.ref r0)], [], (am_pR (am_nA (am_pR μ r90 0 r91) 2 ((Int16.ofInt 1024).toInt32).toNatClampNeg) r0 1 (am_n (am_pR μ r90 0 r91)))) Q) :
    Wp d 64 (12, [some (.ref r0)], [.ref r91, .ref r90], μ) Q := wp_blk rfl e64_12 (And.intro h1 (And.intro h2 (And.intro (by decide) (And.intro h3 (And.intro h4 k)))))
def q64_24 : List (Nat × Instr × Nat) := [(24, .aload_n 0, 1), (25, .sipush 1024, 3), (28, .newarray .int, 2), (30, .putfield 22, 3)]
theorem e64_24 : am_dec am_M64 q64_24 = true := by decide +kernel
theorem b64_24 {d : Nat} {Q : Option Value ⊕ Nat → am_Mem → Prop} {μ : am_Mem} {r0 : Nat}
    (h1 : am_kd (am_nA μ 2 ((Int16.ofInt 1024).toInt32).toNatClampNeg) r0 = (1, 5))
    (h2 : ¬ (am_n μ) = 15)
    (k : Wp d 64 (33, [some (.ref r0)], [], (am_pR (am_nA μ 2 ((Int16.ofInt 1024).toInt32).toNatClampNeg) r0 2 (am_n μ))) Q) :
    Wp d 64 (24, [some (.ref r0)], [], μ) Q := wp_blk rfl e64_24 (And.intro (by decide) (And.intro h1 (And.intro h2 k)))
def q64_33 : List (Nat × Instr × Nat) := [(33, .aload_n 0, 1), (34, .sipush 4096, 3), (37, .newarray .int, 2), (39, .putfield 25, 3)]
theorem e64_33 : am_dec am_M64 q64_33 = true := by decide +kernel
theorem b64_33 {d : Nat} {Q : Option Value ⊕ Nat → am_Mem → Prop} {μ : am_Mem} {r0 : Nat}
    (h1 : am_kd (am_nA μ 2 ((Int16.ofInt 4096).toInt32).toNatClampNeg) r0 = (1, 5))
    (h2 : ¬ (am_n μ) = 15)
    (k : Wp d 64 (42, [some (.ref r0)], [], (am_pR (am_nA μ 2 ((Int16.ofInt 4096).toInt32).toNatClampNeg) r0 3 (am_n μ))) Q) :
    Wp d 64 (33, [some (.ref r0)], [], μ) Q := wp_blk rfl e64_33 (And.intro (by decide) (And.intro h1 (And.intro h2 k)))
def q64_42 : List (Nat × Instr × Nat) := [(42, .aload_n 0, 1), (43, .sipush 1024, 3), (46, .newarray .int, 2), (48, .putfield 28, 3)]
theorem e64_42 : am_dec am_M64 q64_42 = true := by decide +kernel
theorem b64_42 {d : Nat} {Q : Option Value ⊕ Nat → am_Mem → Prop} {μ : am_Mem} {r0 : Nat}
    (h1 : am_kd (am_nA μ 2 ((Int16.ofInt 1024).toInt32).toNatClampNeg) r0 = (1, 5))
    (h2 : ¬ (am_n μ) = 15)
    (k : Wp d 64 (51, [some (.ref r0)], [], (am_pR (am_nA μ 2 ((Int16.ofInt 1024).toInt32).toNatClampNeg) r0 4 (am_n μ))) Q) :
    Wp d 64 (42, [some (.ref r0)], [], μ) Q := wp_blk rfl e64_42 (And.intro (by decide) (And.intro h1 (And.intro h2 k)))
def q64_51 : List (Nat × Instr × Nat) := [(51, .aload_n 0, 1), (52, .sipush 1024, 3), (55, .newarray .int, 2), (57, .putfield 31, 3)]
theorem e64_51 : am_dec am_M64 q64_51 = true := by decide +kernel
theorem b64_51 {d : Nat} {Q : Option Value ⊕ Nat → am_Mem → Prop} {μ : am_Mem} {r0 : Nat}
    (h1 : am_kd (am_nA μ 2 ((Int16.ofInt 1024).toInt32).toNatClampNeg) r0 = (1, 5))
    (h2 : ¬ (am_n μ) = 15)
    (k : Wp d 64 (60, [some (.ref r0)], [], (am_pR (am_nA μ 2 ((Int16.ofInt 1024).toInt32).toNatClampNeg) r0 5 (am_n μ))) Q) :
    Wp d 64 (51, [some (.ref r0)], [], μ) Q := wp_blk rfl e64_51 (And.intro (by decide) (And.intro h1 (And.intro h2 k)))
def q64_60 : List (Nat × Instr × Nat) := [(60, .aload_n 0, 1), (61, .iconst 0, 1), (62, .putfield 34, 3), (65, .aload_n 0, 1), (66, .bipush 60, 2), (68, .newarray .int, 2), (70, .putfield 38, 3)]
theorem e64_60 : am_dec am_M64 q64_60 = true := by decide +kernel
theorem b64_60 {d : Nat} {Q : Option Value ⊕ Nat → am_Mem → Prop} {μ : am_Mem} {r0 : Nat}
    (h1 : am_kd μ r0 = (1, 5))
    (h2 : am_kd (am_nA (am_pA μ r0 6 (Int32.ofInt 0)) 2 ((Int8.ofInt 60).toInt32).toNatClampNeg) r0 = (1, 5))
    (h3 : ¬ (am_n (am_pA μ r0 6 (Int32.ofInt 0))) = 15)
    (k : Wp d 64 (73, [some (.ref r0)], [], (am_pR (am_nA (am_pA μ r0 6 (Int32.ofInt 0)) 2 ((Int8.ofInt 60).toInt32).toNatClampNeg) r0 7 (am_n (am_pA μ r0 6 (Int32.ofInt 0))))) Q) :
    Wp d 64 (60, [some (.ref r0)], [], μ) Q := wp_blk rfl e64_60 (And.intro h1 (And.intro ⟨rfl, rfl⟩ (And.intro (by decide) (And.intro h2 (And.intro h3 k)))))
def q64_73 : List (Nat × Instr × Nat) := [(73, .aload_n 0, 1), (74, .sipush 480, 3), (77, .newarray .int, 2), (79, .putfield 41, 3)]
theorem e64_73 : am_dec am_M64 q64_73 = true := by decide +kernel
theorem b64_73 {d : Nat} {Q : Option Value ⊕ Nat → am_Mem → Prop} {μ : am_Mem} {r0 : Nat}
    (h1 : am_kd (am_nA μ 2 ((Int16.ofInt 480).toInt32).toNatClampNeg) r0 = (1, 5))
    (h2 : ¬ (am_n μ) = 15)
    (k : Wp d 64 (82, [some (.ref r0)], [], (am_pR (am_nA μ 2 ((Int16.ofInt 480).toInt32).toNatClampNeg) r0 8 (am_n μ))) Q) :
    Wp d 64 (73, [some (.ref r0)], [], μ) Q := wp_blk rfl e64_73 (And.intro (by decide) (And.intro h1 (And.intro h2 k)))
def q64_82 : List (Nat × Instr × Nat) := [(82, .aload_n 0, 1), (83, .bipush 60, 2), (85, .newarray .int, 2), (87, .putfield 44, 3)]
theorem e64_82 : am_dec am_M64 q64_82 = true := by decide +kernel
theorem b64_82 {d : Nat} {Q : Option Value ⊕ Nat → am_Mem → Prop} {μ : am_Mem} {r0 : Nat}
    (h1 : am_kd (am_nA μ 2 ((Int8.ofInt 60).toInt32).toNatClampNeg) r0 = (1, 5))
    (h2 : ¬ (am_n μ) = 15)
    (k : Wp d 64 (90, [some (.ref r0)], [], (am_pR (am_nA μ 2 ((Int8.ofInt 60).toInt32).toNatClampNeg) r0 9 (am_n μ))) Q) :
    Wp d 64 (82, [some (.ref r0)], [], μ) Q := wp_blk rfl e64_82 (And.intro (by decide) (And.intro h1 (And.intro h2 k)))
def q64_90 : List (Nat × Instr × Nat) := [(90, .aload_n 0, 1), (91, .sipush 480, 3), (94, .newarray .int, 2), (96, .putfield 47, 3)]
theorem e64_90 : am_dec am_M64 q64_90 = true := by decide +kernel
theorem b64_90 {d : Nat} {Q : Option Value ⊕ Nat → am_Mem → Prop} {μ : am_Mem} {r0 : Nat}
    (h1 : am_kd (am_nA μ 2 ((Int16.ofInt 480).toInt32).toNatClampNeg) r0 = (1, 5))
    (h2 : ¬ (am_n μ) = 15)
    (k : Wp d 64 (99, [some (.ref r0)], [], (am_pR (am_nA μ 2 ((Int16.ofInt 480).toInt32).toNatClampNeg) r0 10 (am_n μ))) Q) :
    Wp d 64 (90, [some (.ref r0)], [], μ) Q := wp_blk rfl e64_90 (And.intro (by decide) (And.intro h1 (And.intro h2 k)))
def q64_99 : List (Nat × Instr × Nat) := [(99, .aload_n 0, 1), (100, .sipush 480, 3), (103, .newarray .int, 2), (105, .putfield 50, 3)]
theorem e64_99 : am_dec am_M64 q64_99 = true := by decide +kernel
theorem b64_99 {d : Nat} {Q : Option Value ⊕ Nat → am_Mem → Prop} {μ : am_Mem} {r0 : Nat}
    (h1 : am_kd (am_nA μ 2 ((Int16.ofInt 480).toInt32).toNatClampNeg) r0 = (1, 5))
    (h2 : ¬ (am_n μ) = 15)
    (k : Wp d 64 (108, [some (.ref r0)], [], (am_pR (am_nA μ 2 ((Int16.ofInt 480).toInt32).toNatClampNeg) r0 11 (am_n μ))) Q) :
    Wp d 64 (99, [some (.ref r0)], [], μ) Q := wp_blk rfl e64_99 (And.intro (by decide) (And.intro h1 (And.intro h2 k)))
def q64_108 : List (Nat × Instr × Nat) := [(108, .aload_n 0, 1), (109, .bipush 60, 2), (111, .newarray .int, 2), (113, .putfield 53, 3)]
theorem e64_108 : am_dec am_M64 q64_108 = true := by decide +kernel
theorem b64_108 {d : Nat} {Q : Option Value ⊕ Nat → am_Mem → Prop} {μ : am_Mem} {r0 : Nat}
    (h1 : am_kd (am_nA μ 2 ((Int8.ofInt 60).toInt32).toNatClampNeg) r0 = (1, 5))
    (h2 : ¬ (am_n μ) = 15)
    (k : Wp d 64 (116, [some (.ref r0)], [], (am_pR (am_nA μ 2 ((Int8.ofInt 60).toInt32).toNatClampNeg) r0 12 (am_n μ))) Q) :
    Wp d 64 (108, [some (.ref r0)], [], μ) Q := wp_blk rfl e64_108 (And.intro (by decide) (And.intro h1 (And.intro h2 k)))
def q64_116 : List (Nat × Instr × Nat) := [(116, .aload_n 0, 1), (117, .iconst 0, 1), (118, .putfield 56, 3), (121, .aload_n 0, 1), (122, .bipush 60, 2), (124, .newarray .int, 2), (126, .putfield 59, 3)]
theorem e64_116 : am_dec am_M64 q64_116 = true := by decide +kernel
theorem b64_116 {d : Nat} {Q : Option Value ⊕ Nat → am_Mem → Prop} {μ : am_Mem} {r0 : Nat}
    (h1 : am_kd μ r0 = (1, 5))
    (h2 : am_kd (am_nA (am_pA μ r0 13 (Int32.ofInt 0)) 2 ((Int8.ofInt 60).toInt32).toNatClampNeg) r0 = (1, 5))
    (h3 : ¬ (am_n (am_pA μ r0 13 (Int32.ofInt 0))) = 15)
    (k : Wp d 64 (129, [some (.ref r0)], [], (am_pR (am_nA (am_pA μ r0 13 (Int32.ofInt 0)) 2 ((Int8.ofInt 60).toInt32).toNatClampNeg) r0 14 (am_n (am_pA μ r0 13 (Int32.ofInt 0))))) Q) :
    Wp d 64 (116, [some (.ref r0)], [], μ) Q := wp_blk rfl e64_116 (And.intro h1 (And.intro ⟨rfl, rfl⟩ (And.intro (by decide) (And.intro h2 (And.intro h3 k)))))
def q64_129 : List (Nat × Instr × Nat) := [(129, .aload_n 0, 1), (130, .bipush 61, 2), (132, .newarray .int, 2), (134, .putfield 62, 3)]
theorem e64_129 : am_dec am_M64 q64_129 = true := by decide +kernel
theorem b64_129 {d : Nat} {Q : Option Value ⊕ Nat → am_Mem → Prop} {μ : am_Mem} {r0 : Nat}
    (h1 : am_kd (am_nA μ 2 ((Int8.ofInt 61).toInt32).toNatClampNeg) r0 = (1, 5))
    (h2 : ¬ (am_n μ) = 15)
    (k : Wp d 64 (137, [some (.ref r0)], [], (am_pR (am_nA μ 2 ((Int8.ofInt 61).toInt32).toNatClampNeg) r0 15 (am_n μ))) Q) :
    Wp d 64 (129, [some (.ref r0)], [], μ) Q := wp_blk rfl e64_129 (And.intro (by decide) (And.intro h1 (And.intro h2 k)))
def q64_137 : List (Nat × Instr × Nat) := [(137, .aload_n 0, 1), (138, .bipush 60, 2), (140, .newarray .int, 2), (142, .putfield 65, 3)]
theorem e64_137 : am_dec am_M64 q64_137 = true := by decide +kernel
theorem b64_137 {d : Nat} {Q : Option Value ⊕ Nat → am_Mem → Prop} {μ : am_Mem} {r0 : Nat}
    (h1 : am_kd (am_nA μ 2 ((Int8.ofInt 60).toInt32).toNatClampNeg) r0 = (1, 5))
    (h2 : ¬ (am_n μ) = 15)
    (k : Wp d 64 (145, [some (.ref r0)], [], (am_pR (am_nA μ 2 ((Int8.ofInt 60).toInt32).toNatClampNeg) r0 16 (am_n μ))) Q) :
    Wp d 64 (137, [some (.ref r0)], [], μ) Q := wp_blk rfl e64_137 (And.intro (by decide) (And.intro h1 (And.intro h2 k)))
def q64_145 : List (Nat × Instr × Nat) := [(145, .aload_n 0, 1), (146, .iconst 0, 1), (147, .putfield 68, 3), (150, .aload_n 0, 1), (151, .iconst 0, 1), (152, .putfield 71, 3)]
theorem e64_145 : am_dec am_M64 q64_145 = true := by decide +kernel
theorem e64_145_r : am_dec am_M64 [(155, .return_, 1)] = true := by decide +kernel
theorem b64_145 {d : Nat} {Q : Option Value ⊕ Nat → am_Mem → Prop} {μ : am_Mem} {r0 : Nat}
    (h1 : am_kd μ r0 = (1, 5))
    (h2 : am_kd (am_pA μ r0 17 (Int32.ofInt 0)) r0 = (1, 5))
    (k : Q (.inl none) (am_pA (am_pA μ r0 17 (Int32.ofInt 0)) r0 18 (Int32.ofInt 0))) :
    Wp d 64 (145, [some (.ref r0)], [], μ) Q := wp_blk rfl e64_145 (And.intro h1 (And.intro ⟨rfl, rfl⟩ (And.intro h2 (And.intro ⟨rfl, rfl⟩ (wp_rv rfl e64_145_r rfl k)))))
/-! RuleSheets$Sheet.clear()V -/
def q65_0 : List (Nat × Instr × Nat) := [(0, .aload_n 0, 1), (1, .getfield 12, 3)]
theorem e65_0 : am_dec am_M65 q65_0 = true := by decide +kernel
theorem e65_0_c : am_dc1 am_M65 4 (.invokevirtual 74) 3 = true := by decide +kernel
theorem b65_0 {d : Nat} {Q : Option Value ⊕ Nat → am_Mem → Prop} {μ : am_Mem} {r0 : Nat} {P : am_Mem → Prop} {X : Nat → am_Mem → Prop}
    (h1 : am_kd μ r0 = (1, 5))
    (h2 : ¬ am_F μ r0 0 = 15)
    (hk : am_kd μ (am_F μ r0 0) = (1, 3))
    (hc : Wp d 48 (0, [some (.ref (am_F μ r0 0)), none, none], [], μ) (pV P X)) (hr : ∀ μ', P μ' → Wp (d + 1) 65 (7, [some (.ref r0)], [], (μ')) Q)
    (hx : ∀ x μ', X x μ' → Q (.inr x) μ') :
    Wp (d + 1) 65 (0, [some (.ref r0)], [], μ) Q := wp_blk rfl e65_0 (And.intro h1 (And.intro h2 (wp_cv (as := []) rfl e65_0_c rfl rfl rfl rfl rfl hk hc (fun v μ' hv => by obtain ⟨rfl, hp⟩ := pV_r hv; exact hr μ' hp) hx)))
def q65_7 : List (Nat × Instr × Nat) := [(7, .aload_n 0, 1), (8, .iconst 0, 1), (9, .putfield 34, 3), (12, .aload_n 0, 1), (13, .iconst 0, 1), (14, .putfield 56, 3)]
theorem e65_7 : am_dec am_M65 q65_7 = true := by decide +kernel
theorem e65_7_r : am_dec am_M65 [(17, .return_, 1)] = true := by decide +kernel
theorem b65_7 {d : Nat} {Q : Option Value ⊕ Nat → am_Mem → Prop} {μ : am_Mem} {r0 : Nat}
    (h1 : am_kd μ r0 = (1, 5))
    (h2 : am_kd (am_pA μ r0 6 (Int32.ofInt 0)) r0 = (1, 5))
    (k : Q (.inl none) (am_pA (am_pA μ r0 6 (Int32.ofInt 0)) r0 13 (Int32.ofInt 0))) :
    Wp d 65 (7, [some (.ref r0)], [], μ) Q := wp_blk rfl e65_7 (And.intro h1 (And.intro ⟨rfl, rfl⟩ (And.intro h2 (And.intro ⟨rfl, rfl⟩ (wp_rv rfl e65_7_r rfl k)))))
/-! RuleSheets$Sheet.addNode(II[II)I -/
def q66_0 : List (Nat × Instr × Nat) := [(0, .aload_n 0, 1), (1, .getfield 34, 3), (4, .istore 5, 2), (6, .aload_n 0, 1), (7, .getfield 18, 3), (10, .iload 5, 2), (12, .iload_n 1, 1), (13, .iastore, 1), (14, .aload_n 0, 1), (15, .getfield 22, 3), (18, .iload 5, 2), (20, .iload_n 2, 1), (21, .iastore, 1)]
theorem e66_0 : am_dec am_M66 q66_0 = true := by decide +kernel
theorem b66_0 {d : Nat} {Q : Option Value ⊕ Nat → am_Mem → Prop} {μ : am_Mem} {r0 r3 : Nat} {x1 x2 x4 : Int32}
    (h1 : am_kd μ r0 = (1, 5))
    (h2 : am_kd μ r0 = (1, 5))
    (h3 : ¬ am_F μ r0 1 = 15)
    (h4 : (am_kd μ (am_F μ r0 1)).1 = 2)
    (h5 : ¬ ((am_A μ r0 6) < 0 ∨ (am_kd μ (am_F μ r0 1)).2 ≤ (am_A μ r0 6).toNatClampNeg))
    (h6 : am_kd (am_pA μ (am_F μ r0 1) (am_A μ r0 6).toNatClampNeg x1) r0 = (1, 5))
    (h7 : ¬ am_F (am_pA μ (am_F μ r0 1) (am_A μ r0 6).toNatClampNeg x1) r0 2 = 15)
    (h8 : (am_kd (am_pA μ (am_F μ r0 1) (am_A μ r0 6).toNatClampNeg x1) (am_F (am_pA μ (am_F μ r0 1) (am_A μ r0 6).toNatClampNeg x1) r0 2)).1 = 2)
    (h9 : ¬ ((am_A μ r0 6) < 0 ∨ (am_kd (am_pA μ (am_F μ r0 1) (am_A μ r0 6).toNatClampNeg x1) (am_F (am_pA μ (am_F μ r0 1) (am_A μ r0 6).toNatClampNeg x1) r0 2)).2 ≤ (am_A μ r0 6).toNatClampNeg))
    (k : Wp d 66 (22, [some (.ref r0), some (.int x1), some (.int x2), some (.ref r3), some (.int x4), some (.int (am_A μ r0 6)), none], [], (am_pA (am_pA μ (am_F μ r0 1) (am_A μ r0 6).toNatClampNeg x1) (am_F (am_pA μ (am_F μ r0 1) (am_A μ r0 6).toNatClampNeg x1) r0 2) (am_A μ r0 6).toNatClampNeg x2)) Q) :
    Wp d 66 (0, [some (.ref r0), some (.int x1), some (.int x2), some (.ref r3), some (.int x4), none, none], [], μ) Q := wp_blk rfl e66_0 (And.intro h1 (And.intro h2 (And.intro h3 (And.intro h4 (And.intro h5 (And.intro h6 (And.intro h7 (And.intro h8 (And.intro h9 k)))))))))
def q66_22 : List (Nat × Instr × Nat) := [(22, .aload_n 0, 1), (23, .getfield 28, 3), (26, .iload 5, 2), (28, .iload_n 2, 1), (29, .ifCond .ne 8, 3)]
theorem e66_22 : am_dec am_M66 q66_22 = true := by decide +kernel
theorem b66_22 {d : Nat} {Q : Option Value ⊕ Nat → am_Mem → Prop} {μ : am_Mem} {r0 r3 : Nat} {x1 x2 x4 x5 : Int32}
    (h1 : am_kd μ r0 = (1, 5))
    (h2 : ¬ am_F μ r0 4 = 15)
    (k1 : ¬ x2 = 0 → Wp d 66 (37, [some (.ref r0), some (.int x1), some (.int x2), some (.ref r3), some (.int x4), some (.int x5), none], [.int x5, .ref (am_F μ r0 4)], μ) Q) (k2 : ¬ (¬ x2 = 0) → Wp d 66 (32, [some (.ref r0), some (.int x1), some (.int x2), some (.ref r3), some (.int x4), some (.int x5), none], [.int x5, .ref (am_F μ r0 4)], μ) Q) :
    Wp d 66 (22, [some (.ref r0), some (.int x1), some (.int x2), some (.ref r3), some (.int x4), some (.int x5), none], [], μ) Q := wp_blk rfl e66_22 (And.intro h1 (And.intro h2 (And.intro k1 k2)))
def q66_32 : List (Nat × Instr × Nat) := [(32, .iload 5, 2), (34, .goto 12, 3)]
theorem e66_32 : am_dec am_M66 q66_32 = true := by decide +kernel
theorem b66_32 {d : Nat} {Q : Option Value ⊕ Nat → am_Mem → Prop} {μ : am_Mem} {r0 r3 r90 : Nat} {x1 x2 x4 x5 s1 : Int32}
    (k : Wp d 66 (46, [some (.ref r0), some (.int x1), some (.int x2), some (.ref r3), some (.int x4), some (.int x5), none], [.int x5, .int s1, .ref r90], μ) Q) :
    Wp d 66 (32, [some (.ref r0), some (.int x1), some (.int x2), some (.ref r3), some (.int x4), some (.int x5), none], [.int s1, .ref r90], μ) Q := wp_blk rfl e66_32 k
def q66_37 : List (Nat × Instr × Nat) := [(37, .aload_n 0, 1), (38, .getfield 28, 3), (41, .aload_n 3, 1), (42, .iload 4, 2), (44, .iaload, 1), (45, .iaload, 1)]
theorem e66_37 : am_dec am_M66 q66_37 = true := by decide +kernel
theorem b66_37 {d : Nat} {Q : Option Value ⊕ Nat → am_Mem → Prop} {μ : am_Mem} {r0 r3 r90 : Nat} {x1 x2 x4 x5 s1 : Int32}
    (h1 : am_kd μ r0 = (1, 5))
    (h2 : ¬ am_F μ r0 4 = 15)
    (h3 : (am_kd μ r3).1 = 2 ∨ (am_kd μ r3).1 = 8)
    (h4 : ¬ (x4 < 0 ∨ (am_kd μ r3).2 ≤ x4.toNatClampNeg))
    (h5 : (am_kd μ (am_F μ r0 4)).1 = 2 ∨ (am_kd μ (am_F μ r0 4)).1 = 8)
    (h6 : ¬ ((am_A μ r3 x4.toNatClampNeg) < 0 ∨ (am_kd μ (am_F μ r0 4)).2 ≤ (am_A μ r3 x4.toNatClampNeg).toNatClampNeg))
    (k : Wp d 66 (46, [some (.ref r0), some (.int x1), some (.int x2), some (.ref r3), some (.int x4), some (.int x5), none], [.int (am_A μ (am_F μ r0 4) (am_A μ r3 x4.toNatClampNeg).toNatClampNeg), .int s1, .ref r90], μ) Q) :
    Wp d 66 (37, [some (.ref r0), some (.int x1), some (.int x2), some (.ref r3), some (.int x4), some (.int x5), none], [.int s1, .ref r90], μ) Q := wp_blk rfl e66_37 (And.intro h1 (And.intro h2 (And.intro h3 (And.intro h4 (And.intro h5 (And.intro h6 k))))))
def q66_46 : List (Nat × Instr × Nat) := [(46, .iastore, 1), (47, .aload_n 0, 1), (48, .getfield 31, 3), (51, .iload 5, 2), (53, .iload_n 1, 1), (54, .ifCond .ge 11, 3)]
theorem e66_46 : am_dec am_M66 q66_46 = true := by decide +kernel
theorem b66_46 {d : Nat} {Q : Option Value ⊕ Nat → am_Mem → Prop} {μ : am_Mem} {r0 r3 r90 : Nat} {x1 x2 x4 x5 s1 s2 : Int32}
    (h1 : (am_kd μ r90).1 = 2)
    (h2 : ¬ (s1 < 0 ∨ (am_kd μ r90).2 ≤ s1.toNatClampNeg))
    (h3 : am_kd (am_pA μ r90 s1.toNatClampNeg s2) r0 = (1, 5))
    (h4 : ¬ am_F (am_pA μ r90 s1.toNatClampNeg s2) r0 5 = 15)
    (k1 : 0 ≤ x1 → Wp d 66 (65, [some (.ref r0), some (.int x1), some (.int x2), some (.ref r3), some (.int x4), some (.int x5), none], [.int x5, .ref (am_F (am_pA μ r90 s1.toNatClampNeg s2) r0 5)], (am_pA μ r90 s1.toNatClampNeg s2)) Q) (k2 : ¬ (0 ≤ x1) → Wp d 66 (57, [some (.ref r0), some (.int x1), some (.int x2), some (.ref r3), some (.int x4), some (.int x5), none], [.int x5, .ref (am_F (am_pA μ r90 s1.toNatClampNeg s2) r0 5)], (am_pA μ r90 s1.toNatClampNeg s2)) Q) :
    Wp d 66 (46, [some (.ref r0), some (.int x1), some (.int x2), some (.ref r3), some (.int x4), some (.int x5), none], [.int s2, .int s1, .ref r90], μ) Q := wp_blk rfl e66_46 (And.intro h1 (And.intro h2 (And.intro h3 (And.intro h4 (And.intro k1 k2)))))
def q66_57 : List (Nat × Instr × Nat) := [(57, .iconst 1, 1), (58, .iconst (-1), 1), (59, .iload_n 1, 1), (60, .isub, 1), (61, .ishl, 1), (62, .goto 4, 3)]
theorem e66_57 : am_dec am_M66 q66_57 = true := by decide +kernel
theorem b66_57 {d : Nat} {Q : Option Value ⊕ Nat → am_Mem → Prop} {μ : am_Mem} {r0 r3 r90 : Nat} {x1 x2 x4 x5 s1 : Int32}
    (k : Wp d 66 (66, [some (.ref r0), some (.int x1), some (.int x2), some (.ref r3), some (.int x4), some (.int x5), none], [.int ((Int32.ofInt 1) <<< (((Int32.ofInt (-1)) - x1) &&& 31)), .int s1, .ref r90], μ) Q) :
    Wp d 66 (57, [some (.ref r0), some (.int x1), some (.int x2), some (.ref r3), some (.int x4), some (.int x5), none], [.int s1, .ref r90], μ) Q := wp_blk rfl e66_57 k
def q66_65 : List (Nat × Instr × Nat) := [(65, .iconst 0, 1)]
theorem e66_65 : am_dec am_M66 q66_65 = true := by decide +kernel
theorem b66_65 {d : Nat} {Q : Option Value ⊕ Nat → am_Mem → Prop} {μ : am_Mem} {r0 r3 r90 : Nat} {x1 x2 x4 x5 s1 : Int32}
    (k : Wp d 66 (66, [some (.ref r0), some (.int x1), some (.int x2), some (.ref r3), some (.int x4), some (.int x5), none], [.int (Int32.ofInt 0), .int s1, .ref r90], μ) Q) :
    Wp d 66 (65, [some (.ref r0), some (.int x1), some (.int x2), some (.ref r3), some (.int x4), some (.int x5), none], [.int s1, .ref r90], μ) Q := wp_blk rfl e66_65 k
def q66_66 : List (Nat × Instr × Nat) := [(66, .iastore, 1), (67, .iconst 0, 1), (68, .istore 6, 2)]
theorem e66_66 : am_dec am_M66 q66_66 = true := by decide +kernel
theorem b66_66 {d : Nat} {Q : Option Value ⊕ Nat → am_Mem → Prop} {μ : am_Mem} {r0 r3 r90 : Nat} {x1 x2 x4 x5 s1 s2 : Int32}
    (h1 : (am_kd μ r90).1 = 2)
    (h2 : ¬ (s1 < 0 ∨ (am_kd μ r90).2 ≤ s1.toNatClampNeg))
    (k : Wp d 66 (70, [some (.ref r0), some (.int x1), some (.int x2), some (.ref r3), some (.int x4), some (.int x5), some (.int (Int32.ofInt 0))], [], (am_pA μ r90 s1.toNatClampNeg s2)) Q) :
    Wp d 66 (66, [some (.ref r0), some (.int x1), some (.int x2), some (.ref r3), some (.int x4), some (.int x5), none], [.int s2, .int s1, .ref r90], μ) Q := wp_blk rfl e66_66 (And.intro h1 (And.intro h2 k))
def q66_70 : List (Nat × Instr × Nat) := [(70, .iload 6, 2), (72, .iload_n 2, 1), (73, .if_icmp .ge 50, 3)]
theorem e66_70 : am_dec am_M66 q66_70 = true := by decide +kernel
theorem b66_70 {d : Nat} {Q : Option Value ⊕ Nat → am_Mem → Prop} {μ : am_Mem} {r0 r3 : Nat} {x1 x2 x4 x5 x6 : Int32}
    (k1 : x2 ≤ x6 → Wp d 66 (123, [some (.ref r0), some (.int x1), some (.int x2), some (.ref r3), some (.int x4), some (.int x5), some (.int x6)], [], μ) Q) (k2 : ¬ (x2 ≤ x6) → Wp d 66 (76, [some (.ref r0), some (.int x1), some (.int x2), some (.ref r3), some (.int x4), some (.int x5), some (.int x6)], [], μ) Q) :
    Wp d 66 (70, [some (.ref r0), some (.int x1), some (.int x2), some (.ref r3), some (.int x4), some (.int x5), some (.int x6)], [], μ) Q := wp_blk rfl e66_70 (And.intro k1 k2)
def q66_76 : List (Nat × Instr × Nat) := [(76, .aload_n 0, 1), (77, .getfield 25, 3), (80, .iconst 4, 1), (81, .iload 5, 2), (83, .imul, 1), (84, .iload 6, 2), (86, .iadd, 1), (87, .aload_n 3, 1), (88, .iload 4, 2), (90, .iload 6, 2), (92, .iadd, 1), (93, .iaload, 1), (94, .iastore, 1), (95, .aload_n 0, 1), (96, .getfield 31, 3), (99, .iload 5, 2), (101, .dup2, 1), (102, .iaload, 1), (103, .aload_n 0, 1), (104, .getfield 31, 3), (107, .aload_n 3, 1), (108, .iload 4, 2), (110, .iload 6, 2), (112, .iadd, 1), (113, .iaload, 1)]
theorem e66_76 : am_dec am_M66 q66_76 = true := by decide +kernel
theorem b66_76 {d : Nat} {Q : Option Value ⊕ Nat → am_Mem → Prop} {μ : am_Mem} {r0 r3 : Nat} {x1 x2 x4 x5 x6 : Int32}
    (h1 : am_kd μ r0 = (1, 5))
    (h2 : ¬ am_F μ r0 3 = 15)
    (h3 : (am_kd μ r3).1 = 2 ∨ (am_kd μ r3).1 = 8)
    (h4 : ¬ ((x4 + x6) < 0 ∨ (am_kd μ r3).2 ≤ (x4 + x6).toNatClampNeg))
    (h5 : (am_kd μ (am_F μ r0 3)).1 = 2)
    (h6 : ¬ ((((Int32.ofInt 4) * x5) + x6) < 0 ∨ (am_kd μ (am_F μ r0 3)).2 ≤ (((Int32.ofInt 4) * x5) + x6).toNatClampNeg))
    (h7 : am_kd (am_pA μ (am_F μ r0 3) (((Int32.ofInt 4) * x5) + x6).toNatClampNeg (am_A μ r3 (x4 + x6).toNatClampNeg)) r0 = (1, 5))
    (h8 : ¬ am_F (am_pA μ (am_F μ r0 3) (((Int32.ofInt 4) * x5) + x6).toNatClampNeg (am_A μ r3 (x4 + x6).toNatClampNeg)) r0 5 = 15)
    (h9 : (am_kd (am_pA μ (am_F μ r0 3) (((Int32.ofInt 4) * x5) + x6).toNatClampNeg (am_A μ r3 (x4 + x6).toNatClampNeg)) (am_F (am_pA μ (am_F μ r0 3) (((Int32.ofInt 4) * x5) + x6).toNatClampNeg (am_A μ r3 (x4 + x6).toNatClampNeg)) r0 5)).1 = 2 ∨ (am_kd (am_pA μ (am_F μ r0 3) (((Int32.ofInt 4) * x5) + x6).toNatClampNeg (am_A μ r3 (x4 + x6).toNatClampNeg)) (am_F (am_pA μ (am_F μ r0 3) (((Int32.ofInt 4) * x5) + x6).toNatClampNeg (am_A μ r3 (x4 + x6).toNatClampNeg)) r0 5)).1 = 8)
    (h10 : ¬ (x5 < 0 ∨ (am_kd (am_pA μ (am_F μ r0 3) (((Int32.ofInt 4) * x5) + x6).toNatClampNeg (am_A μ r3 (x4 + x6).toNatClampNeg)) (am_F (am_pA μ (am_F μ r0 3) (((Int32.ofInt 4) * x5) + x6).toNatClampNeg (am_A μ r3 (x4 + x6).toNatClampNeg)) r0 5)).2 ≤ x5.toNatClampNeg))
    (h11 : am_kd (am_pA μ (am_F μ r0 3) (((Int32.ofInt 4) * x5) + x6).toNatClampNeg (am_A μ r3 (x4 + x6).toNatClampNeg)) r0 = (1, 5))
    (h12 : ¬ am_F (am_pA μ (am_F μ r0 3) (((Int32.ofInt 4) * x5) + x6).toNatClampNeg (am_A μ r3 (x4 + x6).toNatClampNeg)) r0 5 = 15)
    (h13 : (am_kd (am_pA μ (am_F μ r0 3) (((Int32.ofInt 4) * x5) + x6).toNatClampNeg (am_A μ r3 (x4 + x6).toNatClampNeg)) r3).1 = 2 ∨ (am_kd (am_pA μ (am_F μ r0 3) (((Int32.ofInt 4) * x5) + x6).toNatClampNeg (am_A μ r3 (x4 + x6).toNatClampNeg)) r3).1 = 8)
    (h14 : ¬ ((x4 + x6) < 0 ∨ (am_kd (am_pA μ (am_F μ r0 3) (((Int32.ofInt 4) * x5) + x6).toNatClampNeg (am_A μ r3 (x4 + x6).toNatClampNeg)) r3).2 ≤ (x4 + x6).toNatClampNeg))
    (k : Wp d 66 (114, [some (.ref r0), some (.int x1), some (.int x2), some (.ref r3), some (.int x4), some (.int x5), some (.int x6)], [.int (am_A (am_pA μ (am_F μ r0 3) (((Int32.ofInt 4) * x5) + x6).toNatClampNeg (am_A μ r3 (x4 + x6).toNatClampNeg)) r3 (x4 + x6).toNatClampNeg), .ref (am_F (am_pA μ (am_F μ r0 3) (((Int32.ofInt 4) * x5) + x6).toNatClampNeg (am_A μ r3 (x4 + x6).toNatClampNeg)) r0 5), .int (am_A (am_pA μ (am_F μ r0 3) (((Int32.ofInt 4) * x5) + x6).toNatClampNeg (am_A μ r3 (x4 + x6).toNatClampNeg)) (am_F (am_pA μ (am_F μ r0 3) (((Int32.ofInt 4) * x5) + x6).toNatClampNeg (am_A μ r3 (x4 + x6).toNatClampNeg)) r0 5) x5.toNatClampNeg), .int x5, .ref (am_F (am_pA μ (am_F μ r0 3) (((Int32.ofInt 4) * x5) + x6).toNatClampNeg (am_A μ r3 (x4 + x6).toNatClampNeg)) r0 5)], (am_pA μ (am_F μ r0 3) (((Int32.ofInt 4) * x5) + x6).toNatClampNeg (am_A μ r3 (x4 + x6).toNatClampNeg))) Q) :
    Wp d 66 (76, [some (.ref r0), some (.int x1), some (.int x2), some (.ref r3), some (.int x4), some (.int x5), some (.int x6)], [], μ) Q := wp_blk rfl e66_76 (And.intro h1 (And.intro h2 (And.intro h3 (And.intro h4 (And.intro h5 (And.intro h6 (And.intro h7 (And.intro h8 (And.intro h9 (And.intro h10 (And.intro h11 (And.intro h12 (And.intro h13 (And.intro h14 k))))))))))))))
def q66_114 : List (Nat × Instr × Nat) := [(114, .iaload, 1), (115, .ior, 1), (116, .iastore, 1), (117, .iinc 6 1, 3), (120, .goto (-50), 3)]
theorem e66_114 : am_dec am_M66 q66_114 = true := by decide +kernel
theorem b66_114 {d : Nat} {Q : Option Value ⊕ Nat → am_Mem → Prop} {μ : am_Mem} {r0 r3 r90 r93 : Nat} {x1 x2 x4 x5 x6 s1 s2 s4 : Int32}
    (h1 : (am_kd μ r93).1 = 2 ∨ (am_kd μ r93).1 = 8)
    (h2 : ¬ (s4 < 0 ∨ (am_kd μ r93).2 ≤ s4.toNatClampNeg))
    (h3 : (am_kd μ r90).1 = 2)
    (h4 : ¬ (s1 < 0 ∨ (am_kd μ r90).2 ≤ s1.toNatClampNeg))
    (k : Wp d 66 (70, [some (.ref r0), some (.int x1), some (.int x2), some (.ref r3), some (.int x4), some (.int x5), some (.int (x6 + Int32.ofInt 1))], [], (am_pA μ r90 s1.toNatClampNeg (s2 ||| (am_A μ r93 s4.toNatClampNeg)))) Q) :
    Wp d 66 (114, [some (.ref r0), some (.int x1), some (.int x2), some (.ref r3), some (.int x4), some (.int x5), some (.int x6)], [.int s4, .ref r93, .int s2, .int s1, .ref r90], μ) Q := wp_blk rfl e66_114 (And.intro h1 (And.intro h2 (And.intro h3 (And.intro h4 k))))
def q66_123 : List (Nat × Instr × Nat) := [(123, .aload_n 0, 1), (124, .dup, 1), (125, .getfield 34, 3), (128, .iconst 1, 1), (129, .iadd, 1), (130, .putfield 34, 3), (133, .iload 5, 2)]
theorem e66_123 : am_dec am_M66 q66_123 = true := by decide +kernel
theorem e66_123_r : am_dec am_M66 [(135, .ireturn, 1)] = true := by decide +kernel
theorem b66_123 {d : Nat} {Q : Option Value ⊕ Nat → am_Mem → Prop} {μ : am_Mem} {r0 r3 : Nat} {x1 x2 x4 x5 x6 : Int32}
    (h1 : am_kd μ r0 = (1, 5))
    (h2 : am_kd μ r0 = (1, 5))
    (k : Q (.inl (some (.int x5))) (am_pA μ r0 6 ((am_A μ r0 6) + (Int32.ofInt 1)))) :
    Wp d 66 (123, [some (.ref r0), some (.int x1), some (.int x2), some (.ref r3), some (.int x4), some (.int x5), some (.int x6)], [], μ) Q := wp_blk rfl e66_123 (And.intro h1 (And.intro h2 (And.intro ⟨rfl, rfl⟩ (wp_ri (ty := .int) rfl e66_123_r rfl ⟨rfl, rfl⟩ k))))
/-! RuleSheets$Sheet.addOther(II)V -/
def q67_0 : List (Nat × Instr × Nat) := [(0, .aload_n 0, 1), (1, .getfield 50, 3), (4, .bipush 8, 2), (6, .iload_n 1, 1), (7, .imul, 1), (8, .aload_n 0, 1), (9, .getfield 53, 3), (12, .iload_n 1, 1), (13, .iaload, 1), (14, .iadd, 1), (15, .iload_n 2, 1), (16, .iastore, 1), (17, .aload_n 0, 1), (18, .getfield 53, 3), (21, .iload_n 1, 1), (22, .dup2, 1), (23, .iaload, 1), (24, .iconst 1, 1), (25, .iadd, 1), (26, .iastore, 1)]
theorem e67_0 : am_dec am_M67 q67_0 = true := by decide +kernel
theorem b67_0 {d : Nat} {Q : Option Value ⊕ Nat → am_Mem → Prop} {μ : am_Mem} {r0 : Nat} {x1 x2 : Int32}
    (h1 : am_kd μ r0 = (1, 5))
    (h2 : ¬ am_F μ r0 11 = 15)
    (h3 : am_kd μ r0 = (1, 5))
    (h4 : ¬ am_F μ r0 12 = 15)
    (h5 : (am_kd μ (am_F μ r0 12)).1 = 2 ∨ (am_kd μ (am_F μ r0 12)).1 = 8)
    (h6 : ¬ (x1 < 0 ∨ (am_kd μ (am_F μ r0 12)).2 ≤ x1.toNatClampNeg))
    (h7 : (am_kd μ (am_F μ r0 11)).1 = 2)
    (h8 : ¬ (((((Int8.ofInt 8).toInt32) * x1) + (am_A μ (am_F μ r0 12) x1.toNatClampNeg)) < 0 ∨ (am_kd μ (am_F μ r0 11)).2 ≤ ((((Int8.ofInt 8).toInt32) * x1) + (am_A μ (am_F μ r0 12) x1.toNatClampNeg)).toNatClampNeg))
    (h9 : am_kd (am_pA μ (am_F μ r0 11) ((((Int8.ofInt 8).toInt32) * x1) + (am_A μ (am_F μ r0 12) x1.toNatClampNeg)).toNatClampNeg x2) r0 = (1, 5))
    (h10 : ¬ am_F (am_pA μ (am_F μ r0 11) ((((Int8.ofInt 8).toInt32) * x1) + (am_A μ (am_F μ r0 12) x1.toNatClampNeg)).toNatClampNeg x2) r0 12 = 15)
    (h11 : (am_kd (am_pA μ (am_F μ r0 11) ((((Int8.ofInt 8).toInt32) * x1) + (am_A μ (am_F μ r0 12) x1.toNatClampNeg)).toNatClampNeg x2) (am_F (am_pA μ (am_F μ r0 11) ((((Int8.ofInt 8).toInt32) * x1) + (am_A μ (am_F μ r0 12) x1.toNatClampNeg)).toNatClampNeg x2) r0 12)).1 = 2 ∨ (am_kd (am_pA μ (am_F μ r0 11) ((((Int8.ofInt 8).toInt32) * x1) + (am_A μ (am_F μ r0 12) x1.toNatClampNeg)).toNatClampNeg x2) (am_F (am_pA μ (am_F μ r0 11) ((((Int8.ofInt 8).toInt32) * x1) + (am_A μ (am_F μ r0 12) x1.toNatClampNeg)).toNatClampNeg x2) r0 12)).1 = 8)
    (h12 : ¬ (x1 < 0 ∨ (am_kd (am_pA μ (am_F μ r0 11) ((((Int8.ofInt 8).toInt32) * x1) + (am_A μ (am_F μ r0 12) x1.toNatClampNeg)).toNatClampNeg x2) (am_F (am_pA μ (am_F μ r0 11) ((((Int8.ofInt 8).toInt32) * x1) + (am_A μ (am_F μ r0 12) x1.toNatClampNeg)).toNatClampNeg x2) r0 12)).2 ≤ x1.toNatClampNeg))
    (h13 : (am_kd (am_pA μ (am_F μ r0 11) ((((Int8.ofInt 8).toInt32) * x1) + (am_A μ (am_F μ r0 12) x1.toNatClampNeg)).toNatClampNeg x2) (am_F (am_pA μ (am_F μ r0 11) ((((Int8.ofInt 8).toInt32) * x1) + (am_A μ (am_F μ r0 12) x1.toNatClampNeg)).toNatClampNeg x2) r0 12)).1 = 2)
    (h14 : ¬ (x1 < 0 ∨ (am_kd (am_pA μ (am_F μ r0 11) ((((Int8.ofInt 8).toInt32) * x1) + (am_A μ (am_F μ r0 12) x1.toNatClampNeg)).toNatClampNeg x2) (am_F (am_pA μ (am_F μ r0 11) ((((Int8.ofInt 8).toInt32) * x1) + (am_A μ (am_F μ r0 12) x1.toNatClampNeg)).toNatClampNeg x2) r0 12)).2 ≤ x1.toNatClampNeg))
    (k : Wp d 67 (27, [some (.ref r0), some (.int x1), some (.int x2)], [], (am_pA (am_pA μ (am_F μ r0 11) ((((Int8.ofInt 8).toInt32) * x1) + (am_A μ (am_F μ r0 12) x1.toNatClampNeg)).toNatClampNeg x2) (am_F (am_pA μ (am_F μ r0 11) ((((Int8.ofInt 8).toInt32) * x1) + (am_A μ (am_F μ r0 12) x1.toNatClampNeg)).toNatClampNeg x2) r0 12) x1.toNatClampNeg ((am_A (am_pA μ (am_F μ r0 11) ((((Int8.ofInt 8).toInt32) * x1) + (am_A μ (am_F μ r0 12) x1.toNatClampNeg)).toNatClampNeg x2) (am_F (am_pA μ (am_F μ r0 11) ((((Int8.ofInt 8).toInt32) * x1) + (am_A μ (am_F μ r0 12) x1.toNatClampNeg)).toNatClampNeg x2) r0 12) x1.toNatClampNeg) + (Int32.ofInt 1)))) Q) :
    Wp d 67 (0, [some (.ref r0), some (.int x1), some (.int x2)], [], μ) Q := wp_blk rfl e67_0 (And.intro h1 (And.intro h2 (And.intro h3 (And.intro h4 (And.intro h5 (And.intro h6 (And.intro h7 (And.intro h8 (And.intro h9 (And.intro h10 (And.intro h11 (And.intro h12 (And.intro h13 (And.intro h14 k))))))))))))))
theorem e67_27_r : am_dec am_M67 [(27, .return_, 1)] = true := by decide +kernel
theorem b67_27 {d : Nat} {Q : Option Value ⊕ Nat → am_Mem → Prop} {μ : am_Mem} {r0 : Nat} {x1 x2 : Int32}
    (k : Q (.inl none) μ) :
    Wp d 67 (27, [some (.ref r0), some (.int x1), some (.int x2)], [], μ) Q := (wp_rv rfl e67_27_r rfl k)
/-! RuleSheets$Sheet.addPositive(II)V -/
def q68_0 : List (Nat × Instr × Nat) := [(0, .aload_n 0, 1), (1, .getfield 41, 3), (4, .bipush 8, 2), (6, .iload_n 1, 1), (7, .imul, 1), (8, .aload_n 0, 1), (9, .getfield 44, 3), (12, .iload_n 1, 1), (13, .iaload, 1), (14, .iadd, 1), (15, .iload_n 2, 1), (16, .iastore, 1), (17, .aload_n 0, 1), (18, .getfield 44, 3), (21, .iload_n 1, 1), (22, .dup2, 1), (23, .iaload, 1), (24, .iconst 1, 1), (25, .iadd, 1), (26, .iastore, 1)]
theorem e68_0 : am_dec am_M68 q68_0 = true := by decide +kernel
theorem b68_0 {d : Nat} {Q : Option Value ⊕ Nat → am_Mem → Prop} {μ : am_Mem} {r0 : Nat} {x1 x2 : Int32}
    (h1 : am_kd μ r0 = (1, 5))
    (h2 : ¬ am_F μ r0 8 = 15)
    (h3 : am_kd μ r0 = (1, 5))
    (h4 : ¬ am_F μ r0 9 = 15)
    (h5 : (am_kd μ (am_F μ r0 9)).1 = 2 ∨ (am_kd μ (am_F μ r0 9)).1 = 8)
    (h6 : ¬ (x1 < 0 ∨ (am_kd μ (am_F μ r0 9)).2 ≤ x1.toNatClampNeg))
    (h7 : (am_kd μ (am_F μ r0 8)).1 = 2)
    (h8 : ¬ (((((Int8.ofInt 8).toInt32) * x1) + (am_A μ (am_F μ r0 9) x1.toNatClampNeg)) < 0 ∨ (am_kd μ (am_F μ r0 8)).2 ≤ ((((Int8.ofInt 8).toInt32) * x1) + (am_A μ (am_F μ r0 9) x1.toNatClampNeg)).toNatClampNeg))
    (h9 : am_kd (am_pA μ (am_F μ r0 8) ((((Int8.ofInt 8).toInt32) * x1) + (am_A μ (am_F μ r0 9) x1.toNatClampNeg)).toNatClampNeg x2) r0 = (1, 5))
    (h10 : ¬ am_F (am_pA μ (am_F μ r0 8) ((((Int8.ofInt 8).toInt32) * x1) + (am_A μ (am_F μ r0 9) x1.toNatClampNeg)).toNatClampNeg x2) r0 9 = 15)
    (h11 : (am_kd (am_pA μ (am_F μ r0 8) ((((Int8.ofInt 8).toInt32) * x1) + (am_A μ (am_F μ r0 9) x1.toNatClampNeg)).toNatClampNeg x2) (am_F (am_pA μ (am_F μ r0 8) ((((Int8.ofInt 8).toInt32) * x1) + (am_A μ (am_F μ r0 9) x1.toNatClampNeg)).toNatClampNeg x2) r0 9)).1 = 2 ∨ (am_kd (am_pA μ (am_F μ r0 8) ((((Int8.ofInt 8).toInt32) * x1) + (am_A μ (am_F μ r0 9) x1.toNatClampNeg)).toNatClampNeg x2) (am_F (am_pA μ (am_F μ r0 8) ((((Int8.ofInt 8).toInt32) * x1) + (am_A μ (am_F μ r0 9) x1.toNatClampNeg)).toNatClampNeg x2) r0 9)).1 = 8)
    (h12 : ¬ (x1 < 0 ∨ (am_kd (am_pA μ (am_F μ r0 8) ((((Int8.ofInt 8).toInt32) * x1) + (am_A μ (am_F μ r0 9) x1.toNatClampNeg)).toNatClampNeg x2) (am_F (am_pA μ (am_F μ r0 8) ((((Int8.ofInt 8).toInt32) * x1) + (am_A μ (am_F μ r0 9) x1.toNatClampNeg)).toNatClampNeg x2) r0 9)).2 ≤ x1.toNatClampNeg))
    (h13 : (am_kd (am_pA μ (am_F μ r0 8) ((((Int8.ofInt 8).toInt32) * x1) + (am_A μ (am_F μ r0 9) x1.toNatClampNeg)).toNatClampNeg x2) (am_F (am_pA μ (am_F μ r0 8) ((((Int8.ofInt 8).toInt32) * x1) + (am_A μ (am_F μ r0 9) x1.toNatClampNeg)).toNatClampNeg x2) r0 9)).1 = 2)
    (h14 : ¬ (x1 < 0 ∨ (am_kd (am_pA μ (am_F μ r0 8) ((((Int8.ofInt 8).toInt32) * x1) + (am_A μ (am_F μ r0 9) x1.toNatClampNeg)).toNatClampNeg x2) (am_F (am_pA μ (am_F μ r0 8) ((((Int8.ofInt 8).toInt32) * x1) + (am_A μ (am_F μ r0 9) x1.toNatClampNeg)).toNatClampNeg x2) r0 9)).2 ≤ x1.toNatClampNeg))
    (k : Wp d 68 (27, [some (.ref r0), some (.int x1), some (.int x2)], [], (am_pA (am_pA μ (am_F μ r0 8) ((((Int8.ofInt 8).toInt32) * x1) + (am_A μ (am_F μ r0 9) x1.toNatClampNeg)).toNatClampNeg x2) (am_F (am_pA μ (am_F μ r0 8) ((((Int8.ofInt 8).toInt32) * x1) + (am_A μ (am_F μ r0 9) x1.toNatClampNeg)).toNatClampNeg x2) r0 9) x1.toNatClampNeg ((am_A (am_pA μ (am_F μ r0 8) ((((Int8.ofInt 8).toInt32) * x1) + (am_A μ (am_F μ r0 9) x1.toNatClampNeg)).toNatClampNeg x2) (am_F (am_pA μ (am_F μ r0 8) ((((Int8.ofInt 8).toInt32) * x1) + (am_A μ (am_F μ r0 9) x1.toNatClampNeg)).toNatClampNeg x2) r0 9) x1.toNatClampNeg) + (Int32.ofInt 1)))) Q) :
    Wp d 68 (0, [some (.ref r0), some (.int x1), some (.int x2)], [], μ) Q := wp_blk rfl e68_0 (And.intro h1 (And.intro h2 (And.intro h3 (And.intro h4 (And.intro h5 (And.intro h6 (And.intro h7 (And.intro h8 (And.intro h9 (And.intro h10 (And.intro h11 (And.intro h12 (And.intro h13 (And.intro h14 k))))))))))))))
theorem e68_27_r : am_dec am_M68 [(27, .return_, 1)] = true := by decide +kernel
theorem b68_27 {d : Nat} {Q : Option Value ⊕ Nat → am_Mem → Prop} {μ : am_Mem} {r0 : Nat} {x1 x2 : Int32}
    (k : Q (.inl none) μ) :
    Wp d 68 (27, [some (.ref r0), some (.int x1), some (.int x2)], [], μ) Q := (wp_rv rfl e68_27_r rfl k)
/-! RuleSheets$Sheet.positiveOf(II)I -/
def q69_0 : List (Nat × Instr × Nat) := [(0, .aload_n 0, 1), (1, .getfield 41, 3), (4, .bipush 8, 2), (6, .iload_n 1, 1), (7, .imul, 1), (8, .iload_n 2, 1), (9, .iadd, 1), (10, .iaload, 1)]
theorem e69_0 : am_dec am_M69 q69_0 = true := by decide +kernel
theorem e69_0_r : am_dec am_M69 [(11, .ireturn, 1)] = true := by decide +kernel
theorem b69_0 {d : Nat} {Q : Option Value ⊕ Nat → am_Mem → Prop} {μ : am_Mem} {r0 : Nat} {x1 x2 : Int32}
    (h1 : am_kd μ r0 = (1, 5))
    (h2 : ¬ am_F μ r0 8 = 15)
    (h3 : (am_kd μ (am_F μ r0 8)).1 = 2 ∨ (am_kd μ (am_F μ r0 8)).1 = 8)
    (h4 : ¬ (((((Int8.ofInt 8).toInt32) * x1) + x2) < 0 ∨ (am_kd μ (am_F μ r0 8)).2 ≤ ((((Int8.ofInt 8).toInt32) * x1) + x2).toNatClampNeg))
    (k : Q (.inl (some (.int (am_A μ (am_F μ r0 8) ((((Int8.ofInt 8).toInt32) * x1) + x2).toNatClampNeg)))) μ) :
    Wp d 69 (0, [some (.ref r0), some (.int x1), some (.int x2)], [], μ) Q := wp_blk rfl e69_0 (And.intro h1 (And.intro h2 (And.intro h3 (And.intro h4 (wp_ri (ty := .int) rfl e69_0_r rfl ⟨rfl, rfl⟩ k)))))
/-! RuleSheets$Sheet.otherOf(II)I -/
def q70_0 : List (Nat × Instr × Nat) := [(0, .aload_n 0, 1), (1, .getfield 50, 3), (4, .bipush 8, 2), (6, .iload_n 1, 1), (7, .imul, 1), (8, .iload_n 2, 1), (9, .iadd, 1), (10, .iaload, 1)]
theorem e70_0 : am_dec am_M70 q70_0 = true := by decide +kernel
theorem e70_0_r : am_dec am_M70 [(11, .ireturn, 1)] = true := by decide +kernel
theorem b70_0 {d : Nat} {Q : Option Value ⊕ Nat → am_Mem → Prop} {μ : am_Mem} {r0 : Nat} {x1 x2 : Int32}
    (h1 : am_kd μ r0 = (1, 5))
    (h2 : ¬ am_F μ r0 11 = 15)
    (h3 : (am_kd μ (am_F μ r0 11)).1 = 2 ∨ (am_kd μ (am_F μ r0 11)).1 = 8)
    (h4 : ¬ (((((Int8.ofInt 8).toInt32) * x1) + x2) < 0 ∨ (am_kd μ (am_F μ r0 11)).2 ≤ ((((Int8.ofInt 8).toInt32) * x1) + x2).toNatClampNeg))
    (k : Q (.inl (some (.int (am_A μ (am_F μ r0 11) ((((Int8.ofInt 8).toInt32) * x1) + x2).toNatClampNeg)))) μ) :
    Wp d 70 (0, [some (.ref r0), some (.int x1), some (.int x2)], [], μ) Q := wp_blk rfl e70_0 (And.intro h1 (And.intro h2 (And.intro h3 (And.intro h4 (wp_ri (ty := .int) rfl e70_0_r rfl ⟨rfl, rfl⟩ k)))))
/-! RuleSheets$Sheet.alike(II)Z -/
def q71_0 : List (Nat × Instr × Nat) := [(0, .iload_n 1, 1), (1, .aload_n 0, 1), (2, .getfield 28, 3), (5, .iload_n 1, 1), (6, .iaload, 1), (7, .isub, 1), (8, .iload_n 2, 1), (9, .aload_n 0, 1), (10, .getfield 28, 3), (13, .iload_n 2, 1), (14, .iaload, 1), (15, .isub, 1), (16, .if_icmp .eq 5, 3)]
theorem e71_0 : am_dec am_M71 q71_0 = true := by decide +kernel
theorem b71_0 {d : Nat} {Q : Option Value ⊕ Nat → am_Mem → Prop} {μ : am_Mem} {r0 : Nat} {x1 x2 : Int32}
    (h1 : am_kd μ r0 = (1, 5))
    (h2 : ¬ am_F μ r0 4 = 15)
    (h3 : (am_kd μ (am_F μ r0 4)).1 = 2 ∨ (am_kd μ (am_F μ r0 4)).1 = 8)
    (h4 : ¬ (x1 < 0 ∨ (am_kd μ (am_F μ r0 4)).2 ≤ x1.toNatClampNeg))
    (h5 : am_kd μ r0 = (1, 5))
    (h6 : ¬ am_F μ r0 4 = 15)
    (h7 : (am_kd μ (am_F μ r0 4)).1 = 2 ∨ (am_kd μ (am_F μ r0 4)).1 = 8)
    (h8 : ¬ (x2 < 0 ∨ (am_kd μ (am_F μ r0 4)).2 ≤ x2.toNatClampNeg))
    (k1 : (x1 - (am_A μ (am_F μ r0 4) x1.toNatClampNeg)) = (x2 - (am_A μ (am_F μ r0 4) x2.toNatClampNeg)) → Wp d 71 (21, [some (.ref r0), some (.int x1), some (.int x2), none, none, none], [], μ) Q) (k2 : ¬ ((x1 - (am_A μ (am_F μ r0 4) x1.toNatClampNeg)) = (x2 - (am_A μ (am_F μ r0 4) x2.toNatClampNeg))) → Wp d 71 (19, [some (.ref r0), some (.int x1), some (.int x2), none, none, none], [], μ) Q) :
    Wp d 71 (0, [some (.ref r0), some (.int x1), some (.int x2), none, none, none], [], μ) Q := wp_blk rfl e71_0 (And.intro h1 (And.intro h2 (And.intro h3 (And.intro h4 (And.intro h5 (And.intro h6 (And.intro h7 (And.intro h8 (And.intro k1 k2)))))))))
def q71_19 : List (Nat × Instr × Nat) := [(19, .iconst 0, 1)]
theorem e71_19 : am_dec am_M71 q71_19 = true := by decide +kernel
theorem e71_19_r : am_dec am_M71 [(20, .ireturn, 1)] = true := by decide +kernel
theorem b71_19 {d : Nat} {Q : Option Value ⊕ Nat → am_Mem → Prop} {μ : am_Mem} {r0 : Nat} {x1 x2 : Int32}
    (k : Q (.inl (some (.int (Int32.ofInt 0)))) μ) :
    Wp d 71 (19, [some (.ref r0), some (.int x1), some (.int x2), none, none, none], [], μ) Q := wp_blk rfl e71_19 (wp_ri (ty := .boolean) rfl e71_19_r rfl (by decide) k)
def q71_21 : List (Nat × Instr × Nat) := [(21, .iconst 0, 1), (22, .istore_n 3, 1)]
theorem e71_21 : am_dec am_M71 q71_21 = true := by decide +kernel
theorem b71_21 {d : Nat} {Q : Option Value ⊕ Nat → am_Mem → Prop} {μ : am_Mem} {r0 : Nat} {x1 x2 : Int32}
    (k : Wp d 71 (23, [some (.ref r0), some (.int x1), some (.int x2), some (.int (Int32.ofInt 0)), none, none], [], μ) Q) :
    Wp d 71 (21, [some (.ref r0), some (.int x1), some (.int x2), none, none, none], [], μ) Q := wp_blk rfl e71_21 k
def q71_23 : List (Nat × Instr × Nat) := [(23, .iload_n 3, 1), (24, .iload_n 1, 1), (25, .aload_n 0, 1), (26, .getfield 28, 3), (29, .iload_n 1, 1), (30, .iaload, 1), (31, .isub, 1), (32, .if_icmp .gt 65, 3)]
theorem e71_23 : am_dec am_M71 q71_23 = true := by decide +kernel
theorem b71_23 {d : Nat} {Q : Option Value ⊕ Nat → am_Mem → Prop} {μ : am_Mem} {r0 : Nat} {x1 x2 x3 : Int32} {o4 o5 : Option Value}
    (h1 : am_kd μ r0 = (1, 5))
    (h2 : ¬ am_F μ r0 4 = 15)
    (h3 : (am_kd μ (am_F μ r0 4)).1 = 2 ∨ (am_kd μ (am_F μ r0 4)).1 = 8)
    (h4 : ¬ (x1 < 0 ∨ (am_kd μ (am_F μ r0 4)).2 ≤ x1.toNatClampNeg))
    (k1 : (x1 - (am_A μ (am_F μ r0 4) x1.toNatClampNeg)) < x3 → Wp d 71 (97, [some (.ref r0), some (.int x1), some (.int x2), some (.int x3), o4, o5], [], μ) Q) (k2 : ¬ ((x1 - (am_A μ (am_F μ r0 4) x1.toNatClampNeg)) < x3) → Wp d 71 (35, [some (.ref r0), some (.int x1), some (.int x2), some (.int x3), o4, o5], [], μ) Q) :
    Wp d 71 (23, [some (.ref r0), some (.int x1), some (.int x2), some (.int x3), o4, o5], [], μ) Q := wp_blk rfl e71_23 (And.intro h1 (And.intro h2 (And.intro h3 (And.intro h4 (And.intro k1 k2)))))
def q71_35 : List (Nat × Instr × Nat) := [(35, .aload_n 0, 1), (36, .getfield 28, 3), (39, .iload_n 1, 1), (40, .iaload, 1), (41, .iload_n 3, 1), (42, .iadd, 1), (43, .istore 4, 2), (45, .aload_n 0, 1), (46, .getfield 28, 3), (49, .iload_n 2, 1), (50, .iaload, 1), (51, .iload_n 3, 1), (52, .iadd, 1), (53, .istore 5, 2), (55, .aload_n 0, 1), (56, .getfield 18, 3), (59, .iload 4, 2), (61, .iaload, 1), (62, .aload_n 0, 1), (63, .getfield 18, 3), (66, .iload 5, 2), (68, .iaload, 1), (69, .if_icmp .ne 20, 3)]
theorem e71_35 : am_dec am_M71 q71_35 = true := by decide +kernel
theorem b71_35 {d : Nat} {Q : Option Value ⊕ Nat → am_Mem → Prop} {μ : am_Mem} {r0 : Nat} {x1 x2 x3 : Int32} {o4 o5 : Option Value}
    (h1 : am_kd μ r0 = (1, 5))
    (h2 : ¬ am_F μ r0 4 = 15)
    (h3 : (am_kd μ (am_F μ r0 4)).1 = 2 ∨ (am_kd μ (am_F μ r0 4)).1 = 8)
    (h4 : ¬ (x1 < 0 ∨ (am_kd μ (am_F μ r0 4)).2 ≤ x1.toNatClampNeg))
    (h5 : am_kd μ r0 = (1, 5))
    (h6 : ¬ am_F μ r0 4 = 15)
    (h7 : (am_kd μ (am_F μ r0 4)).1 = 2 ∨ (am_kd μ (am_F μ r0 4)).1 = 8)
    (h8 : ¬ (x2 < 0 ∨ (am_kd μ (am_F μ r0 4)).2 ≤ x2.toNatClampNeg))
    (h9 : am_kd μ r0 = (1, 5))
    (h10 : ¬ am_F μ r0 1 = 15)
    (h11 : (am_kd μ (am_F μ r0 1)).1 = 2 ∨ (am_kd μ (am_F μ r0 1)).1 = 8)
    (h12 : ¬ (((am_A μ (am_F μ r0 4) x1.toNatClampNeg) + x3) < 0 ∨ (am_kd μ (am_F μ r0 1)).2 ≤ ((am_A μ (am_F μ r0 4) x1.toNatClampNeg) + x3).toNatClampNeg))
    (h13 : am_kd μ r0 = (1, 5))
    (h14 : ¬ am_F μ r0 1 = 15)
    (h15 : (am_kd μ (am_F μ r0 1)).1 = 2 ∨ (am_kd μ (am_F μ r0 1)).1 = 8)
    (h16 : ¬ (((am_A μ (am_F μ r0 4) x2.toNatClampNeg) + x3) < 0 ∨ (am_kd μ (am_F μ r0 1)).2 ≤ ((am_A μ (am_F μ r0 4) x2.toNatClampNeg) + x3).toNatClampNeg))
    (k1 : ¬ (am_A μ (am_F μ r0 1) ((am_A μ (am_F μ r0 4) x1.toNatClampNeg) + x3).toNatClampNeg) = (am_A μ (am_F μ r0 1) ((am_A μ (am_F μ r0 4) x2.toNatClampNeg) + x3).toNatClampNeg) → Wp d 71 (89, [some (.ref r0), some (.int x1), some (.int x2), some (.int x3), some (.int ((am_A μ (am_F μ r0 4) x1.toNatClampNeg) + x3)), some (.int ((am_A μ (am_F μ r0 4) x2.toNatClampNeg) + x3))], [], μ) Q) (k2 : ¬ (¬ (am_A μ (am_F μ r0 1) ((am_A μ (am_F μ r0 4) x1.toNatClampNeg) + x3).toNatClampNeg) = (am_A μ (am_F μ r0 1) ((am_A μ (am_F μ r0 4) x2.toNatClampNeg) + x3).toNatClampNeg)) → Wp d 71 (72, [some (.ref r0), some (.int x1), some (.int x2), some (.int x3), some (.int ((am_A μ (am_F μ r0 4) x1.toNatClampNeg) + x3)), some (.int ((am_A μ (am_F μ r0 4) x2.toNatClampNeg) + x3))], [], μ) Q) :
    Wp d 71 (35, [some (.ref r0), some (.int x1), some (.int x2), some (.int x3), o4, o5], [], μ) Q := wp_blk rfl e71_35 (And.intro h1 (And.intro h2 (And.intro h3 (And.intro h4 (And.intro h5 (And.intro h6 (And.intro h7 (And.intro h8 (And.intro h9 (And.intro h10 (And.intro h11 (And.intro h12 (And.intro h13 (And.intro h14 (And.intro h15 (And.intro h16 (And.intro k1 k2)))))))))))))))))
def q71_72 : List (Nat × Instr × Nat) := [(72, .aload_n 0, 1), (73, .getfield 22, 3), (76, .iload 4, 2), (78, .iaload, 1), (79, .aload_n 0, 1), (80, .getfield 22, 3), (83, .iload 5, 2), (85, .iaload, 1), (86, .if_icmp .eq 5, 3)]
theorem e71_72 : am_dec am_M71 q71_72 = true := by decide +kernel
theorem b71_72 {d : Nat} {Q : Option Value ⊕ Nat → am_Mem → Prop} {μ : am_Mem} {r0 : Nat} {x1 x2 x3 x4 x5 : Int32}
    (h1 : am_kd μ r0 = (1, 5))
    (h2 : ¬ am_F μ r0 2 = 15)
    (h3 : (am_kd μ (am_F μ r0 2)).1 = 2 ∨ (am_kd μ (am_F μ r0 2)).1 = 8)
    (h4 : ¬ (x4 < 0 ∨ (am_kd μ (am_F μ r0 2)).2 ≤ x4.toNatClampNeg))
    (h5 : am_kd μ r0 = (1, 5))
    (h6 : ¬ am_F μ r0 2 = 15)
    (h7 : (am_kd μ (am_F μ r0 2)).1 = 2 ∨ (am_kd μ (am_F μ r0 2)).1 = 8)
    (h8 : ¬ (x5 < 0 ∨ (am_kd μ (am_F μ r0 2)).2 ≤ x5.toNatClampNeg))
    (k1 : (am_A μ (am_F μ r0 2) x4.toNatClampNeg) = (am_A μ (am_F μ r0 2) x5.toNatClampNeg) → Wp d 71 (91, [some (.ref r0), some (.int x1), some (.int x2), some (.int x3), some (.int x4), some (.int x5)], [], μ) Q) (k2 : ¬ ((am_A μ (am_F μ r0 2) x4.toNatClampNeg) = (am_A μ (am_F μ r0 2) x5.toNatClampNeg)) → Wp d 71 (89, [some (.ref r0), some (.int x1), some (.int x2), some (.int x3), some (.int x4), some (.int x5)], [], μ) Q) :
    Wp d 71 (72, [some (.ref r0), some (.int x1), some (.int x2), some (.int x3), some (.int x4), some (.int x5)], [], μ) Q := wp_blk rfl e71_72 (And.intro h1 (And.intro h2 (And.intro h3 (And.intro h4 (And.intro h5 (And.intro h6 (And.intro h7 (And.intro h8 (And.intro k1 k2)))))))))
def q71_89 : List (Nat × Instr × Nat) := [(89, .iconst 0, 1)]
theorem e71_89 : am_dec am_M71 q71_89 = true := by decide +kernel
theorem e71_89_r : am_dec am_M71 [(90, .ireturn, 1)] = true := by decide +kernel
theorem b71_89 {d : Nat} {Q : Option Value ⊕ Nat → am_Mem → Prop} {μ : am_Mem} {r0 : Nat} {x1 x2 x3 x4 x5 : Int32}
    (k : Q (.inl (some (.int (Int32.ofInt 0)))) μ) :
    Wp d 71 (89, [some (.ref r0), some (.int x1), some (.int x2), some (.int x3), some (.int x4), some (.int x5)], [], μ) Q := wp_blk rfl e71_89 (wp_ri (ty := .boolean) rfl e71_89_r rfl (by decide) k)
def q71_91 : List (Nat × Instr × Nat) := [(91, .iinc 3 1, 3), (94, .goto (-71), 3)]
theorem e71_91 : am_dec am_M71 q71_91 = true := by decide +kernel
theorem b71_91 {d : Nat} {Q : Option Value ⊕ Nat → am_Mem → Prop} {μ : am_Mem} {r0 : Nat} {x1 x2 x3 x4 x5 : Int32}
    (k : Wp d 71 (23, [some (.ref r0), some (.int x1), some (.int x2), some (.int (x3 + Int32.ofInt 1)), some (.int x4), some (.int x5)], [], μ) Q) :
    Wp d 71 (91, [some (.ref r0), some (.int x1), some (.int x2), some (.int x3), some (.int x4), some (.int x5)], [], μ) Q := wp_blk rfl e71_91 k
def q71_97 : List (Nat × Instr × Nat) := [(97, .iconst 1, 1)]
theorem e71_97 : am_dec am_M71 q71_97 = true := by decide +kernel
theorem e71_97_r : am_dec am_M71 [(98, .ireturn, 1)] = true := by decide +kernel
theorem b71_97 {d : Nat} {Q : Option Value ⊕ Nat → am_Mem → Prop} {μ : am_Mem} {r0 : Nat} {x1 x2 x3 : Int32} {o4 o5 : Option Value}
    (k : Q (.inl (some (.int (Int32.ofInt 1)))) μ) :
    Wp d 71 (97, [some (.ref r0), some (.int x1), some (.int x2), some (.int x3), o4, o5], [], μ) Q := wp_blk rfl e71_97 (wp_ri (ty := .boolean) rfl e71_97_r rfl (by decide) k)
