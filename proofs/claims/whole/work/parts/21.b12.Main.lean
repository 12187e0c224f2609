/-! ===== printed: the blocks of Main ===== -/
/-! RuleSheets.<init>()V -/
def q118_0 : List (Nat × Instr × Nat) := [(0, .aload_n 0, 1), (1, .invokespecial 1, 3), (4, .aload_n 0, 1), (5, .sipush 2000, 3), (8, .newarray .char, 2), (10, .putfield 9, 3)]
theorem e118_0 : am_dec am_M118 q118_0 = true := by decide +kernel
theorem b118_0 {d : Nat} {Q : Option Value ⊕ Nat → am_Mem → Prop} {μ : am_Mem} {r0 : Nat}
    (h1 : am_kd (am_nA μ 5 ((Int16.ofInt 2000).toInt32).toNatClampNeg) r0 = (1, 11))
    (h2 : ¬ (am_n μ) = 15)
    (k : Wp d 118 (13, [some (.ref r0)], [], (am_pR (am_nA μ 5 ((Int16.ofInt 2000).toInt32).toNatClampNeg) r0 0 (am_n μ))) Q) :
    Wp d 118 (0, [some (.ref r0)], [], μ) Q := wp_blk rfl e118_0 (And.intro (by decide) (And.intro h1 (And.intro h2 k)))
def q118_13 : List (Nat × Instr × Nat) := [(13, .aload_n 0, 1), (14, .iconst 0, 1), (15, .putfield 13, 3), (18, .aload_n 0, 1), (19, .iconst (-1), 1), (20, .putfield 17, 3), (23, .aload_n 0, 1), (24, .new 20, 3)]
theorem e118_13 : am_dec am_M118 q118_13 = true := by decide +kernel
theorem b118_13 {d : Nat} {Q : Option Value ⊕ Nat → am_Mem → Prop} {μ : am_Mem} {r0 : Nat}
    (h1 : am_kd μ r0 = (1, 11))
    (h2 : am_kd (am_pA μ r0 1 (Int32.ofInt 0)) r0 = (1, 11))
    (k : Wp d 118 (27, [some (.ref r0)], [.ref (am_n (am_pA (am_pA μ r0 1 (Int32.ofInt 0)) r0 2 (Int32.ofInt (-1)))), .ref r0], (am_nO (am_pA (am_pA μ r0 1 (Int32.ofInt 0)) r0 2 (Int32.ofInt (-1))) 9 6)) Q) :
    Wp d 118 (13, [some (.ref r0)], [], μ) Q := wp_blk rfl e118_13 (And.intro h1 (And.intro ⟨rfl, rfl⟩ (And.intro h2 (And.intro ⟨rfl, rfl⟩ k))))
def q118_27 : List (Nat × Instr × Nat) := [(27, .dup, 1), (28, .aload_n 0, 1), (29, .getfield 9, 3)]
theorem e118_27 : am_dec am_M118 q118_27 = true := by decide +kernel
theorem e118_27_c : am_dc1 am_M118 32 (.invokespecial 22) 3 = true := by decide +kernel
theorem b118_27 {d : Nat} {Q : Option Value ⊕ Nat → am_Mem → Prop} {μ : am_Mem} {r0 r90 r91 : Nat} {P : am_Mem → Prop}
    (h1 : am_kd μ r0 = (1, 11))
    (h2 : ¬ am_F μ r0 0 = 15)
    (hc : Wp d 103 (0, [some (.ref r91), some (.ref (am_F μ r0 0))], [], μ) (pV P noX)) (hr : ∀ μ', P μ' → Wp (d + 1) 118 (35, [some (.ref r0)], [.ref r91, .ref r90], (μ')) Q) :
    Wp (d + 1) 118 (27, [some (.ref r0)], [.ref r91, .ref r90], μ) Q := wp_blk rfl e118_27 (And.intro h1 (And.intro h2 (wp_ci (as := [.ref (am_F μ r0 0)]) rfl e118_27_c rfl rfl rfl rfl hc (fun v μ' hv => by obtain ⟨rfl, hp⟩ := pV_r hv; exact hr μ' hp) (fun _ _ h => h))))
def q118_35 : List (Nat × Instr × Nat) := [(35, .putfield 25, 3), (38, .aload_n 0, 1), (39, .new 29, 3), (42, .dup, 1)]
theorem e118_35 : am_dec am_M118 q118_35 = true := by decide +kernel
theorem e118_35_c : am_dc1 am_M118 43 (.invokespecial 31) 3 = true := by decide +kernel
theorem b118_35 {d : Nat} {Q : Option Value ⊕ Nat → am_Mem → Prop} {μ : am_Mem} {r0 r90 r91 : Nat} {P : am_Mem → Prop}
    (h1 : am_kd μ r90 = (1, 11))
    (h2 : ¬ r91 = 15)
    (hc : Wp d 64 (0, [some (.ref (am_n (am_pR μ r90 3 r91)))], [], (am_nO (am_pR μ r90 3 r91) 5 19)) (pV P noX)) (hr : ∀ μ', P μ' → Wp (d + 1) 118 (46, [some (.ref r0)], [.ref (am_n (am_pR μ r90 3 r91)), .ref r0], (μ')) Q) :
    Wp (d + 1) 118 (35, [some (.ref r0)], [.ref r91, .ref r90], μ) Q := wp_blk rfl e118_35 (And.intro h1 (And.intro h2 (wp_ci (as := []) rfl e118_35_c rfl rfl rfl rfl hc (fun v μ' hv => by obtain ⟨rfl, hp⟩ := pV_r hv; exact hr μ' hp) (fun _ _ h => h))))
def q118_46 : List (Nat × Instr × Nat) := [(46, .putfield 32, 3), (49, .aload_n 0, 1), (50, .new 29, 3), (53, .dup, 1)]
theorem e118_46 : am_dec am_M118 q118_46 = true := by decide +kernel
theorem e118_46_c : am_dc1 am_M118 54 (.invokespecial 31) 3 = true := by decide +kernel
theorem b118_46 {d : Nat} {Q : Option Value ⊕ Nat → am_Mem → Prop} {μ : am_Mem} {r0 r90 r91 : Nat} {P : am_Mem → Prop}
    (h1 : am_kd μ r90 = (1, 11))
    (h2 : ¬ r91 = 15)
    (hc : Wp d 64 (0, [some (.ref (am_n (am_pR μ r90 4 r91)))], [], (am_nO (am_pR μ r90 4 r91) 5 19)) (pV P noX)) (hr : ∀ μ', P μ' → Wp (d + 1) 118 (57, [some (.ref r0)], [.ref (am_n (am_pR μ r90 4 r91)), .ref r0], (μ')) Q) :
    Wp (d + 1) 118 (46, [some (.ref r0)], [.ref r91, .ref r90], μ) Q := wp_blk rfl e118_46 (And.intro h1 (And.intro h2 (wp_ci (as := []) rfl e118_46_c rfl rfl rfl rfl hc (fun v μ' hv => by obtain ⟨rfl, hp⟩ := pV_r hv; exact hr μ' hp) (fun _ _ h => h))))
def q118_57 : List (Nat × Instr × Nat) := [(57, .putfield 36, 3), (60, .aload_n 0, 1), (61, .iconst 0, 1), (62, .putfield 39, 3), (65, .aload_n 0, 1), (66, .new 43, 3)]
theorem e118_57 : am_dec am_M118 q118_57 = true := by decide +kernel
theorem b118_57 {d : Nat} {Q : Option Value ⊕ Nat → am_Mem → Prop} {μ : am_Mem} {r0 r90 r91 : Nat}
    (h1 : am_kd μ r90 = (1, 11))
    (h2 : ¬ r91 = 15)
    (h3 : am_kd (am_pR μ r90 5 r91) r0 = (1, 11))
    (k : Wp d 118 (69, [some (.ref r0)], [.ref (am_n (am_pA (am_pR μ r90 5 r91) r0 6 (Int32.ofInt 0))), .ref r0], (am_nO (am_pA (am_pR μ r90 5 r91) r0 6 (Int32.ofInt 0)) 4 6)) Q) :
    Wp d 118 (57, [some (.ref r0)], [.ref r91, .ref r90], μ) Q := wp_blk rfl e118_57 (And.intro h1 (And.intro h2 (And.intro h3 (And.intro (by decide) k))))
def q118_69 : List (Nat × Instr × Nat) := [(69, .dup, 1), (70, .aload_n 0, 1), (71, .getfield 25, 3), (74, .aload_n 0, 1), (75, .getfield 36, 3)]
theorem e118_69 : am_dec am_M118 q118_69 = true := by decide +kernel
theorem e118_69_c : am_dc1 am_M118 78 (.invokespecial 45) 3 = true := by decide +kernel
theorem b118_69 {d : Nat} {Q : Option Value ⊕ Nat → am_Mem → Prop} {μ : am_Mem} {r0 r90 r91 : Nat} {P : am_Mem → Prop}
    (h1 : am_kd μ r0 = (1, 11))
    (h2 : ¬ am_F μ r0 3 = 15)
    (h3 : am_kd μ r0 = (1, 11))
    (h4 : ¬ am_F μ r0 5 = 15)
    (hc : Wp d 54 (0, [some (.ref r91), some (.ref (am_F μ r0 3)), some (.ref (am_F μ r0 5))], [], μ) (pV P noX)) (hr : ∀ μ', P μ' → Wp (d + 1) 118 (81, [some (.ref r0)], [.ref r91, .ref r90], (μ')) Q) :
    Wp (d + 1) 118 (69, [some (.ref r0)], [.ref r91, .ref r90], μ) Q := wp_blk rfl e118_69 (And.intro h1 (And.intro h2 (And.intro h3 (And.intro h4 (wp_ci (as := [.ref (am_F μ r0 3), .ref (am_F μ r0 5)]) rfl e118_69_c rfl rfl rfl rfl hc (fun v μ' hv => by obtain ⟨rfl, hp⟩ := pV_r hv; exact hr μ' hp) (fun _ _ h => h))))))
def q118_81 : List (Nat × Instr × Nat) := [(81, .putfield 48, 3), (84, .aload_n 0, 1), (85, .new 52, 3), (88, .dup, 1), (89, .aload_n 0, 1), (90, .getfield 36, 3)]
theorem e118_81 : am_dec am_M118 q118_81 = true := by decide +kernel
theorem e118_81_c : am_dc1 am_M118 93 (.invokespecial 54) 3 = true := by decide +kernel
theorem b118_81 {d : Nat} {Q : Option Value ⊕ Nat → am_Mem → Prop} {μ : am_Mem} {r0 r90 r91 : Nat} {P : am_Mem → Prop}
    (h1 : am_kd μ r90 = (1, 11))
    (h2 : ¬ r91 = 15)
    (h3 : am_kd (am_nO (am_pR μ r90 7 r91) 0 7) r0 = (1, 11))
    (h4 : ¬ am_F (am_nO (am_pR μ r90 7 r91) 0 7) r0 5 = 15)
    (hc : Wp d 0 (0, [some (.ref (am_n (am_pR μ r90 7 r91))), some (.ref (am_F (am_nO (am_pR μ r90 7 r91) 0 7) r0 5))], [], (am_nO (am_pR μ r90 7 r91) 0 7)) (pV P noX)) (hr : ∀ μ', P μ' → Wp (d + 1) 118 (96, [some (.ref r0)], [.ref (am_n (am_pR μ r90 7 r91)), .ref r0], (μ')) Q) :
    Wp (d + 1) 118 (81, [some (.ref r0)], [.ref r91, .ref r90], μ) Q := wp_blk rfl e118_81 (And.intro h1 (And.intro h2 (And.intro h3 (And.intro h4 (wp_ci (as := [.ref (am_F (am_nO (am_pR μ r90 7 r91) 0 7) r0 5)]) rfl e118_81_c rfl rfl rfl rfl hc (fun v μ' hv => by obtain ⟨rfl, hp⟩ := pV_r hv; exact hr μ' hp) (fun _ _ h => h))))))
def q118_96 : List (Nat × Instr × Nat) := [(96, .putfield 57, 3), (99, .aload_n 0, 1), (100, .new 61, 3), (103, .dup, 1), (104, .aload_n 0, 1), (105, .getfield 32, 3)]
theorem e118_96 : am_dec am_M118 q118_96 = true := by decide +kernel
theorem e118_96_c : am_dc1 am_M118 108 (.invokespecial 63) 3 = true := by decide +kernel
theorem b118_96 {d : Nat} {Q : Option Value ⊕ Nat → am_Mem → Prop} {μ : am_Mem} {r0 r90 r91 : Nat} {P : am_Mem → Prop}
    (h1 : am_kd μ r90 = (1, 11))
    (h2 : ¬ r91 = 15)
    (h3 : am_kd (am_nO (am_pR μ r90 8 r91) 2 17) r0 = (1, 11))
    (h4 : ¬ am_F (am_nO (am_pR μ r90 8 r91) 2 17) r0 4 = 15)
    (hc : Wp d 32 (0, [some (.ref (am_n (am_pR μ r90 8 r91))), some (.ref (am_F (am_nO (am_pR μ r90 8 r91) 2 17) r0 4))], [], (am_nO (am_pR μ r90 8 r91) 2 17)) (pV P noX)) (hr : ∀ μ', P μ' → Wp (d + 1) 118 (111, [some (.ref r0)], [.ref (am_n (am_pR μ r90 8 r91)), .ref r0], (μ')) Q) :
    Wp (d + 1) 118 (96, [some (.ref r0)], [.ref r91, .ref r90], μ) Q := wp_blk rfl e118_96 (And.intro h1 (And.intro h2 (And.intro h3 (And.intro h4 (wp_ci (as := [.ref (am_F (am_nO (am_pR μ r90 8 r91) 2 17) r0 4)]) rfl e118_96_c rfl rfl rfl rfl hc (fun v μ' hv => by obtain ⟨rfl, hp⟩ := pV_r hv; exact hr μ' hp) (fun _ _ h => h))))))
def q118_111 : List (Nat × Instr × Nat) := [(111, .putfield 64, 3), (114, .aload_n 0, 1), (115, .bipush 60, 2), (117, .newarray .int, 2), (119, .putfield 68, 3)]
theorem e118_111 : am_dec am_M118 q118_111 = true := by decide +kernel
theorem b118_111 {d : Nat} {Q : Option Value ⊕ Nat → am_Mem → Prop} {μ : am_Mem} {r0 r90 r91 : Nat}
    (h1 : am_kd μ r90 = (1, 11))
    (h2 : ¬ r91 = 15)
    (h3 : am_kd (am_nA (am_pR μ r90 9 r91) 2 ((Int8.ofInt 60).toInt32).toNatClampNeg) r0 = (1, 11))
    (h4 : ¬ (am_n (am_pR μ r90 9 r91)) = 15)
    (k : Wp d 118 (122, [some (.ref r0)], [], (am_pR (am_nA (am_pR μ r90 9 r91) 2 ((Int8.ofInt 60).toInt32).toNatClampNeg) r0 10 (am_n (am_pR μ r90 9 r91)))) Q) :
    Wp d 118 (111, [some (.ref r0)], [.ref r91, .ref r90], μ) Q := wp_blk rfl e118_111 (And.intro h1 (And.intro h2 (And.intro (by decide) (And.intro h3 (And.intro h4 k)))))
def q118_122 : List (Nat × Instr × Nat) := [(122, .aload_n 0, 1), (123, .bipush 60, 2), (125, .newarray .int, 2), (127, .putfield 72, 3)]
theorem e118_122 : am_dec am_M118 q118_122 = true := by decide +kernel
theorem b118_122 {d : Nat} {Q : Option Value ⊕ Nat → am_Mem → Prop} {μ : am_Mem} {r0 : Nat}
    (h1 : am_kd (am_nA μ 2 ((Int8.ofInt 60).toInt32).toNatClampNeg) r0 = (1, 11))
    (h2 : ¬ (am_n μ) = 15)
    (k : Wp d 118 (130, [some (.ref r0)], [], (am_pR (am_nA μ 2 ((Int8.ofInt 60).toInt32).toNatClampNeg) r0 11 (am_n μ))) Q) :
    Wp d 118 (122, [some (.ref r0)], [], μ) Q := wp_blk rfl e118_122 (And.intro (by decide) (And.intro h1 (And.intro h2 k)))
def q118_130 : List (Nat × Instr × Nat) := [(130, .aload_n 0, 1), (131, .iconst (-1), 1), (132, .putfield 75, 3), (135, .aload_n 0, 1), (136, .new 78, 3), (139, .dup, 1)]
theorem e118_130 : am_dec am_M118 q118_130 = true := by decide +kernel
theorem e118_130_c : am_dc1 am_M118 140 (.invokespecial 80) 3 = true := by decide +kernel
theorem b118_130 {d : Nat} {Q : Option Value ⊕ Nat → am_Mem → Prop} {μ : am_Mem} {r0 : Nat} {P : am_Mem → Prop}
    (h1 : am_kd μ r0 = (1, 11))
    (hc : Wp d 109 (0, [some (.ref (am_n (am_pA μ r0 12 (Int32.ofInt (-1)))))], [], (am_nO (am_pA μ r0 12 (Int32.ofInt (-1))) 10 6)) (pV P noX)) (hr : ∀ μ', P μ' → Wp (d + 1) 118 (143, [some (.ref r0)], [.ref (am_n (am_pA μ r0 12 (Int32.ofInt (-1)))), .ref r0], (μ')) Q) :
    Wp (d + 1) 118 (130, [some (.ref r0)], [], μ) Q := wp_blk rfl e118_130 (And.intro h1 (And.intro ⟨rfl, rfl⟩ (wp_ci (as := []) rfl e118_130_c rfl rfl rfl rfl hc (fun v μ' hv => by obtain ⟨rfl, hp⟩ := pV_r hv; exact hr μ' hp) (fun _ _ h => h))))
def q118_143 : List (Nat × Instr × Nat) := [(143, .putfield 81, 3), (146, .aload_n 0, 1), (147, .iconst 0, 1), (148, .putfield 85, 3), (151, .aload_n 0, 1), (152, .new 78, 3)]
theorem e118_143 : am_dec am_M118 q118_143 = true := by decide +kernel
theorem b118_143 {d : Nat} {Q : Option Value ⊕ Nat → am_Mem → Prop} {μ : am_Mem} {r0 r90 r91 : Nat}
    (h1 : am_kd μ r90 = (1, 11))
    (h2 : ¬ r91 = 15)
    (h3 : am_kd (am_pR μ r90 13 r91) r0 = (1, 11))
    (k : Wp d 118 (155, [some (.ref r0)], [.ref (am_n (am_pA (am_pR μ r90 13 r91) r0 14 (Int32.ofInt 0))), .ref r0], (am_nO (am_pA (am_pR μ r90 13 r91) r0 14 (Int32.ofInt 0)) 10 6)) Q) :
    Wp d 118 (143, [some (.ref r0)], [.ref r91, .ref r90], μ) Q := wp_blk rfl e118_143 (And.intro h1 (And.intro h2 (And.intro h3 (And.intro ⟨rfl, rfl⟩ k))))
def q118_155 : List (Nat × Instr × Nat) := [(155, .dup, 1)]
theorem e118_155 : am_dec am_M118 q118_155 = true := by decide +kernel
theorem e118_155_c : am_dc1 am_M118 156 (.invokespecial 80) 3 = true := by decide +kernel
theorem b118_155 {d : Nat} {Q : Option Value ⊕ Nat → am_Mem → Prop} {μ : am_Mem} {r0 r90 r91 : Nat} {P : am_Mem → Prop}
    (hc : Wp d 109 (0, [some (.ref r91)], [], μ) (pV P noX)) (hr : ∀ μ', P μ' → Wp (d + 1) 118 (159, [some (.ref r0)], [.ref r91, .ref r90], (μ')) Q) :
    Wp (d + 1) 118 (155, [some (.ref r0)], [.ref r91, .ref r90], μ) Q := wp_blk rfl e118_155 (wp_ci (as := []) rfl e118_155_c rfl rfl rfl rfl hc (fun v μ' hv => by obtain ⟨rfl, hp⟩ := pV_r hv; exact hr μ' hp) (fun _ _ h => h))
def q118_159 : List (Nat × Instr × Nat) := [(159, .putfield 88, 3), (162, .aload_n 0, 1), (163, .new 91, 3), (166, .dup, 1)]
theorem e118_159 : am_dec am_M118 q118_159 = true := by decide +kernel
theorem e118_159_c : am_dc1 am_M118 167 (.invokespecial 93) 3 = true := by decide +kernel
theorem b118_159 {d : Nat} {Q : Option Value ⊕ Nat → am_Mem → Prop} {μ : am_Mem} {r0 r90 r91 : Nat} {P : am_Mem → Prop}
    (h1 : am_kd μ r90 = (1, 11))
    (h2 : ¬ r91 = 15)
    (hc : Wp d 72 (0, [some (.ref (am_n (am_pR μ r90 15 r91)))], [], (am_nO (am_pR μ r90 15 r91) 6 17)) (pV P noX)) (hr : ∀ μ', P μ' → Wp (d + 1) 118 (170, [some (.ref r0)], [.ref (am_n (am_pR μ r90 15 r91)), .ref r0], (μ')) Q) :
    Wp (d + 1) 118 (159, [some (.ref r0)], [.ref r91, .ref r90], μ) Q := wp_blk rfl e118_159 (And.intro h1 (And.intro h2 (wp_ci (as := []) rfl e118_159_c rfl rfl rfl rfl hc (fun v μ' hv => by obtain ⟨rfl, hp⟩ := pV_r hv; exact hr μ' hp) (fun _ _ h => h))))
def q118_170 : List (Nat × Instr × Nat) := [(170, .putfield 94, 3), (173, .aload_n 0, 1), (174, .iconst 0, 1), (175, .putfield 98, 3), (178, .aload_n 0, 1), (179, .lconst 0, 1), (180, .putfield 101, 3)]
theorem e118_170 : am_dec am_M118 q118_170 = true := by decide +kernel
theorem b118_170 {d : Nat} {Q : Option Value ⊕ Nat → am_Mem → Prop} {μ : am_Mem} {r0 r90 r91 : Nat}
    (h1 : am_kd μ r90 = (1, 11))
    (h2 : ¬ r91 = 15)
    (h3 : am_kd (am_pR μ r90 16 r91) r0 = (1, 11))
    (h4 : am_kd (am_pA (am_pR μ r90 16 r91) r0 17 (Int32.ofInt 0)) r0 = (1, 11))
    (k : Wp d 118 (183, [some (.ref r0)], [], (am_pL (am_pA (am_pR μ r90 16 r91) r0 17 (Int32.ofInt 0)) r0 18 (Int64.ofNat 0))) Q) :
    Wp d 118 (170, [some (.ref r0)], [.ref r91, .ref r90], μ) Q := wp_blk rfl e118_170 (And.intro h1 (And.intro h2 (And.intro h3 (And.intro ⟨rfl, rfl⟩ (And.intro h4 (And.intro ⟨rfl, rfl⟩ k))))))
theorem e118_183_r : am_dec am_M118 [(183, .return_, 1)] = true := by decide +kernel
theorem b118_183 {d : Nat} {Q : Option Value ⊕ Nat → am_Mem → Prop} {μ : am_Mem} {r0 : Nat}
    (k : Q (.inl none) μ) :
    Wp d 118 (183, [some (.ref r0)], [], μ) Q := (wp_rv rfl e118_183_r rfl k)
/-! RuleSheets.read()I -/
def q119_0 : List (Nat × Instr × Nat) := [(0, .aload_n 0, 1), (1, .getfield 36, 3)]
theorem e119_0 : am_dec am_M119 q119_0 = true := by decide +kernel
theorem e119_0_c : am_dc1 am_M119 4 (.invokevirtual 119) 3 = true := by decide +kernel
theorem b119_0 {d : Nat} {Q : Option Value ⊕ Nat → am_Mem → Prop} {μ : am_Mem} {r0 : Nat} {P : am_Mem → Prop} {X : Nat → am_Mem → Prop}
    (h1 : am_kd μ r0 = (1, 11))
    (h2 : ¬ am_F μ r0 5 = 15)
    (hk : am_kd μ (am_F μ r0 5) = (1, 5))
    (hc : Wp d 65 (0, [some (.ref (am_F μ r0 5))], [], μ) (pV P X)) (hr : ∀ μ', P μ' → Wp (d + 1) 119 (7, [some (.ref r0), none, none], [], (μ')) Q)
    (hx : ∀ x μ', X x μ' → Q (.inr x) μ') :
    Wp (d + 1) 119 (0, [some (.ref r0), none, none], [], μ) Q := wp_blk rfl e119_0 (And.intro h1 (And.intro h2 (wp_cv (as := []) rfl e119_0_c rfl rfl rfl rfl rfl hk hc (fun v μ' hv => by obtain ⟨rfl, hp⟩ := pV_r hv; exact hr μ' hp) hx)))
def q119_7 : List (Nat × Instr × Nat) := [(7, .aload_n 0, 1), (8, .getfield 25, 3), (11, .aload_n 0, 1), (12, .getfield 13, 3), (15, .aload_n 0, 1), (16, .getfield 36, 3), (19, .getfield 122, 3)]
theorem e119_7 : am_dec am_M119 q119_7 = true := by decide +kernel
theorem e119_7_c : am_dc1 am_M119 22 (.invokevirtual 126) 3 = true := by decide +kernel
theorem b119_7 {d : Nat} {Q : Option Value ⊕ Nat → am_Mem → Prop} {μ : am_Mem} {r0 : Nat} {P : am_Mem → Prop} {X : Nat → am_Mem → Prop}
    (h1 : am_kd μ r0 = (1, 11))
    (h2 : ¬ am_F μ r0 3 = 15)
    (h3 : am_kd μ r0 = (1, 11))
    (h4 : am_kd μ r0 = (1, 11))
    (h5 : ¬ am_F μ r0 5 = 15)
    (h6 : am_kd μ (am_F μ r0 5) = (1, 5))
    (h7 : ¬ am_F μ (am_F μ r0 5) 0 = 15)
    (hk : am_kd μ (am_F μ r0 3) = (1, 9))
    (hc : Wp d 104 (0, [some (.ref (am_F μ r0 3)), some (.int (am_A μ r0 1)), some (.ref (am_F μ (am_F μ r0 5) 0)), none, none, none], [], μ) (pV P X)) (hr : ∀ μ', P μ' → Wp (d + 1) 119 (25, [some (.ref r0), none, none], [], (μ')) Q)
    (hx : ∀ x μ', X x μ' → Q (.inr x) μ') :
    Wp (d + 1) 119 (7, [some (.ref r0), none, none], [], μ) Q := wp_blk rfl e119_7 (And.intro h1 (And.intro h2 (And.intro h3 (And.intro h4 (And.intro h5 (And.intro h6 (And.intro h7 (wp_cv (as := [.int (am_A μ r0 1), .ref (am_F μ (am_F μ r0 5) 0)]) rfl e119_7_c rfl rfl rfl rfl rfl hk hc (fun v μ' hv => by obtain ⟨rfl, hp⟩ := pV_r hv; exact hr μ' hp) hx))))))))
def q119_25 : List (Nat × Instr × Nat) := [(25, .aload_n 0, 1), (26, .aload_n 0, 1), (27, .getfield 48, 3), (30, .aload_n 0, 1), (31, .getfield 36, 3)]
theorem e119_25 : am_dec am_M119 q119_25 = true := by decide +kernel
theorem e119_25_c : am_dc1 am_M119 34 (.invokevirtual 130) 3 = true := by decide +kernel
theorem b119_25 {d : Nat} {Q : Option Value ⊕ Nat → am_Mem → Prop} {μ : am_Mem} {r0 : Nat} {P : Int32 → am_Mem → Prop} {X : Nat → am_Mem → Prop}
    (h1 : am_kd μ r0 = (1, 11))
    (h2 : ¬ am_F μ r0 7 = 15)
    (h3 : am_kd μ r0 = (1, 11))
    (h4 : ¬ am_F μ r0 5 = 15)
    (hk : am_kd μ (am_F μ r0 7) = (1, 4))
    (hc : Wp d 55 (0, [some (.ref (am_F μ r0 7)), some (.ref (am_F μ r0 5)), none], [], μ) (pI P X)) (hr : ∀ x μ', P x μ' → Wp (d + 1) 119 (37, [some (.ref r0), none, none], [.int x, .ref r0], (μ')) Q)
    (hx : ∀ x μ', X x μ' → Q (.inr x) μ') :
    Wp (d + 1) 119 (25, [some (.ref r0), none, none], [], μ) Q := wp_blk rfl e119_25 (And.intro h1 (And.intro h2 (And.intro h3 (And.intro h4 (wp_cv (as := [.ref (am_F μ r0 5)]) rfl e119_25_c rfl rfl rfl rfl rfl hk hc (fun v μ' hv => by obtain ⟨x, rfl, hp⟩ := pI_r hv; exact hr x μ' hp) hx)))))
def q119_37 : List (Nat × Instr × Nat) := [(37, .putfield 17, 3), (40, .aload_n 0, 1), (41, .getfield 17, 3), (44, .iconst (-1), 1), (45, .if_icmp .eq 5, 3)]
theorem e119_37 : am_dec am_M119 q119_37 = true := by decide +kernel
theorem b119_37 {d : Nat} {Q : Option Value ⊕ Nat → am_Mem → Prop} {μ : am_Mem} {r0 r90 : Nat} {s1 : Int32}
    (h1 : am_kd μ r90 = (1, 11))
    (h2 : am_kd (am_pA μ r90 2 s1) r0 = (1, 11))
    (k1 : (am_A (am_pA μ r90 2 s1) r0 2) = (Int32.ofInt (-1)) → Wp d 119 (50, [some (.ref r0), none, none], [], (am_pA μ r90 2 s1)) Q) (k2 : ¬ ((am_A (am_pA μ r90 2 s1) r0 2) = (Int32.ofInt (-1))) → Wp d 119 (48, [some (.ref r0), none, none], [], (am_pA μ r90 2 s1)) Q) :
    Wp d 119 (37, [some (.ref r0), none, none], [.int s1, .ref r90], μ) Q := wp_blk rfl e119_37 (And.intro h1 (And.intro ⟨rfl, rfl⟩ (And.intro h2 (And.intro k1 k2))))
def q119_48 : List (Nat × Instr × Nat) := [(48, .iconst 1, 1)]
theorem e119_48 : am_dec am_M119 q119_48 = true := by decide +kernel
theorem e119_48_r : am_dec am_M119 [(49, .ireturn, 1)] = true := by decide +kernel
theorem b119_48 {d : Nat} {Q : Option Value ⊕ Nat → am_Mem → Prop} {μ : am_Mem} {r0 : Nat}
    (k : Q (.inl (some (.int (Int32.ofInt 1)))) μ) :
    Wp d 119 (48, [some (.ref r0), none, none], [], μ) Q := wp_blk rfl e119_48 (wp_ri (ty := .int) rfl e119_48_r rfl ⟨rfl, rfl⟩ k)
def q119_50 : List (Nat × Instr × Nat) := [(50, .aload_n 0, 1), (51, .getfield 57, 3), (54, .aload_n 0, 1), (55, .getfield 36, 3)]
theorem e119_50 : am_dec am_M119 q119_50 = true := by decide +kernel
theorem e119_50_c : am_dc1 am_M119 58 (.invokevirtual 134) 3 = true := by decide +kernel
theorem b119_50 {d : Nat} {Q : Option Value ⊕ Nat → am_Mem → Prop} {μ : am_Mem} {r0 : Nat} {P : Int32 → am_Mem → Prop} {X : Nat → am_Mem → Prop}
    (h1 : am_kd μ r0 = (1, 11))
    (h2 : ¬ am_F μ r0 8 = 15)
    (h3 : am_kd μ r0 = (1, 11))
    (h4 : ¬ am_F μ r0 5 = 15)
    (hk : am_kd μ (am_F μ r0 8) = (1, 0))
    (hc : Wp d 1 (0, [some (.ref (am_F μ r0 8)), some (.ref (am_F μ r0 5))], [], μ) (pI P X)) (hr : ∀ x μ', P x μ' → Wp (d + 1) 119 (61, [some (.ref r0), none, none], [.int x], (μ')) Q)
    (hx : ∀ x μ', X x μ' → Q (.inr x) μ') :
    Wp (d + 1) 119 (50, [some (.ref r0), none, none], [], μ) Q := wp_blk rfl e119_50 (And.intro h1 (And.intro h2 (And.intro h3 (And.intro h4 (wp_cv (as := [.ref (am_F μ r0 5)]) rfl e119_50_c rfl rfl rfl rfl rfl hk hc (fun v μ' hv => by obtain ⟨x, rfl, hp⟩ := pI_r hv; exact hr x μ' hp) hx)))))
def q119_61 : List (Nat × Instr × Nat) := [(61, .istore_n 1, 1), (62, .aload_n 0, 1), (63, .aload_n 0, 1), (64, .getfield 57, 3), (67, .getfield 137, 3), (70, .putfield 17, 3), (73, .iload_n 1, 1), (74, .ifCond .eq 5, 3)]
theorem e119_61 : am_dec am_M119 q119_61 = true := by decide +kernel
theorem b119_61 {d : Nat} {Q : Option Value ⊕ Nat → am_Mem → Prop} {μ : am_Mem} {r0 : Nat} {s0 : Int32}
    (h1 : am_kd μ r0 = (1, 11))
    (h2 : ¬ am_F μ r0 8 = 15)
    (h3 : am_kd μ (am_F μ r0 8) = (1, 0))
    (h4 : am_kd μ r0 = (1, 11))
    (k1 : s0 = 0 → Wp d 119 (79, [some (.ref r0), some (.int s0), none], [], (am_pA μ r0 2 (am_A μ (am_F μ r0 8) 0))) Q) (k2 : ¬ (s0 = 0) → Wp d 119 (77, [some (.ref r0), some (.int s0), none], [], (am_pA μ r0 2 (am_A μ (am_F μ r0 8) 0))) Q) :
    Wp d 119 (61, [some (.ref r0), none, none], [.int s0], μ) Q := wp_blk rfl e119_61 (And.intro h1 (And.intro h2 (And.intro h3 (And.intro h4 (And.intro ⟨rfl, rfl⟩ (And.intro k1 k2))))))
def q119_77 : List (Nat × Instr × Nat) := [(77, .iload_n 1, 1)]
theorem e119_77 : am_dec am_M119 q119_77 = true := by decide +kernel
theorem e119_77_r : am_dec am_M119 [(78, .ireturn, 1)] = true := by decide +kernel
theorem b119_77 {d : Nat} {Q : Option Value ⊕ Nat → am_Mem → Prop} {μ : am_Mem} {r0 : Nat} {x1 : Int32}
    (k : Q (.inl (some (.int x1))) μ) :
    Wp d 119 (77, [some (.ref r0), some (.int x1), none], [], μ) Q := wp_blk rfl e119_77 (wp_ri (ty := .int) rfl e119_77_r rfl ⟨rfl, rfl⟩ k)
def q119_79 : List (Nat × Instr × Nat) := [(79, .aload_n 0, 1), (80, .getfield 32, 3), (83, .astore_n 2, 1), (84, .aload_n 0, 1), (85, .aload_n 0, 1), (86, .getfield 36, 3), (89, .putfield 32, 3), (92, .aload_n 0, 1), (93, .aload_n 2, 1), (94, .putfield 36, 3), (97, .aload_n 0, 1), (98, .iconst 1, 1), (99, .putfield 39, 3)]
theorem e119_79 : am_dec am_M119 q119_79 = true := by decide +kernel
theorem b119_79 {d : Nat} {Q : Option Value ⊕ Nat → am_Mem → Prop} {μ : am_Mem} {r0 : Nat} {x1 : Int32}
    (h1 : am_kd μ r0 = (1, 11))
    (h2 : ¬ am_F μ r0 4 = 15)
    (h3 : am_kd μ r0 = (1, 11))
    (h4 : ¬ am_F μ r0 5 = 15)
    (h5 : am_kd μ r0 = (1, 11))
    (h6 : ¬ (am_F μ r0 5) = 15)
    (h7 : am_kd (am_pR μ r0 4 (am_F μ r0 5)) r0 = (1, 11))
    (h8 : ¬ (am_F μ r0 4) = 15)
    (h9 : am_kd (am_pR (am_pR μ r0 4 (am_F μ r0 5)) r0 5 (am_F μ r0 4)) r0 = (1, 11))
    (k : Wp d 119 (102, [some (.ref r0), some (.int x1), some (.ref (am_F μ r0 4))], [], (am_pA (am_pR (am_pR μ r0 4 (am_F μ r0 5)) r0 5 (am_F μ r0 4)) r0 6 (Int32.ofInt 1))) Q) :
    Wp d 119 (79, [some (.ref r0), some (.int x1), none], [], μ) Q := wp_blk rfl e119_79 (And.intro h1 (And.intro h2 (And.intro h3 (And.intro h4 (And.intro h5 (And.intro h6 (And.intro h7 (And.intro h8 (And.intro h9 (And.intro (by decide) k))))))))))
def q119_102 : List (Nat × Instr × Nat) := [(102, .aload_n 0, 1), (103, .getfield 64, 3), (106, .aload_n 0, 1), (107, .getfield 32, 3)]
theorem e119_102 : am_dec am_M119 q119_102 = true := by decide +kernel
theorem e119_102_c : am_dc1 am_M119 110 (.invokevirtual 140) 3 = true := by decide +kernel
theorem b119_102 {d : Nat} {Q : Option Value ⊕ Nat → am_Mem → Prop} {μ : am_Mem} {r0 r2 : Nat} {x1 : Int32} {P : am_Mem → Prop} {X : Nat → am_Mem → Prop}
    (h1 : am_kd μ r0 = (1, 11))
    (h2 : ¬ am_F μ r0 9 = 15)
    (h3 : am_kd μ r0 = (1, 11))
    (h4 : ¬ am_F μ r0 4 = 15)
    (hk : am_kd μ (am_F μ r0 9) = (1, 2))
    (hc : Wp d 33 (0, [some (.ref (am_F μ r0 9)), some (.ref (am_F μ r0 4)), none, none], [], μ) (pV P X)) (hr : ∀ μ', P μ' → Wp (d + 1) 119 (113, [some (.ref r0), some (.int x1), some (.ref r2)], [], (μ')) Q)
    (hx : ∀ x μ', X x μ' → Q (.inr x) μ') :
    Wp (d + 1) 119 (102, [some (.ref r0), some (.int x1), some (.ref r2)], [], μ) Q := wp_blk rfl e119_102 (And.intro h1 (And.intro h2 (And.intro h3 (And.intro h4 (wp_cv (as := [.ref (am_F μ r0 4)]) rfl e119_102_c rfl rfl rfl rfl rfl hk hc (fun v μ' hv => by obtain ⟨rfl, hp⟩ := pV_r hv; exact hr μ' hp) hx)))))
def q119_113 : List (Nat × Instr × Nat) := [(113, .aload_n 0, 1), (114, .iconst (-1), 1), (115, .putfield 75, 3), (118, .aload_n 0, 1), (119, .iconst 0, 1), (120, .putfield 85, 3), (123, .aload_n 0, 1), (124, .iconst 0, 1), (125, .putfield 98, 3)]
theorem e119_113 : am_dec am_M119 q119_113 = true := by decide +kernel
theorem b119_113 {d : Nat} {Q : Option Value ⊕ Nat → am_Mem → Prop} {μ : am_Mem} {r0 r2 : Nat} {x1 : Int32}
    (h1 : am_kd μ r0 = (1, 11))
    (h2 : am_kd (am_pA μ r0 12 (Int32.ofInt (-1))) r0 = (1, 11))
    (h3 : am_kd (am_pA (am_pA μ r0 12 (Int32.ofInt (-1))) r0 14 (Int32.ofInt 0)) r0 = (1, 11))
    (k : Wp d 119 (128, [some (.ref r0), some (.int x1), some (.ref r2)], [], (am_pA (am_pA (am_pA μ r0 12 (Int32.ofInt (-1))) r0 14 (Int32.ofInt 0)) r0 17 (Int32.ofInt 0))) Q) :
    Wp d 119 (113, [some (.ref r0), some (.int x1), some (.ref r2)], [], μ) Q := wp_blk rfl e119_113 (And.intro h1 (And.intro ⟨rfl, rfl⟩ (And.intro h2 (And.intro ⟨rfl, rfl⟩ (And.intro h3 (And.intro ⟨rfl, rfl⟩ k))))))
def q119_128 : List (Nat × Instr × Nat) := [(128, .iconst 0, 1)]
theorem e119_128 : am_dec am_M119 q119_128 = true := by decide +kernel
theorem e119_128_r : am_dec am_M119 [(129, .ireturn, 1)] = true := by decide +kernel
theorem b119_128 {d : Nat} {Q : Option Value ⊕ Nat → am_Mem → Prop} {μ : am_Mem} {r0 r2 : Nat} {x1 : Int32}
    (k : Q (.inl (some (.int (Int32.ofInt 0)))) μ) :
    Wp d 119 (128, [some (.ref r0), some (.int x1), some (.ref r2)], [], μ) Q := wp_blk rfl e119_128 (wp_ri (ty := .int) rfl e119_128_r rfl ⟨rfl, rfl⟩ k)
/-! RuleSheets.fault()I -/
def q120_0 : List (Nat × Instr × Nat) := [(0, .aload_n 0, 1), (1, .getfield 17, 3)]
theorem e120_0 : am_dec am_M120 q120_0 = true := by decide +kernel
theorem e120_0_r : am_dec am_M120 [(4, .ireturn, 1)] = true := by decide +kernel
theorem b120_0 {d : Nat} {Q : Option Value ⊕ Nat → am_Mem → Prop} {μ : am_Mem} {r0 : Nat}
    (h1 : am_kd μ r0 = (1, 11))
    (k : Q (.inl (some (.int (am_A μ r0 2)))) μ) :
    Wp d 120 (0, [some (.ref r0)], [], μ) Q := wp_blk rfl e120_0 (And.intro h1 (wp_ri (ty := .int) rfl e120_0_r rfl ⟨rfl, rfl⟩ k))
/-! RuleSheets.put(I)I -/
def q121_0 : List (Nat × Instr × Nat) := [(0, .iconst 0, 1), (1, .istore_n 2, 1), (2, .iconst 0, 1), (3, .istore_n 3, 1)]
theorem e121_0 : am_dec am_M121 q121_0 = true := by decide +kernel
theorem b121_0 {d : Nat} {Q : Option Value ⊕ Nat → am_Mem → Prop} {μ : am_Mem} {r0 : Nat} {x1 : Int32}
    (k : Wp d 121 (4, [some (.ref r0), some (.int x1), some (.int (Int32.ofInt 0)), some (.int (Int32.ofInt 0)), none], [], μ) Q) :
    Wp d 121 (0, [some (.ref r0), some (.int x1), none, none, none], [], μ) Q := wp_blk rfl e121_0 k
def q121_4 : List (Nat × Instr × Nat) := [(4, .iload_n 3, 1), (5, .iconst 4, 1), (6, .if_icmp .ge 60, 3)]
theorem e121_4 : am_dec am_M121 q121_4 = true := by decide +kernel
theorem b121_4 {d : Nat} {Q : Option Value ⊕ Nat → am_Mem → Prop} {μ : am_Mem} {r0 : Nat} {x1 x2 x3 : Int32} {o4 : Option Value}
    (k1 : (Int32.ofInt 4) ≤ x3 → Wp d 121 (66, [some (.ref r0), some (.int x1), some (.int x2), some (.int x3), o4], [], μ) Q) (k2 : ¬ ((Int32.ofInt 4) ≤ x3) → Wp d 121 (9, [some (.ref r0), some (.int x1), some (.int x2), some (.int x3), o4], [], μ) Q) :
    Wp d 121 (4, [some (.ref r0), some (.int x1), some (.int x2), some (.int x3), o4], [], μ) Q := wp_blk rfl e121_4 (And.intro k1 k2)
def q121_9 : List (Nat × Instr × Nat) := [(9, .iload_n 1, 1), (10, .bipush 8, 2), (12, .iload_n 3, 1), (13, .imul, 1), (14, .iushr, 1), (15, .sipush 255, 3), (18, .iand, 1), (19, .istore 4, 2), (21, .iload 4, 2), (23, .ifCond .eq 37, 3)]
theorem e121_9 : am_dec am_M121 q121_9 = true := by decide +kernel
theorem b121_9 {d : Nat} {Q : Option Value ⊕ Nat → am_Mem → Prop} {μ : am_Mem} {r0 : Nat} {x1 x2 x3 : Int32} {o4 : Option Value}
    (k1 : (((x1.toUInt32 >>> ((((Int8.ofInt 8).toInt32) * x3).toUInt32 &&& Int32.toUInt32 31)).toInt32) &&& ((Int16.ofInt 255).toInt32)) = 0 → Wp d 121 (60, [some (.ref r0), some (.int x1), some (.int x2), some (.int x3), some (.int (((x1.toUInt32 >>> ((((Int8.ofInt 8).toInt32) * x3).toUInt32 &&& Int32.toUInt32 31)).toInt32) &&& ((Int16.ofInt 255).toInt32)))], [], μ) Q) (k2 : ¬ ((((x1.toUInt32 >>> ((((Int8.ofInt 8).toInt32) * x3).toUInt32 &&& Int32.toUInt32 31)).toInt32) &&& ((Int16.ofInt 255).toInt32)) = 0) → Wp d 121 (26, [some (.ref r0), some (.int x1), some (.int x2), some (.int x3), some (.int (((x1.toUInt32 >>> ((((Int8.ofInt 8).toInt32) * x3).toUInt32 &&& Int32.toUInt32 31)).toInt32) &&& ((Int16.ofInt 255).toInt32)))], [], μ) Q) :
    Wp d 121 (9, [some (.ref r0), some (.int x1), some (.int x2), some (.int x3), o4], [], μ) Q := wp_blk rfl e121_9 (And.intro k1 k2)
def q121_26 : List (Nat × Instr × Nat) := [(26, .iload 4, 2), (28, .bipush 10, 2), (30, .if_icmp .eq 27, 3)]
theorem e121_26 : am_dec am_M121 q121_26 = true := by decide +kernel
theorem b121_26 {d : Nat} {Q : Option Value ⊕ Nat → am_Mem → Prop} {μ : am_Mem} {r0 : Nat} {x1 x2 x3 x4 : Int32}
    (k1 : x4 = ((Int8.ofInt 10).toInt32) → Wp d 121 (57, [some (.ref r0), some (.int x1), some (.int x2), some (.int x3), some (.int x4)], [], μ) Q) (k2 : ¬ (x4 = ((Int8.ofInt 10).toInt32)) → Wp d 121 (33, [some (.ref r0), some (.int x1), some (.int x2), some (.int x3), some (.int x4)], [], μ) Q) :
    Wp d 121 (26, [some (.ref r0), some (.int x1), some (.int x2), some (.int x3), some (.int x4)], [], μ) Q := wp_blk rfl e121_26 (And.intro k1 k2)
def q121_33 : List (Nat × Instr × Nat) := [(33, .iload 4, 2), (35, .bipush 32, 2), (37, .if_icmp .lt 10, 3)]
theorem e121_33 : am_dec am_M121 q121_33 = true := by decide +kernel
theorem b121_33 {d : Nat} {Q : Option Value ⊕ Nat → am_Mem → Prop} {μ : am_Mem} {r0 : Nat} {x1 x2 x3 x4 : Int32}
    (k1 : x4 < ((Int8.ofInt 32).toInt32) → Wp d 121 (47, [some (.ref r0), some (.int x1), some (.int x2), some (.int x3), some (.int x4)], [], μ) Q) (k2 : ¬ (x4 < ((Int8.ofInt 32).toInt32)) → Wp d 121 (40, [some (.ref r0), some (.int x1), some (.int x2), some (.int x3), some (.int x4)], [], μ) Q) :
    Wp d 121 (33, [some (.ref r0), some (.int x1), some (.int x2), some (.int x3), some (.int x4)], [], μ) Q := wp_blk rfl e121_33 (And.intro k1 k2)
def q121_40 : List (Nat × Instr × Nat) := [(40, .iload 4, 2), (42, .bipush 126, 2), (44, .if_icmp .le 13, 3)]
theorem e121_40 : am_dec am_M121 q121_40 = true := by decide +kernel
theorem b121_40 {d : Nat} {Q : Option Value ⊕ Nat → am_Mem → Prop} {μ : am_Mem} {r0 : Nat} {x1 x2 x3 x4 : Int32}
    (k1 : x4 ≤ ((Int8.ofInt 126).toInt32) → Wp d 121 (57, [some (.ref r0), some (.int x1), some (.int x2), some (.int x3), some (.int x4)], [], μ) Q) (k2 : ¬ (x4 ≤ ((Int8.ofInt 126).toInt32)) → Wp d 121 (47, [some (.ref r0), some (.int x1), some (.int x2), some (.int x3), some (.int x4)], [], μ) Q) :
    Wp d 121 (40, [some (.ref r0), some (.int x1), some (.int x2), some (.int x3), some (.int x4)], [], μ) Q := wp_blk rfl e121_40 (And.intro k1 k2)
theorem e121_47_t : am_dc1 am_M121 47 (.new 105) 3 = true ∧ am_throw GG 11 121 47 (.new 105) = some 0 := by decide +kernel
theorem b121_47 {d : Nat} {Q : Option Value ⊕ Nat → am_Mem → Prop} {μ : am_Mem} {r0 : Nat} {x1 x2 x3 x4 : Int32}
    (k : Q (.inr 0) (am_nX μ)) :
    Wp d 121 (47, [some (.ref r0), some (.int x1), some (.int x2), some (.int x3), some (.int x4)], [], μ) Q := (wp_throw rfl e121_47_t.1 ⟨_, rfl⟩ rfl e121_47_t.2 rfl k)
def q121_57 : List (Nat × Instr × Nat) := [(57, .iinc 2 1, 3)]
theorem e121_57 : am_dec am_M121 q121_57 = true := by decide +kernel
theorem b121_57 {d : Nat} {Q : Option Value ⊕ Nat → am_Mem → Prop} {μ : am_Mem} {r0 : Nat} {x1 x2 x3 x4 : Int32}
    (k : Wp d 121 (60, [some (.ref r0), some (.int x1), some (.int (x2 + Int32.ofInt 1)), some (.int x3), some (.int x4)], [], μ) Q) :
    Wp d 121 (57, [some (.ref r0), some (.int x1), some (.int x2), some (.int x3), some (.int x4)], [], μ) Q := wp_blk rfl e121_57 k
def q121_60 : List (Nat × Instr × Nat) := [(60, .iinc 3 1, 3), (63, .goto (-59), 3)]
theorem e121_60 : am_dec am_M121 q121_60 = true := by decide +kernel
theorem b121_60 {d : Nat} {Q : Option Value ⊕ Nat → am_Mem → Prop} {μ : am_Mem} {r0 : Nat} {x1 x2 x3 x4 : Int32}
    (k : Wp d 121 (4, [some (.ref r0), some (.int x1), some (.int x2), some (.int (x3 + Int32.ofInt 1)), some (.int x4)], [], μ) Q) :
    Wp d 121 (60, [some (.ref r0), some (.int x1), some (.int x2), some (.int x3), some (.int x4)], [], μ) Q := wp_blk rfl e121_60 k
def q121_66 : List (Nat × Instr × Nat) := [(66, .aload_n 0, 1), (67, .getfield 13, 3), (70, .iload_n 2, 1), (71, .iadd, 1), (72, .sipush 2000, 3), (75, .if_icmp .le 13, 3)]
theorem e121_66 : am_dec am_M121 q121_66 = true := by decide +kernel
theorem b121_66 {d : Nat} {Q : Option Value ⊕ Nat → am_Mem → Prop} {μ : am_Mem} {r0 : Nat} {x1 x2 x3 : Int32} {o4 : Option Value}
    (h1 : am_kd μ r0 = (1, 11))
    (k1 : ((am_A μ r0 1) + x2) ≤ ((Int16.ofInt 2000).toInt32) → Wp d 121 (88, [some (.ref r0), some (.int x1), some (.int x2), some (.int x3), o4], [], μ) Q) (k2 : ¬ (((am_A μ r0 1) + x2) ≤ ((Int16.ofInt 2000).toInt32)) → Wp d 121 (78, [some (.ref r0), some (.int x1), some (.int x2), some (.int x3), o4], [], μ) Q) :
    Wp d 121 (66, [some (.ref r0), some (.int x1), some (.int x2), some (.int x3), o4], [], μ) Q := wp_blk rfl e121_66 (And.intro h1 (And.intro k1 k2))
theorem e121_78_t : am_dc1 am_M121 78 (.new 112) 3 = true ∧ am_throw GG 11 121 78 (.new 112) = some 3 := by decide +kernel
theorem b121_78 {d : Nat} {Q : Option Value ⊕ Nat → am_Mem → Prop} {μ : am_Mem} {r0 : Nat} {x1 x2 x3 : Int32} {o4 : Option Value}
    (k : Q (.inr 3) (am_nX μ)) :
    Wp d 121 (78, [some (.ref r0), some (.int x1), some (.int x2), some (.int x3), o4], [], μ) Q := (wp_throw rfl e121_78_t.1 ⟨_, rfl⟩ rfl e121_78_t.2 rfl k)
def q121_88 : List (Nat × Instr × Nat) := [(88, .iconst 0, 1), (89, .istore_n 3, 1)]
theorem e121_88 : am_dec am_M121 q121_88 = true := by decide +kernel
theorem b121_88 {d : Nat} {Q : Option Value ⊕ Nat → am_Mem → Prop} {μ : am_Mem} {r0 : Nat} {x1 x2 x3 : Int32} {o4 : Option Value}
    (k : Wp d 121 (90, [some (.ref r0), some (.int x1), some (.int x2), some (.int (Int32.ofInt 0)), o4], [], μ) Q) :
    Wp d 121 (88, [some (.ref r0), some (.int x1), some (.int x2), some (.int x3), o4], [], μ) Q := wp_blk rfl e121_88 k
def q121_90 : List (Nat × Instr × Nat) := [(90, .iload_n 3, 1), (91, .iconst 4, 1), (92, .if_icmp .ge 48, 3)]
theorem e121_90 : am_dec am_M121 q121_90 = true := by decide +kernel
theorem b121_90 {d : Nat} {Q : Option Value ⊕ Nat → am_Mem → Prop} {μ : am_Mem} {r0 : Nat} {x1 x2 x3 : Int32} {o4 : Option Value}
    (k1 : (Int32.ofInt 4) ≤ x3 → Wp d 121 (140, [some (.ref r0), some (.int x1), some (.int x2), some (.int x3), o4], [], μ) Q) (k2 : ¬ ((Int32.ofInt 4) ≤ x3) → Wp d 121 (95, [some (.ref r0), some (.int x1), some (.int x2), some (.int x3), o4], [], μ) Q) :
    Wp d 121 (90, [some (.ref r0), some (.int x1), some (.int x2), some (.int x3), o4], [], μ) Q := wp_blk rfl e121_90 (And.intro k1 k2)
def q121_95 : List (Nat × Instr × Nat) := [(95, .iload_n 1, 1), (96, .bipush 8, 2), (98, .iload_n 3, 1), (99, .imul, 1), (100, .iushr, 1), (101, .sipush 255, 3), (104, .iand, 1), (105, .istore 4, 2), (107, .iload 4, 2), (109, .ifCond .eq 25, 3)]
theorem e121_95 : am_dec am_M121 q121_95 = true := by decide +kernel
theorem b121_95 {d : Nat} {Q : Option Value ⊕ Nat → am_Mem → Prop} {μ : am_Mem} {r0 : Nat} {x1 x2 x3 : Int32} {o4 : Option Value}
    (k1 : (((x1.toUInt32 >>> ((((Int8.ofInt 8).toInt32) * x3).toUInt32 &&& Int32.toUInt32 31)).toInt32) &&& ((Int16.ofInt 255).toInt32)) = 0 → Wp d 121 (134, [some (.ref r0), some (.int x1), some (.int x2), some (.int x3), some (.int (((x1.toUInt32 >>> ((((Int8.ofInt 8).toInt32) * x3).toUInt32 &&& Int32.toUInt32 31)).toInt32) &&& ((Int16.ofInt 255).toInt32)))], [], μ) Q) (k2 : ¬ ((((x1.toUInt32 >>> ((((Int8.ofInt 8).toInt32) * x3).toUInt32 &&& Int32.toUInt32 31)).toInt32) &&& ((Int16.ofInt 255).toInt32)) = 0) → Wp d 121 (112, [some (.ref r0), some (.int x1), some (.int x2), some (.int x3), some (.int (((x1.toUInt32 >>> ((((Int8.ofInt 8).toInt32) * x3).toUInt32 &&& Int32.toUInt32 31)).toInt32) &&& ((Int16.ofInt 255).toInt32)))], [], μ) Q) :
    Wp d 121 (95, [some (.ref r0), some (.int x1), some (.int x2), some (.int x3), o4], [], μ) Q := wp_blk rfl e121_95 (And.intro k1 k2)
def q121_112 : List (Nat × Instr × Nat) := [(112, .aload_n 0, 1), (113, .getfield 9, 3), (116, .aload_n 0, 1), (117, .getfield 13, 3), (120, .iload 4, 2), (122, .i2c, 1), (123, .castore, 1), (124, .aload_n 0, 1), (125, .dup, 1), (126, .getfield 13, 3), (129, .iconst 1, 1), (130, .iadd, 1), (131, .putfield 13, 3)]
theorem e121_112 : am_dec am_M121 q121_112 = true := by decide +kernel
theorem b121_112 {d : Nat} {Q : Option Value ⊕ Nat → am_Mem → Prop} {μ : am_Mem} {r0 : Nat} {x1 x2 x3 x4 : Int32}
    (h1 : am_kd μ r0 = (1, 11))
    (h2 : ¬ am_F μ r0 0 = 15)
    (h3 : am_kd μ r0 = (1, 11))
    (h4 : (am_kd μ (am_F μ r0 0)).1 = 5)
    (h5 : ¬ ((am_A μ r0 1) < 0 ∨ (am_kd μ (am_F μ r0 0)).2 ≤ (am_A μ r0 1).toNatClampNeg))
    (h6 : am_kd (am_pA μ (am_F μ r0 0) (am_A μ r0 1).toNatClampNeg (((x4.toUInt32 % 65536).toInt32).toUInt32.toUInt16.toUInt32.toInt32)) r0 = (1, 11))
    (h7 : am_kd (am_pA μ (am_F μ r0 0) (am_A μ r0 1).toNatClampNeg (((x4.toUInt32 % 65536).toInt32).toUInt32.toUInt16.toUInt32.toInt32)) r0 = (1, 11))
    (k : Wp d 121 (134, [some (.ref r0), some (.int x1), some (.int x2), some (.int x3), some (.int x4)], [], (am_pA (am_pA μ (am_F μ r0 0) (am_A μ r0 1).toNatClampNeg (((x4.toUInt32 % 65536).toInt32).toUInt32.toUInt16.toUInt32.toInt32)) r0 1 ((am_A (am_pA μ (am_F μ r0 0) (am_A μ r0 1).toNatClampNeg (((x4.toUInt32 % 65536).toInt32).toUInt32.toUInt16.toUInt32.toInt32)) r0 1) + (Int32.ofInt 1)))) Q) :
    Wp d 121 (112, [some (.ref r0), some (.int x1), some (.int x2), some (.int x3), some (.int x4)], [], μ) Q := wp_blk rfl e121_112 (And.intro h1 (And.intro h2 (And.intro h3 (And.intro h4 (And.intro h5 (And.intro h6 (And.intro h7 (And.intro ⟨rfl, rfl⟩ k))))))))
def q121_134 : List (Nat × Instr × Nat) := [(134, .iinc 3 1, 3), (137, .goto (-47), 3)]
theorem e121_134 : am_dec am_M121 q121_134 = true := by decide +kernel
theorem b121_134 {d : Nat} {Q : Option Value ⊕ Nat → am_Mem → Prop} {μ : am_Mem} {r0 : Nat} {x1 x2 x3 x4 : Int32}
    (k : Wp d 121 (90, [some (.ref r0), some (.int x1), some (.int x2), some (.int (x3 + Int32.ofInt 1)), some (.int x4)], [], μ) Q) :
    Wp d 121 (134, [some (.ref r0), some (.int x1), some (.int x2), some (.int x3), some (.int x4)], [], μ) Q := wp_blk rfl e121_134 k
def q121_140 : List (Nat × Instr × Nat) := [(140, .aload_n 0, 1), (141, .getfield 13, 3)]
theorem e121_140 : am_dec am_M121 q121_140 = true := by decide +kernel
theorem e121_140_r : am_dec am_M121 [(144, .ireturn, 1)] = true := by decide +kernel
theorem b121_140 {d : Nat} {Q : Option Value ⊕ Nat → am_Mem → Prop} {μ : am_Mem} {r0 : Nat} {x1 x2 x3 : Int32} {o4 : Option Value}
    (h1 : am_kd μ r0 = (1, 11))
    (k : Q (.inl (some (.int (am_A μ r0 1)))) μ) :
    Wp d 121 (140, [some (.ref r0), some (.int x1), some (.int x2), some (.int x3), o4], [], μ) Q := wp_blk rfl e121_140 (And.intro h1 (wp_ri (ty := .int) rfl e121_140_r rfl ⟨rfl, rfl⟩ k))
/-! RuleSheets.end(I)V -/
def q122_0 : List (Nat × Instr × Nat) := [(0, .iload_n 1, 1), (1, .ifCond .lt 11, 3)]
theorem e122_0 : am_dec am_M122 q122_0 = true := by decide +kernel
theorem b122_0 {d : Nat} {Q : Option Value ⊕ Nat → am_Mem → Prop} {μ : am_Mem} {r0 : Nat} {x1 : Int32}
    (k1 : x1 < 0 → Wp d 122 (12, [some (.ref r0), some (.int x1)], [], μ) Q) (k2 : ¬ (x1 < 0) → Wp d 122 (4, [some (.ref r0), some (.int x1)], [], μ) Q) :
    Wp d 122 (0, [some (.ref r0), some (.int x1)], [], μ) Q := wp_blk rfl e122_0 (And.intro k1 k2)
def q122_4 : List (Nat × Instr × Nat) := [(4, .iload_n 1, 1), (5, .aload_n 0, 1), (6, .getfield 13, 3), (9, .if_icmp .le 13, 3)]
theorem e122_4 : am_dec am_M122 q122_4 = true := by decide +kernel
theorem b122_4 {d : Nat} {Q : Option Value ⊕ Nat → am_Mem → Prop} {μ : am_Mem} {r0 : Nat} {x1 : Int32}
    (h1 : am_kd μ r0 = (1, 11))
    (k1 : x1 ≤ (am_A μ r0 1) → Wp d 122 (22, [some (.ref r0), some (.int x1)], [], μ) Q) (k2 : ¬ (x1 ≤ (am_A μ r0 1)) → Wp d 122 (12, [some (.ref r0), some (.int x1)], [], μ) Q) :
    Wp d 122 (4, [some (.ref r0), some (.int x1)], [], μ) Q := wp_blk rfl e122_4 (And.intro h1 (And.intro k1 k2))
theorem e122_12_t : am_dc1 am_M122 12 (.new 105) 3 = true ∧ am_throw GG 11 122 12 (.new 105) = some 0 := by decide +kernel
theorem b122_12 {d : Nat} {Q : Option Value ⊕ Nat → am_Mem → Prop} {μ : am_Mem} {r0 : Nat} {x1 : Int32}
    (k : Q (.inr 0) (am_nX μ)) :
    Wp d 122 (12, [some (.ref r0), some (.int x1)], [], μ) Q := (wp_throw rfl e122_12_t.1 ⟨_, rfl⟩ rfl e122_12_t.2 rfl k)
def q122_22 : List (Nat × Instr × Nat) := [(22, .aload_n 0, 1), (23, .iload_n 1, 1), (24, .putfield 13, 3)]
theorem e122_22 : am_dec am_M122 q122_22 = true := by decide +kernel
theorem e122_22_r : am_dec am_M122 [(27, .return_, 1)] = true := by decide +kernel
theorem b122_22 {d : Nat} {Q : Option Value ⊕ Nat → am_Mem → Prop} {μ : am_Mem} {r0 : Nat} {x1 : Int32}
    (h1 : am_kd μ r0 = (1, 11))
    (k : Q (.inl none) (am_pA μ r0 1 x1)) :
    Wp d 122 (22, [some (.ref r0), some (.int x1)], [], μ) Q := wp_blk rfl e122_22 (And.intro h1 (And.intro ⟨rfl, rfl⟩ (wp_rv rfl e122_22_r rfl k)))
/-! RuleSheets.sheet(I)I -/
def q123_0 : List (Nat × Instr × Nat) := [(0, .aload_n 0, 1)]
theorem e123_0 : am_dec am_M123 q123_0 = true := by decide +kernel
theorem e123_0_c : am_dc1 am_M123 1 (.invokevirtual 143) 3 = true := by decide +kernel
theorem b123_0 {d : Nat} {Q : Option Value ⊕ Nat → am_Mem → Prop} {μ : am_Mem} {r0 : Nat} {x1 : Int32} {P : am_Mem → Prop} {X : Nat → am_Mem → Prop}
    (hk : am_kd μ r0 = (1, 11))
    (hc : Wp d 124 (0, [some (.ref r0)], [], μ) (pV P X)) (hr : ∀ μ', P μ' → Wp (d + 1) 123 (4, [some (.ref r0), some (.int x1)], [], (μ')) Q)
    (hx : ∀ x μ', X x μ' → Q (.inr x) μ') :
    Wp (d + 1) 123 (0, [some (.ref r0), some (.int x1)], [], μ) Q := wp_blk rfl e123_0 (wp_cv (as := []) rfl e123_0_c rfl rfl rfl rfl rfl hk hc (fun v μ' hv => by obtain ⟨rfl, hp⟩ := pV_r hv; exact hr μ' hp) hx)
def q123_4 : List (Nat × Instr × Nat) := [(4, .iload_n 1, 1), (5, .ifCond .eq 18, 3)]
theorem e123_4 : am_dec am_M123 q123_4 = true := by decide +kernel
theorem b123_4 {d : Nat} {Q : Option Value ⊕ Nat → am_Mem → Prop} {μ : am_Mem} {r0 : Nat} {x1 : Int32}
    (k1 : x1 = 0 → Wp d 123 (23, [some (.ref r0), some (.int x1)], [], μ) Q) (k2 : ¬ (x1 = 0) → Wp d 123 (8, [some (.ref r0), some (.int x1)], [], μ) Q) :
    Wp d 123 (4, [some (.ref r0), some (.int x1)], [], μ) Q := wp_blk rfl e123_4 (And.intro k1 k2)
def q123_8 : List (Nat × Instr × Nat) := [(8, .iload_n 1, 1), (9, .iconst 1, 1), (10, .if_icmp .eq 13, 3)]
theorem e123_8 : am_dec am_M123 q123_8 = true := by decide +kernel
theorem b123_8 {d : Nat} {Q : Option Value ⊕ Nat → am_Mem → Prop} {μ : am_Mem} {r0 : Nat} {x1 : Int32}
    (k1 : x1 = (Int32.ofInt 1) → Wp d 123 (23, [some (.ref r0), some (.int x1)], [], μ) Q) (k2 : ¬ (x1 = (Int32.ofInt 1)) → Wp d 123 (13, [some (.ref r0), some (.int x1)], [], μ) Q) :
    Wp d 123 (8, [some (.ref r0), some (.int x1)], [], μ) Q := wp_blk rfl e123_8 (And.intro k1 k2)
theorem e123_13_t : am_dc1 am_M123 13 (.new 105) 3 = true ∧ am_throw GG 11 123 13 (.new 105) = some 0 := by decide +kernel
theorem b123_13 {d : Nat} {Q : Option Value ⊕ Nat → am_Mem → Prop} {μ : am_Mem} {r0 : Nat} {x1 : Int32}
    (k : Q (.inr 0) (am_nX μ)) :
    Wp d 123 (13, [some (.ref r0), some (.int x1)], [], μ) Q := (wp_throw rfl e123_13_t.1 ⟨_, rfl⟩ rfl e123_13_t.2 rfl k)
def q123_23 : List (Nat × Instr × Nat) := [(23, .iload_n 1, 1), (24, .ifCond .ne 13, 3)]
theorem e123_23 : am_dec am_M123 q123_23 = true := by decide +kernel
theorem b123_23 {d : Nat} {Q : Option Value ⊕ Nat → am_Mem → Prop} {μ : am_Mem} {r0 : Nat} {x1 : Int32}
    (k1 : ¬ x1 = 0 → Wp d 123 (37, [some (.ref r0), some (.int x1)], [], μ) Q) (k2 : ¬ (¬ x1 = 0) → Wp d 123 (27, [some (.ref r0), some (.int x1)], [], μ) Q) :
    Wp d 123 (23, [some (.ref r0), some (.int x1)], [], μ) Q := wp_blk rfl e123_23 (And.intro k1 k2)
def q123_27 : List (Nat × Instr × Nat) := [(27, .aload_n 0, 1), (28, .getfield 32, 3), (31, .getfield 148, 3), (34, .goto 10, 3)]
theorem e123_27 : am_dec am_M123 q123_27 = true := by decide +kernel
theorem b123_27 {d : Nat} {Q : Option Value ⊕ Nat → am_Mem → Prop} {μ : am_Mem} {r0 : Nat} {x1 : Int32}
    (h1 : am_kd μ r0 = (1, 11))
    (h2 : ¬ am_F μ r0 4 = 15)
    (h3 : am_kd μ (am_F μ r0 4) = (1, 5))
    (k : Wp d 123 (44, [some (.ref r0), some (.int x1)], [.int (am_A μ (am_F μ r0 4) 13)], μ) Q) :
    Wp d 123 (27, [some (.ref r0), some (.int x1)], [], μ) Q := wp_blk rfl e123_27 (And.intro h1 (And.intro h2 (And.intro h3 k)))
def q123_37 : List (Nat × Instr × Nat) := [(37, .aload_n 0, 1), (38, .getfield 64, 3), (41, .getfield 151, 3)]
theorem e123_37 : am_dec am_M123 q123_37 = true := by decide +kernel
theorem b123_37 {d : Nat} {Q : Option Value ⊕ Nat → am_Mem → Prop} {μ : am_Mem} {r0 : Nat} {x1 : Int32}
    (h1 : am_kd μ r0 = (1, 11))
    (h2 : ¬ am_F μ r0 9 = 15)
    (h3 : am_kd μ (am_F μ r0 9) = (1, 2))
    (k : Wp d 123 (44, [some (.ref r0), some (.int x1)], [.int (am_A μ (am_F μ r0 9) 4)], μ) Q) :
    Wp d 123 (37, [some (.ref r0), some (.int x1)], [], μ) Q := wp_blk rfl e123_37 (And.intro h1 (And.intro h2 (And.intro h3 k)))
theorem e123_44_r : am_dec am_M123 [(44, .ireturn, 1)] = true := by decide +kernel
theorem b123_44 {d : Nat} {Q : Option Value ⊕ Nat → am_Mem → Prop} {μ : am_Mem} {r0 : Nat} {x1 s0 : Int32}
    (k : Q (.inl (some (.int s0))) μ) :
    Wp d 123 (44, [some (.ref r0), some (.int x1)], [.int s0], μ) Q := (wp_ri (ty := .int) rfl e123_44_r rfl ⟨rfl, rfl⟩ k)
/-! RuleSheets.needSheet()V -/
def q124_0 : List (Nat × Instr × Nat) := [(0, .aload_n 0, 1), (1, .getfield 39, 3), (4, .ifCond .ne 14, 3)]
theorem e124_0 : am_dec am_M124 q124_0 = true := by decide +kernel
theorem b124_0 {d : Nat} {Q : Option Value ⊕ Nat → am_Mem → Prop} {μ : am_Mem} {r0 : Nat}
    (h1 : am_kd μ r0 = (1, 11))
    (k1 : ¬ (am_A μ r0 6) = 0 → Wp d 124 (18, [some (.ref r0)], [], μ) Q) (k2 : ¬ (¬ (am_A μ r0 6) = 0) → Wp d 124 (7, [some (.ref r0)], [], μ) Q) :
    Wp d 124 (0, [some (.ref r0)], [], μ) Q := wp_blk rfl e124_0 (And.intro h1 (And.intro k1 k2))
theorem e124_7_t : am_dc1 am_M124 7 (.new 279) 3 = true ∧ am_throw GG 11 124 7 (.new 279) = some 1 := by decide +kernel
theorem b124_7 {d : Nat} {Q : Option Value ⊕ Nat → am_Mem → Prop} {μ : am_Mem} {r0 : Nat}
    (k : Q (.inr 1) (am_nX μ)) :
    Wp d 124 (7, [some (.ref r0)], [], μ) Q := (wp_throw rfl e124_7_t.1 ⟨_, rfl⟩ rfl e124_7_t.2 rfl k)
theorem e124_18_r : am_dec am_M124 [(18, .return_, 1)] = true := by decide +kernel
theorem b124_18 {d : Nat} {Q : Option Value ⊕ Nat → am_Mem → Prop} {μ : am_Mem} {r0 : Nat}
    (k : Q (.inl none) μ) :
    Wp d 124 (18, [some (.ref r0)], [], μ) Q := (wp_rv rfl e124_18_r rfl k)
/-! RuleSheets.start()I -/
def q125_0 : List (Nat × Instr × Nat) := [(0, .aload_n 0, 1)]
theorem e125_0 : am_dec am_M125 q125_0 = true := by decide +kernel
theorem e125_0_c : am_dc1 am_M125 1 (.invokevirtual 143) 3 = true := by decide +kernel
theorem b125_0 {d : Nat} {Q : Option Value ⊕ Nat → am_Mem → Prop} {μ : am_Mem} {r0 : Nat} {P : am_Mem → Prop} {X : Nat → am_Mem → Prop}
    (hk : am_kd μ r0 = (1, 11))
    (hc : Wp d 124 (0, [some (.ref r0)], [], μ) (pV P X)) (hr : ∀ μ', P μ' → Wp (d + 1) 125 (4, [some (.ref r0)], [], (μ')) Q)
    (hx : ∀ x μ', X x μ' → Q (.inr x) μ') :
    Wp (d + 1) 125 (0, [some (.ref r0)], [], μ) Q := wp_blk rfl e125_0 (wp_cv (as := []) rfl e125_0_c rfl rfl rfl rfl rfl hk hc (fun v μ' hv => by obtain ⟨rfl, hp⟩ := pV_r hv; exact hr μ' hp) hx)
def q125_4 : List (Nat × Instr × Nat) := [(4, .aload_n 0, 1), (5, .getfield 64, 3)]
theorem e125_4 : am_dec am_M125 q125_4 = true := by decide +kernel
theorem e125_4_c : am_dc1 am_M125 8 (.invokevirtual 154) 3 = true := by decide +kernel
theorem b125_4 {d : Nat} {Q : Option Value ⊕ Nat → am_Mem → Prop} {μ : am_Mem} {r0 : Nat} {P : am_Mem → Prop} {X : Nat → am_Mem → Prop}
    (h1 : am_kd μ r0 = (1, 11))
    (h2 : ¬ am_F μ r0 9 = 15)
    (hk : am_kd μ (am_F μ r0 9) = (1, 2))
    (hc : Wp d 36 (0, [some (.ref (am_F μ r0 9)), none, none], [], μ) (pV P X)) (hr : ∀ μ', P μ' → Wp (d + 1) 125 (11, [some (.ref r0)], [], (μ')) Q)
    (hx : ∀ x μ', X x μ' → Q (.inr x) μ') :
    Wp (d + 1) 125 (4, [some (.ref r0)], [], μ) Q := wp_blk rfl e125_4 (And.intro h1 (And.intro h2 (wp_cv (as := []) rfl e125_4_c rfl rfl rfl rfl rfl hk hc (fun v μ' hv => by obtain ⟨rfl, hp⟩ := pV_r hv; exact hr μ' hp) hx)))
def q125_11 : List (Nat × Instr × Nat) := [(11, .aload_n 0, 1), (12, .getfield 64, 3), (15, .getfield 157, 3), (18, .aload_n 0, 1), (19, .getfield 64, 3), (22, .getfield 161, 3)]
theorem e125_11 : am_dec am_M125 q125_11 = true := by decide +kernel
theorem e125_11_c : am_dc1 am_M125 25 (.invokevirtual 164) 3 = true := by decide +kernel
theorem b125_11 {d : Nat} {Q : Option Value ⊕ Nat → am_Mem → Prop} {μ : am_Mem} {r0 : Nat} {P : am_Mem → Prop} {X : Nat → am_Mem → Prop}
    (h1 : am_kd μ r0 = (1, 11))
    (h2 : ¬ am_F μ r0 9 = 15)
    (h3 : am_kd μ (am_F μ r0 9) = (1, 2))
    (h4 : ¬ am_F μ (am_F μ r0 9) 0 = 15)
    (h5 : am_kd μ r0 = (1, 11))
    (h6 : ¬ am_F μ r0 9 = 15)
    (h7 : am_kd μ (am_F μ r0 9) = (1, 2))
    (hk : am_kd μ (am_F μ (am_F μ r0 9) 0) = (1, 8))
    (hc : Wp d 90 (0, [some (.ref (am_F μ (am_F μ r0 9) 0)), some (.int (am_A μ (am_F μ r0 9) 15)), none], [], μ) (pV P X)) (hr : ∀ μ', P μ' → Wp (d + 1) 125 (28, [some (.ref r0)], [], (μ')) Q)
    (hx : ∀ x μ', X x μ' → Q (.inr x) μ') :
    Wp (d + 1) 125 (11, [some (.ref r0)], [], μ) Q := wp_blk rfl e125_11 (And.intro h1 (And.intro h2 (And.intro h3 (And.intro h4 (And.intro h5 (And.intro h6 (And.intro h7 (wp_cv (as := [.int (am_A μ (am_F μ r0 9) 15)]) rfl e125_11_c rfl rfl rfl rfl rfl hk hc (fun v μ' hv => by obtain ⟨rfl, hp⟩ := pV_r hv; exact hr μ' hp) hx))))))))
def q125_28 : List (Nat × Instr × Nat) := [(28, .aload_n 0, 1), (29, .getfield 64, 3), (32, .aload_n 0, 1), (33, .getfield 68, 3), (36, .iconst 0, 1), (37, .aload_n 0, 1), (38, .getfield 81, 3), (41, .getfield 170, 3), (44, .iconst 0, 1)]
theorem e125_28 : am_dec am_M125 q125_28 = true := by decide +kernel
theorem e125_28_c : am_dc1 am_M125 45 (.invokevirtual 173) 3 = true := by decide +kernel
theorem b125_28 {d : Nat} {Q : Option Value ⊕ Nat → am_Mem → Prop} {μ : am_Mem} {r0 : Nat} {P : am_Mem → Prop} {X : Nat → am_Mem → Prop}
    (h1 : am_kd μ r0 = (1, 11))
    (h2 : ¬ am_F μ r0 9 = 15)
    (h3 : am_kd μ r0 = (1, 11))
    (h4 : ¬ am_F μ r0 10 = 15)
    (h5 : am_kd μ r0 = (1, 11))
    (h6 : ¬ am_F μ r0 13 = 15)
    (h7 : am_kd μ (am_F μ r0 13) = (1, 10))
    (h8 : ¬ am_F μ (am_F μ r0 13) 5 = 15)
    (hk : am_kd μ (am_F μ r0 9) = (1, 2))
    (hc : Wp d 45 (0, [some (.ref (am_F μ r0 9)), some (.ref (am_F μ r0 10)), some (.int (Int32.ofInt 0)), some (.ref (am_F μ (am_F μ r0 13) 5)), some (.int (Int32.ofInt 0)), none, none], [], μ) (pV P X)) (hr : ∀ μ', P μ' → Wp (d + 1) 125 (48, [some (.ref r0)], [], (μ')) Q)
    (hx : ∀ x μ', X x μ' → Q (.inr x) μ') :
    Wp (d + 1) 125 (28, [some (.ref r0)], [], μ) Q := wp_blk rfl e125_28 (And.intro h1 (And.intro h2 (And.intro h3 (And.intro h4 (And.intro h5 (And.intro h6 (And.intro h7 (And.intro h8 (wp_cv (as := [.ref (am_F μ r0 10), .int (Int32.ofInt 0), .ref (am_F μ (am_F μ r0 13) 5), .int (Int32.ofInt 0)]) rfl e125_28_c rfl rfl rfl rfl rfl hk hc (fun v μ' hv => by obtain ⟨rfl, hp⟩ := pV_r hv; exact hr μ' hp) hx)))))))))
def q125_48 : List (Nat × Instr × Nat) := [(48, .aload_n 0, 1), (49, .iconst 1, 1)]
theorem e125_48 : am_dec am_M125 q125_48 = true := by decide +kernel
theorem e125_48_c : am_dc1 am_M125 50 (.invokevirtual 177) 3 = true := by decide +kernel
theorem b125_48 {d : Nat} {Q : Option Value ⊕ Nat → am_Mem → Prop} {μ : am_Mem} {r0 : Nat} {P : am_Mem → Prop} {X : Nat → am_Mem → Prop}
    (hk : am_kd μ r0 = (1, 11))
    (hc : Wp d 126 (0, [some (.ref r0), some (.int (Int32.ofInt 1)), none, none], [], μ) (pV P X)) (hr : ∀ μ', P μ' → Wp (d + 1) 125 (53, [some (.ref r0)], [], (μ')) Q)
    (hx : ∀ x μ', X x μ' → Q (.inr x) μ') :
    Wp (d + 1) 125 (48, [some (.ref r0)], [], μ) Q := wp_blk rfl e125_48 (wp_cv (as := [.int (Int32.ofInt 1)]) rfl e125_48_c rfl rfl rfl rfl rfl hk hc (fun v μ' hv => by obtain ⟨rfl, hp⟩ := pV_r hv; exact hr μ' hp) hx)
def q125_53 : List (Nat × Instr × Nat) := [(53, .aload_n 0, 1), (54, .getfield 75, 3)]
theorem e125_53 : am_dec am_M125 q125_53 = true := by decide +kernel
theorem e125_53_r : am_dec am_M125 [(57, .ireturn, 1)] = true := by decide +kernel
theorem b125_53 {d : Nat} {Q : Option Value ⊕ Nat → am_Mem → Prop} {μ : am_Mem} {r0 : Nat}
    (h1 : am_kd μ r0 = (1, 11))
    (k : Q (.inl (some (.int (am_A μ r0 12)))) μ) :
    Wp d 125 (53, [some (.ref r0)], [], μ) Q := wp_blk rfl e125_53 (And.intro h1 (wp_ri (ty := .int) rfl e125_53_r rfl ⟨rfl, rfl⟩ k))
/-! RuleSheets.become(I)V -/
def q126_0 : List (Nat × Instr × Nat) := [(0, .aload_n 0, 1), (1, .getfield 64, 3), (4, .iload_n 1, 1), (5, .aload_n 0, 1), (6, .getfield 72, 3)]
theorem e126_0 : am_dec am_M126 q126_0 = true := by decide +kernel
theorem e126_0_c : am_dc1 am_M126 9 (.invokevirtual 310) 3 = true := by decide +kernel
theorem b126_0 {d : Nat} {Q : Option Value ⊕ Nat → am_Mem → Prop} {μ : am_Mem} {r0 : Nat} {x1 : Int32} {P : Int32 → am_Mem → Prop} {X : Nat → am_Mem → Prop}
    (h1 : am_kd μ r0 = (1, 11))
    (h2 : ¬ am_F μ r0 9 = 15)
    (h3 : am_kd μ r0 = (1, 11))
    (h4 : ¬ am_F μ r0 11 = 15)
    (hk : am_kd μ (am_F μ r0 9) = (1, 2))
    (hc : Wp d 46 (0, [some (.ref (am_F μ r0 9)), some (.int x1), some (.ref (am_F μ r0 11)), none, none, none], [], μ) (pI P X)) (hr : ∀ x μ', P x μ' → Wp (d + 1) 126 (12, [some (.ref r0), some (.int x1), none, none], [.int x], (μ')) Q)
    (hx : ∀ x μ', X x μ' → Q (.inr x) μ') :
    Wp (d + 1) 126 (0, [some (.ref r0), some (.int x1), none, none], [], μ) Q := wp_blk rfl e126_0 (And.intro h1 (And.intro h2 (And.intro h3 (And.intro h4 (wp_cv (as := [.int x1, .ref (am_F μ r0 11)]) rfl e126_0_c rfl rfl rfl rfl rfl hk hc (fun v μ' hv => by obtain ⟨x, rfl, hp⟩ := pI_r hv; exact hr x μ' hp) hx)))))
def q126_12 : List (Nat × Instr × Nat) := [(12, .istore_n 2, 1), (13, .aload_n 0, 1), (14, .getfield 64, 3), (17, .getfield 157, 3), (20, .aload_n 0, 1), (21, .getfield 72, 3), (24, .iload_n 2, 1), (25, .aload_n 0, 1), (26, .getfield 64, 3), (29, .getfield 314, 3)]
theorem e126_12 : am_dec am_M126 q126_12 = true := by decide +kernel
theorem e126_12_c : am_dc1 am_M126 32 (.invokevirtual 305) 3 = true := by decide +kernel
theorem b126_12 {d : Nat} {Q : Option Value ⊕ Nat → am_Mem → Prop} {μ : am_Mem} {r0 : Nat} {x1 s0 : Int32} {P : am_Mem → Prop} {X : Nat → am_Mem → Prop}
    (h1 : am_kd μ r0 = (1, 11))
    (h2 : ¬ am_F μ r0 9 = 15)
    (h3 : am_kd μ (am_F μ r0 9) = (1, 2))
    (h4 : ¬ am_F μ (am_F μ r0 9) 0 = 15)
    (h5 : am_kd μ r0 = (1, 11))
    (h6 : ¬ am_F μ r0 11 = 15)
    (h7 : am_kd μ r0 = (1, 11))
    (h8 : ¬ am_F μ r0 9 = 15)
    (h9 : am_kd μ (am_F μ r0 9) = (1, 2))
    (hk : am_kd μ (am_F μ (am_F μ r0 9) 0) = (1, 8))
    (hc : Wp d 94 (0, [some (.ref (am_F μ (am_F μ r0 9) 0)), some (.ref (am_F μ r0 11)), some (.int s0), some (.int (am_A μ (am_F μ r0 9) 14)), none, none, none], [], μ) (pV P X)) (hr : ∀ μ', P μ' → Wp (d + 1) 126 (35, [some (.ref r0), some (.int x1), some (.int s0), none], [], (μ')) Q)
    (hx : ∀ x μ', X x μ' → Q (.inr x) μ') :
    Wp (d + 1) 126 (12, [some (.ref r0), some (.int x1), none, none], [.int s0], μ) Q := wp_blk rfl e126_12 (And.intro h1 (And.intro h2 (And.intro h3 (And.intro h4 (And.intro h5 (And.intro h6 (And.intro h7 (And.intro h8 (And.intro h9 (wp_cv (as := [.ref (am_F μ r0 11), .int s0, .int (am_A μ (am_F μ r0 9) 14)]) rfl e126_12_c rfl rfl rfl rfl rfl hk hc (fun v μ' hv => by obtain ⟨rfl, hp⟩ := pV_r hv; exact hr μ' hp) hx))))))))))
def q126_35 : List (Nat × Instr × Nat) := [(35, .iconst 0, 1), (36, .istore_n 3, 1)]
theorem e126_35 : am_dec am_M126 q126_35 = true := by decide +kernel
theorem b126_35 {d : Nat} {Q : Option Value ⊕ Nat → am_Mem → Prop} {μ : am_Mem} {r0 : Nat} {x1 x2 : Int32}
    (k : Wp d 126 (37, [some (.ref r0), some (.int x1), some (.int x2), some (.int (Int32.ofInt 0))], [], μ) Q) :
    Wp d 126 (35, [some (.ref r0), some (.int x1), some (.int x2), none], [], μ) Q := wp_blk rfl e126_35 k
def q126_37 : List (Nat × Instr × Nat) := [(37, .iload_n 3, 1), (38, .iload_n 2, 1), (39, .if_icmp .ge 31, 3)]
theorem e126_37 : am_dec am_M126 q126_37 = true := by decide +kernel
theorem b126_37 {d : Nat} {Q : Option Value ⊕ Nat → am_Mem → Prop} {μ : am_Mem} {r0 : Nat} {x1 x2 x3 : Int32}
    (k1 : x2 ≤ x3 → Wp d 126 (70, [some (.ref r0), some (.int x1), some (.int x2), some (.int x3)], [], μ) Q) (k2 : ¬ (x2 ≤ x3) → Wp d 126 (42, [some (.ref r0), some (.int x1), some (.int x2), some (.int x3)], [], μ) Q) :
    Wp d 126 (37, [some (.ref r0), some (.int x1), some (.int x2), some (.int x3)], [], μ) Q := wp_blk rfl e126_37 (And.intro k1 k2)
def q126_42 : List (Nat × Instr × Nat) := [(42, .aload_n 0, 1), (43, .getfield 64, 3), (46, .getfield 157, 3), (49, .aload_n 0, 1), (50, .getfield 68, 3), (53, .iconst 0, 1), (54, .iload_n 3, 1), (55, .aload_n 0, 1), (56, .getfield 72, 3), (59, .iload_n 3, 1), (60, .iaload, 1)]
theorem e126_42 : am_dec am_M126 q126_42 = true := by decide +kernel
theorem e126_42_c : am_dc1 am_M126 61 (.invokevirtual 317) 3 = true := by decide +kernel
theorem b126_42 {d : Nat} {Q : Option Value ⊕ Nat → am_Mem → Prop} {μ : am_Mem} {r0 : Nat} {x1 x2 x3 : Int32} {P : am_Mem → Prop} {X : Nat → am_Mem → Prop}
    (h1 : am_kd μ r0 = (1, 11))
    (h2 : ¬ am_F μ r0 9 = 15)
    (h3 : am_kd μ (am_F μ r0 9) = (1, 2))
    (h4 : ¬ am_F μ (am_F μ r0 9) 0 = 15)
    (h5 : am_kd μ r0 = (1, 11))
    (h6 : ¬ am_F μ r0 10 = 15)
    (h7 : am_kd μ r0 = (1, 11))
    (h8 : ¬ am_F μ r0 11 = 15)
    (h9 : (am_kd μ (am_F μ r0 11)).1 = 2 ∨ (am_kd μ (am_F μ r0 11)).1 = 8)
    (h10 : ¬ (x3 < 0 ∨ (am_kd μ (am_F μ r0 11)).2 ≤ x3.toNatClampNeg))
    (hk : am_kd μ (am_F μ (am_F μ r0 9) 0) = (1, 8))
    (hc : Wp d 97 (0, [some (.ref (am_F μ (am_F μ r0 9) 0)), some (.ref (am_F μ r0 10)), some (.int (Int32.ofInt 0)), some (.int x3), some (.int (am_A μ (am_F μ r0 11) x3.toNatClampNeg)), none, none, none, none], [], μ) (pV P X)) (hr : ∀ μ', P μ' → Wp (d + 1) 126 (64, [some (.ref r0), some (.int x1), some (.int x2), some (.int x3)], [], (μ')) Q)
    (hx : ∀ x μ', X x μ' → Q (.inr x) μ') :
    Wp (d + 1) 126 (42, [some (.ref r0), some (.int x1), some (.int x2), some (.int x3)], [], μ) Q := wp_blk rfl e126_42 (And.intro h1 (And.intro h2 (And.intro h3 (And.intro h4 (And.intro h5 (And.intro h6 (And.intro h7 (And.intro h8 (And.intro h9 (And.intro h10 (wp_cv (as := [.ref (am_F μ r0 10), .int (Int32.ofInt 0), .int x3, .int (am_A μ (am_F μ r0 11) x3.toNatClampNeg)]) rfl e126_42_c rfl rfl rfl rfl rfl hk hc (fun v μ' hv => by obtain ⟨rfl, hp⟩ := pV_r hv; exact hr μ' hp) hx)))))))))))
def q126_64 : List (Nat × Instr × Nat) := [(64, .iinc 3 1, 3), (67, .goto (-30), 3)]
theorem e126_64 : am_dec am_M126 q126_64 = true := by decide +kernel
theorem b126_64 {d : Nat} {Q : Option Value ⊕ Nat → am_Mem → Prop} {μ : am_Mem} {r0 : Nat} {x1 x2 x3 : Int32}
    (k : Wp d 126 (37, [some (.ref r0), some (.int x1), some (.int x2), some (.int (x3 + Int32.ofInt 1))], [], μ) Q) :
    Wp d 126 (64, [some (.ref r0), some (.int x1), some (.int x2), some (.int x3)], [], μ) Q := wp_blk rfl e126_64 k
def q126_70 : List (Nat × Instr × Nat) := [(70, .aload_n 0, 1), (71, .iload_n 2, 1), (72, .putfield 75, 3), (75, .aload_n 0, 1), (76, .getfield 64, 3), (79, .aload_n 0, 1), (80, .getfield 64, 3), (83, .getfield 157, 3), (86, .getfield 309, 3), (89, .putfield 161, 3)]
theorem e126_70 : am_dec am_M126 q126_70 = true := by decide +kernel
theorem b126_70 {d : Nat} {Q : Option Value ⊕ Nat → am_Mem → Prop} {μ : am_Mem} {r0 : Nat} {x1 x2 x3 : Int32}
    (h1 : am_kd μ r0 = (1, 11))
    (h2 : am_kd (am_pA μ r0 12 x2) r0 = (1, 11))
    (h3 : ¬ am_F (am_pA μ r0 12 x2) r0 9 = 15)
    (h4 : am_kd (am_pA μ r0 12 x2) r0 = (1, 11))
    (h5 : ¬ am_F (am_pA μ r0 12 x2) r0 9 = 15)
    (h6 : am_kd (am_pA μ r0 12 x2) (am_F (am_pA μ r0 12 x2) r0 9) = (1, 2))
    (h7 : ¬ am_F (am_pA μ r0 12 x2) (am_F (am_pA μ r0 12 x2) r0 9) 0 = 15)
    (h8 : am_kd (am_pA μ r0 12 x2) (am_F (am_pA μ r0 12 x2) (am_F (am_pA μ r0 12 x2) r0 9) 0) = (1, 8))
    (h9 : am_kd (am_pA μ r0 12 x2) (am_F (am_pA μ r0 12 x2) r0 9) = (1, 2))
    (k : Wp d 126 (92, [some (.ref r0), some (.int x1), some (.int x2), some (.int x3)], [], (am_pA (am_pA μ r0 12 x2) (am_F (am_pA μ r0 12 x2) r0 9) 15 (am_A (am_pA μ r0 12 x2) (am_F (am_pA μ r0 12 x2) (am_F (am_pA μ r0 12 x2) r0 9) 0) 9))) Q) :
    Wp d 126 (70, [some (.ref r0), some (.int x1), some (.int x2), some (.int x3)], [], μ) Q := wp_blk rfl e126_70 (And.intro h1 (And.intro ⟨rfl, rfl⟩ (And.intro h2 (And.intro h3 (And.intro h4 (And.intro h5 (And.intro h6 (And.intro h7 (And.intro h8 (And.intro h9 (And.intro ⟨rfl, rfl⟩ k)))))))))))
def q126_92 : List (Nat × Instr × Nat) := [(92, .aload_n 0, 1), (93, .iconst 0, 1), (94, .putfield 85, 3)]
theorem e126_92 : am_dec am_M126 q126_92 = true := by decide +kernel
theorem e126_92_r : am_dec am_M126 [(97, .return_, 1)] = true := by decide +kernel
theorem b126_92 {d : Nat} {Q : Option Value ⊕ Nat → am_Mem → Prop} {μ : am_Mem} {r0 : Nat} {x1 x2 x3 : Int32}
    (h1 : am_kd μ r0 = (1, 11))
    (k : Q (.inl none) (am_pA μ r0 14 (Int32.ofInt 0))) :
    Wp d 126 (92, [some (.ref r0), some (.int x1), some (.int x2), some (.int x3)], [], μ) Q := wp_blk rfl e126_92 (And.intro h1 (And.intro ⟨rfl, rfl⟩ (wp_rv rfl e126_92_r rfl k)))
/-! RuleSheets.moves(I)I -/
def q127_0 : List (Nat × Instr × Nat) := [(0, .aload_n 0, 1)]
theorem e127_0 : am_dec am_M127 q127_0 = true := by decide +kernel
theorem e127_0_c : am_dc1 am_M127 1 (.invokevirtual 180) 3 = true := by decide +kernel
theorem b127_0 {d : Nat} {Q : Option Value ⊕ Nat → am_Mem → Prop} {μ : am_Mem} {r0 : Nat} {x1 : Int32} {P : am_Mem → Prop} {X : Nat → am_Mem → Prop}
    (hk : am_kd μ r0 = (1, 11))
    (hc : Wp d 128 (0, [some (.ref r0)], [], μ) (pV P X)) (hr : ∀ μ', P μ' → Wp (d + 1) 127 (4, [some (.ref r0), some (.int x1)], [], (μ')) Q)
    (hx : ∀ x μ', X x μ' → Q (.inr x) μ') :
    Wp (d + 1) 127 (0, [some (.ref r0), some (.int x1)], [], μ) Q := wp_blk rfl e127_0 (wp_cv (as := []) rfl e127_0_c rfl rfl rfl rfl rfl hk hc (fun v μ' hv => by obtain ⟨rfl, hp⟩ := pV_r hv; exact hr μ' hp) hx)
def q127_4 : List (Nat × Instr × Nat) := [(4, .aload_n 0, 1), (5, .iload_n 1, 1)]
theorem e127_4 : am_dec am_M127 q127_4 = true := by decide +kernel
theorem e127_4_c : am_dc1 am_M127 6 (.invokevirtual 183) 3 = true := by decide +kernel
theorem b127_4 {d : Nat} {Q : Option Value ⊕ Nat → am_Mem → Prop} {μ : am_Mem} {r0 : Nat} {x1 : Int32} {P : am_Mem → Prop} {X : Nat → am_Mem → Prop}
    (hk : am_kd μ r0 = (1, 11))
    (hc : Wp d 129 (0, [some (.ref r0), some (.int x1)], [], μ) (pV P X)) (hr : ∀ μ', P μ' → Wp (d + 1) 127 (9, [some (.ref r0), some (.int x1)], [], (μ')) Q)
    (hx : ∀ x μ', X x μ' → Q (.inr x) μ') :
    Wp (d + 1) 127 (4, [some (.ref r0), some (.int x1)], [], μ) Q := wp_blk rfl e127_4 (wp_cv (as := [.int x1]) rfl e127_4_c rfl rfl rfl rfl rfl hk hc (fun v μ' hv => by obtain ⟨rfl, hp⟩ := pV_r hv; exact hr μ' hp) hx)
def q127_9 : List (Nat × Instr × Nat) := [(9, .aload_n 0, 1)]
theorem e127_9 : am_dec am_M127 q127_9 = true := by decide +kernel
theorem e127_9_c : am_dc1 am_M127 10 (.invokevirtual 186) 3 = true := by decide +kernel
theorem b127_9 {d : Nat} {Q : Option Value ⊕ Nat → am_Mem → Prop} {μ : am_Mem} {r0 : Nat} {x1 : Int32} {P : am_Mem → Prop} {X : Nat → am_Mem → Prop}
    (hk : am_kd μ r0 = (1, 11))
    (hc : Wp d 130 (0, [some (.ref r0)], [], μ) (pV P X)) (hr : ∀ μ', P μ' → Wp (d + 1) 127 (13, [some (.ref r0), some (.int x1)], [], (μ')) Q)
    (hx : ∀ x μ', X x μ' → Q (.inr x) μ') :
    Wp (d + 1) 127 (9, [some (.ref r0), some (.int x1)], [], μ) Q := wp_blk rfl e127_9 (wp_cv (as := []) rfl e127_9_c rfl rfl rfl rfl rfl hk hc (fun v μ' hv => by obtain ⟨rfl, hp⟩ := pV_r hv; exact hr μ' hp) hx)
def q127_13 : List (Nat × Instr × Nat) := [(13, .aload_n 0, 1), (14, .getfield 81, 3), (17, .iload_n 1, 1)]
theorem e127_13 : am_dec am_M127 q127_13 = true := by decide +kernel
theorem e127_13_c : am_dc1 am_M127 18 (.invokevirtual 189) 3 = true := by decide +kernel
theorem b127_13 {d : Nat} {Q : Option Value ⊕ Nat → am_Mem → Prop} {μ : am_Mem} {r0 : Nat} {x1 : Int32} {P : Int32 → am_Mem → Prop} {X : Nat → am_Mem → Prop}
    (h1 : am_kd μ r0 = (1, 11))
    (h2 : ¬ am_F μ r0 13 = 15)
    (hk : am_kd μ (am_F μ r0 13) = (1, 10))
    (hc : Wp d 114 (0, [some (.ref (am_F μ r0 13)), some (.int x1)], [], μ) (pI P X)) (hr : ∀ x μ', P x μ' → Wp (d + 1) 127 (21, [some (.ref r0), some (.int x1)], [.int x], (μ')) Q)
    (hx : ∀ x μ', X x μ' → Q (.inr x) μ') :
    Wp (d + 1) 127 (13, [some (.ref r0), some (.int x1)], [], μ) Q := wp_blk rfl e127_13 (And.intro h1 (And.intro h2 (wp_cv (as := [.int x1]) rfl e127_13_c rfl rfl rfl rfl rfl hk hc (fun v μ' hv => by obtain ⟨x, rfl, hp⟩ := pI_r hv; exact hr x μ' hp) hx)))
theorem e127_21_r : am_dec am_M127 [(21, .ireturn, 1)] = true := by decide +kernel
theorem b127_21 {d : Nat} {Q : Option Value ⊕ Nat → am_Mem → Prop} {μ : am_Mem} {r0 : Nat} {x1 s0 : Int32}
    (k : Q (.inl (some (.int s0))) μ) :
    Wp d 127 (21, [some (.ref r0), some (.int x1)], [.int s0], μ) Q := (wp_ri (ty := .int) rfl e127_21_r rfl ⟨rfl, rfl⟩ k)
/-! RuleSheets.needState()V -/
def q128_0 : List (Nat × Instr × Nat) := [(0, .aload_n 0, 1), (1, .getfield 75, 3), (4, .iconst (-1), 1), (5, .if_icmp .ne 14, 3)]
theorem e128_0 : am_dec am_M128 q128_0 = true := by decide +kernel
theorem b128_0 {d : Nat} {Q : Option Value ⊕ Nat → am_Mem → Prop} {μ : am_Mem} {r0 : Nat}
    (h1 : am_kd μ r0 = (1, 11))
    (k1 : ¬ (am_A μ r0 12) = (Int32.ofInt (-1)) → Wp d 128 (19, [some (.ref r0)], [], μ) Q) (k2 : ¬ (¬ (am_A μ r0 12) = (Int32.ofInt (-1))) → Wp d 128 (8, [some (.ref r0)], [], μ) Q) :
    Wp d 128 (0, [some (.ref r0)], [], μ) Q := wp_blk rfl e128_0 (And.intro h1 (And.intro k1 k2))
theorem e128_8_t : am_dc1 am_M128 8 (.new 279) 3 = true ∧ am_throw GG 11 128 8 (.new 279) = some 1 := by decide +kernel
theorem b128_8 {d : Nat} {Q : Option Value ⊕ Nat → am_Mem → Prop} {μ : am_Mem} {r0 : Nat}
    (k : Q (.inr 1) (am_nX μ)) :
    Wp d 128 (8, [some (.ref r0)], [], μ) Q := (wp_throw rfl e128_8_t.1 ⟨_, rfl⟩ rfl e128_8_t.2 rfl k)
theorem e128_19_r : am_dec am_M128 [(19, .return_, 1)] = true := by decide +kernel
theorem b128_19 {d : Nat} {Q : Option Value ⊕ Nat → am_Mem → Prop} {μ : am_Mem} {r0 : Nat}
    (k : Q (.inl none) μ) :
    Wp d 128 (19, [some (.ref r0)], [], μ) Q := (wp_rv rfl e128_19_r rfl k)
/-! RuleSheets.needRole(I)V -/
def q129_0 : List (Nat × Instr × Nat) := [(0, .iload_n 1, 1), (1, .ifCond .lt 14, 3)]
theorem e129_0 : am_dec am_M129 q129_0 = true := by decide +kernel
theorem b129_0 {d : Nat} {Q : Option Value ⊕ Nat → am_Mem → Prop} {μ : am_Mem} {r0 : Nat} {x1 : Int32}
    (k1 : x1 < 0 → Wp d 129 (15, [some (.ref r0), some (.int x1)], [], μ) Q) (k2 : ¬ (x1 < 0) → Wp d 129 (4, [some (.ref r0), some (.int x1)], [], μ) Q) :
    Wp d 129 (0, [some (.ref r0), some (.int x1)], [], μ) Q := wp_blk rfl e129_0 (And.intro k1 k2)
def q129_4 : List (Nat × Instr × Nat) := [(4, .iload_n 1, 1), (5, .aload_n 0, 1), (6, .getfield 64, 3), (9, .getfield 151, 3), (12, .if_icmp .lt 14, 3)]
theorem e129_4 : am_dec am_M129 q129_4 = true := by decide +kernel
theorem b129_4 {d : Nat} {Q : Option Value ⊕ Nat → am_Mem → Prop} {μ : am_Mem} {r0 : Nat} {x1 : Int32}
    (h1 : am_kd μ r0 = (1, 11))
    (h2 : ¬ am_F μ r0 9 = 15)
    (h3 : am_kd μ (am_F μ r0 9) = (1, 2))
    (k1 : x1 < (am_A μ (am_F μ r0 9) 4) → Wp d 129 (26, [some (.ref r0), some (.int x1)], [], μ) Q) (k2 : ¬ (x1 < (am_A μ (am_F μ r0 9) 4)) → Wp d 129 (15, [some (.ref r0), some (.int x1)], [], μ) Q) :
    Wp d 129 (4, [some (.ref r0), some (.int x1)], [], μ) Q := wp_blk rfl e129_4 (And.intro h1 (And.intro h2 (And.intro h3 (And.intro k1 k2))))
theorem e129_15_t : am_dc1 am_M129 15 (.new 199) 3 = true ∧ am_throw GG 11 129 15 (.new 199) = some 2 := by decide +kernel
theorem b129_15 {d : Nat} {Q : Option Value ⊕ Nat → am_Mem → Prop} {μ : am_Mem} {r0 : Nat} {x1 : Int32}
    (k : Q (.inr 2) (am_nX μ)) :
    Wp d 129 (15, [some (.ref r0), some (.int x1)], [], μ) Q := (wp_throw rfl e129_15_t.1 ⟨_, rfl⟩ rfl e129_15_t.2 rfl k)
theorem e129_26_r : am_dec am_M129 [(26, .return_, 1)] = true := by decide +kernel
theorem b129_26 {d : Nat} {Q : Option Value ⊕ Nat → am_Mem → Prop} {μ : am_Mem} {r0 : Nat} {x1 : Int32}
    (k : Q (.inl none) μ) :
    Wp d 129 (26, [some (.ref r0), some (.int x1)], [], μ) Q := (wp_rv rfl e129_26_r rfl k)
/-! RuleSheets.look()V -/
def q130_0 : List (Nat × Instr × Nat) := [(0, .aload_n 0, 1), (1, .getfield 85, 3), (4, .ifCond .ne 112, 3)]
theorem e130_0 : am_dec am_M130 q130_0 = true := by decide +kernel
theorem b130_0 {d : Nat} {Q : Option Value ⊕ Nat → am_Mem → Prop} {μ : am_Mem} {r0 : Nat}
    (h1 : am_kd μ r0 = (1, 11))
    (k1 : ¬ (am_A μ r0 14) = 0 → Wp d 130 (116, [some (.ref r0)], [], μ) Q) (k2 : ¬ (¬ (am_A μ r0 14) = 0) → Wp d 130 (7, [some (.ref r0)], [], μ) Q) :
    Wp d 130 (0, [some (.ref r0)], [], μ) Q := wp_blk rfl e130_0 (And.intro h1 (And.intro k1 k2))
def q130_7 : List (Nat × Instr × Nat) := [(7, .aload_n 0, 1), (8, .iconst 2, 1), (9, .putfield 85, 3), (12, .aload_n 0, 1), (13, .getfield 64, 3), (16, .getfield 157, 3), (19, .aload_n 0, 1), (20, .getfield 64, 3), (23, .getfield 161, 3)]
theorem e130_7 : am_dec am_M130 q130_7 = true := by decide +kernel
theorem e130_7_c : am_dc1 am_M130 26 (.invokevirtual 164) 3 = true := by decide +kernel
theorem b130_7 {d : Nat} {Q : Option Value ⊕ Nat → am_Mem → Prop} {μ : am_Mem} {r0 : Nat} {P : am_Mem → Prop} {X : Nat → am_Mem → Prop}
    (h1 : am_kd μ r0 = (1, 11))
    (h2 : am_kd (am_pA μ r0 14 (Int32.ofInt 2)) r0 = (1, 11))
    (h3 : ¬ am_F (am_pA μ r0 14 (Int32.ofInt 2)) r0 9 = 15)
    (h4 : am_kd (am_pA μ r0 14 (Int32.ofInt 2)) (am_F (am_pA μ r0 14 (Int32.ofInt 2)) r0 9) = (1, 2))
    (h5 : ¬ am_F (am_pA μ r0 14 (Int32.ofInt 2)) (am_F (am_pA μ r0 14 (Int32.ofInt 2)) r0 9) 0 = 15)
    (h6 : am_kd (am_pA μ r0 14 (Int32.ofInt 2)) r0 = (1, 11))
    (h7 : ¬ am_F (am_pA μ r0 14 (Int32.ofInt 2)) r0 9 = 15)
    (h8 : am_kd (am_pA μ r0 14 (Int32.ofInt 2)) (am_F (am_pA μ r0 14 (Int32.ofInt 2)) r0 9) = (1, 2))
    (hk : am_kd (am_pA μ r0 14 (Int32.ofInt 2)) (am_F (am_pA μ r0 14 (Int32.ofInt 2)) (am_F (am_pA μ r0 14 (Int32.ofInt 2)) r0 9) 0) = (1, 8))
    (hc : Wp d 90 (0, [some (.ref (am_F (am_pA μ r0 14 (Int32.ofInt 2)) (am_F (am_pA μ r0 14 (Int32.ofInt 2)) r0 9) 0)), some (.int (am_A (am_pA μ r0 14 (Int32.ofInt 2)) (am_F (am_pA μ r0 14 (Int32.ofInt 2)) r0 9) 15)), none], [], (am_pA μ r0 14 (Int32.ofInt 2))) (pV P X)) (hr : ∀ μ', P μ' → Wp (d + 1) 130 (29, [some (.ref r0)], [], (μ')) Q)
    (hx : ∀ x μ', X x μ' → Q (.inr x) μ') :
    Wp (d + 1) 130 (7, [some (.ref r0)], [], μ) Q := wp_blk rfl e130_7 (And.intro h1 (And.intro ⟨rfl, rfl⟩ (And.intro h2 (And.intro h3 (And.intro h4 (And.intro h5 (And.intro h6 (And.intro h7 (And.intro h8 (wp_cv (as := [.int (am_A (am_pA μ r0 14 (Int32.ofInt 2)) (am_F (am_pA μ r0 14 (Int32.ofInt 2)) r0 9) 15)]) rfl e130_7_c rfl rfl rfl rfl rfl hk hc (fun v μ' hv => by obtain ⟨rfl, hp⟩ := pV_r hv; exact hr μ' hp) hx))))))))))
def q130_29 : List (Nat × Instr × Nat) := [(29, .aload_n 0, 1), (30, .getfield 64, 3), (33, .aload_n 0, 1), (34, .getfield 68, 3), (37, .aload_n 0, 1), (38, .getfield 75, 3), (41, .aload_n 0, 1), (42, .getfield 81, 3), (45, .getfield 170, 3), (48, .iconst 0, 1)]
theorem e130_29 : am_dec am_M130 q130_29 = true := by decide +kernel
theorem e130_29_c : am_dc1 am_M130 49 (.invokevirtual 173) 3 = true := by decide +kernel
theorem b130_29 {d : Nat} {Q : Option Value ⊕ Nat → am_Mem → Prop} {μ : am_Mem} {r0 : Nat} {P : am_Mem → Prop} {X : Nat → am_Mem → Prop}
    (h1 : am_kd μ r0 = (1, 11))
    (h2 : ¬ am_F μ r0 9 = 15)
    (h3 : am_kd μ r0 = (1, 11))
    (h4 : ¬ am_F μ r0 10 = 15)
    (h5 : am_kd μ r0 = (1, 11))
    (h6 : am_kd μ r0 = (1, 11))
    (h7 : ¬ am_F μ r0 13 = 15)
    (h8 : am_kd μ (am_F μ r0 13) = (1, 10))
    (h9 : ¬ am_F μ (am_F μ r0 13) 5 = 15)
    (hk : am_kd μ (am_F μ r0 9) = (1, 2))
    (hc : Wp d 45 (0, [some (.ref (am_F μ r0 9)), some (.ref (am_F μ r0 10)), some (.int (am_A μ r0 12)), some (.ref (am_F μ (am_F μ r0 13) 5)), some (.int (Int32.ofInt 0)), none, none], [], μ) (pV P X)) (hr : ∀ μ', P μ' → Wp (d + 1) 130 (52, [some (.ref r0)], [], (μ')) Q)
    (hx : ∀ x μ', X x μ' → Q (.inr x) μ') :
    Wp (d + 1) 130 (29, [some (.ref r0)], [], μ) Q := wp_blk rfl e130_29 (And.intro h1 (And.intro h2 (And.intro h3 (And.intro h4 (And.intro h5 (And.intro h6 (And.intro h7 (And.intro h8 (And.intro h9 (wp_cv (as := [.ref (am_F μ r0 10), .int (am_A μ r0 12), .ref (am_F μ (am_F μ r0 13) 5), .int (Int32.ofInt 0)]) rfl e130_29_c rfl rfl rfl rfl rfl hk hc (fun v μ' hv => by obtain ⟨rfl, hp⟩ := pV_r hv; exact hr μ' hp) hx))))))))))
def q130_52 : List (Nat × Instr × Nat) := [(52, .aload_n 0, 1), (53, .getfield 81, 3), (56, .aload_n 0, 1), (57, .getfield 64, 3)]
theorem e130_52 : am_dec am_M130 q130_52 = true := by decide +kernel
theorem e130_52_c : am_dc1 am_M130 60 (.invokevirtual 294) 3 = true := by decide +kernel
theorem b130_52 {d : Nat} {Q : Option Value ⊕ Nat → am_Mem → Prop} {μ : am_Mem} {r0 : Nat} {P : am_Mem → Prop} {X : Nat → am_Mem → Prop}
    (h1 : am_kd μ r0 = (1, 11))
    (h2 : ¬ am_F μ r0 13 = 15)
    (h3 : am_kd μ r0 = (1, 11))
    (h4 : ¬ am_F μ r0 9 = 15)
    (hk : am_kd μ (am_F μ r0 13) = (1, 10))
    (hc : Wp d 110 (0, [some (.ref (am_F μ r0 13)), some (.ref (am_F μ r0 9)), none], [], μ) (pV P X)) (hr : ∀ μ', P μ' → Wp (d + 1) 130 (63, [some (.ref r0)], [], (μ')) Q)
    (hx : ∀ x μ', X x μ' → Q (.inr x) μ') :
    Wp (d + 1) 130 (52, [some (.ref r0)], [], μ) Q := wp_blk rfl e130_52 (And.intro h1 (And.intro h2 (And.intro h3 (And.intro h4 (wp_cv (as := [.ref (am_F μ r0 9)]) rfl e130_52_c rfl rfl rfl rfl rfl hk hc (fun v μ' hv => by obtain ⟨rfl, hp⟩ := pV_r hv; exact hr μ' hp) hx)))))
def q130_63 : List (Nat × Instr × Nat) := [(63, .aload_n 0, 1), (64, .getfield 64, 3), (67, .getfield 157, 3), (70, .aload_n 0, 1), (71, .getfield 81, 3), (74, .getfield 298, 3), (77, .aload_n 0, 1), (78, .getfield 81, 3)]
theorem e130_63 : am_dec am_M130 q130_63 = true := by decide +kernel
theorem e130_63_c : am_dc1 am_M130 81 (.invokevirtual 301) 3 = true := by decide +kernel
theorem b130_63 {d : Nat} {Q : Option Value ⊕ Nat → am_Mem → Prop} {μ : am_Mem} {r0 : Nat} {P : Int32 → am_Mem → Prop} {X : Nat → am_Mem → Prop}
    (h1 : am_kd μ r0 = (1, 11))
    (h2 : ¬ am_F μ r0 9 = 15)
    (h3 : am_kd μ (am_F μ r0 9) = (1, 2))
    (h4 : ¬ am_F μ (am_F μ r0 9) 0 = 15)
    (h5 : am_kd μ r0 = (1, 11))
    (h6 : ¬ am_F μ r0 13 = 15)
    (h7 : am_kd μ (am_F μ r0 13) = (1, 10))
    (h8 : ¬ am_F μ (am_F μ r0 13) 0 = 15)
    (h9 : am_kd μ r0 = (1, 11))
    (h10 : ¬ am_F μ r0 13 = 15)
    (hk : am_kd μ (am_F μ r0 13) = (1, 10))
    (hc : Wp d 113 (0, [some (.ref (am_F μ r0 13))], [], μ) (pI P X)) (hr : ∀ x μ', P x μ' → Wp (d + 1) 130 (84, [some (.ref r0)], [.int x, .ref (am_F μ (am_F μ r0 13) 0), .ref (am_F μ (am_F μ r0 9) 0)], (μ')) Q)
    (hx : ∀ x μ', X x μ' → Q (.inr x) μ') :
    Wp (d + 1) 130 (63, [some (.ref r0)], [], μ) Q := wp_blk rfl e130_63 (And.intro h1 (And.intro h2 (And.intro h3 (And.intro h4 (And.intro h5 (And.intro h6 (And.intro h7 (And.intro h8 (And.intro h9 (And.intro h10 (wp_cv (as := []) rfl e130_63_c rfl rfl rfl rfl rfl hk hc (fun v μ' hv => by obtain ⟨x, rfl, hp⟩ := pI_r hv; exact hr x μ' hp) hx)))))))))))
def q130_84 : List (Nat × Instr × Nat) := [(84, .aload_n 0, 1), (85, .getfield 64, 3), (88, .getfield 161, 3)]
theorem e130_84 : am_dec am_M130 q130_84 = true := by decide +kernel
theorem e130_84_c : am_dc1 am_M130 91 (.invokevirtual 305) 3 = true := by decide +kernel
theorem b130_84 {d : Nat} {Q : Option Value ⊕ Nat → am_Mem → Prop} {μ : am_Mem} {r0 r90 r91 : Nat} {s2 : Int32} {P : am_Mem → Prop} {X : Nat → am_Mem → Prop}
    (h1 : am_kd μ r0 = (1, 11))
    (h2 : ¬ am_F μ r0 9 = 15)
    (h3 : am_kd μ (am_F μ r0 9) = (1, 2))
    (hk : am_kd μ r90 = (1, 8))
    (hc : Wp d 94 (0, [some (.ref r90), some (.ref r91), some (.int s2), some (.int (am_A μ (am_F μ r0 9) 15)), none, none, none], [], μ) (pV P X)) (hr : ∀ μ', P μ' → Wp (d + 1) 130 (94, [some (.ref r0)], [], (μ')) Q)
    (hx : ∀ x μ', X x μ' → Q (.inr x) μ') :
    Wp (d + 1) 130 (84, [some (.ref r0)], [.int s2, .ref r91, .ref r90], μ) Q := wp_blk rfl e130_84 (And.intro h1 (And.intro h2 (And.intro h3 (wp_cv (as := [.ref r91, .int s2, .int (am_A μ (am_F μ r0 9) 15)]) rfl e130_84_c rfl rfl rfl rfl rfl hk hc (fun v μ' hv => by obtain ⟨rfl, hp⟩ := pV_r hv; exact hr μ' hp) hx))))
def q130_94 : List (Nat × Instr × Nat) := [(94, .aload_n 0, 1), (95, .getfield 64, 3), (98, .aload_n 0, 1), (99, .getfield 64, 3), (102, .getfield 157, 3), (105, .getfield 309, 3), (108, .putfield 161, 3), (111, .aload_n 0, 1), (112, .iconst 1, 1), (113, .putfield 85, 3)]
theorem e130_94 : am_dec am_M130 q130_94 = true := by decide +kernel
theorem b130_94 {d : Nat} {Q : Option Value ⊕ Nat → am_Mem → Prop} {μ : am_Mem} {r0 : Nat}
    (h1 : am_kd μ r0 = (1, 11))
    (h2 : ¬ am_F μ r0 9 = 15)
    (h3 : am_kd μ r0 = (1, 11))
    (h4 : ¬ am_F μ r0 9 = 15)
    (h5 : am_kd μ (am_F μ r0 9) = (1, 2))
    (h6 : ¬ am_F μ (am_F μ r0 9) 0 = 15)
    (h7 : am_kd μ (am_F μ (am_F μ r0 9) 0) = (1, 8))
    (h8 : am_kd μ (am_F μ r0 9) = (1, 2))
    (h9 : am_kd (am_pA μ (am_F μ r0 9) 15 (am_A μ (am_F μ (am_F μ r0 9) 0) 9)) r0 = (1, 11))
    (k : Wp d 130 (116, [some (.ref r0)], [], (am_pA (am_pA μ (am_F μ r0 9) 15 (am_A μ (am_F μ (am_F μ r0 9) 0) 9)) r0 14 (Int32.ofInt 1))) Q) :
    Wp d 130 (94, [some (.ref r0)], [], μ) Q := wp_blk rfl e130_94 (And.intro h1 (And.intro h2 (And.intro h3 (And.intro h4 (And.intro h5 (And.intro h6 (And.intro h7 (And.intro h8 (And.intro ⟨rfl, rfl⟩ (And.intro h9 (And.intro ⟨rfl, rfl⟩ k)))))))))))
def q130_116 : List (Nat × Instr × Nat) := [(116, .aload_n 0, 1), (117, .getfield 85, 3), (120, .iconst 2, 1), (121, .if_icmp .ne 13, 3)]
theorem e130_116 : am_dec am_M130 q130_116 = true := by decide +kernel
theorem b130_116 {d : Nat} {Q : Option Value ⊕ Nat → am_Mem → Prop} {μ : am_Mem} {r0 : Nat}
    (h1 : am_kd μ r0 = (1, 11))
    (k1 : ¬ (am_A μ r0 14) = (Int32.ofInt 2) → Wp d 130 (134, [some (.ref r0)], [], μ) Q) (k2 : ¬ (¬ (am_A μ r0 14) = (Int32.ofInt 2)) → Wp d 130 (124, [some (.ref r0)], [], μ) Q) :
    Wp d 130 (116, [some (.ref r0)], [], μ) Q := wp_blk rfl e130_116 (And.intro h1 (And.intro k1 k2))
theorem e130_124_t : am_dc1 am_M130 124 (.new 112) 3 = true ∧ am_throw GG 11 130 124 (.new 112) = some 3 := by decide +kernel
theorem b130_124 {d : Nat} {Q : Option Value ⊕ Nat → am_Mem → Prop} {μ : am_Mem} {r0 : Nat}
    (k : Q (.inr 3) (am_nX μ)) :
    Wp d 130 (124, [some (.ref r0)], [], μ) Q := (wp_throw rfl e130_124_t.1 ⟨_, rfl⟩ rfl e130_124_t.2 rfl k)
theorem e130_134_r : am_dec am_M130 [(134, .return_, 1)] = true := by decide +kernel
theorem b130_134 {d : Nat} {Q : Option Value ⊕ Nat → am_Mem → Prop} {μ : am_Mem} {r0 : Nat}
    (k : Q (.inl none) μ) :
    Wp d 130 (134, [some (.ref r0)], [], μ) Q := (wp_rv rfl e130_134_r rfl k)
/-! RuleSheets.terminal()Z -/
def q131_0 : List (Nat × Instr × Nat) := [(0, .aload_n 0, 1)]
theorem e131_0 : am_dec am_M131 q131_0 = true := by decide +kernel
theorem e131_0_c : am_dc1 am_M131 1 (.invokevirtual 180) 3 = true := by decide +kernel
theorem b131_0 {d : Nat} {Q : Option Value ⊕ Nat → am_Mem → Prop} {μ : am_Mem} {r0 : Nat} {P : am_Mem → Prop} {X : Nat → am_Mem → Prop}
    (hk : am_kd μ r0 = (1, 11))
    (hc : Wp d 128 (0, [some (.ref r0)], [], μ) (pV P X)) (hr : ∀ μ', P μ' → Wp (d + 1) 131 (4, [some (.ref r0)], [], (μ')) Q)
    (hx : ∀ x μ', X x μ' → Q (.inr x) μ') :
    Wp (d + 1) 131 (0, [some (.ref r0)], [], μ) Q := wp_blk rfl e131_0 (wp_cv (as := []) rfl e131_0_c rfl rfl rfl rfl rfl hk hc (fun v μ' hv => by obtain ⟨rfl, hp⟩ := pV_r hv; exact hr μ' hp) hx)
def q131_4 : List (Nat × Instr × Nat) := [(4, .aload_n 0, 1)]
theorem e131_4 : am_dec am_M131 q131_4 = true := by decide +kernel
theorem e131_4_c : am_dc1 am_M131 5 (.invokevirtual 186) 3 = true := by decide +kernel
theorem b131_4 {d : Nat} {Q : Option Value ⊕ Nat → am_Mem → Prop} {μ : am_Mem} {r0 : Nat} {P : am_Mem → Prop} {X : Nat → am_Mem → Prop}
    (hk : am_kd μ r0 = (1, 11))
    (hc : Wp d 130 (0, [some (.ref r0)], [], μ) (pV P X)) (hr : ∀ μ', P μ' → Wp (d + 1) 131 (8, [some (.ref r0)], [], (μ')) Q)
    (hx : ∀ x μ', X x μ' → Q (.inr x) μ') :
    Wp (d + 1) 131 (4, [some (.ref r0)], [], μ) Q := wp_blk rfl e131_4 (wp_cv (as := []) rfl e131_4_c rfl rfl rfl rfl rfl hk hc (fun v μ' hv => by obtain ⟨rfl, hp⟩ := pV_r hv; exact hr μ' hp) hx)
def q131_8 : List (Nat × Instr × Nat) := [(8, .aload_n 0, 1), (9, .getfield 81, 3), (12, .getfield 193, 3)]
theorem e131_8 : am_dec am_M131 q131_8 = true := by decide +kernel
theorem e131_8_r : am_dec am_M131 [(15, .ireturn, 1)] = true := by decide +kernel
theorem b131_8 {d : Nat} {Q : Option Value ⊕ Nat → am_Mem → Prop} {μ : am_Mem} {r0 : Nat}
    (h1 : am_kd μ r0 = (1, 11))
    (h2 : ¬ am_F μ r0 13 = 15)
    (h3 : am_kd μ (am_F μ r0 13) = (1, 10))
    (hn : narrow .boolean (.int (am_A μ (am_F μ r0 13) 3)) = .int (am_A μ (am_F μ r0 13) 3) ∧ fits .boolean (.int (am_A μ (am_F μ r0 13) 3)) = true)
    (k : Q (.inl (some (.int (am_A μ (am_F μ r0 13) 3)))) μ) :
    Wp d 131 (8, [some (.ref r0)], [], μ) Q := wp_blk rfl e131_8 (And.intro h1 (And.intro h2 (And.intro h3 (wp_ri (ty := .boolean) rfl e131_8_r rfl hn k))))
/-! RuleSheets.goal(I)I -/
def q132_0 : List (Nat × Instr × Nat) := [(0, .aload_n 0, 1)]
theorem e132_0 : am_dec am_M132 q132_0 = true := by decide +kernel
theorem e132_0_c : am_dc1 am_M132 1 (.invokevirtual 180) 3 = true := by decide +kernel
theorem b132_0 {d : Nat} {Q : Option Value ⊕ Nat → am_Mem → Prop} {μ : am_Mem} {r0 : Nat} {x1 : Int32} {P : am_Mem → Prop} {X : Nat → am_Mem → Prop}
    (hk : am_kd μ r0 = (1, 11))
    (hc : Wp d 128 (0, [some (.ref r0)], [], μ) (pV P X)) (hr : ∀ μ', P μ' → Wp (d + 1) 132 (4, [some (.ref r0), some (.int x1)], [], (μ')) Q)
    (hx : ∀ x μ', X x μ' → Q (.inr x) μ') :
    Wp (d + 1) 132 (0, [some (.ref r0), some (.int x1)], [], μ) Q := wp_blk rfl e132_0 (wp_cv (as := []) rfl e132_0_c rfl rfl rfl rfl rfl hk hc (fun v μ' hv => by obtain ⟨rfl, hp⟩ := pV_r hv; exact hr μ' hp) hx)
def q132_4 : List (Nat × Instr × Nat) := [(4, .aload_n 0, 1), (5, .iload_n 1, 1)]
theorem e132_4 : am_dec am_M132 q132_4 = true := by decide +kernel
theorem e132_4_c : am_dc1 am_M132 6 (.invokevirtual 183) 3 = true := by decide +kernel
theorem b132_4 {d : Nat} {Q : Option Value ⊕ Nat → am_Mem → Prop} {μ : am_Mem} {r0 : Nat} {x1 : Int32} {P : am_Mem → Prop} {X : Nat → am_Mem → Prop}
    (hk : am_kd μ r0 = (1, 11))
    (hc : Wp d 129 (0, [some (.ref r0), some (.int x1)], [], μ) (pV P X)) (hr : ∀ μ', P μ' → Wp (d + 1) 132 (9, [some (.ref r0), some (.int x1)], [], (μ')) Q)
    (hx : ∀ x μ', X x μ' → Q (.inr x) μ') :
    Wp (d + 1) 132 (4, [some (.ref r0), some (.int x1)], [], μ) Q := wp_blk rfl e132_4 (wp_cv (as := [.int x1]) rfl e132_4_c rfl rfl rfl rfl rfl hk hc (fun v μ' hv => by obtain ⟨rfl, hp⟩ := pV_r hv; exact hr μ' hp) hx)
def q132_9 : List (Nat × Instr × Nat) := [(9, .aload_n 0, 1)]
theorem e132_9 : am_dec am_M132 q132_9 = true := by decide +kernel
theorem e132_9_c : am_dc1 am_M132 10 (.invokevirtual 186) 3 = true := by decide +kernel
theorem b132_9 {d : Nat} {Q : Option Value ⊕ Nat → am_Mem → Prop} {μ : am_Mem} {r0 : Nat} {x1 : Int32} {P : am_Mem → Prop} {X : Nat → am_Mem → Prop}
    (hk : am_kd μ r0 = (1, 11))
    (hc : Wp d 130 (0, [some (.ref r0)], [], μ) (pV P X)) (hr : ∀ μ', P μ' → Wp (d + 1) 132 (13, [some (.ref r0), some (.int x1)], [], (μ')) Q)
    (hx : ∀ x μ', X x μ' → Q (.inr x) μ') :
    Wp (d + 1) 132 (9, [some (.ref r0), some (.int x1)], [], μ) Q := wp_blk rfl e132_9 (wp_cv (as := []) rfl e132_9_c rfl rfl rfl rfl rfl hk hc (fun v μ' hv => by obtain ⟨rfl, hp⟩ := pV_r hv; exact hr μ' hp) hx)
def q132_13 : List (Nat × Instr × Nat) := [(13, .aload_n 0, 1), (14, .getfield 81, 3), (17, .getfield 196, 3), (20, .iload_n 1, 1), (21, .iaload, 1)]
theorem e132_13 : am_dec am_M132 q132_13 = true := by decide +kernel
theorem e132_13_r : am_dec am_M132 [(22, .ireturn, 1)] = true := by decide +kernel
theorem b132_13 {d : Nat} {Q : Option Value ⊕ Nat → am_Mem → Prop} {μ : am_Mem} {r0 : Nat} {x1 : Int32}
    (h1 : am_kd μ r0 = (1, 11))
    (h2 : ¬ am_F μ r0 13 = 15)
    (h3 : am_kd μ (am_F μ r0 13) = (1, 10))
    (h4 : ¬ am_F μ (am_F μ r0 13) 2 = 15)
    (h5 : (am_kd μ (am_F μ (am_F μ r0 13) 2)).1 = 2 ∨ (am_kd μ (am_F μ (am_F μ r0 13) 2)).1 = 8)
    (h6 : ¬ (x1 < 0 ∨ (am_kd μ (am_F μ (am_F μ r0 13) 2)).2 ≤ x1.toNatClampNeg))
    (k : Q (.inl (some (.int (am_A μ (am_F μ (am_F μ r0 13) 2) x1.toNatClampNeg)))) μ) :
    Wp d 132 (13, [some (.ref r0), some (.int x1)], [], μ) Q := wp_blk rfl e132_13 (And.intro h1 (And.intro h2 (And.intro h3 (And.intro h4 (And.intro h5 (And.intro h6 (wp_ri (ty := .int) rfl e132_13_r rfl ⟨rfl, rfl⟩ k)))))))
/-! RuleSheets.play(I)I -/
def q133_0 : List (Nat × Instr × Nat) := [(0, .aload_n 0, 1)]
theorem e133_0 : am_dec am_M133 q133_0 = true := by decide +kernel
theorem e133_0_c : am_dc1 am_M133 1 (.invokevirtual 180) 3 = true := by decide +kernel
theorem b133_0 {d : Nat} {Q : Option Value ⊕ Nat → am_Mem → Prop} {μ : am_Mem} {r0 : Nat} {x1 : Int32} {P : am_Mem → Prop} {X : Nat → am_Mem → Prop}
    (hk : am_kd μ r0 = (1, 11))
    (hc : Wp d 128 (0, [some (.ref r0)], [], μ) (pV P X)) (hr : ∀ μ', P μ' → Wp (d + 1) 133 (4, [some (.ref r0), some (.int x1)], [], (μ')) Q)
    (hx : ∀ x μ', X x μ' → Q (.inr x) μ') :
    Wp (d + 1) 133 (0, [some (.ref r0), some (.int x1)], [], μ) Q := wp_blk rfl e133_0 (wp_cv (as := []) rfl e133_0_c rfl rfl rfl rfl rfl hk hc (fun v μ' hv => by obtain ⟨rfl, hp⟩ := pV_r hv; exact hr μ' hp) hx)
def q133_4 : List (Nat × Instr × Nat) := [(4, .iload_n 1, 1), (5, .ifCond .lt 13, 3)]
theorem e133_4 : am_dec am_M133 q133_4 = true := by decide +kernel
theorem b133_4 {d : Nat} {Q : Option Value ⊕ Nat → am_Mem → Prop} {μ : am_Mem} {r0 : Nat} {x1 : Int32}
    (k1 : x1 < 0 → Wp d 133 (18, [some (.ref r0), some (.int x1)], [], μ) Q) (k2 : ¬ (x1 < 0) → Wp d 133 (8, [some (.ref r0), some (.int x1)], [], μ) Q) :
    Wp d 133 (4, [some (.ref r0), some (.int x1)], [], μ) Q := wp_blk rfl e133_4 (And.intro k1 k2)
def q133_8 : List (Nat × Instr × Nat) := [(8, .aload_n 0, 1), (9, .getfield 64, 3), (12, .getfield 151, 3), (15, .ifCond .ne 13, 3)]
theorem e133_8 : am_dec am_M133 q133_8 = true := by decide +kernel
theorem b133_8 {d : Nat} {Q : Option Value ⊕ Nat → am_Mem → Prop} {μ : am_Mem} {r0 : Nat} {x1 : Int32}
    (h1 : am_kd μ r0 = (1, 11))
    (h2 : ¬ am_F μ r0 9 = 15)
    (h3 : am_kd μ (am_F μ r0 9) = (1, 2))
    (k1 : ¬ (am_A μ (am_F μ r0 9) 4) = 0 → Wp d 133 (28, [some (.ref r0), some (.int x1)], [], μ) Q) (k2 : ¬ (¬ (am_A μ (am_F μ r0 9) 4) = 0) → Wp d 133 (18, [some (.ref r0), some (.int x1)], [], μ) Q) :
    Wp d 133 (8, [some (.ref r0), some (.int x1)], [], μ) Q := wp_blk rfl e133_8 (And.intro h1 (And.intro h2 (And.intro h3 (And.intro k1 k2))))
theorem e133_18_t : am_dc1 am_M133 18 (.new 199) 3 = true ∧ am_throw GG 11 133 18 (.new 199) = some 2 := by decide +kernel
theorem b133_18 {d : Nat} {Q : Option Value ⊕ Nat → am_Mem → Prop} {μ : am_Mem} {r0 : Nat} {x1 : Int32}
    (k : Q (.inr 2) (am_nX μ)) :
    Wp d 133 (18, [some (.ref r0), some (.int x1)], [], μ) Q := (wp_throw rfl e133_18_t.1 ⟨_, rfl⟩ rfl e133_18_t.2 rfl k)
def q133_28 : List (Nat × Instr × Nat) := [(28, .aload_n 0, 1)]
theorem e133_28 : am_dec am_M133 q133_28 = true := by decide +kernel
theorem e133_28_c : am_dc1 am_M133 29 (.invokevirtual 186) 3 = true := by decide +kernel
theorem b133_28 {d : Nat} {Q : Option Value ⊕ Nat → am_Mem → Prop} {μ : am_Mem} {r0 : Nat} {x1 : Int32} {P : am_Mem → Prop} {X : Nat → am_Mem → Prop}
    (hk : am_kd μ r0 = (1, 11))
    (hc : Wp d 130 (0, [some (.ref r0)], [], μ) (pV P X)) (hr : ∀ μ', P μ' → Wp (d + 1) 133 (32, [some (.ref r0), some (.int x1)], [], (μ')) Q)
    (hx : ∀ x μ', X x μ' → Q (.inr x) μ') :
    Wp (d + 1) 133 (28, [some (.ref r0), some (.int x1)], [], μ) Q := wp_blk rfl e133_28 (wp_cv (as := []) rfl e133_28_c rfl rfl rfl rfl rfl hk hc (fun v μ' hv => by obtain ⟨rfl, hp⟩ := pV_r hv; exact hr μ' hp) hx)
def q133_32 : List (Nat × Instr × Nat) := [(32, .iload_n 1, 1), (33, .i2l, 1), (34, .aload_n 0, 1), (35, .getfield 81, 3)]
theorem e133_32 : am_dec am_M133 q133_32 = true := by decide +kernel
theorem e133_32_c : am_dc1 am_M133 38 (.invokevirtual 204) 3 = true := by decide +kernel
theorem b133_32 {d : Nat} {Q : Option Value ⊕ Nat → am_Mem → Prop} {μ : am_Mem} {r0 : Nat} {x1 : Int32} {P : Int64 → am_Mem → Prop} {X : Nat → am_Mem → Prop}
    (h1 : am_kd μ r0 = (1, 11))
    (h2 : ¬ am_F μ r0 13 = 15)
    (hk : am_kd μ (am_F μ r0 13) = (1, 10))
    (hc : Wp d 115 (0, [some (.ref (am_F μ r0 13)), none, none, none], [], μ) (pL P X)) (hr : ∀ x μ', P x μ' → Wp (d + 1) 133 (41, [some (.ref r0), some (.int x1)], [.long x, .long x1.toInt64], (μ')) Q)
    (hx : ∀ x μ', X x μ' → Q (.inr x) μ') :
    Wp (d + 1) 133 (32, [some (.ref r0), some (.int x1)], [], μ) Q := wp_blk rfl e133_32 (And.intro h1 (And.intro h2 (wp_cv (as := []) rfl e133_32_c rfl rfl rfl rfl rfl hk hc (fun v μ' hv => by obtain ⟨x, rfl, hp⟩ := pL_r hv; exact hr x μ' hp) hx)))
def q133_41 : List (Nat × Instr × Nat) := [(41, .lcmp, 1), (42, .ifCond .lt 13, 3)]
theorem e133_41 : am_dec am_M133 q133_41 = true := by decide +kernel
theorem b133_41 {d : Nat} {Q : Option Value ⊕ Nat → am_Mem → Prop} {μ : am_Mem} {r0 : Nat} {x1 : Int32} {y90 y91 : Int64}
    (k1 : (lg_cmp y90 y91) < 0 → Wp d 133 (55, [some (.ref r0), some (.int x1)], [], μ) Q) (k2 : ¬ ((lg_cmp y90 y91) < 0) → Wp d 133 (45, [some (.ref r0), some (.int x1)], [], μ) Q) :
    Wp d 133 (41, [some (.ref r0), some (.int x1)], [.long y91, .long y90], μ) Q := wp_blk rfl e133_41 (And.intro k1 k2)
theorem e133_45_t : am_dc1 am_M133 45 (.new 199) 3 = true ∧ am_throw GG 11 133 45 (.new 199) = some 2 := by decide +kernel
theorem b133_45 {d : Nat} {Q : Option Value ⊕ Nat → am_Mem → Prop} {μ : am_Mem} {r0 : Nat} {x1 : Int32}
    (k : Q (.inr 2) (am_nX μ)) :
    Wp d 133 (45, [some (.ref r0), some (.int x1)], [], μ) Q := (wp_throw rfl e133_45_t.1 ⟨_, rfl⟩ rfl e133_45_t.2 rfl k)
def q133_55 : List (Nat × Instr × Nat) := [(55, .aload_n 0, 1), (56, .getfield 81, 3), (59, .iload_n 1, 1)]
theorem e133_55 : am_dec am_M133 q133_55 = true := by decide +kernel
theorem e133_55_c : am_dc1 am_M133 60 (.invokevirtual 208) 3 = true := by decide +kernel
theorem b133_55 {d : Nat} {Q : Option Value ⊕ Nat → am_Mem → Prop} {μ : am_Mem} {r0 : Nat} {x1 : Int32} {P : am_Mem → Prop} {X : Nat → am_Mem → Prop}
    (h1 : am_kd μ r0 = (1, 11))
    (h2 : ¬ am_F μ r0 13 = 15)
    (hk : am_kd μ (am_F μ r0 13) = (1, 10))
    (hc : Wp d 116 (0, [some (.ref (am_F μ r0 13)), some (.int x1), none, none, none], [], μ) (pV P X)) (hr : ∀ μ', P μ' → Wp (d + 1) 133 (63, [some (.ref r0), some (.int x1)], [], (μ')) Q)
    (hx : ∀ x μ', X x μ' → Q (.inr x) μ') :
    Wp (d + 1) 133 (55, [some (.ref r0), some (.int x1)], [], μ) Q := wp_blk rfl e133_55 (And.intro h1 (And.intro h2 (wp_cv (as := [.int x1]) rfl e133_55_c rfl rfl rfl rfl rfl hk hc (fun v μ' hv => by obtain ⟨rfl, hp⟩ := pV_r hv; exact hr μ' hp) hx)))
def q133_63 : List (Nat × Instr × Nat) := [(63, .aload_n 0, 1), (64, .getfield 64, 3), (67, .getfield 157, 3), (70, .aload_n 0, 1), (71, .getfield 64, 3), (74, .getfield 161, 3)]
theorem e133_63 : am_dec am_M133 q133_63 = true := by decide +kernel
theorem e133_63_c : am_dc1 am_M133 77 (.invokevirtual 164) 3 = true := by decide +kernel
theorem b133_63 {d : Nat} {Q : Option Value ⊕ Nat → am_Mem → Prop} {μ : am_Mem} {r0 : Nat} {x1 : Int32} {P : am_Mem → Prop} {X : Nat → am_Mem → Prop}
    (h1 : am_kd μ r0 = (1, 11))
    (h2 : ¬ am_F μ r0 9 = 15)
    (h3 : am_kd μ (am_F μ r0 9) = (1, 2))
    (h4 : ¬ am_F μ (am_F μ r0 9) 0 = 15)
    (h5 : am_kd μ r0 = (1, 11))
    (h6 : ¬ am_F μ r0 9 = 15)
    (h7 : am_kd μ (am_F μ r0 9) = (1, 2))
    (hk : am_kd μ (am_F μ (am_F μ r0 9) 0) = (1, 8))
    (hc : Wp d 90 (0, [some (.ref (am_F μ (am_F μ r0 9) 0)), some (.int (am_A μ (am_F μ r0 9) 15)), none], [], μ) (pV P X)) (hr : ∀ μ', P μ' → Wp (d + 1) 133 (80, [some (.ref r0), some (.int x1)], [], (μ')) Q)
    (hx : ∀ x μ', X x μ' → Q (.inr x) μ') :
    Wp (d + 1) 133 (63, [some (.ref r0), some (.int x1)], [], μ) Q := wp_blk rfl e133_63 (And.intro h1 (And.intro h2 (And.intro h3 (And.intro h4 (And.intro h5 (And.intro h6 (And.intro h7 (wp_cv (as := [.int (am_A μ (am_F μ r0 9) 15)]) rfl e133_63_c rfl rfl rfl rfl rfl hk hc (fun v μ' hv => by obtain ⟨rfl, hp⟩ := pV_r hv; exact hr μ' hp) hx))))))))
def q133_80 : List (Nat × Instr × Nat) := [(80, .aload_n 0, 1), (81, .getfield 64, 3), (84, .aload_n 0, 1), (85, .getfield 68, 3), (88, .aload_n 0, 1), (89, .getfield 75, 3), (92, .aload_n 0, 1), (93, .getfield 81, 3), (96, .getfield 170, 3), (99, .aload_n 0, 1), (100, .getfield 64, 3), (103, .getfield 151, 3)]
theorem e133_80 : am_dec am_M133 q133_80 = true := by decide +kernel
theorem e133_80_c : am_dc1 am_M133 106 (.invokevirtual 173) 3 = true := by decide +kernel
theorem b133_80 {d : Nat} {Q : Option Value ⊕ Nat → am_Mem → Prop} {μ : am_Mem} {r0 : Nat} {x1 : Int32} {P : am_Mem → Prop} {X : Nat → am_Mem → Prop}
    (h1 : am_kd μ r0 = (1, 11))
    (h2 : ¬ am_F μ r0 9 = 15)
    (h3 : am_kd μ r0 = (1, 11))
    (h4 : ¬ am_F μ r0 10 = 15)
    (h5 : am_kd μ r0 = (1, 11))
    (h6 : am_kd μ r0 = (1, 11))
    (h7 : ¬ am_F μ r0 13 = 15)
    (h8 : am_kd μ (am_F μ r0 13) = (1, 10))
    (h9 : ¬ am_F μ (am_F μ r0 13) 5 = 15)
    (h10 : am_kd μ r0 = (1, 11))
    (h11 : ¬ am_F μ r0 9 = 15)
    (h12 : am_kd μ (am_F μ r0 9) = (1, 2))
    (hk : am_kd μ (am_F μ r0 9) = (1, 2))
    (hc : Wp d 45 (0, [some (.ref (am_F μ r0 9)), some (.ref (am_F μ r0 10)), some (.int (am_A μ r0 12)), some (.ref (am_F μ (am_F μ r0 13) 5)), some (.int (am_A μ (am_F μ r0 9) 4)), none, none], [], μ) (pV P X)) (hr : ∀ μ', P μ' → Wp (d + 1) 133 (109, [some (.ref r0), some (.int x1)], [], (μ')) Q)
    (hx : ∀ x μ', X x μ' → Q (.inr x) μ') :
    Wp (d + 1) 133 (80, [some (.ref r0), some (.int x1)], [], μ) Q := wp_blk rfl e133_80 (And.intro h1 (And.intro h2 (And.intro h3 (And.intro h4 (And.intro h5 (And.intro h6 (And.intro h7 (And.intro h8 (And.intro h9 (And.intro h10 (And.intro h11 (And.intro h12 (wp_cv (as := [.ref (am_F μ r0 10), .int (am_A μ r0 12), .ref (am_F μ (am_F μ r0 13) 5), .int (am_A μ (am_F μ r0 9) 4)]) rfl e133_80_c rfl rfl rfl rfl rfl hk hc (fun v μ' hv => by obtain ⟨rfl, hp⟩ := pV_r hv; exact hr μ' hp) hx)))))))))))))
def q133_109 : List (Nat × Instr × Nat) := [(109, .aload_n 0, 1), (110, .iconst 3, 1)]
theorem e133_109 : am_dec am_M133 q133_109 = true := by decide +kernel
theorem e133_109_c : am_dc1 am_M133 111 (.invokevirtual 177) 3 = true := by decide +kernel
theorem b133_109 {d : Nat} {Q : Option Value ⊕ Nat → am_Mem → Prop} {μ : am_Mem} {r0 : Nat} {x1 : Int32} {P : am_Mem → Prop} {X : Nat → am_Mem → Prop}
    (hk : am_kd μ r0 = (1, 11))
    (hc : Wp d 126 (0, [some (.ref r0), some (.int (Int32.ofInt 3)), none, none], [], μ) (pV P X)) (hr : ∀ μ', P μ' → Wp (d + 1) 133 (114, [some (.ref r0), some (.int x1)], [], (μ')) Q)
    (hx : ∀ x μ', X x μ' → Q (.inr x) μ') :
    Wp (d + 1) 133 (109, [some (.ref r0), some (.int x1)], [], μ) Q := wp_blk rfl e133_109 (wp_cv (as := [.int (Int32.ofInt 3)]) rfl e133_109_c rfl rfl rfl rfl rfl hk hc (fun v μ' hv => by obtain ⟨rfl, hp⟩ := pV_r hv; exact hr μ' hp) hx)
def q133_114 : List (Nat × Instr × Nat) := [(114, .aload_n 0, 1), (115, .getfield 75, 3)]
theorem e133_114 : am_dec am_M133 q133_114 = true := by decide +kernel
theorem e133_114_r : am_dec am_M133 [(118, .ireturn, 1)] = true := by decide +kernel
theorem b133_114 {d : Nat} {Q : Option Value ⊕ Nat → am_Mem → Prop} {μ : am_Mem} {r0 : Nat} {x1 : Int32}
    (h1 : am_kd μ r0 = (1, 11))
    (k : Q (.inl (some (.int (am_A μ r0 12)))) μ) :
    Wp d 133 (114, [some (.ref r0), some (.int x1)], [], μ) Q := wp_blk rfl e133_114 (And.intro h1 (wp_ri (ty := .int) rfl e133_114_r rfl ⟨rfl, rfl⟩ k))
/-! RuleSheets.sign(III)I -/
def q134_0 : List (Nat × Instr × Nat) := [(0, .aload_n 0, 1)]
theorem e134_0 : am_dec am_M134 q134_0 = true := by decide +kernel
theorem e134_0_c : am_dc1 am_M134 1 (.invokevirtual 143) 3 = true := by decide +kernel
theorem b134_0 {d : Nat} {Q : Option Value ⊕ Nat → am_Mem → Prop} {μ : am_Mem} {r0 : Nat} {x1 x2 x3 : Int32} {P : am_Mem → Prop} {X : Nat → am_Mem → Prop}
    (hk : am_kd μ r0 = (1, 11))
    (hc : Wp d 124 (0, [some (.ref r0)], [], μ) (pV P X)) (hr : ∀ μ', P μ' → Wp (d + 1) 134 (4, [some (.ref r0), some (.int x1), some (.int x2), some (.int x3)], [], (μ')) Q)
    (hx : ∀ x μ', X x μ' → Q (.inr x) μ') :
    Wp (d + 1) 134 (0, [some (.ref r0), some (.int x1), some (.int x2), some (.int x3)], [], μ) Q := wp_blk rfl e134_0 (wp_cv (as := []) rfl e134_0_c rfl rfl rfl rfl rfl hk hc (fun v μ' hv => by obtain ⟨rfl, hp⟩ := pV_r hv; exact hr μ' hp) hx)
def q134_4 : List (Nat × Instr × Nat) := [(4, .iload_n 1, 1), (5, .ifCond .lt 8, 3)]
theorem e134_4 : am_dec am_M134 q134_4 = true := by decide +kernel
theorem b134_4 {d : Nat} {Q : Option Value ⊕ Nat → am_Mem → Prop} {μ : am_Mem} {r0 : Nat} {x1 x2 x3 : Int32}
    (k1 : x1 < 0 → Wp d 134 (13, [some (.ref r0), some (.int x1), some (.int x2), some (.int x3)], [], μ) Q) (k2 : ¬ (x1 < 0) → Wp d 134 (8, [some (.ref r0), some (.int x1), some (.int x2), some (.int x3)], [], μ) Q) :
    Wp d 134 (4, [some (.ref r0), some (.int x1), some (.int x2), some (.int x3)], [], μ) Q := wp_blk rfl e134_4 (And.intro k1 k2)
def q134_8 : List (Nat × Instr × Nat) := [(8, .iload_n 1, 1), (9, .iconst 5, 1), (10, .if_icmp .le 13, 3)]
theorem e134_8 : am_dec am_M134 q134_8 = true := by decide +kernel
theorem b134_8 {d : Nat} {Q : Option Value ⊕ Nat → am_Mem → Prop} {μ : am_Mem} {r0 : Nat} {x1 x2 x3 : Int32}
    (k1 : x1 ≤ (Int32.ofInt 5) → Wp d 134 (23, [some (.ref r0), some (.int x1), some (.int x2), some (.int x3)], [], μ) Q) (k2 : ¬ (x1 ≤ (Int32.ofInt 5)) → Wp d 134 (13, [some (.ref r0), some (.int x1), some (.int x2), some (.int x3)], [], μ) Q) :
    Wp d 134 (8, [some (.ref r0), some (.int x1), some (.int x2), some (.int x3)], [], μ) Q := wp_blk rfl e134_8 (And.intro k1 k2)
theorem e134_13_t : am_dc1 am_M134 13 (.new 105) 3 = true ∧ am_throw GG 11 134 13 (.new 105) = some 0 := by decide +kernel
theorem b134_13 {d : Nat} {Q : Option Value ⊕ Nat → am_Mem → Prop} {μ : am_Mem} {r0 : Nat} {x1 x2 x3 : Int32}
    (k : Q (.inr 0) (am_nX μ)) :
    Wp d 134 (13, [some (.ref r0), some (.int x1), some (.int x2), some (.int x3)], [], μ) Q := (wp_throw rfl e134_13_t.1 ⟨_, rfl⟩ rfl e134_13_t.2 rfl k)
def q134_23 : List (Nat × Instr × Nat) := [(23, .iload_n 1, 1), (24, .iconst 5, 1), (25, .if_icmp .ge 7, 3)]
theorem e134_23 : am_dec am_M134 q134_23 = true := by decide +kernel
theorem b134_23 {d : Nat} {Q : Option Value ⊕ Nat → am_Mem → Prop} {μ : am_Mem} {r0 : Nat} {x1 x2 x3 : Int32}
    (k1 : (Int32.ofInt 5) ≤ x1 → Wp d 134 (32, [some (.ref r0), some (.int x1), some (.int x2), some (.int x3)], [], μ) Q) (k2 : ¬ ((Int32.ofInt 5) ≤ x1) → Wp d 134 (28, [some (.ref r0), some (.int x1), some (.int x2), some (.int x3)], [], μ) Q) :
    Wp d 134 (23, [some (.ref r0), some (.int x1), some (.int x2), some (.int x3)], [], μ) Q := wp_blk rfl e134_23 (And.intro k1 k2)
def q134_28 : List (Nat × Instr × Nat) := [(28, .aload_n 0, 1)]
theorem e134_28 : am_dec am_M134 q134_28 = true := by decide +kernel
theorem e134_28_c : am_dc1 am_M134 29 (.invokevirtual 180) 3 = true := by decide +kernel
theorem b134_28 {d : Nat} {Q : Option Value ⊕ Nat → am_Mem → Prop} {μ : am_Mem} {r0 : Nat} {x1 x2 x3 : Int32} {P : am_Mem → Prop} {X : Nat → am_Mem → Prop}
    (hk : am_kd μ r0 = (1, 11))
    (hc : Wp d 128 (0, [some (.ref r0)], [], μ) (pV P X)) (hr : ∀ μ', P μ' → Wp (d + 1) 134 (32, [some (.ref r0), some (.int x1), some (.int x2), some (.int x3)], [], (μ')) Q)
    (hx : ∀ x μ', X x μ' → Q (.inr x) μ') :
    Wp (d + 1) 134 (28, [some (.ref r0), some (.int x1), some (.int x2), some (.int x3)], [], μ) Q := wp_blk rfl e134_28 (wp_cv (as := []) rfl e134_28_c rfl rfl rfl rfl rfl hk hc (fun v μ' hv => by obtain ⟨rfl, hp⟩ := pV_r hv; exact hr μ' hp) hx)
def q134_32 : List (Nat × Instr × Nat) := [(32, .iload_n 2, 1), (33, .ifCond .lt 7, 3)]
theorem e134_32 : am_dec am_M134 q134_32 = true := by decide +kernel
theorem b134_32 {d : Nat} {Q : Option Value ⊕ Nat → am_Mem → Prop} {μ : am_Mem} {r0 : Nat} {x1 x2 x3 : Int32}
    (k1 : x2 < 0 → Wp d 134 (40, [some (.ref r0), some (.int x1), some (.int x2), some (.int x3)], [], μ) Q) (k2 : ¬ (x2 < 0) → Wp d 134 (36, [some (.ref r0), some (.int x1), some (.int x2), some (.int x3)], [], μ) Q) :
    Wp d 134 (32, [some (.ref r0), some (.int x1), some (.int x2), some (.int x3)], [], μ) Q := wp_blk rfl e134_32 (And.intro k1 k2)
def q134_36 : List (Nat × Instr × Nat) := [(36, .iload_n 3, 1), (37, .ifCond .ge 13, 3)]
theorem e134_36 : am_dec am_M134 q134_36 = true := by decide +kernel
theorem b134_36 {d : Nat} {Q : Option Value ⊕ Nat → am_Mem → Prop} {μ : am_Mem} {r0 : Nat} {x1 x2 x3 : Int32}
    (k1 : 0 ≤ x3 → Wp d 134 (50, [some (.ref r0), some (.int x1), some (.int x2), some (.int x3)], [], μ) Q) (k2 : ¬ (0 ≤ x3) → Wp d 134 (40, [some (.ref r0), some (.int x1), some (.int x2), some (.int x3)], [], μ) Q) :
    Wp d 134 (36, [some (.ref r0), some (.int x1), some (.int x2), some (.int x3)], [], μ) Q := wp_blk rfl e134_36 (And.intro k1 k2)
theorem e134_40_t : am_dc1 am_M134 40 (.new 199) 3 = true ∧ am_throw GG 11 134 40 (.new 199) = some 2 := by decide +kernel
theorem b134_40 {d : Nat} {Q : Option Value ⊕ Nat → am_Mem → Prop} {μ : am_Mem} {r0 : Nat} {x1 x2 x3 : Int32}
    (k : Q (.inr 2) (am_nX μ)) :
    Wp d 134 (40, [some (.ref r0), some (.int x1), some (.int x2), some (.int x3)], [], μ) Q := (wp_throw rfl e134_40_t.1 ⟨_, rfl⟩ rfl e134_40_t.2 rfl k)
def q134_50 : List (Nat × Instr × Nat) := [(50, .iload_n 1, 1), (51, .ifCond .ne 39, 3)]
theorem e134_50 : am_dec am_M134 q134_50 = true := by decide +kernel
theorem b134_50 {d : Nat} {Q : Option Value ⊕ Nat → am_Mem → Prop} {μ : am_Mem} {r0 : Nat} {x1 x2 x3 : Int32}
    (k1 : ¬ x1 = 0 → Wp d 134 (90, [some (.ref r0), some (.int x1), some (.int x2), some (.int x3)], [], μ) Q) (k2 : ¬ (¬ x1 = 0) → Wp d 134 (54, [some (.ref r0), some (.int x1), some (.int x2), some (.int x3)], [], μ) Q) :
    Wp d 134 (50, [some (.ref r0), some (.int x1), some (.int x2), some (.int x3)], [], μ) Q := wp_blk rfl e134_50 (And.intro k1 k2)
def q134_54 : List (Nat × Instr × Nat) := [(54, .iload_n 2, 1), (55, .aload_n 0, 1), (56, .getfield 75, 3), (59, .if_icmp .lt 13, 3)]
theorem e134_54 : am_dec am_M134 q134_54 = true := by decide +kernel
theorem b134_54 {d : Nat} {Q : Option Value ⊕ Nat → am_Mem → Prop} {μ : am_Mem} {r0 : Nat} {x1 x2 x3 : Int32}
    (h1 : am_kd μ r0 = (1, 11))
    (k1 : x2 < (am_A μ r0 12) → Wp d 134 (72, [some (.ref r0), some (.int x1), some (.int x2), some (.int x3)], [], μ) Q) (k2 : ¬ (x2 < (am_A μ r0 12)) → Wp d 134 (62, [some (.ref r0), some (.int x1), some (.int x2), some (.int x3)], [], μ) Q) :
    Wp d 134 (54, [some (.ref r0), some (.int x1), some (.int x2), some (.int x3)], [], μ) Q := wp_blk rfl e134_54 (And.intro h1 (And.intro k1 k2))
theorem e134_62_t : am_dc1 am_M134 62 (.new 199) 3 = true ∧ am_throw GG 11 134 62 (.new 199) = some 2 := by decide +kernel
theorem b134_62 {d : Nat} {Q : Option Value ⊕ Nat → am_Mem → Prop} {μ : am_Mem} {r0 : Nat} {x1 x2 x3 : Int32}
    (k : Q (.inr 2) (am_nX μ)) :
    Wp d 134 (62, [some (.ref r0), some (.int x1), some (.int x2), some (.int x3)], [], μ) Q := (wp_throw rfl e134_62_t.1 ⟨_, rfl⟩ rfl e134_62_t.2 rfl k)
def q134_72 : List (Nat × Instr × Nat) := [(72, .aload_n 0, 1), (73, .getfield 64, 3), (76, .getfield 157, 3), (79, .aload_n 0, 1), (80, .getfield 68, 3), (83, .iload_n 2, 1), (84, .iaload, 1), (85, .iload_n 3, 1)]
theorem e134_72 : am_dec am_M134 q134_72 = true := by decide +kernel
theorem e134_72_c : am_dc1 am_M134 86 (.invokevirtual 215) 3 = true := by decide +kernel
theorem b134_72 {d : Nat} {Q : Option Value ⊕ Nat → am_Mem → Prop} {μ : am_Mem} {r0 : Nat} {x1 x2 x3 : Int32} {P : Int32 → am_Mem → Prop} {X : Nat → am_Mem → Prop}
    (h1 : am_kd μ r0 = (1, 11))
    (h2 : ¬ am_F μ r0 9 = 15)
    (h3 : am_kd μ (am_F μ r0 9) = (1, 2))
    (h4 : ¬ am_F μ (am_F μ r0 9) 0 = 15)
    (h5 : am_kd μ r0 = (1, 11))
    (h6 : ¬ am_F μ r0 10 = 15)
    (h7 : (am_kd μ (am_F μ r0 10)).1 = 2 ∨ (am_kd μ (am_F μ r0 10)).1 = 8)
    (h8 : ¬ (x2 < 0 ∨ (am_kd μ (am_F μ r0 10)).2 ≤ x2.toNatClampNeg))
    (hk : am_kd μ (am_F μ (am_F μ r0 9) 0) = (1, 8))
    (hc : Wp d 100 (0, [some (.ref (am_F μ (am_F μ r0 9) 0)), some (.int (am_A μ (am_F μ r0 10) x2.toNatClampNeg)), some (.int x3), none, none, none, none, none], [], μ) (pI P X)) (hr : ∀ x μ', P x μ' → Wp (d + 1) 134 (89, [some (.ref r0), some (.int x1), some (.int x2), some (.int x3)], [.int x], (μ')) Q)
    (hx : ∀ x μ', X x μ' → Q (.inr x) μ') :
    Wp (d + 1) 134 (72, [some (.ref r0), some (.int x1), some (.int x2), some (.int x3)], [], μ) Q := wp_blk rfl e134_72 (And.intro h1 (And.intro h2 (And.intro h3 (And.intro h4 (And.intro h5 (And.intro h6 (And.intro h7 (And.intro h8 (wp_cv (as := [.int (am_A μ (am_F μ r0 10) x2.toNatClampNeg), .int x3]) rfl e134_72_c rfl rfl rfl rfl rfl hk hc (fun v μ' hv => by obtain ⟨x, rfl, hp⟩ := pI_r hv; exact hr x μ' hp) hx)))))))))
theorem e134_89_r : am_dec am_M134 [(89, .ireturn, 1)] = true := by decide +kernel
theorem b134_89 {d : Nat} {Q : Option Value ⊕ Nat → am_Mem → Prop} {μ : am_Mem} {r0 : Nat} {x1 x2 x3 s0 : Int32}
    (k : Q (.inl (some (.int s0))) μ) :
    Wp d 134 (89, [some (.ref r0), some (.int x1), some (.int x2), some (.int x3)], [.int s0], μ) Q := (wp_ri (ty := .int) rfl e134_89_r rfl ⟨rfl, rfl⟩ k)
def q134_90 : List (Nat × Instr × Nat) := [(90, .iload_n 1, 1), (91, .iconst 5, 1), (92, .if_icmp .ne 29, 3)]
theorem e134_90 : am_dec am_M134 q134_90 = true := by decide +kernel
theorem b134_90 {d : Nat} {Q : Option Value ⊕ Nat → am_Mem → Prop} {μ : am_Mem} {r0 : Nat} {x1 x2 x3 : Int32}
    (k1 : ¬ x1 = (Int32.ofInt 5) → Wp d 134 (121, [some (.ref r0), some (.int x1), some (.int x2), some (.int x3)], [], μ) Q) (k2 : ¬ (¬ x1 = (Int32.ofInt 5)) → Wp d 134 (95, [some (.ref r0), some (.int x1), some (.int x2), some (.int x3)], [], μ) Q) :
    Wp d 134 (90, [some (.ref r0), some (.int x1), some (.int x2), some (.int x3)], [], μ) Q := wp_blk rfl e134_90 (And.intro k1 k2)
def q134_95 : List (Nat × Instr × Nat) := [(95, .aload_n 0, 1), (96, .iload_n 2, 1)]
theorem e134_95 : am_dec am_M134 q134_95 = true := by decide +kernel
theorem e134_95_c : am_dc1 am_M134 97 (.invokevirtual 183) 3 = true := by decide +kernel
theorem b134_95 {d : Nat} {Q : Option Value ⊕ Nat → am_Mem → Prop} {μ : am_Mem} {r0 : Nat} {x1 x2 x3 : Int32} {P : am_Mem → Prop} {X : Nat → am_Mem → Prop}
    (hk : am_kd μ r0 = (1, 11))
    (hc : Wp d 129 (0, [some (.ref r0), some (.int x2)], [], μ) (pV P X)) (hr : ∀ μ', P μ' → Wp (d + 1) 134 (100, [some (.ref r0), some (.int x1), some (.int x2), some (.int x3)], [], (μ')) Q)
    (hx : ∀ x μ', X x μ' → Q (.inr x) μ') :
    Wp (d + 1) 134 (95, [some (.ref r0), some (.int x1), some (.int x2), some (.int x3)], [], μ) Q := wp_blk rfl e134_95 (wp_cv (as := [.int x2]) rfl e134_95_c rfl rfl rfl rfl rfl hk hc (fun v μ' hv => by obtain ⟨rfl, hp⟩ := pV_r hv; exact hr μ' hp) hx)
def q134_100 : List (Nat × Instr × Nat) := [(100, .aload_n 0, 1), (101, .getfield 64, 3), (104, .getfield 157, 3), (107, .aload_n 0, 1), (108, .getfield 64, 3), (111, .getfield 219, 3), (114, .iload_n 2, 1), (115, .iaload, 1), (116, .iload_n 3, 1)]
theorem e134_100 : am_dec am_M134 q134_100 = true := by decide +kernel
theorem e134_100_c : am_dc1 am_M134 117 (.invokevirtual 215) 3 = true := by decide +kernel
theorem b134_100 {d : Nat} {Q : Option Value ⊕ Nat → am_Mem → Prop} {μ : am_Mem} {r0 : Nat} {x1 x2 x3 : Int32} {P : Int32 → am_Mem → Prop} {X : Nat → am_Mem → Prop}
    (h1 : am_kd μ r0 = (1, 11))
    (h2 : ¬ am_F μ r0 9 = 15)
    (h3 : am_kd μ (am_F μ r0 9) = (1, 2))
    (h4 : ¬ am_F μ (am_F μ r0 9) 0 = 15)
    (h5 : am_kd μ r0 = (1, 11))
    (h6 : ¬ am_F μ r0 9 = 15)
    (h7 : am_kd μ (am_F μ r0 9) = (1, 2))
    (h8 : ¬ am_F μ (am_F μ r0 9) 3 = 15)
    (h9 : (am_kd μ (am_F μ (am_F μ r0 9) 3)).1 = 2 ∨ (am_kd μ (am_F μ (am_F μ r0 9) 3)).1 = 8)
    (h10 : ¬ (x2 < 0 ∨ (am_kd μ (am_F μ (am_F μ r0 9) 3)).2 ≤ x2.toNatClampNeg))
    (hk : am_kd μ (am_F μ (am_F μ r0 9) 0) = (1, 8))
    (hc : Wp d 100 (0, [some (.ref (am_F μ (am_F μ r0 9) 0)), some (.int (am_A μ (am_F μ (am_F μ r0 9) 3) x2.toNatClampNeg)), some (.int x3), none, none, none, none, none], [], μ) (pI P X)) (hr : ∀ x μ', P x μ' → Wp (d + 1) 134 (120, [some (.ref r0), some (.int x1), some (.int x2), some (.int x3)], [.int x], (μ')) Q)
    (hx : ∀ x μ', X x μ' → Q (.inr x) μ') :
    Wp (d + 1) 134 (100, [some (.ref r0), some (.int x1), some (.int x2), some (.int x3)], [], μ) Q := wp_blk rfl e134_100 (And.intro h1 (And.intro h2 (And.intro h3 (And.intro h4 (And.intro h5 (And.intro h6 (And.intro h7 (And.intro h8 (And.intro h9 (And.intro h10 (wp_cv (as := [.int (am_A μ (am_F μ (am_F μ r0 9) 3) x2.toNatClampNeg), .int x3]) rfl e134_100_c rfl rfl rfl rfl rfl hk hc (fun v μ' hv => by obtain ⟨x, rfl, hp⟩ := pI_r hv; exact hr x μ' hp) hx)))))))))))
theorem e134_120_r : am_dec am_M134 [(120, .ireturn, 1)] = true := by decide +kernel
theorem b134_120 {d : Nat} {Q : Option Value ⊕ Nat → am_Mem → Prop} {μ : am_Mem} {r0 : Nat} {x1 x2 x3 s0 : Int32}
    (k : Q (.inl (some (.int s0))) μ) :
    Wp d 134 (120, [some (.ref r0), some (.int x1), some (.int x2), some (.int x3)], [.int s0], μ) Q := (wp_ri (ty := .int) rfl e134_120_r rfl ⟨rfl, rfl⟩ k)
def q134_121 : List (Nat × Instr × Nat) := [(121, .aload_n 0, 1), (122, .iload_n 1, 1), (123, .iconst 1, 1), (124, .isub, 1)]
theorem e134_121 : am_dec am_M134 q134_121 = true := by decide +kernel
theorem e134_121_c : am_dc1 am_M134 125 (.invokevirtual 183) 3 = true := by decide +kernel
theorem b134_121 {d : Nat} {Q : Option Value ⊕ Nat → am_Mem → Prop} {μ : am_Mem} {r0 : Nat} {x1 x2 x3 : Int32} {P : am_Mem → Prop} {X : Nat → am_Mem → Prop}
    (hk : am_kd μ r0 = (1, 11))
    (hc : Wp d 129 (0, [some (.ref r0), some (.int (x1 - (Int32.ofInt 1)))], [], μ) (pV P X)) (hr : ∀ μ', P μ' → Wp (d + 1) 134 (128, [some (.ref r0), some (.int x1), some (.int x2), some (.int x3)], [], (μ')) Q)
    (hx : ∀ x μ', X x μ' → Q (.inr x) μ') :
    Wp (d + 1) 134 (121, [some (.ref r0), some (.int x1), some (.int x2), some (.int x3)], [], μ) Q := wp_blk rfl e134_121 (wp_cv (as := [.int (x1 - (Int32.ofInt 1))]) rfl e134_121_c rfl rfl rfl rfl rfl hk hc (fun v μ' hv => by obtain ⟨rfl, hp⟩ := pV_r hv; exact hr μ' hp) hx)
def q134_128 : List (Nat × Instr × Nat) := [(128, .aload_n 0, 1)]
theorem e134_128 : am_dec am_M134 q134_128 = true := by decide +kernel
theorem e134_128_c : am_dc1 am_M134 129 (.invokevirtual 186) 3 = true := by decide +kernel
theorem b134_128 {d : Nat} {Q : Option Value ⊕ Nat → am_Mem → Prop} {μ : am_Mem} {r0 : Nat} {x1 x2 x3 : Int32} {P : am_Mem → Prop} {X : Nat → am_Mem → Prop}
    (hk : am_kd μ r0 = (1, 11))
    (hc : Wp d 130 (0, [some (.ref r0)], [], μ) (pV P X)) (hr : ∀ μ', P μ' → Wp (d + 1) 134 (132, [some (.ref r0), some (.int x1), some (.int x2), some (.int x3)], [], (μ')) Q)
    (hx : ∀ x μ', X x μ' → Q (.inr x) μ') :
    Wp (d + 1) 134 (128, [some (.ref r0), some (.int x1), some (.int x2), some (.int x3)], [], μ) Q := wp_blk rfl e134_128 (wp_cv (as := []) rfl e134_128_c rfl rfl rfl rfl rfl hk hc (fun v μ' hv => by obtain ⟨rfl, hp⟩ := pV_r hv; exact hr μ' hp) hx)
def q134_132 : List (Nat × Instr × Nat) := [(132, .iload_n 2, 1), (133, .aload_n 0, 1), (134, .getfield 81, 3), (137, .iload_n 1, 1), (138, .iconst 1, 1), (139, .isub, 1)]
theorem e134_132 : am_dec am_M134 q134_132 = true := by decide +kernel
theorem e134_132_c : am_dc1 am_M134 140 (.invokevirtual 189) 3 = true := by decide +kernel
theorem b134_132 {d : Nat} {Q : Option Value ⊕ Nat → am_Mem → Prop} {μ : am_Mem} {r0 : Nat} {x1 x2 x3 : Int32} {P : Int32 → am_Mem → Prop} {X : Nat → am_Mem → Prop}
    (h1 : am_kd μ r0 = (1, 11))
    (h2 : ¬ am_F μ r0 13 = 15)
    (hk : am_kd μ (am_F μ r0 13) = (1, 10))
    (hc : Wp d 114 (0, [some (.ref (am_F μ r0 13)), some (.int (x1 - (Int32.ofInt 1)))], [], μ) (pI P X)) (hr : ∀ x μ', P x μ' → Wp (d + 1) 134 (143, [some (.ref r0), some (.int x1), some (.int x2), some (.int x3)], [.int x, .int x2], (μ')) Q)
    (hx : ∀ x μ', X x μ' → Q (.inr x) μ') :
    Wp (d + 1) 134 (132, [some (.ref r0), some (.int x1), some (.int x2), some (.int x3)], [], μ) Q := wp_blk rfl e134_132 (And.intro h1 (And.intro h2 (wp_cv (as := [.int (x1 - (Int32.ofInt 1))]) rfl e134_132_c rfl rfl rfl rfl rfl hk hc (fun v μ' hv => by obtain ⟨x, rfl, hp⟩ := pI_r hv; exact hr x μ' hp) hx)))
def q134_143 : List (Nat × Instr × Nat) := [(143, .if_icmp .lt 13, 3)]
theorem e134_143 : am_dec am_M134 q134_143 = true := by decide +kernel
theorem b134_143 {d : Nat} {Q : Option Value ⊕ Nat → am_Mem → Prop} {μ : am_Mem} {r0 : Nat} {x1 x2 x3 s0 s1 : Int32}
    (k1 : s0 < s1 → Wp d 134 (156, [some (.ref r0), some (.int x1), some (.int x2), some (.int x3)], [], μ) Q) (k2 : ¬ (s0 < s1) → Wp d 134 (146, [some (.ref r0), some (.int x1), some (.int x2), some (.int x3)], [], μ) Q) :
    Wp d 134 (143, [some (.ref r0), some (.int x1), some (.int x2), some (.int x3)], [.int s1, .int s0], μ) Q := wp_blk rfl e134_143 (And.intro k1 k2)
theorem e134_146_t : am_dc1 am_M134 146 (.new 199) 3 = true ∧ am_throw GG 11 134 146 (.new 199) = some 2 := by decide +kernel
theorem b134_146 {d : Nat} {Q : Option Value ⊕ Nat → am_Mem → Prop} {μ : am_Mem} {r0 : Nat} {x1 x2 x3 : Int32}
    (k : Q (.inr 2) (am_nX μ)) :
    Wp d 134 (146, [some (.ref r0), some (.int x1), some (.int x2), some (.int x3)], [], μ) Q := (wp_throw rfl e134_146_t.1 ⟨_, rfl⟩ rfl e134_146_t.2 rfl k)
def q134_156 : List (Nat × Instr × Nat) := [(156, .aload_n 0, 1), (157, .getfield 64, 3), (160, .getfield 157, 3), (163, .aload_n 0, 1), (164, .getfield 81, 3), (167, .iload_n 1, 1), (168, .iconst 1, 1), (169, .isub, 1), (170, .iload_n 2, 1)]
theorem e134_156 : am_dec am_M134 q134_156 = true := by decide +kernel
theorem e134_156_c : am_dc1 am_M134 171 (.invokevirtual 224) 3 = true := by decide +kernel
theorem b134_156 {d : Nat} {Q : Option Value ⊕ Nat → am_Mem → Prop} {μ : am_Mem} {r0 : Nat} {x1 x2 x3 : Int32} {P : Int32 → am_Mem → Prop} {X : Nat → am_Mem → Prop}
    (h1 : am_kd μ r0 = (1, 11))
    (h2 : ¬ am_F μ r0 9 = 15)
    (h3 : am_kd μ (am_F μ r0 9) = (1, 2))
    (h4 : ¬ am_F μ (am_F μ r0 9) 0 = 15)
    (h5 : am_kd μ r0 = (1, 11))
    (h6 : ¬ am_F μ r0 13 = 15)
    (hk : am_kd μ (am_F μ r0 13) = (1, 10))
    (hc : Wp d 117 (0, [some (.ref (am_F μ r0 13)), some (.int (x1 - (Int32.ofInt 1))), some (.int x2)], [], μ) (pI P X)) (hr : ∀ x μ', P x μ' → Wp (d + 1) 134 (174, [some (.ref r0), some (.int x1), some (.int x2), some (.int x3)], [.int x, .ref (am_F μ (am_F μ r0 9) 0)], (μ')) Q)
    (hx : ∀ x μ', X x μ' → Q (.inr x) μ') :
    Wp (d + 1) 134 (156, [some (.ref r0), some (.int x1), some (.int x2), some (.int x3)], [], μ) Q := wp_blk rfl e134_156 (And.intro h1 (And.intro h2 (And.intro h3 (And.intro h4 (And.intro h5 (And.intro h6 (wp_cv (as := [.int (x1 - (Int32.ofInt 1)), .int x2]) rfl e134_156_c rfl rfl rfl rfl rfl hk hc (fun v μ' hv => by obtain ⟨x, rfl, hp⟩ := pI_r hv; exact hr x μ' hp) hx)))))))
def q134_174 : List (Nat × Instr × Nat) := [(174, .iload_n 3, 1)]
theorem e134_174 : am_dec am_M134 q134_174 = true := by decide +kernel
theorem e134_174_c : am_dc1 am_M134 175 (.invokevirtual 215) 3 = true := by decide +kernel
theorem b134_174 {d : Nat} {Q : Option Value ⊕ Nat → am_Mem → Prop} {μ : am_Mem} {r0 r90 : Nat} {x1 x2 x3 s1 : Int32} {P : Int32 → am_Mem → Prop} {X : Nat → am_Mem → Prop}
    (hk : am_kd μ r90 = (1, 8))
    (hc : Wp d 100 (0, [some (.ref r90), some (.int s1), some (.int x3), none, none, none, none, none], [], μ) (pI P X)) (hr : ∀ x μ', P x μ' → Wp (d + 1) 134 (178, [some (.ref r0), some (.int x1), some (.int x2), some (.int x3)], [.int x], (μ')) Q)
    (hx : ∀ x μ', X x μ' → Q (.inr x) μ') :
    Wp (d + 1) 134 (174, [some (.ref r0), some (.int x1), some (.int x2), some (.int x3)], [.int s1, .ref r90], μ) Q := wp_blk rfl e134_174 (wp_cv (as := [.int s1, .int x3]) rfl e134_174_c rfl rfl rfl rfl rfl hk hc (fun v μ' hv => by obtain ⟨x, rfl, hp⟩ := pI_r hv; exact hr x μ' hp) hx)
theorem e134_178_r : am_dec am_M134 [(178, .ireturn, 1)] = true := by decide +kernel
theorem b134_178 {d : Nat} {Q : Option Value ⊕ Nat → am_Mem → Prop} {μ : am_Mem} {r0 : Nat} {x1 x2 x3 s0 : Int32}
    (k : Q (.inl (some (.int s0))) μ) :
    Wp d 134 (178, [some (.ref r0), some (.int x1), some (.int x2), some (.int x3)], [.int s0], μ) Q := (wp_ri (ty := .int) rfl e134_178_r rfl ⟨rfl, rfl⟩ k)
/-! RuleSheets.explore()I -/
def q135_0 : List (Nat × Instr × Nat) := [(0, .aload_n 0, 1)]
theorem e135_0 : am_dec am_M135 q135_0 = true := by decide +kernel
theorem e135_0_c : am_dc1 am_M135 1 (.invokevirtual 143) 3 = true := by decide +kernel
theorem b135_0 {d : Nat} {Q : Option Value ⊕ Nat → am_Mem → Prop} {μ : am_Mem} {r0 : Nat} {P : am_Mem → Prop} {X : Nat → am_Mem → Prop}
    (hk : am_kd μ r0 = (1, 11))
    (hc : Wp d 124 (0, [some (.ref r0)], [], μ) (pV P X)) (hr : ∀ μ', P μ' → Wp (d + 1) 135 (4, [some (.ref r0), none], [], (μ')) Q)
    (hx : ∀ x μ', X x μ' → Q (.inr x) μ') :
    Wp (d + 1) 135 (0, [some (.ref r0), none], [], μ) Q := wp_blk rfl e135_0 (wp_cv (as := []) rfl e135_0_c rfl rfl rfl rfl rfl hk hc (fun v μ' hv => by obtain ⟨rfl, hp⟩ := pV_r hv; exact hr μ' hp) hx)
def q135_4 : List (Nat × Instr × Nat) := [(4, .aload_n 0, 1), (5, .getfield 98, 3), (8, .ifCond .ne 124, 3)]
theorem e135_4 : am_dec am_M135 q135_4 = true := by decide +kernel
theorem b135_4 {d : Nat} {Q : Option Value ⊕ Nat → am_Mem → Prop} {μ : am_Mem} {r0 : Nat}
    (h1 : am_kd μ r0 = (1, 11))
    (k1 : ¬ (am_A μ r0 17) = 0 → Wp d 135 (132, [some (.ref r0), none], [], μ) Q) (k2 : ¬ (¬ (am_A μ r0 17) = 0) → Wp d 135 (11, [some (.ref r0), none], [], μ) Q) :
    Wp d 135 (4, [some (.ref r0), none], [], μ) Q := wp_blk rfl e135_4 (And.intro h1 (And.intro k1 k2))
def q135_11 : List (Nat × Instr × Nat) := [(11, .aload_n 0, 1), (12, .iconst 2, 1), (13, .putfield 98, 3), (16, .aload_n 0, 1), (17, .getfield 64, 3)]
theorem e135_11 : am_dec am_M135 q135_11 = true := by decide +kernel
theorem e135_11_c : am_dc1 am_M135 20 (.invokevirtual 154) 3 = true := by decide +kernel
theorem b135_11 {d : Nat} {Q : Option Value ⊕ Nat → am_Mem → Prop} {μ : am_Mem} {r0 : Nat} {P : am_Mem → Prop} {X : Nat → am_Mem → Prop}
    (h1 : am_kd μ r0 = (1, 11))
    (h2 : am_kd (am_pA μ r0 17 (Int32.ofInt 2)) r0 = (1, 11))
    (h3 : ¬ am_F (am_pA μ r0 17 (Int32.ofInt 2)) r0 9 = 15)
    (hk : am_kd (am_pA μ r0 17 (Int32.ofInt 2)) (am_F (am_pA μ r0 17 (Int32.ofInt 2)) r0 9) = (1, 2))
    (hc : Wp d 36 (0, [some (.ref (am_F (am_pA μ r0 17 (Int32.ofInt 2)) r0 9)), none, none], [], (am_pA μ r0 17 (Int32.ofInt 2))) (pV P X)) (hr : ∀ μ', P μ' → Wp (d + 1) 135 (23, [some (.ref r0), none], [], (μ')) Q)
    (hx : ∀ x μ', X x μ' → Q (.inr x) μ') :
    Wp (d + 1) 135 (11, [some (.ref r0), none], [], μ) Q := wp_blk rfl e135_11 (And.intro h1 (And.intro ⟨rfl, rfl⟩ (And.intro h2 (And.intro h3 (wp_cv (as := []) rfl e135_11_c rfl rfl rfl rfl rfl hk hc (fun v μ' hv => by obtain ⟨rfl, hp⟩ := pV_r hv; exact hr μ' hp) hx)))))
def q135_23 : List (Nat × Instr × Nat) := [(23, .aload_n 0, 1), (24, .getfield 64, 3), (27, .getfield 157, 3), (30, .aload_n 0, 1), (31, .getfield 64, 3), (34, .getfield 161, 3)]
theorem e135_23 : am_dec am_M135 q135_23 = true := by decide +kernel
theorem e135_23_c : am_dc1 am_M135 37 (.invokevirtual 164) 3 = true := by decide +kernel
theorem b135_23 {d : Nat} {Q : Option Value ⊕ Nat → am_Mem → Prop} {μ : am_Mem} {r0 : Nat} {P : am_Mem → Prop} {X : Nat → am_Mem → Prop}
    (h1 : am_kd μ r0 = (1, 11))
    (h2 : ¬ am_F μ r0 9 = 15)
    (h3 : am_kd μ (am_F μ r0 9) = (1, 2))
    (h4 : ¬ am_F μ (am_F μ r0 9) 0 = 15)
    (h5 : am_kd μ r0 = (1, 11))
    (h6 : ¬ am_F μ r0 9 = 15)
    (h7 : am_kd μ (am_F μ r0 9) = (1, 2))
    (hk : am_kd μ (am_F μ (am_F μ r0 9) 0) = (1, 8))
    (hc : Wp d 90 (0, [some (.ref (am_F μ (am_F μ r0 9) 0)), some (.int (am_A μ (am_F μ r0 9) 15)), none], [], μ) (pV P X)) (hr : ∀ μ', P μ' → Wp (d + 1) 135 (40, [some (.ref r0), none], [], (μ')) Q)
    (hx : ∀ x μ', X x μ' → Q (.inr x) μ') :
    Wp (d + 1) 135 (23, [some (.ref r0), none], [], μ) Q := wp_blk rfl e135_23 (And.intro h1 (And.intro h2 (And.intro h3 (And.intro h4 (And.intro h5 (And.intro h6 (And.intro h7 (wp_cv (as := [.int (am_A μ (am_F μ r0 9) 15)]) rfl e135_23_c rfl rfl rfl rfl rfl hk hc (fun v μ' hv => by obtain ⟨rfl, hp⟩ := pV_r hv; exact hr μ' hp) hx))))))))
def q135_40 : List (Nat × Instr × Nat) := [(40, .aload_n 0, 1), (41, .getfield 94, 3), (44, .aload_n 0, 1), (45, .getfield 64, 3), (48, .getfield 151, 3)]
theorem e135_40 : am_dec am_M135 q135_40 = true := by decide +kernel
theorem e135_40_c : am_dc1 am_M135 51 (.invokevirtual 227) 3 = true := by decide +kernel
theorem b135_40 {d : Nat} {Q : Option Value ⊕ Nat → am_Mem → Prop} {μ : am_Mem} {r0 : Nat} {P : am_Mem → Prop} {X : Nat → am_Mem → Prop}
    (h1 : am_kd μ r0 = (1, 11))
    (h2 : ¬ am_F μ r0 16 = 15)
    (h3 : am_kd μ r0 = (1, 11))
    (h4 : ¬ am_F μ r0 9 = 15)
    (h5 : am_kd μ (am_F μ r0 9) = (1, 2))
    (hk : am_kd μ (am_F μ r0 16) = (1, 6))
    (hc : Wp d 73 (0, [some (.ref (am_F μ r0 16)), some (.int (am_A μ (am_F μ r0 9) 4))], [], μ) (pV P X)) (hr : ∀ μ', P μ' → Wp (d + 1) 135 (54, [some (.ref r0), none], [], (μ')) Q)
    (hx : ∀ x μ', X x μ' → Q (.inr x) μ') :
    Wp (d + 1) 135 (40, [some (.ref r0), none], [], μ) Q := wp_blk rfl e135_40 (And.intro h1 (And.intro h2 (And.intro h3 (And.intro h4 (And.intro h5 (wp_cv (as := [.int (am_A μ (am_F μ r0 9) 4)]) rfl e135_40_c rfl rfl rfl rfl rfl hk hc (fun v μ' hv => by obtain ⟨rfl, hp⟩ := pV_r hv; exact hr μ' hp) hx))))))
def q135_54 : List (Nat × Instr × Nat) := [(54, .aload_n 0, 1), (55, .lconst 0, 1), (56, .putfield 101, 3), (59, .aload_n 0, 1), (60, .getfield 64, 3), (63, .aload_n 0, 1), (64, .getfield 68, 3), (67, .iconst 0, 1), (68, .aload_n 0, 1), (69, .getfield 88, 3), (72, .getfield 170, 3), (75, .iconst 0, 1)]
theorem e135_54 : am_dec am_M135 q135_54 = true := by decide +kernel
theorem e135_54_c : am_dc1 am_M135 76 (.invokevirtual 173) 3 = true := by decide +kernel
theorem b135_54 {d : Nat} {Q : Option Value ⊕ Nat → am_Mem → Prop} {μ : am_Mem} {r0 : Nat} {P : am_Mem → Prop} {X : Nat → am_Mem → Prop}
    (h1 : am_kd μ r0 = (1, 11))
    (h2 : am_kd (am_pL μ r0 18 (Int64.ofNat 0)) r0 = (1, 11))
    (h3 : ¬ am_F (am_pL μ r0 18 (Int64.ofNat 0)) r0 9 = 15)
    (h4 : am_kd (am_pL μ r0 18 (Int64.ofNat 0)) r0 = (1, 11))
    (h5 : ¬ am_F (am_pL μ r0 18 (Int64.ofNat 0)) r0 10 = 15)
    (h6 : am_kd (am_pL μ r0 18 (Int64.ofNat 0)) r0 = (1, 11))
    (h7 : ¬ am_F (am_pL μ r0 18 (Int64.ofNat 0)) r0 15 = 15)
    (h8 : am_kd (am_pL μ r0 18 (Int64.ofNat 0)) (am_F (am_pL μ r0 18 (Int64.ofNat 0)) r0 15) = (1, 10))
    (h9 : ¬ am_F (am_pL μ r0 18 (Int64.ofNat 0)) (am_F (am_pL μ r0 18 (Int64.ofNat 0)) r0 15) 5 = 15)
    (hk : am_kd (am_pL μ r0 18 (Int64.ofNat 0)) (am_F (am_pL μ r0 18 (Int64.ofNat 0)) r0 9) = (1, 2))
    (hc : Wp d 45 (0, [some (.ref (am_F (am_pL μ r0 18 (Int64.ofNat 0)) r0 9)), some (.ref (am_F (am_pL μ r0 18 (Int64.ofNat 0)) r0 10)), some (.int (Int32.ofInt 0)), some (.ref (am_F (am_pL μ r0 18 (Int64.ofNat 0)) (am_F (am_pL μ r0 18 (Int64.ofNat 0)) r0 15) 5)), some (.int (Int32.ofInt 0)), none, none], [], (am_pL μ r0 18 (Int64.ofNat 0))) (pV P X)) (hr : ∀ μ', P μ' → Wp (d + 1) 135 (79, [some (.ref r0), none], [], (μ')) Q)
    (hx : ∀ x μ', X x μ' → Q (.inr x) μ') :
    Wp (d + 1) 135 (54, [some (.ref r0), none], [], μ) Q := wp_blk rfl e135_54 (And.intro h1 (And.intro ⟨rfl, rfl⟩ (And.intro h2 (And.intro h3 (And.intro h4 (And.intro h5 (And.intro h6 (And.intro h7 (And.intro h8 (And.intro h9 (wp_cv (as := [.ref (am_F (am_pL μ r0 18 (Int64.ofNat 0)) r0 10), .int (Int32.ofInt 0), .ref (am_F (am_pL μ r0 18 (Int64.ofNat 0)) (am_F (am_pL μ r0 18 (Int64.ofNat 0)) r0 15) 5), .int (Int32.ofInt 0)]) rfl e135_54_c rfl rfl rfl rfl rfl hk hc (fun v μ' hv => by obtain ⟨rfl, hp⟩ := pV_r hv; exact hr μ' hp) hx)))))))))))
def q135_79 : List (Nat × Instr × Nat) := [(79, .aload_n 0, 1)]
theorem e135_79 : am_dec am_M135 q135_79 = true := by decide +kernel
theorem e135_79_c : am_dc1 am_M135 80 (.invokevirtual 229) 3 = true := by decide +kernel
theorem b135_79 {d : Nat} {Q : Option Value ⊕ Nat → am_Mem → Prop} {μ : am_Mem} {r0 : Nat} {P : am_Mem → Prop} {X : Nat → am_Mem → Prop}
    (hk : am_kd μ r0 = (1, 11))
    (hc : Wp d 136 (0, [some (.ref r0)], [], μ) (pV P X)) (hr : ∀ μ', P μ' → Wp (d + 1) 135 (83, [some (.ref r0), none], [], (μ')) Q)
    (hx : ∀ x μ', X x μ' → Q (.inr x) μ') :
    Wp (d + 1) 135 (79, [some (.ref r0), none], [], μ) Q := wp_blk rfl e135_79 (wp_cv (as := []) rfl e135_79_c rfl rfl rfl rfl rfl hk hc (fun v μ' hv => by obtain ⟨rfl, hp⟩ := pV_r hv; exact hr μ' hp) hx)
def q135_83 : List (Nat × Instr × Nat) := [(83, .aload_n 0, 1), (84, .iconst 1, 1)]
theorem e135_83 : am_dec am_M135 q135_83 = true := by decide +kernel
theorem e135_83_c : am_dc1 am_M135 85 (.invokevirtual 232) 3 = true := by decide +kernel
theorem b135_83 {d : Nat} {Q : Option Value ⊕ Nat → am_Mem → Prop} {μ : am_Mem} {r0 : Nat} {P : Int32 → am_Mem → Prop} {X : Nat → am_Mem → Prop}
    (hk : am_kd μ r0 = (1, 11))
    (hc : Wp d 137 (0, [some (.ref r0), some (.int (Int32.ofInt 1)), none], [], μ) (pI P X)) (hr : ∀ x μ', P x μ' → Wp (d + 1) 135 (88, [some (.ref r0), none], [.int x], (μ')) Q)
    (hx : ∀ x μ', X x μ' → Q (.inr x) μ') :
    Wp (d + 1) 135 (83, [some (.ref r0), none], [], μ) Q := wp_blk rfl e135_83 (wp_cv (as := [.int (Int32.ofInt 1)]) rfl e135_83_c rfl rfl rfl rfl rfl hk hc (fun v μ' hv => by obtain ⟨x, rfl, hp⟩ := pI_r hv; exact hr x μ' hp) hx)
def q135_88 : List (Nat × Instr × Nat) := [(88, .pop, 1), (89, .iconst 0, 1), (90, .istore_n 1, 1)]
theorem e135_88 : am_dec am_M135 q135_88 = true := by decide +kernel
theorem b135_88 {d : Nat} {Q : Option Value ⊕ Nat → am_Mem → Prop} {μ : am_Mem} {r0 : Nat} {s0 : Int32}
    (k : Wp d 135 (91, [some (.ref r0), some (.int (Int32.ofInt 0))], [], μ) Q) :
    Wp d 135 (88, [some (.ref r0), none], [.int s0], μ) Q := wp_blk rfl e135_88 k
def q135_91 : List (Nat × Instr × Nat) := [(91, .iload_n 1, 1), (92, .aload_n 0, 1), (93, .getfield 94, 3), (96, .getfield 235, 3), (99, .if_icmp .ge 21, 3)]
theorem e135_91 : am_dec am_M135 q135_91 = true := by decide +kernel
theorem b135_91 {d : Nat} {Q : Option Value ⊕ Nat → am_Mem → Prop} {μ : am_Mem} {r0 : Nat} {x1 : Int32}
    (h1 : am_kd μ r0 = (1, 11))
    (h2 : ¬ am_F μ r0 16 = 15)
    (h3 : am_kd μ (am_F μ r0 16) = (1, 6))
    (k1 : (am_A μ (am_F μ r0 16) 1) ≤ x1 → Wp d 135 (120, [some (.ref r0), some (.int x1)], [], μ) Q) (k2 : ¬ ((am_A μ (am_F μ r0 16) 1) ≤ x1) → Wp d 135 (102, [some (.ref r0), some (.int x1)], [], μ) Q) :
    Wp d 135 (91, [some (.ref r0), some (.int x1)], [], μ) Q := wp_blk rfl e135_91 (And.intro h1 (And.intro h2 (And.intro h3 (And.intro k1 k2))))
def q135_102 : List (Nat × Instr × Nat) := [(102, .iload_n 1, 1), (103, .sipush 300, 3), (106, .if_icmp .ge 14, 3)]
theorem e135_102 : am_dec am_M135 q135_102 = true := by decide +kernel
theorem b135_102 {d : Nat} {Q : Option Value ⊕ Nat → am_Mem → Prop} {μ : am_Mem} {r0 : Nat} {x1 : Int32}
    (k1 : ((Int16.ofInt 300).toInt32) ≤ x1 → Wp d 135 (120, [some (.ref r0), some (.int x1)], [], μ) Q) (k2 : ¬ (((Int16.ofInt 300).toInt32) ≤ x1) → Wp d 135 (109, [some (.ref r0), some (.int x1)], [], μ) Q) :
    Wp d 135 (102, [some (.ref r0), some (.int x1)], [], μ) Q := wp_blk rfl e135_102 (And.intro k1 k2)
def q135_109 : List (Nat × Instr × Nat) := [(109, .aload_n 0, 1), (110, .iload_n 1, 1)]
theorem e135_109 : am_dec am_M135 q135_109 = true := by decide +kernel
theorem e135_109_c : am_dc1 am_M135 111 (.invokevirtual 238) 3 = true := by decide +kernel
theorem b135_109 {d : Nat} {Q : Option Value ⊕ Nat → am_Mem → Prop} {μ : am_Mem} {r0 : Nat} {x1 : Int32} {P : am_Mem → Prop} {X : Nat → am_Mem → Prop}
    (hk : am_kd μ r0 = (1, 11))
    (hc : Wp d 138 (0, [some (.ref r0), some (.int x1), none, none, none, none, none], [], μ) (pV P X)) (hr : ∀ μ', P μ' → Wp (d + 1) 135 (114, [some (.ref r0), some (.int x1)], [], (μ')) Q)
    (hx : ∀ x μ', X x μ' → Q (.inr x) μ') :
    Wp (d + 1) 135 (109, [some (.ref r0), some (.int x1)], [], μ) Q := wp_blk rfl e135_109 (wp_cv (as := [.int x1]) rfl e135_109_c rfl rfl rfl rfl rfl hk hc (fun v μ' hv => by obtain ⟨rfl, hp⟩ := pV_r hv; exact hr μ' hp) hx)
def q135_114 : List (Nat × Instr × Nat) := [(114, .iinc 1 1, 3), (117, .goto (-26), 3)]
theorem e135_114 : am_dec am_M135 q135_114 = true := by decide +kernel
theorem b135_114 {d : Nat} {Q : Option Value ⊕ Nat → am_Mem → Prop} {μ : am_Mem} {r0 : Nat} {x1 : Int32}
    (k : Wp d 135 (91, [some (.ref r0), some (.int (x1 + Int32.ofInt 1))], [], μ) Q) :
    Wp d 135 (114, [some (.ref r0), some (.int x1)], [], μ) Q := wp_blk rfl e135_114 k
def q135_120 : List (Nat × Instr × Nat) := [(120, .aload_n 0, 1), (121, .getfield 94, 3)]
theorem e135_120 : am_dec am_M135 q135_120 = true := by decide +kernel
theorem e135_120_c : am_dc1 am_M135 124 (.invokevirtual 241) 3 = true := by decide +kernel
theorem b135_120 {d : Nat} {Q : Option Value ⊕ Nat → am_Mem → Prop} {μ : am_Mem} {r0 : Nat} {x1 : Int32} {P : am_Mem → Prop} {X : Nat → am_Mem → Prop}
    (h1 : am_kd μ r0 = (1, 11))
    (h2 : ¬ am_F μ r0 16 = 15)
    (hk : am_kd μ (am_F μ r0 16) = (1, 6))
    (hc : Wp d 76 (0, [some (.ref (am_F μ r0 16)), none], [], μ) (pV P X)) (hr : ∀ μ', P μ' → Wp (d + 1) 135 (127, [some (.ref r0), some (.int x1)], [], (μ')) Q)
    (hx : ∀ x μ', X x μ' → Q (.inr x) μ') :
    Wp (d + 1) 135 (120, [some (.ref r0), some (.int x1)], [], μ) Q := wp_blk rfl e135_120 (And.intro h1 (And.intro h2 (wp_cv (as := []) rfl e135_120_c rfl rfl rfl rfl rfl hk hc (fun v μ' hv => by obtain ⟨rfl, hp⟩ := pV_r hv; exact hr μ' hp) hx)))
def q135_127 : List (Nat × Instr × Nat) := [(127, .aload_n 0, 1), (128, .iconst 1, 1), (129, .putfield 98, 3)]
theorem e135_127 : am_dec am_M135 q135_127 = true := by decide +kernel
theorem b135_127 {d : Nat} {Q : Option Value ⊕ Nat → am_Mem → Prop} {μ : am_Mem} {r0 : Nat} {x1 : Int32}
    (h1 : am_kd μ r0 = (1, 11))
    (k : Wp d 135 (132, [some (.ref r0), some (.int x1)], [], (am_pA μ r0 17 (Int32.ofInt 1))) Q) :
    Wp d 135 (127, [some (.ref r0), some (.int x1)], [], μ) Q := wp_blk rfl e135_127 (And.intro h1 (And.intro ⟨rfl, rfl⟩ k))
def q135_132 : List (Nat × Instr × Nat) := [(132, .aload_n 0, 1), (133, .getfield 98, 3), (136, .iconst 2, 1), (137, .if_icmp .ne 13, 3)]
theorem e135_132 : am_dec am_M135 q135_132 = true := by decide +kernel
theorem b135_132 {d : Nat} {Q : Option Value ⊕ Nat → am_Mem → Prop} {μ : am_Mem} {r0 : Nat} {o1 : Option Value}
    (h1 : am_kd μ r0 = (1, 11))
    (k1 : ¬ (am_A μ r0 17) = (Int32.ofInt 2) → Wp d 135 (150, [some (.ref r0), o1], [], μ) Q) (k2 : ¬ (¬ (am_A μ r0 17) = (Int32.ofInt 2)) → Wp d 135 (140, [some (.ref r0), o1], [], μ) Q) :
    Wp d 135 (132, [some (.ref r0), o1], [], μ) Q := wp_blk rfl e135_132 (And.intro h1 (And.intro k1 k2))
theorem e135_140_t : am_dc1 am_M135 140 (.new 112) 3 = true ∧ am_throw GG 11 135 140 (.new 112) = some 3 := by decide +kernel
theorem b135_140 {d : Nat} {Q : Option Value ⊕ Nat → am_Mem → Prop} {μ : am_Mem} {r0 : Nat} {o1 : Option Value}
    (k : Q (.inr 3) (am_nX μ)) :
    Wp d 135 (140, [some (.ref r0), o1], [], μ) Q := (wp_throw rfl e135_140_t.1 ⟨_, rfl⟩ rfl e135_140_t.2 rfl k)
def q135_150 : List (Nat × Instr × Nat) := [(150, .aload_n 0, 1), (151, .getfield 94, 3), (154, .getfield 235, 3)]
theorem e135_150 : am_dec am_M135 q135_150 = true := by decide +kernel
theorem e135_150_r : am_dec am_M135 [(157, .ireturn, 1)] = true := by decide +kernel
theorem b135_150 {d : Nat} {Q : Option Value ⊕ Nat → am_Mem → Prop} {μ : am_Mem} {r0 : Nat} {o1 : Option Value}
    (h1 : am_kd μ r0 = (1, 11))
    (h2 : ¬ am_F μ r0 16 = 15)
    (h3 : am_kd μ (am_F μ r0 16) = (1, 6))
    (k : Q (.inl (some (.int (am_A μ (am_F μ r0 16) 1)))) μ) :
    Wp d 135 (150, [some (.ref r0), o1], [], μ) Q := wp_blk rfl e135_150 (And.intro h1 (And.intro h2 (And.intro h3 (wp_ri (ty := .int) rfl e135_150_r rfl ⟨rfl, rfl⟩ k))))
/-! RuleSheets.addWork()V -/
def q136_0 : List (Nat × Instr × Nat) := [(0, .aload_n 0, 1), (1, .dup, 1), (2, .getfield 101, 3), (5, .aload_n 0, 1), (6, .getfield 64, 3), (9, .getfield 321, 3), (12, .ladd, 1), (13, .putfield 101, 3), (16, .aload_n 0, 1), (17, .getfield 101, 3), (20, .ldc2_w 322, 3), (23, .lcmp, 1), (24, .ifCond .le 14, 3)]
theorem e136_0 : am_dec am_M136 q136_0 = true := by decide +kernel
theorem b136_0 {d : Nat} {Q : Option Value ⊕ Nat → am_Mem → Prop} {μ : am_Mem} {r0 : Nat}
    (h1 : am_kd μ r0 = (1, 11))
    (h2 : am_kd μ r0 = (1, 11))
    (h3 : ¬ am_F μ r0 9 = 15)
    (h4 : am_kd μ (am_F μ r0 9) = (1, 2))
    (h5 : am_kd μ r0 = (1, 11))
    (h6 : am_kd (am_pL μ r0 18 ((am_L μ r0 18) + (am_L μ (am_F μ r0 9) 16))) r0 = (1, 11))
    (k1 : (lg_cmp (am_L (am_pL μ r0 18 ((am_L μ r0 18) + (am_L μ (am_F μ r0 9) 16))) r0 18) (30000000 : Int64)) ≤ 0 → Wp d 136 (38, [some (.ref r0)], [], (am_pL μ r0 18 ((am_L μ r0 18) + (am_L μ (am_F μ r0 9) 16)))) Q) (k2 : ¬ ((lg_cmp (am_L (am_pL μ r0 18 ((am_L μ r0 18) + (am_L μ (am_F μ r0 9) 16))) r0 18) (30000000 : Int64)) ≤ 0) → Wp d 136 (27, [some (.ref r0)], [], (am_pL μ r0 18 ((am_L μ r0 18) + (am_L μ (am_F μ r0 9) 16)))) Q) :
    Wp d 136 (0, [some (.ref r0)], [], μ) Q := wp_blk rfl e136_0 (And.intro h1 (And.intro h2 (And.intro h3 (And.intro h4 (And.intro h5 (And.intro ⟨rfl, rfl⟩ (And.intro h6 (And.intro k1 k2))))))))
theorem e136_27_t : am_dc1 am_M136 27 (.new 112) 3 = true ∧ am_throw GG 11 136 27 (.new 112) = some 3 := by decide +kernel
theorem b136_27 {d : Nat} {Q : Option Value ⊕ Nat → am_Mem → Prop} {μ : am_Mem} {r0 : Nat}
    (k : Q (.inr 3) (am_nX μ)) :
    Wp d 136 (27, [some (.ref r0)], [], μ) Q := (wp_throw rfl e136_27_t.1 ⟨_, rfl⟩ rfl e136_27_t.2 rfl k)
theorem e136_38_r : am_dec am_M136 [(38, .return_, 1)] = true := by decide +kernel
theorem b136_38 {d : Nat} {Q : Option Value ⊕ Nat → am_Mem → Prop} {μ : am_Mem} {r0 : Nat}
    (k : Q (.inl none) μ) :
    Wp d 136 (38, [some (.ref r0)], [], μ) Q := (wp_rv rfl e136_38_r rfl k)
/-! RuleSheets.enter(I)I -/
def q137_0 : List (Nat × Instr × Nat) := [(0, .aload_n 0, 1), (1, .getfield 64, 3), (4, .iload_n 1, 1), (5, .aload_n 0, 1), (6, .getfield 72, 3)]
theorem e137_0 : am_dec am_M137 q137_0 = true := by decide +kernel
theorem e137_0_c : am_dc1 am_M137 9 (.invokevirtual 310) 3 = true := by decide +kernel
theorem b137_0 {d : Nat} {Q : Option Value ⊕ Nat → am_Mem → Prop} {μ : am_Mem} {r0 : Nat} {x1 : Int32} {P : Int32 → am_Mem → Prop} {X : Nat → am_Mem → Prop}
    (h1 : am_kd μ r0 = (1, 11))
    (h2 : ¬ am_F μ r0 9 = 15)
    (h3 : am_kd μ r0 = (1, 11))
    (h4 : ¬ am_F μ r0 11 = 15)
    (hk : am_kd μ (am_F μ r0 9) = (1, 2))
    (hc : Wp d 46 (0, [some (.ref (am_F μ r0 9)), some (.int x1), some (.ref (am_F μ r0 11)), none, none, none], [], μ) (pI P X)) (hr : ∀ x μ', P x μ' → Wp (d + 1) 137 (12, [some (.ref r0), some (.int x1), none], [.int x], (μ')) Q)
    (hx : ∀ x μ', X x μ' → Q (.inr x) μ') :
    Wp (d + 1) 137 (0, [some (.ref r0), some (.int x1), none], [], μ) Q := wp_blk rfl e137_0 (And.intro h1 (And.intro h2 (And.intro h3 (And.intro h4 (wp_cv (as := [.int x1, .ref (am_F μ r0 11)]) rfl e137_0_c rfl rfl rfl rfl rfl hk hc (fun v μ' hv => by obtain ⟨x, rfl, hp⟩ := pI_r hv; exact hr x μ' hp) hx)))))
def q137_12 : List (Nat × Instr × Nat) := [(12, .istore_n 2, 1), (13, .aload_n 0, 1), (14, .getfield 64, 3), (17, .getfield 157, 3), (20, .aload_n 0, 1), (21, .getfield 72, 3), (24, .iload_n 2, 1)]
theorem e137_12 : am_dec am_M137 q137_12 = true := by decide +kernel
theorem e137_12_c : am_dc1 am_M137 25 (.invokevirtual 340) 3 = true := by decide +kernel
theorem b137_12 {d : Nat} {Q : Option Value ⊕ Nat → am_Mem → Prop} {μ : am_Mem} {r0 : Nat} {x1 s0 : Int32} {P : am_Mem → Prop} {X : Nat → am_Mem → Prop}
    (h1 : am_kd μ r0 = (1, 11))
    (h2 : ¬ am_F μ r0 9 = 15)
    (h3 : am_kd μ (am_F μ r0 9) = (1, 2))
    (h4 : ¬ am_F μ (am_F μ r0 9) 0 = 15)
    (h5 : am_kd μ r0 = (1, 11))
    (h6 : ¬ am_F μ r0 11 = 15)
    (hk : am_kd μ (am_F μ (am_F μ r0 9) 0) = (1, 8))
    (hc : Wp d 101 (0, [some (.ref (am_F μ (am_F μ r0 9) 0)), some (.ref (am_F μ r0 11)), some (.int s0), none, none, none], [], μ) (pV P X)) (hr : ∀ μ', P μ' → Wp (d + 1) 137 (28, [some (.ref r0), some (.int x1), some (.int s0)], [], (μ')) Q)
    (hx : ∀ x μ', X x μ' → Q (.inr x) μ') :
    Wp (d + 1) 137 (12, [some (.ref r0), some (.int x1), none], [.int s0], μ) Q := wp_blk rfl e137_12 (And.intro h1 (And.intro h2 (And.intro h3 (And.intro h4 (And.intro h5 (And.intro h6 (wp_cv (as := [.ref (am_F μ r0 11), .int s0]) rfl e137_12_c rfl rfl rfl rfl rfl hk hc (fun v μ' hv => by obtain ⟨rfl, hp⟩ := pV_r hv; exact hr μ' hp) hx)))))))
def q137_28 : List (Nat × Instr × Nat) := [(28, .aload_n 0, 1), (29, .getfield 94, 3), (32, .aload_n 0, 1), (33, .getfield 72, 3), (36, .iload_n 2, 1), (37, .aload_n 0, 1), (38, .getfield 64, 3), (41, .getfield 157, 3)]
theorem e137_28 : am_dec am_M137 q137_28 = true := by decide +kernel
theorem e137_28_c : am_dc1 am_M137 44 (.invokevirtual 344) 3 = true := by decide +kernel
theorem b137_28 {d : Nat} {Q : Option Value ⊕ Nat → am_Mem → Prop} {μ : am_Mem} {r0 : Nat} {x1 x2 : Int32} {P : Int32 → am_Mem → Prop} {X : Nat → am_Mem → Prop}
    (h1 : am_kd μ r0 = (1, 11))
    (h2 : ¬ am_F μ r0 16 = 15)
    (h3 : am_kd μ r0 = (1, 11))
    (h4 : ¬ am_F μ r0 11 = 15)
    (h5 : am_kd μ r0 = (1, 11))
    (h6 : ¬ am_F μ r0 9 = 15)
    (h7 : am_kd μ (am_F μ r0 9) = (1, 2))
    (h8 : ¬ am_F μ (am_F μ r0 9) 0 = 15)
    (hk : am_kd μ (am_F μ r0 16) = (1, 6))
    (hc : Wp d 74 (0, [some (.ref (am_F μ r0 16)), some (.ref (am_F μ r0 11)), some (.int x2), some (.ref (am_F μ (am_F μ r0 9) 0)), none], [], μ) (pI P X)) (hr : ∀ x μ', P x μ' → Wp (d + 1) 137 (47, [some (.ref r0), some (.int x1), some (.int x2)], [.int x], (μ')) Q)
    (hx : ∀ x μ', X x μ' → Q (.inr x) μ') :
    Wp (d + 1) 137 (28, [some (.ref r0), some (.int x1), some (.int x2)], [], μ) Q := wp_blk rfl e137_28 (And.intro h1 (And.intro h2 (And.intro h3 (And.intro h4 (And.intro h5 (And.intro h6 (And.intro h7 (And.intro h8 (wp_cv (as := [.ref (am_F μ r0 11), .int x2, .ref (am_F μ (am_F μ r0 9) 0)]) rfl e137_28_c rfl rfl rfl rfl rfl hk hc (fun v μ' hv => by obtain ⟨x, rfl, hp⟩ := pI_r hv; exact hr x μ' hp) hx)))))))))
theorem e137_47_r : am_dec am_M137 [(47, .ireturn, 1)] = true := by decide +kernel
theorem b137_47 {d : Nat} {Q : Option Value ⊕ Nat → am_Mem → Prop} {μ : am_Mem} {r0 : Nat} {x1 x2 s0 : Int32}
    (k : Q (.inl (some (.int s0))) μ) :
    Wp d 137 (47, [some (.ref r0), some (.int x1), some (.int x2)], [.int s0], μ) Q := (wp_ri (ty := .int) rfl e137_47_r rfl ⟨rfl, rfl⟩ k)
/-! RuleSheets.expand(I)V -/
def q138_0 : List (Nat × Instr × Nat) := [(0, .aload_n 0, 1), (1, .getfield 64, 3), (4, .getfield 157, 3), (7, .astore_n 2, 1), (8, .aload_n 2, 1), (9, .aload_n 0, 1), (10, .getfield 64, 3), (13, .getfield 161, 3)]
theorem e138_0 : am_dec am_M138 q138_0 = true := by decide +kernel
theorem e138_0_c : am_dc1 am_M138 16 (.invokevirtual 164) 3 = true := by decide +kernel
theorem b138_0 {d : Nat} {Q : Option Value ⊕ Nat → am_Mem → Prop} {μ : am_Mem} {r0 : Nat} {x1 : Int32} {P : am_Mem → Prop} {X : Nat → am_Mem → Prop}
    (h1 : am_kd μ r0 = (1, 11))
    (h2 : ¬ am_F μ r0 9 = 15)
    (h3 : am_kd μ (am_F μ r0 9) = (1, 2))
    (h4 : ¬ am_F μ (am_F μ r0 9) 0 = 15)
    (h5 : am_kd μ r0 = (1, 11))
    (h6 : ¬ am_F μ r0 9 = 15)
    (h7 : am_kd μ (am_F μ r0 9) = (1, 2))
    (hk : am_kd μ (am_F μ (am_F μ r0 9) 0) = (1, 8))
    (hc : Wp d 90 (0, [some (.ref (am_F μ (am_F μ r0 9) 0)), some (.int (am_A μ (am_F μ r0 9) 15)), none], [], μ) (pV P X)) (hr : ∀ μ', P μ' → Wp (d + 1) 138 (19, [some (.ref r0), some (.int x1), some (.ref (am_F μ (am_F μ r0 9) 0)), none, none, none, none], [], (μ')) Q)
    (hx : ∀ x μ', X x μ' → Q (.inr x) μ') :
    Wp (d + 1) 138 (0, [some (.ref r0), some (.int x1), none, none, none, none, none], [], μ) Q := wp_blk rfl e138_0 (And.intro h1 (And.intro h2 (And.intro h3 (And.intro h4 (And.intro h5 (And.intro h6 (And.intro h7 (wp_cv (as := [.int (am_A μ (am_F μ r0 9) 15)]) rfl e138_0_c rfl rfl rfl rfl rfl hk hc (fun v μ' hv => by obtain ⟨rfl, hp⟩ := pV_r hv; exact hr μ' hp) hx))))))))
def q138_19 : List (Nat × Instr × Nat) := [(19, .aload_n 0, 1), (20, .getfield 94, 3), (23, .getfield 326, 3), (26, .getfield 330, 3), (29, .astore_n 3, 1), (30, .aload_n 0, 1), (31, .getfield 94, 3), (34, .getfield 326, 3), (37, .iload_n 1, 1), (38, .aload_n 2, 1)]
theorem e138_19 : am_dec am_M138 q138_19 = true := by decide +kernel
theorem e138_19_c : am_dc1 am_M138 39 (.invokevirtual 333) 3 = true := by decide +kernel
theorem b138_19 {d : Nat} {Q : Option Value ⊕ Nat → am_Mem → Prop} {μ : am_Mem} {r0 r2 : Nat} {x1 : Int32} {P : Int32 → am_Mem → Prop} {X : Nat → am_Mem → Prop}
    (h1 : am_kd μ r0 = (1, 11))
    (h2 : ¬ am_F μ r0 16 = 15)
    (h3 : am_kd μ (am_F μ r0 16) = (1, 6))
    (h4 : ¬ am_F μ (am_F μ r0 16) 2 = 15)
    (h5 : am_kd μ (am_F μ (am_F μ r0 16) 2) = (1, 7))
    (h6 : ¬ am_F μ (am_F μ (am_F μ r0 16) 2) 4 = 15)
    (h7 : am_kd μ r0 = (1, 11))
    (h8 : ¬ am_F μ r0 16 = 15)
    (h9 : am_kd μ (am_F μ r0 16) = (1, 6))
    (h10 : ¬ am_F μ (am_F μ r0 16) 2 = 15)
    (hk : am_kd μ (am_F μ (am_F μ r0 16) 2) = (1, 7))
    (hc : Wp d 87 (0, [some (.ref (am_F μ (am_F μ r0 16) 2)), some (.int x1), some (.ref r2), none, none, none, none], [], μ) (pI P X)) (hr : ∀ x μ', P x μ' → Wp (d + 1) 138 (42, [some (.ref r0), some (.int x1), some (.ref r2), some (.ref (am_F μ (am_F μ (am_F μ r0 16) 2) 4)), none, none, none], [.int x], (μ')) Q)
    (hx : ∀ x μ', X x μ' → Q (.inr x) μ') :
    Wp (d + 1) 138 (19, [some (.ref r0), some (.int x1), some (.ref r2), none, none, none, none], [], μ) Q := wp_blk rfl e138_19 (And.intro h1 (And.intro h2 (And.intro h3 (And.intro h4 (And.intro h5 (And.intro h6 (And.intro h7 (And.intro h8 (And.intro h9 (And.intro h10 (wp_cv (as := [.int x1, .ref r2]) rfl e138_19_c rfl rfl rfl rfl rfl hk hc (fun v μ' hv => by obtain ⟨x, rfl, hp⟩ := pI_r hv; exact hr x μ' hp) hx)))))))))))
def q138_42 : List (Nat × Instr × Nat) := [(42, .istore 4, 2), (44, .aload_n 2, 1), (45, .getfield 309, 3), (48, .istore 5, 2), (50, .aload_n 0, 1), (51, .getfield 64, 3), (54, .aload_n 3, 1), (55, .iload 4, 2), (57, .aload_n 0, 1), (58, .getfield 88, 3), (61, .getfield 170, 3), (64, .iconst 0, 1)]
theorem e138_42 : am_dec am_M138 q138_42 = true := by decide +kernel
theorem e138_42_c : am_dc1 am_M138 65 (.invokevirtual 173) 3 = true := by decide +kernel
theorem b138_42 {d : Nat} {Q : Option Value ⊕ Nat → am_Mem → Prop} {μ : am_Mem} {r0 r2 r3 : Nat} {x1 s0 : Int32} {P : am_Mem → Prop} {X : Nat → am_Mem → Prop}
    (h1 : am_kd μ r2 = (1, 8))
    (h2 : am_kd μ r0 = (1, 11))
    (h3 : ¬ am_F μ r0 9 = 15)
    (h4 : am_kd μ r0 = (1, 11))
    (h5 : ¬ am_F μ r0 15 = 15)
    (h6 : am_kd μ (am_F μ r0 15) = (1, 10))
    (h7 : ¬ am_F μ (am_F μ r0 15) 5 = 15)
    (hk : am_kd μ (am_F μ r0 9) = (1, 2))
    (hc : Wp d 45 (0, [some (.ref (am_F μ r0 9)), some (.ref r3), some (.int s0), some (.ref (am_F μ (am_F μ r0 15) 5)), some (.int (Int32.ofInt 0)), none, none], [], μ) (pV P X)) (hr : ∀ μ', P μ' → Wp (d + 1) 138 (68, [some (.ref r0), some (.int x1), some (.ref r2), some (.ref r3), some (.int s0), some (.int (am_A μ r2 9)), none], [], (μ')) Q)
    (hx : ∀ x μ', X x μ' → Q (.inr x) μ') :
    Wp (d + 1) 138 (42, [some (.ref r0), some (.int x1), some (.ref r2), some (.ref r3), none, none, none], [.int s0], μ) Q := wp_blk rfl e138_42 (And.intro h1 (And.intro h2 (And.intro h3 (And.intro h4 (And.intro h5 (And.intro h6 (And.intro h7 (wp_cv (as := [.ref r3, .int s0, .ref (am_F μ (am_F μ r0 15) 5), .int (Int32.ofInt 0)]) rfl e138_42_c rfl rfl rfl rfl rfl hk hc (fun v μ' hv => by obtain ⟨rfl, hp⟩ := pV_r hv; exact hr μ' hp) hx))))))))
def q138_68 : List (Nat × Instr × Nat) := [(68, .aload_n 0, 1)]
theorem e138_68 : am_dec am_M138 q138_68 = true := by decide +kernel
theorem e138_68_c : am_dc1 am_M138 69 (.invokevirtual 229) 3 = true := by decide +kernel
theorem b138_68 {d : Nat} {Q : Option Value ⊕ Nat → am_Mem → Prop} {μ : am_Mem} {r0 r2 r3 : Nat} {x1 x4 x5 : Int32} {P : am_Mem → Prop} {X : Nat → am_Mem → Prop}
    (hk : am_kd μ r0 = (1, 11))
    (hc : Wp d 136 (0, [some (.ref r0)], [], μ) (pV P X)) (hr : ∀ μ', P μ' → Wp (d + 1) 138 (72, [some (.ref r0), some (.int x1), some (.ref r2), some (.ref r3), some (.int x4), some (.int x5), none], [], (μ')) Q)
    (hx : ∀ x μ', X x μ' → Q (.inr x) μ') :
    Wp (d + 1) 138 (68, [some (.ref r0), some (.int x1), some (.ref r2), some (.ref r3), some (.int x4), some (.int x5), none], [], μ) Q := wp_blk rfl e138_68 (wp_cv (as := []) rfl e138_68_c rfl rfl rfl rfl rfl hk hc (fun v μ' hv => by obtain ⟨rfl, hp⟩ := pV_r hv; exact hr μ' hp) hx)
def q138_72 : List (Nat × Instr × Nat) := [(72, .aload_n 0, 1), (73, .getfield 88, 3), (76, .aload_n 0, 1), (77, .getfield 64, 3)]
theorem e138_72 : am_dec am_M138 q138_72 = true := by decide +kernel
theorem e138_72_c : am_dc1 am_M138 80 (.invokevirtual 294) 3 = true := by decide +kernel
theorem b138_72 {d : Nat} {Q : Option Value ⊕ Nat → am_Mem → Prop} {μ : am_Mem} {r0 r2 r3 : Nat} {x1 x4 x5 : Int32} {P : am_Mem → Prop} {X : Nat → am_Mem → Prop}
    (h1 : am_kd μ r0 = (1, 11))
    (h2 : ¬ am_F μ r0 15 = 15)
    (h3 : am_kd μ r0 = (1, 11))
    (h4 : ¬ am_F μ r0 9 = 15)
    (hk : am_kd μ (am_F μ r0 15) = (1, 10))
    (hc : Wp d 110 (0, [some (.ref (am_F μ r0 15)), some (.ref (am_F μ r0 9)), none], [], μ) (pV P X)) (hr : ∀ μ', P μ' → Wp (d + 1) 138 (83, [some (.ref r0), some (.int x1), some (.ref r2), some (.ref r3), some (.int x4), some (.int x5), none], [], (μ')) Q)
    (hx : ∀ x μ', X x μ' → Q (.inr x) μ') :
    Wp (d + 1) 138 (72, [some (.ref r0), some (.int x1), some (.ref r2), some (.ref r3), some (.int x4), some (.int x5), none], [], μ) Q := wp_blk rfl e138_72 (And.intro h1 (And.intro h2 (And.intro h3 (And.intro h4 (wp_cv (as := [.ref (am_F μ r0 9)]) rfl e138_72_c rfl rfl rfl rfl rfl hk hc (fun v μ' hv => by obtain ⟨rfl, hp⟩ := pV_r hv; exact hr μ' hp) hx)))))
def q138_83 : List (Nat × Instr × Nat) := [(83, .aload_n 0, 1), (84, .getfield 94, 3), (87, .iload_n 1, 1), (88, .aload_n 0, 1), (89, .getfield 88, 3)]
theorem e138_83 : am_dec am_M138 q138_83 = true := by decide +kernel
theorem e138_83_c : am_dc1 am_M138 92 (.invokevirtual 337) 3 = true := by decide +kernel
theorem b138_83 {d : Nat} {Q : Option Value ⊕ Nat → am_Mem → Prop} {μ : am_Mem} {r0 r2 r3 : Nat} {x1 x4 x5 : Int32} {P : am_Mem → Prop} {X : Nat → am_Mem → Prop}
    (h1 : am_kd μ r0 = (1, 11))
    (h2 : ¬ am_F μ r0 16 = 15)
    (h3 : am_kd μ r0 = (1, 11))
    (h4 : ¬ am_F μ r0 15 = 15)
    (hk : am_kd μ (am_F μ r0 16) = (1, 6))
    (hc : Wp d 75 (0, [some (.ref (am_F μ r0 16)), some (.int x1), some (.ref (am_F μ r0 15)), none, none], [], μ) (pV P X)) (hr : ∀ μ', P μ' → Wp (d + 1) 138 (95, [some (.ref r0), some (.int x1), some (.ref r2), some (.ref r3), some (.int x4), some (.int x5), none], [], (μ')) Q)
    (hx : ∀ x μ', X x μ' → Q (.inr x) μ') :
    Wp (d + 1) 138 (83, [some (.ref r0), some (.int x1), some (.ref r2), some (.ref r3), some (.int x4), some (.int x5), none], [], μ) Q := wp_blk rfl e138_83 (And.intro h1 (And.intro h2 (And.intro h3 (And.intro h4 (wp_cv (as := [.int x1, .ref (am_F μ r0 15)]) rfl e138_83_c rfl rfl rfl rfl rfl hk hc (fun v μ' hv => by obtain ⟨rfl, hp⟩ := pV_r hv; exact hr μ' hp) hx)))))
def q138_95 : List (Nat × Instr × Nat) := [(95, .aload_n 2, 1), (96, .aload_n 0, 1), (97, .getfield 88, 3), (100, .getfield 298, 3), (103, .aload_n 0, 1), (104, .getfield 94, 3), (107, .getfield 264, 3), (110, .iload_n 1, 1), (111, .iaload, 1), (112, .ifCond .le 13, 3)]
theorem e138_95 : am_dec am_M138 q138_95 = true := by decide +kernel
theorem b138_95 {d : Nat} {Q : Option Value ⊕ Nat → am_Mem → Prop} {μ : am_Mem} {r0 r2 r3 : Nat} {x1 x4 x5 : Int32}
    (h1 : am_kd μ r0 = (1, 11))
    (h2 : ¬ am_F μ r0 15 = 15)
    (h3 : am_kd μ (am_F μ r0 15) = (1, 10))
    (h4 : ¬ am_F μ (am_F μ r0 15) 0 = 15)
    (h5 : am_kd μ r0 = (1, 11))
    (h6 : ¬ am_F μ r0 16 = 15)
    (h7 : am_kd μ (am_F μ r0 16) = (1, 6))
    (h8 : ¬ am_F μ (am_F μ r0 16) 5 = 15)
    (h9 : (am_kd μ (am_F μ (am_F μ r0 16) 5)).1 = 2 ∨ (am_kd μ (am_F μ (am_F μ r0 16) 5)).1 = 8)
    (h10 : ¬ (x1 < 0 ∨ (am_kd μ (am_F μ (am_F μ r0 16) 5)).2 ≤ x1.toNatClampNeg))
    (k1 : (am_A μ (am_F μ (am_F μ r0 16) 5) x1.toNatClampNeg) ≤ 0 → Wp d 138 (125, [some (.ref r0), some (.int x1), some (.ref r2), some (.ref r3), some (.int x4), some (.int x5), none], [.ref (am_F μ (am_F μ r0 15) 0), .ref r2], μ) Q) (k2 : ¬ ((am_A μ (am_F μ (am_F μ r0 16) 5) x1.toNatClampNeg) ≤ 0) → Wp d 138 (115, [some (.ref r0), some (.int x1), some (.ref r2), some (.ref r3), some (.int x4), some (.int x5), none], [.ref (am_F μ (am_F μ r0 15) 0), .ref r2], μ) Q) :
    Wp d 138 (95, [some (.ref r0), some (.int x1), some (.ref r2), some (.ref r3), some (.int x4), some (.int x5), none], [], μ) Q := wp_blk rfl e138_95 (And.intro h1 (And.intro h2 (And.intro h3 (And.intro h4 (And.intro h5 (And.intro h6 (And.intro h7 (And.intro h8 (And.intro h9 (And.intro h10 (And.intro k1 k2)))))))))))
def q138_115 : List (Nat × Instr × Nat) := [(115, .aload_n 0, 1), (116, .getfield 88, 3)]
theorem e138_115 : am_dec am_M138 q138_115 = true := by decide +kernel
theorem e138_115_c : am_dc1 am_M138 119 (.invokevirtual 301) 3 = true := by decide +kernel
theorem b138_115 {d : Nat} {Q : Option Value ⊕ Nat → am_Mem → Prop} {μ : am_Mem} {r0 r2 r3 r90 r91 : Nat} {x1 x4 x5 : Int32} {P : Int32 → am_Mem → Prop} {X : Nat → am_Mem → Prop}
    (h1 : am_kd μ r0 = (1, 11))
    (h2 : ¬ am_F μ r0 15 = 15)
    (hk : am_kd μ (am_F μ r0 15) = (1, 10))
    (hc : Wp d 113 (0, [some (.ref (am_F μ r0 15))], [], μ) (pI P X)) (hr : ∀ x μ', P x μ' → Wp (d + 1) 138 (122, [some (.ref r0), some (.int x1), some (.ref r2), some (.ref r3), some (.int x4), some (.int x5), none], [.int x, .ref r91, .ref r90], (μ')) Q)
    (hx : ∀ x μ', X x μ' → Q (.inr x) μ') :
    Wp (d + 1) 138 (115, [some (.ref r0), some (.int x1), some (.ref r2), some (.ref r3), some (.int x4), some (.int x5), none], [.ref r91, .ref r90], μ) Q := wp_blk rfl e138_115 (And.intro h1 (And.intro h2 (wp_cv (as := []) rfl e138_115_c rfl rfl rfl rfl rfl hk hc (fun v μ' hv => by obtain ⟨x, rfl, hp⟩ := pI_r hv; exact hr x μ' hp) hx)))
def q138_122 : List (Nat × Instr × Nat) := [(122, .goto 4, 3)]
theorem e138_122 : am_dec am_M138 q138_122 = true := by decide +kernel
theorem b138_122 {d : Nat} {Q : Option Value ⊕ Nat → am_Mem → Prop} {μ : am_Mem} {r0 r2 r3 r90 r91 : Nat} {x1 x4 x5 s2 : Int32}
    (k : Wp d 138 (126, [some (.ref r0), some (.int x1), some (.ref r2), some (.ref r3), some (.int x4), some (.int x5), none], [.int s2, .ref r91, .ref r90], μ) Q) :
    Wp d 138 (122, [some (.ref r0), some (.int x1), some (.ref r2), some (.ref r3), some (.int x4), some (.int x5), none], [.int s2, .ref r91, .ref r90], μ) Q := wp_blk rfl e138_122 k
def q138_125 : List (Nat × Instr × Nat) := [(125, .iconst 0, 1)]
theorem e138_125 : am_dec am_M138 q138_125 = true := by decide +kernel
theorem b138_125 {d : Nat} {Q : Option Value ⊕ Nat → am_Mem → Prop} {μ : am_Mem} {r0 r2 r3 r90 r91 : Nat} {x1 x4 x5 : Int32}
    (k : Wp d 138 (126, [some (.ref r0), some (.int x1), some (.ref r2), some (.ref r3), some (.int x4), some (.int x5), none], [.int (Int32.ofInt 0), .ref r91, .ref r90], μ) Q) :
    Wp d 138 (125, [some (.ref r0), some (.int x1), some (.ref r2), some (.ref r3), some (.int x4), some (.int x5), none], [.ref r91, .ref r90], μ) Q := wp_blk rfl e138_125 k
def q138_126 : List (Nat × Instr × Nat) := [(126, .iload 5, 2)]
theorem e138_126 : am_dec am_M138 q138_126 = true := by decide +kernel
theorem e138_126_c : am_dc1 am_M138 128 (.invokevirtual 305) 3 = true := by decide +kernel
theorem b138_126 {d : Nat} {Q : Option Value ⊕ Nat → am_Mem → Prop} {μ : am_Mem} {r0 r2 r3 r90 r91 : Nat} {x1 x4 x5 s2 : Int32} {P : am_Mem → Prop} {X : Nat → am_Mem → Prop}
    (hk : am_kd μ r90 = (1, 8))
    (hc : Wp d 94 (0, [some (.ref r90), some (.ref r91), some (.int s2), some (.int x5), none, none, none], [], μ) (pV P X)) (hr : ∀ μ', P μ' → Wp (d + 1) 138 (131, [some (.ref r0), some (.int x1), some (.ref r2), some (.ref r3), some (.int x4), some (.int x5), none], [], (μ')) Q)
    (hx : ∀ x μ', X x μ' → Q (.inr x) μ') :
    Wp (d + 1) 138 (126, [some (.ref r0), some (.int x1), some (.ref r2), some (.ref r3), some (.int x4), some (.int x5), none], [.int s2, .ref r91, .ref r90], μ) Q := wp_blk rfl e138_126 (wp_cv (as := [.ref r91, .int s2, .int x5]) rfl e138_126_c rfl rfl rfl rfl rfl hk hc (fun v μ' hv => by obtain ⟨rfl, hp⟩ := pV_r hv; exact hr μ' hp) hx)
def q138_131 : List (Nat × Instr × Nat) := [(131, .aload_n 2, 1), (132, .getfield 309, 3), (135, .istore 5, 2), (137, .iconst 0, 1), (138, .istore 6, 2)]
theorem e138_131 : am_dec am_M138 q138_131 = true := by decide +kernel
theorem b138_131 {d : Nat} {Q : Option Value ⊕ Nat → am_Mem → Prop} {μ : am_Mem} {r0 r2 r3 : Nat} {x1 x4 x5 : Int32}
    (h1 : am_kd μ r2 = (1, 8))
    (k : Wp d 138 (140, [some (.ref r0), some (.int x1), some (.ref r2), some (.ref r3), some (.int x4), some (.int (am_A μ r2 9)), some (.int (Int32.ofInt 0))], [], μ) Q) :
    Wp d 138 (131, [some (.ref r0), some (.int x1), some (.ref r2), some (.ref r3), some (.int x4), some (.int x5), none], [], μ) Q := wp_blk rfl e138_131 (And.intro h1 k)
def q138_140 : List (Nat × Instr × Nat) := [(140, .iload 6, 2), (142, .aload_n 0, 1), (143, .getfield 94, 3), (146, .getfield 264, 3), (149, .iload_n 1, 1), (150, .iaload, 1), (151, .if_icmp .ge 72, 3)]
theorem e138_140 : am_dec am_M138 q138_140 = true := by decide +kernel
theorem b138_140 {d : Nat} {Q : Option Value ⊕ Nat → am_Mem → Prop} {μ : am_Mem} {r0 r2 r3 : Nat} {x1 x4 x5 x6 : Int32}
    (h1 : am_kd μ r0 = (1, 11))
    (h2 : ¬ am_F μ r0 16 = 15)
    (h3 : am_kd μ (am_F μ r0 16) = (1, 6))
    (h4 : ¬ am_F μ (am_F μ r0 16) 5 = 15)
    (h5 : (am_kd μ (am_F μ (am_F μ r0 16) 5)).1 = 2 ∨ (am_kd μ (am_F μ (am_F μ r0 16) 5)).1 = 8)
    (h6 : ¬ (x1 < 0 ∨ (am_kd μ (am_F μ (am_F μ r0 16) 5)).2 ≤ x1.toNatClampNeg))
    (k1 : (am_A μ (am_F μ (am_F μ r0 16) 5) x1.toNatClampNeg) ≤ x6 → Wp d 138 (223, [some (.ref r0), some (.int x1), some (.ref r2), some (.ref r3), some (.int x4), some (.int x5), some (.int x6)], [], μ) Q) (k2 : ¬ ((am_A μ (am_F μ (am_F μ r0 16) 5) x1.toNatClampNeg) ≤ x6) → Wp d 138 (154, [some (.ref r0), some (.int x1), some (.ref r2), some (.ref r3), some (.int x4), some (.int x5), some (.int x6)], [], μ) Q) :
    Wp d 138 (140, [some (.ref r0), some (.int x1), some (.ref r2), some (.ref r3), some (.int x4), some (.int x5), some (.int x6)], [], μ) Q := wp_blk rfl e138_140 (And.intro h1 (And.intro h2 (And.intro h3 (And.intro h4 (And.intro h5 (And.intro h6 (And.intro k1 k2)))))))
def q138_154 : List (Nat × Instr × Nat) := [(154, .aload_n 0, 1), (155, .getfield 88, 3), (158, .iload 6, 2)]
theorem e138_154 : am_dec am_M138 q138_154 = true := by decide +kernel
theorem e138_154_c : am_dc1 am_M138 160 (.invokevirtual 208) 3 = true := by decide +kernel
theorem b138_154 {d : Nat} {Q : Option Value ⊕ Nat → am_Mem → Prop} {μ : am_Mem} {r0 r2 r3 : Nat} {x1 x4 x5 x6 : Int32} {P : am_Mem → Prop} {X : Nat → am_Mem → Prop}
    (h1 : am_kd μ r0 = (1, 11))
    (h2 : ¬ am_F μ r0 15 = 15)
    (hk : am_kd μ (am_F μ r0 15) = (1, 10))
    (hc : Wp d 116 (0, [some (.ref (am_F μ r0 15)), some (.int x6), none, none, none], [], μ) (pV P X)) (hr : ∀ μ', P μ' → Wp (d + 1) 138 (163, [some (.ref r0), some (.int x1), some (.ref r2), some (.ref r3), some (.int x4), some (.int x5), some (.int x6)], [], (μ')) Q)
    (hx : ∀ x μ', X x μ' → Q (.inr x) μ') :
    Wp (d + 1) 138 (154, [some (.ref r0), some (.int x1), some (.ref r2), some (.ref r3), some (.int x4), some (.int x5), some (.int x6)], [], μ) Q := wp_blk rfl e138_154 (And.intro h1 (And.intro h2 (wp_cv (as := [.int x6]) rfl e138_154_c rfl rfl rfl rfl rfl hk hc (fun v μ' hv => by obtain ⟨rfl, hp⟩ := pV_r hv; exact hr μ' hp) hx)))
def q138_163 : List (Nat × Instr × Nat) := [(163, .aload_n 0, 1), (164, .getfield 64, 3), (167, .aload_n 3, 1), (168, .iload 4, 2), (170, .aload_n 0, 1), (171, .getfield 88, 3), (174, .getfield 170, 3), (177, .aload_n 0, 1), (178, .getfield 64, 3), (181, .getfield 151, 3)]
theorem e138_163 : am_dec am_M138 q138_163 = true := by decide +kernel
theorem e138_163_c : am_dc1 am_M138 184 (.invokevirtual 173) 3 = true := by decide +kernel
theorem b138_163 {d : Nat} {Q : Option Value ⊕ Nat → am_Mem → Prop} {μ : am_Mem} {r0 r2 r3 : Nat} {x1 x4 x5 x6 : Int32} {P : am_Mem → Prop} {X : Nat → am_Mem → Prop}
    (h1 : am_kd μ r0 = (1, 11))
    (h2 : ¬ am_F μ r0 9 = 15)
    (h3 : am_kd μ r0 = (1, 11))
    (h4 : ¬ am_F μ r0 15 = 15)
    (h5 : am_kd μ (am_F μ r0 15) = (1, 10))
    (h6 : ¬ am_F μ (am_F μ r0 15) 5 = 15)
    (h7 : am_kd μ r0 = (1, 11))
    (h8 : ¬ am_F μ r0 9 = 15)
    (h9 : am_kd μ (am_F μ r0 9) = (1, 2))
    (hk : am_kd μ (am_F μ r0 9) = (1, 2))
    (hc : Wp d 45 (0, [some (.ref (am_F μ r0 9)), some (.ref r3), some (.int x4), some (.ref (am_F μ (am_F μ r0 15) 5)), some (.int (am_A μ (am_F μ r0 9) 4)), none, none], [], μ) (pV P X)) (hr : ∀ μ', P μ' → Wp (d + 1) 138 (187, [some (.ref r0), some (.int x1), some (.ref r2), some (.ref r3), some (.int x4), some (.int x5), some (.int x6)], [], (μ')) Q)
    (hx : ∀ x μ', X x μ' → Q (.inr x) μ') :
    Wp (d + 1) 138 (163, [some (.ref r0), some (.int x1), some (.ref r2), some (.ref r3), some (.int x4), some (.int x5), some (.int x6)], [], μ) Q := wp_blk rfl e138_163 (And.intro h1 (And.intro h2 (And.intro h3 (And.intro h4 (And.intro h5 (And.intro h6 (And.intro h7 (And.intro h8 (And.intro h9 (wp_cv (as := [.ref r3, .int x4, .ref (am_F μ (am_F μ r0 15) 5), .int (am_A μ (am_F μ r0 9) 4)]) rfl e138_163_c rfl rfl rfl rfl rfl hk hc (fun v μ' hv => by obtain ⟨rfl, hp⟩ := pV_r hv; exact hr μ' hp) hx))))))))))
def q138_187 : List (Nat × Instr × Nat) := [(187, .aload_n 0, 1)]
theorem e138_187 : am_dec am_M138 q138_187 = true := by decide +kernel
theorem e138_187_c : am_dc1 am_M138 188 (.invokevirtual 229) 3 = true := by decide +kernel
theorem b138_187 {d : Nat} {Q : Option Value ⊕ Nat → am_Mem → Prop} {μ : am_Mem} {r0 r2 r3 : Nat} {x1 x4 x5 x6 : Int32} {P : am_Mem → Prop} {X : Nat → am_Mem → Prop}
    (hk : am_kd μ r0 = (1, 11))
    (hc : Wp d 136 (0, [some (.ref r0)], [], μ) (pV P X)) (hr : ∀ μ', P μ' → Wp (d + 1) 138 (191, [some (.ref r0), some (.int x1), some (.ref r2), some (.ref r3), some (.int x4), some (.int x5), some (.int x6)], [], (μ')) Q)
    (hx : ∀ x μ', X x μ' → Q (.inr x) μ') :
    Wp (d + 1) 138 (187, [some (.ref r0), some (.int x1), some (.ref r2), some (.ref r3), some (.int x4), some (.int x5), some (.int x6)], [], μ) Q := wp_blk rfl e138_187 (wp_cv (as := []) rfl e138_187_c rfl rfl rfl rfl rfl hk hc (fun v μ' hv => by obtain ⟨rfl, hp⟩ := pV_r hv; exact hr μ' hp) hx)
def q138_191 : List (Nat × Instr × Nat) := [(191, .aload_n 0, 1), (192, .getfield 94, 3), (195, .getfield 267, 3), (198, .bipush 40, 2), (200, .iload_n 1, 1), (201, .imul, 1), (202, .iload 6, 2), (204, .iadd, 1), (205, .aload_n 0, 1), (206, .iconst 3, 1)]
theorem e138_191 : am_dec am_M138 q138_191 = true := by decide +kernel
theorem e138_191_c : am_dc1 am_M138 207 (.invokevirtual 232) 3 = true := by decide +kernel
theorem b138_191 {d : Nat} {Q : Option Value ⊕ Nat → am_Mem → Prop} {μ : am_Mem} {r0 r2 r3 : Nat} {x1 x4 x5 x6 : Int32} {P : Int32 → am_Mem → Prop} {X : Nat → am_Mem → Prop}
    (h1 : am_kd μ r0 = (1, 11))
    (h2 : ¬ am_F μ r0 16 = 15)
    (h3 : am_kd μ (am_F μ r0 16) = (1, 6))
    (h4 : ¬ am_F μ (am_F μ r0 16) 6 = 15)
    (hk : am_kd μ r0 = (1, 11))
    (hc : Wp d 137 (0, [some (.ref r0), some (.int (Int32.ofInt 3)), none], [], μ) (pI P X)) (hr : ∀ x μ', P x μ' → Wp (d + 1) 138 (210, [some (.ref r0), some (.int x1), some (.ref r2), some (.ref r3), some (.int x4), some (.int x5), some (.int x6)], [.int x, .int ((((Int8.ofInt 40).toInt32) * x1) + x6), .ref (am_F μ (am_F μ r0 16) 6)], (μ')) Q)
    (hx : ∀ x μ', X x μ' → Q (.inr x) μ') :
    Wp (d + 1) 138 (191, [some (.ref r0), some (.int x1), some (.ref r2), some (.ref r3), some (.int x4), some (.int x5), some (.int x6)], [], μ) Q := wp_blk rfl e138_191 (And.intro h1 (And.intro h2 (And.intro h3 (And.intro h4 (wp_cv (as := [.int (Int32.ofInt 3)]) rfl e138_191_c rfl rfl rfl rfl rfl hk hc (fun v μ' hv => by obtain ⟨x, rfl, hp⟩ := pI_r hv; exact hr x μ' hp) hx)))))
def q138_210 : List (Nat × Instr × Nat) := [(210, .iastore, 1), (211, .aload_n 2, 1), (212, .iload 5, 2)]
theorem e138_210 : am_dec am_M138 q138_210 = true := by decide +kernel
theorem e138_210_c : am_dc1 am_M138 214 (.invokevirtual 164) 3 = true := by decide +kernel
theorem b138_210 {d : Nat} {Q : Option Value ⊕ Nat → am_Mem → Prop} {μ : am_Mem} {r0 r2 r3 r90 : Nat} {x1 x4 x5 x6 s1 s2 : Int32} {P : am_Mem → Prop} {X : Nat → am_Mem → Prop}
    (h1 : (am_kd μ r90).1 = 2)
    (h2 : ¬ (s1 < 0 ∨ (am_kd μ r90).2 ≤ s1.toNatClampNeg))
    (hk : am_kd (am_pA μ r90 s1.toNatClampNeg s2) r2 = (1, 8))
    (hc : Wp d 90 (0, [some (.ref r2), some (.int x5), none], [], (am_pA μ r90 s1.toNatClampNeg s2)) (pV P X)) (hr : ∀ μ', P μ' → Wp (d + 1) 138 (217, [some (.ref r0), some (.int x1), some (.ref r2), some (.ref r3), some (.int x4), some (.int x5), some (.int x6)], [], (μ')) Q)
    (hx : ∀ x μ', X x μ' → Q (.inr x) μ') :
    Wp (d + 1) 138 (210, [some (.ref r0), some (.int x1), some (.ref r2), some (.ref r3), some (.int x4), some (.int x5), some (.int x6)], [.int s2, .int s1, .ref r90], μ) Q := wp_blk rfl e138_210 (And.intro h1 (And.intro h2 (wp_cv (as := [.int x5]) rfl e138_210_c rfl rfl rfl rfl rfl hk hc (fun v μ' hv => by obtain ⟨rfl, hp⟩ := pV_r hv; exact hr μ' hp) hx)))
def q138_217 : List (Nat × Instr × Nat) := [(217, .iinc 6 1, 3), (220, .goto (-80), 3)]
theorem e138_217 : am_dec am_M138 q138_217 = true := by decide +kernel
theorem b138_217 {d : Nat} {Q : Option Value ⊕ Nat → am_Mem → Prop} {μ : am_Mem} {r0 r2 r3 : Nat} {x1 x4 x5 x6 : Int32}
    (k : Wp d 138 (140, [some (.ref r0), some (.int x1), some (.ref r2), some (.ref r3), some (.int x4), some (.int x5), some (.int (x6 + Int32.ofInt 1))], [], μ) Q) :
    Wp d 138 (217, [some (.ref r0), some (.int x1), some (.ref r2), some (.ref r3), some (.int x4), some (.int x5), some (.int x6)], [], μ) Q := wp_blk rfl e138_217 k
theorem e138_223_r : am_dec am_M138 [(223, .return_, 1)] = true := by decide +kernel
theorem b138_223 {d : Nat} {Q : Option Value ⊕ Nat → am_Mem → Prop} {μ : am_Mem} {r0 r2 r3 : Nat} {x1 x4 x5 x6 : Int32}
    (k : Q (.inl none) μ) :
    Wp d 138 (223, [some (.ref r0), some (.int x1), some (.ref r2), some (.ref r3), some (.int x4), some (.int x5), some (.int x6)], [], μ) Q := (wp_rv rfl e138_223_r rfl k)
/-! RuleSheets.defect(I)I -/
def q139_0 : List (Nat × Instr × Nat) := [(0, .aload_n 0, 1)]
theorem e139_0 : am_dec am_M139 q139_0 = true := by decide +kernel
theorem e139_0_c : am_dc1 am_M139 1 (.invokevirtual 246) 3 = true := by decide +kernel
theorem b139_0 {d : Nat} {Q : Option Value ⊕ Nat → am_Mem → Prop} {μ : am_Mem} {r0 : Nat} {x1 : Int32} {P : am_Mem → Prop} {X : Nat → am_Mem → Prop}
    (hk : am_kd μ r0 = (1, 11))
    (hc : Wp d 140 (0, [some (.ref r0)], [], μ) (pV P X)) (hr : ∀ μ', P μ' → Wp (d + 1) 139 (4, [some (.ref r0), some (.int x1)], [], (μ')) Q)
    (hx : ∀ x μ', X x μ' → Q (.inr x) μ') :
    Wp (d + 1) 139 (0, [some (.ref r0), some (.int x1)], [], μ) Q := wp_blk rfl e139_0 (wp_cv (as := []) rfl e139_0_c rfl rfl rfl rfl rfl hk hc (fun v μ' hv => by obtain ⟨rfl, hp⟩ := pV_r hv; exact hr μ' hp) hx)
def q139_4 : List (Nat × Instr × Nat) := [(4, .iload_n 1, 1), (5, .ifCond .eq 18, 3)]
theorem e139_4 : am_dec am_M139 q139_4 = true := by decide +kernel
theorem b139_4 {d : Nat} {Q : Option Value ⊕ Nat → am_Mem → Prop} {μ : am_Mem} {r0 : Nat} {x1 : Int32}
    (k1 : x1 = 0 → Wp d 139 (23, [some (.ref r0), some (.int x1)], [], μ) Q) (k2 : ¬ (x1 = 0) → Wp d 139 (8, [some (.ref r0), some (.int x1)], [], μ) Q) :
    Wp d 139 (4, [some (.ref r0), some (.int x1)], [], μ) Q := wp_blk rfl e139_4 (And.intro k1 k2)
def q139_8 : List (Nat × Instr × Nat) := [(8, .iload_n 1, 1), (9, .iconst 1, 1), (10, .if_icmp .eq 13, 3)]
theorem e139_8 : am_dec am_M139 q139_8 = true := by decide +kernel
theorem b139_8 {d : Nat} {Q : Option Value ⊕ Nat → am_Mem → Prop} {μ : am_Mem} {r0 : Nat} {x1 : Int32}
    (k1 : x1 = (Int32.ofInt 1) → Wp d 139 (23, [some (.ref r0), some (.int x1)], [], μ) Q) (k2 : ¬ (x1 = (Int32.ofInt 1)) → Wp d 139 (13, [some (.ref r0), some (.int x1)], [], μ) Q) :
    Wp d 139 (8, [some (.ref r0), some (.int x1)], [], μ) Q := wp_blk rfl e139_8 (And.intro k1 k2)
theorem e139_13_t : am_dc1 am_M139 13 (.new 105) 3 = true ∧ am_throw GG 11 139 13 (.new 105) = some 0 := by decide +kernel
theorem b139_13 {d : Nat} {Q : Option Value ⊕ Nat → am_Mem → Prop} {μ : am_Mem} {r0 : Nat} {x1 : Int32}
    (k : Q (.inr 0) (am_nX μ)) :
    Wp d 139 (13, [some (.ref r0), some (.int x1)], [], μ) Q := (wp_throw rfl e139_13_t.1 ⟨_, rfl⟩ rfl e139_13_t.2 rfl k)
def q139_23 : List (Nat × Instr × Nat) := [(23, .iload_n 1, 1), (24, .ifCond .ne 13, 3)]
theorem e139_23 : am_dec am_M139 q139_23 = true := by decide +kernel
theorem b139_23 {d : Nat} {Q : Option Value ⊕ Nat → am_Mem → Prop} {μ : am_Mem} {r0 : Nat} {x1 : Int32}
    (k1 : ¬ x1 = 0 → Wp d 139 (37, [some (.ref r0), some (.int x1)], [], μ) Q) (k2 : ¬ (¬ x1 = 0) → Wp d 139 (27, [some (.ref r0), some (.int x1)], [], μ) Q) :
    Wp d 139 (23, [some (.ref r0), some (.int x1)], [], μ) Q := wp_blk rfl e139_23 (And.intro k1 k2)
def q139_27 : List (Nat × Instr × Nat) := [(27, .aload_n 0, 1), (28, .getfield 94, 3), (31, .getfield 249, 3), (34, .goto 10, 3)]
theorem e139_27 : am_dec am_M139 q139_27 = true := by decide +kernel
theorem b139_27 {d : Nat} {Q : Option Value ⊕ Nat → am_Mem → Prop} {μ : am_Mem} {r0 : Nat} {x1 : Int32}
    (h1 : am_kd μ r0 = (1, 11))
    (h2 : ¬ am_F μ r0 16 = 15)
    (h3 : am_kd μ (am_F μ r0 16) = (1, 6))
    (k : Wp d 139 (44, [some (.ref r0), some (.int x1)], [.int (am_A μ (am_F μ r0 16) 13)], μ) Q) :
    Wp d 139 (27, [some (.ref r0), some (.int x1)], [], μ) Q := wp_blk rfl e139_27 (And.intro h1 (And.intro h2 (And.intro h3 k)))
def q139_37 : List (Nat × Instr × Nat) := [(37, .aload_n 0, 1), (38, .getfield 94, 3), (41, .getfield 252, 3)]
theorem e139_37 : am_dec am_M139 q139_37 = true := by decide +kernel
theorem b139_37 {d : Nat} {Q : Option Value ⊕ Nat → am_Mem → Prop} {μ : am_Mem} {r0 : Nat} {x1 : Int32}
    (h1 : am_kd μ r0 = (1, 11))
    (h2 : ¬ am_F μ r0 16 = 15)
    (h3 : am_kd μ (am_F μ r0 16) = (1, 6))
    (k : Wp d 139 (44, [some (.ref r0), some (.int x1)], [.int (am_A μ (am_F μ r0 16) 14)], μ) Q) :
    Wp d 139 (37, [some (.ref r0), some (.int x1)], [], μ) Q := wp_blk rfl e139_37 (And.intro h1 (And.intro h2 (And.intro h3 k)))
theorem e139_44_r : am_dec am_M139 [(44, .ireturn, 1)] = true := by decide +kernel
theorem b139_44 {d : Nat} {Q : Option Value ⊕ Nat → am_Mem → Prop} {μ : am_Mem} {r0 : Nat} {x1 s0 : Int32}
    (k : Q (.inl (some (.int s0))) μ) :
    Wp d 139 (44, [some (.ref r0), some (.int x1)], [.int s0], μ) Q := (wp_ri (ty := .int) rfl e139_44_r rfl ⟨rfl, rfl⟩ k)
/-! RuleSheets.needStates()V -/
def q140_0 : List (Nat × Instr × Nat) := [(0, .aload_n 0, 1), (1, .getfield 98, 3), (4, .iconst 1, 1), (5, .if_icmp .eq 14, 3)]
theorem e140_0 : am_dec am_M140 q140_0 = true := by decide +kernel
theorem b140_0 {d : Nat} {Q : Option Value ⊕ Nat → am_Mem → Prop} {μ : am_Mem} {r0 : Nat}
    (h1 : am_kd μ r0 = (1, 11))
    (k1 : (am_A μ r0 17) = (Int32.ofInt 1) → Wp d 140 (19, [some (.ref r0)], [], μ) Q) (k2 : ¬ ((am_A μ r0 17) = (Int32.ofInt 1)) → Wp d 140 (8, [some (.ref r0)], [], μ) Q) :
    Wp d 140 (0, [some (.ref r0)], [], μ) Q := wp_blk rfl e140_0 (And.intro h1 (And.intro k1 k2))
theorem e140_8_t : am_dc1 am_M140 8 (.new 279) 3 = true ∧ am_throw GG 11 140 8 (.new 279) = some 1 := by decide +kernel
theorem b140_8 {d : Nat} {Q : Option Value ⊕ Nat → am_Mem → Prop} {μ : am_Mem} {r0 : Nat}
    (k : Q (.inr 1) (am_nX μ)) :
    Wp d 140 (8, [some (.ref r0)], [], μ) Q := (wp_throw rfl e140_8_t.1 ⟨_, rfl⟩ rfl e140_8_t.2 rfl k)
theorem e140_19_r : am_dec am_M140 [(19, .return_, 1)] = true := by decide +kernel
theorem b140_19 {d : Nat} {Q : Option Value ⊕ Nat → am_Mem → Prop} {μ : am_Mem} {r0 : Nat}
    (k : Q (.inl none) μ) :
    Wp d 140 (19, [some (.ref r0)], [], μ) Q := (wp_rv rfl e140_19_r rfl k)
/-! RuleSheets.state(II)I -/
def q141_0 : List (Nat × Instr × Nat) := [(0, .aload_n 0, 1)]
theorem e141_0 : am_dec am_M141 q141_0 = true := by decide +kernel
theorem e141_0_c : am_dc1 am_M141 1 (.invokevirtual 246) 3 = true := by decide +kernel
theorem b141_0 {d : Nat} {Q : Option Value ⊕ Nat → am_Mem → Prop} {μ : am_Mem} {r0 : Nat} {x1 x2 : Int32} {P : am_Mem → Prop} {X : Nat → am_Mem → Prop}
    (hk : am_kd μ r0 = (1, 11))
    (hc : Wp d 140 (0, [some (.ref r0)], [], μ) (pV P X)) (hr : ∀ μ', P μ' → Wp (d + 1) 141 (4, [some (.ref r0), some (.int x1), some (.int x2)], [], (μ')) Q)
    (hx : ∀ x μ', X x μ' → Q (.inr x) μ') :
    Wp (d + 1) 141 (0, [some (.ref r0), some (.int x1), some (.int x2)], [], μ) Q := wp_blk rfl e141_0 (wp_cv (as := []) rfl e141_0_c rfl rfl rfl rfl rfl hk hc (fun v μ' hv => by obtain ⟨rfl, hp⟩ := pV_r hv; exact hr μ' hp) hx)
def q141_4 : List (Nat × Instr × Nat) := [(4, .aload_n 0, 1), (5, .iload_n 1, 1)]
theorem e141_4 : am_dec am_M141 q141_4 = true := by decide +kernel
theorem e141_4_c : am_dc1 am_M141 6 (.invokevirtual 255) 3 = true := by decide +kernel
theorem b141_4 {d : Nat} {Q : Option Value ⊕ Nat → am_Mem → Prop} {μ : am_Mem} {r0 : Nat} {x1 x2 : Int32} {P : am_Mem → Prop} {X : Nat → am_Mem → Prop}
    (hk : am_kd μ r0 = (1, 11))
    (hc : Wp d 142 (0, [some (.ref r0), some (.int x1)], [], μ) (pV P X)) (hr : ∀ μ', P μ' → Wp (d + 1) 141 (9, [some (.ref r0), some (.int x1), some (.int x2)], [], (μ')) Q)
    (hx : ∀ x μ', X x μ' → Q (.inr x) μ') :
    Wp (d + 1) 141 (4, [some (.ref r0), some (.int x1), some (.int x2)], [], μ) Q := wp_blk rfl e141_4 (wp_cv (as := [.int x1]) rfl e141_4_c rfl rfl rfl rfl rfl hk hc (fun v μ' hv => by obtain ⟨rfl, hp⟩ := pV_r hv; exact hr μ' hp) hx)
def q141_9 : List (Nat × Instr × Nat) := [(9, .iload_n 2, 1), (10, .ifCond .lt 8, 3)]
theorem e141_9 : am_dec am_M141 q141_9 = true := by decide +kernel
theorem b141_9 {d : Nat} {Q : Option Value ⊕ Nat → am_Mem → Prop} {μ : am_Mem} {r0 : Nat} {x1 x2 : Int32}
    (k1 : x2 < 0 → Wp d 141 (18, [some (.ref r0), some (.int x1), some (.int x2)], [], μ) Q) (k2 : ¬ (x2 < 0) → Wp d 141 (13, [some (.ref r0), some (.int x1), some (.int x2)], [], μ) Q) :
    Wp d 141 (9, [some (.ref r0), some (.int x1), some (.int x2)], [], μ) Q := wp_blk rfl e141_9 (And.intro k1 k2)
def q141_13 : List (Nat × Instr × Nat) := [(13, .iload_n 2, 1), (14, .iconst 2, 1), (15, .if_icmp .le 13, 3)]
theorem e141_13 : am_dec am_M141 q141_13 = true := by decide +kernel
theorem b141_13 {d : Nat} {Q : Option Value ⊕ Nat → am_Mem → Prop} {μ : am_Mem} {r0 : Nat} {x1 x2 : Int32}
    (k1 : x2 ≤ (Int32.ofInt 2) → Wp d 141 (28, [some (.ref r0), some (.int x1), some (.int x2)], [], μ) Q) (k2 : ¬ (x2 ≤ (Int32.ofInt 2)) → Wp d 141 (18, [some (.ref r0), some (.int x1), some (.int x2)], [], μ) Q) :
    Wp d 141 (13, [some (.ref r0), some (.int x1), some (.int x2)], [], μ) Q := wp_blk rfl e141_13 (And.intro k1 k2)
theorem e141_18_t : am_dc1 am_M141 18 (.new 105) 3 = true ∧ am_throw GG 11 141 18 (.new 105) = some 0 := by decide +kernel
theorem b141_18 {d : Nat} {Q : Option Value ⊕ Nat → am_Mem → Prop} {μ : am_Mem} {r0 : Nat} {x1 x2 : Int32}
    (k : Q (.inr 0) (am_nX μ)) :
    Wp d 141 (18, [some (.ref r0), some (.int x1), some (.int x2)], [], μ) Q := (wp_throw rfl e141_18_t.1 ⟨_, rfl⟩ rfl e141_18_t.2 rfl k)
def q141_28 : List (Nat × Instr × Nat) := [(28, .iload_n 2, 1), (29, .ifCond .ne 13, 3)]
theorem e141_28 : am_dec am_M141 q141_28 = true := by decide +kernel
theorem b141_28 {d : Nat} {Q : Option Value ⊕ Nat → am_Mem → Prop} {μ : am_Mem} {r0 : Nat} {x1 x2 : Int32}
    (k1 : ¬ x2 = 0 → Wp d 141 (42, [some (.ref r0), some (.int x1), some (.int x2)], [], μ) Q) (k2 : ¬ (¬ x2 = 0) → Wp d 141 (32, [some (.ref r0), some (.int x1), some (.int x2)], [], μ) Q) :
    Wp d 141 (28, [some (.ref r0), some (.int x1), some (.int x2)], [], μ) Q := wp_blk rfl e141_28 (And.intro k1 k2)
def q141_32 : List (Nat × Instr × Nat) := [(32, .aload_n 0, 1), (33, .getfield 94, 3), (36, .getfield 258, 3), (39, .iload_n 1, 1), (40, .iaload, 1)]
theorem e141_32 : am_dec am_M141 q141_32 = true := by decide +kernel
theorem e141_32_r : am_dec am_M141 [(41, .ireturn, 1)] = true := by decide +kernel
theorem b141_32 {d : Nat} {Q : Option Value ⊕ Nat → am_Mem → Prop} {μ : am_Mem} {r0 : Nat} {x1 x2 : Int32}
    (h1 : am_kd μ r0 = (1, 11))
    (h2 : ¬ am_F μ r0 16 = 15)
    (h3 : am_kd μ (am_F μ r0 16) = (1, 6))
    (h4 : ¬ am_F μ (am_F μ r0 16) 3 = 15)
    (h5 : (am_kd μ (am_F μ (am_F μ r0 16) 3)).1 = 2 ∨ (am_kd μ (am_F μ (am_F μ r0 16) 3)).1 = 8)
    (h6 : ¬ (x1 < 0 ∨ (am_kd μ (am_F μ (am_F μ r0 16) 3)).2 ≤ x1.toNatClampNeg))
    (k : Q (.inl (some (.int (am_A μ (am_F μ (am_F μ r0 16) 3) x1.toNatClampNeg)))) μ) :
    Wp d 141 (32, [some (.ref r0), some (.int x1), some (.int x2)], [], μ) Q := wp_blk rfl e141_32 (And.intro h1 (And.intro h2 (And.intro h3 (And.intro h4 (And.intro h5 (And.intro h6 (wp_ri (ty := .int) rfl e141_32_r rfl ⟨rfl, rfl⟩ k)))))))
def q141_42 : List (Nat × Instr × Nat) := [(42, .iload_n 2, 1), (43, .iconst 1, 1), (44, .if_icmp .ne 21, 3)]
theorem e141_42 : am_dec am_M141 q141_42 = true := by decide +kernel
theorem b141_42 {d : Nat} {Q : Option Value ⊕ Nat → am_Mem → Prop} {μ : am_Mem} {r0 : Nat} {x1 x2 : Int32}
    (k1 : ¬ x2 = (Int32.ofInt 1) → Wp d 141 (65, [some (.ref r0), some (.int x1), some (.int x2)], [], μ) Q) (k2 : ¬ (¬ x2 = (Int32.ofInt 1)) → Wp d 141 (47, [some (.ref r0), some (.int x1), some (.int x2)], [], μ) Q) :
    Wp d 141 (42, [some (.ref r0), some (.int x1), some (.int x2)], [], μ) Q := wp_blk rfl e141_42 (And.intro k1 k2)
def q141_47 : List (Nat × Instr × Nat) := [(47, .aload_n 0, 1), (48, .getfield 94, 3), (51, .getfield 261, 3), (54, .iload_n 1, 1), (55, .baload, 1), (56, .ifCond .eq 7, 3)]
theorem e141_47 : am_dec am_M141 q141_47 = true := by decide +kernel
theorem b141_47 {d : Nat} {Q : Option Value ⊕ Nat → am_Mem → Prop} {μ : am_Mem} {r0 : Nat} {x1 x2 : Int32}
    (h1 : am_kd μ r0 = (1, 11))
    (h2 : ¬ am_F μ r0 16 = 15)
    (h3 : am_kd μ (am_F μ r0 16) = (1, 6))
    (h4 : ¬ am_F μ (am_F μ r0 16) 4 = 15)
    (h5 : (am_kd μ (am_F μ (am_F μ r0 16) 4)).1 = 3 ∨ (am_kd μ (am_F μ (am_F μ r0 16) 4)).1 = 4 ∨ (am_kd μ (am_F μ (am_F μ r0 16) 4)).1 = 10)
    (h6 : ¬ (x1 < 0 ∨ (am_kd μ (am_F μ (am_F μ r0 16) 4)).2 ≤ x1.toNatClampNeg))
    (k1 : (am_A μ (am_F μ (am_F μ r0 16) 4) x1.toNatClampNeg) = 0 → Wp d 141 (63, [some (.ref r0), some (.int x1), some (.int x2)], [], μ) Q) (k2 : ¬ ((am_A μ (am_F μ (am_F μ r0 16) 4) x1.toNatClampNeg) = 0) → Wp d 141 (59, [some (.ref r0), some (.int x1), some (.int x2)], [], μ) Q) :
    Wp d 141 (47, [some (.ref r0), some (.int x1), some (.int x2)], [], μ) Q := wp_blk rfl e141_47 (And.intro h1 (And.intro h2 (And.intro h3 (And.intro h4 (And.intro h5 (And.intro h6 (And.intro k1 k2)))))))
def q141_59 : List (Nat × Instr × Nat) := [(59, .iconst 1, 1), (60, .goto 4, 3)]
theorem e141_59 : am_dec am_M141 q141_59 = true := by decide +kernel
theorem b141_59 {d : Nat} {Q : Option Value ⊕ Nat → am_Mem → Prop} {μ : am_Mem} {r0 : Nat} {x1 x2 : Int32}
    (k : Wp d 141 (64, [some (.ref r0), some (.int x1), some (.int x2)], [.int (Int32.ofInt 1)], μ) Q) :
    Wp d 141 (59, [some (.ref r0), some (.int x1), some (.int x2)], [], μ) Q := wp_blk rfl e141_59 k
def q141_63 : List (Nat × Instr × Nat) := [(63, .iconst 0, 1)]
theorem e141_63 : am_dec am_M141 q141_63 = true := by decide +kernel
theorem b141_63 {d : Nat} {Q : Option Value ⊕ Nat → am_Mem → Prop} {μ : am_Mem} {r0 : Nat} {x1 x2 : Int32}
    (k : Wp d 141 (64, [some (.ref r0), some (.int x1), some (.int x2)], [.int (Int32.ofInt 0)], μ) Q) :
    Wp d 141 (63, [some (.ref r0), some (.int x1), some (.int x2)], [], μ) Q := wp_blk rfl e141_63 k
theorem e141_64_r : am_dec am_M141 [(64, .ireturn, 1)] = true := by decide +kernel
theorem b141_64 {d : Nat} {Q : Option Value ⊕ Nat → am_Mem → Prop} {μ : am_Mem} {r0 : Nat} {x1 x2 s0 : Int32}
    (k : Q (.inl (some (.int s0))) μ) :
    Wp d 141 (64, [some (.ref r0), some (.int x1), some (.int x2)], [.int s0], μ) Q := (wp_ri (ty := .int) rfl e141_64_r rfl ⟨rfl, rfl⟩ k)
def q141_65 : List (Nat × Instr × Nat) := [(65, .aload_n 0, 1), (66, .getfield 94, 3), (69, .getfield 264, 3), (72, .iload_n 1, 1), (73, .iaload, 1)]
theorem e141_65 : am_dec am_M141 q141_65 = true := by decide +kernel
theorem e141_65_r : am_dec am_M141 [(74, .ireturn, 1)] = true := by decide +kernel
theorem b141_65 {d : Nat} {Q : Option Value ⊕ Nat → am_Mem → Prop} {μ : am_Mem} {r0 : Nat} {x1 x2 : Int32}
    (h1 : am_kd μ r0 = (1, 11))
    (h2 : ¬ am_F μ r0 16 = 15)
    (h3 : am_kd μ (am_F μ r0 16) = (1, 6))
    (h4 : ¬ am_F μ (am_F μ r0 16) 5 = 15)
    (h5 : (am_kd μ (am_F μ (am_F μ r0 16) 5)).1 = 2 ∨ (am_kd μ (am_F μ (am_F μ r0 16) 5)).1 = 8)
    (h6 : ¬ (x1 < 0 ∨ (am_kd μ (am_F μ (am_F μ r0 16) 5)).2 ≤ x1.toNatClampNeg))
    (k : Q (.inl (some (.int (am_A μ (am_F μ (am_F μ r0 16) 5) x1.toNatClampNeg)))) μ) :
    Wp d 141 (65, [some (.ref r0), some (.int x1), some (.int x2)], [], μ) Q := wp_blk rfl e141_65 (And.intro h1 (And.intro h2 (And.intro h3 (And.intro h4 (And.intro h5 (And.intro h6 (wp_ri (ty := .int) rfl e141_65_r rfl ⟨rfl, rfl⟩ k)))))))
/-! RuleSheets.needNumber(I)V -/
def q142_0 : List (Nat × Instr × Nat) := [(0, .iload_n 1, 1), (1, .ifCond .lt 14, 3)]
theorem e142_0 : am_dec am_M142 q142_0 = true := by decide +kernel
theorem b142_0 {d : Nat} {Q : Option Value ⊕ Nat → am_Mem → Prop} {μ : am_Mem} {r0 : Nat} {x1 : Int32}
    (k1 : x1 < 0 → Wp d 142 (15, [some (.ref r0), some (.int x1)], [], μ) Q) (k2 : ¬ (x1 < 0) → Wp d 142 (4, [some (.ref r0), some (.int x1)], [], μ) Q) :
    Wp d 142 (0, [some (.ref r0), some (.int x1)], [], μ) Q := wp_blk rfl e142_0 (And.intro k1 k2)
def q142_4 : List (Nat × Instr × Nat) := [(4, .iload_n 1, 1), (5, .aload_n 0, 1), (6, .getfield 94, 3), (9, .getfield 235, 3), (12, .if_icmp .lt 14, 3)]
theorem e142_4 : am_dec am_M142 q142_4 = true := by decide +kernel
theorem b142_4 {d : Nat} {Q : Option Value ⊕ Nat → am_Mem → Prop} {μ : am_Mem} {r0 : Nat} {x1 : Int32}
    (h1 : am_kd μ r0 = (1, 11))
    (h2 : ¬ am_F μ r0 16 = 15)
    (h3 : am_kd μ (am_F μ r0 16) = (1, 6))
    (k1 : x1 < (am_A μ (am_F μ r0 16) 1) → Wp d 142 (26, [some (.ref r0), some (.int x1)], [], μ) Q) (k2 : ¬ (x1 < (am_A μ (am_F μ r0 16) 1)) → Wp d 142 (15, [some (.ref r0), some (.int x1)], [], μ) Q) :
    Wp d 142 (4, [some (.ref r0), some (.int x1)], [], μ) Q := wp_blk rfl e142_4 (And.intro h1 (And.intro h2 (And.intro h3 (And.intro k1 k2))))
theorem e142_15_t : am_dc1 am_M142 15 (.new 199) 3 = true ∧ am_throw GG 11 142 15 (.new 199) = some 2 := by decide +kernel
theorem b142_15 {d : Nat} {Q : Option Value ⊕ Nat → am_Mem → Prop} {μ : am_Mem} {r0 : Nat} {x1 : Int32}
    (k : Q (.inr 2) (am_nX μ)) :
    Wp d 142 (15, [some (.ref r0), some (.int x1)], [], μ) Q := (wp_throw rfl e142_15_t.1 ⟨_, rfl⟩ rfl e142_15_t.2 rfl k)
theorem e142_26_r : am_dec am_M142 [(26, .return_, 1)] = true := by decide +kernel
theorem b142_26 {d : Nat} {Q : Option Value ⊕ Nat → am_Mem → Prop} {μ : am_Mem} {r0 : Nat} {x1 : Int32}
    (k : Q (.inl none) μ) :
    Wp d 142 (26, [some (.ref r0), some (.int x1)], [], μ) Q := (wp_rv rfl e142_26_r rfl k)
/-! RuleSheets.next(II)I -/
def q143_0 : List (Nat × Instr × Nat) := [(0, .aload_n 0, 1)]
theorem e143_0 : am_dec am_M143 q143_0 = true := by decide +kernel
theorem e143_0_c : am_dc1 am_M143 1 (.invokevirtual 246) 3 = true := by decide +kernel
theorem b143_0 {d : Nat} {Q : Option Value ⊕ Nat → am_Mem → Prop} {μ : am_Mem} {r0 : Nat} {x1 x2 : Int32} {P : am_Mem → Prop} {X : Nat → am_Mem → Prop}
    (hk : am_kd μ r0 = (1, 11))
    (hc : Wp d 140 (0, [some (.ref r0)], [], μ) (pV P X)) (hr : ∀ μ', P μ' → Wp (d + 1) 143 (4, [some (.ref r0), some (.int x1), some (.int x2)], [], (μ')) Q)
    (hx : ∀ x μ', X x μ' → Q (.inr x) μ') :
    Wp (d + 1) 143 (0, [some (.ref r0), some (.int x1), some (.int x2)], [], μ) Q := wp_blk rfl e143_0 (wp_cv (as := []) rfl e143_0_c rfl rfl rfl rfl rfl hk hc (fun v μ' hv => by obtain ⟨rfl, hp⟩ := pV_r hv; exact hr μ' hp) hx)
def q143_4 : List (Nat × Instr × Nat) := [(4, .aload_n 0, 1), (5, .iload_n 1, 1)]
theorem e143_4 : am_dec am_M143 q143_4 = true := by decide +kernel
theorem e143_4_c : am_dc1 am_M143 6 (.invokevirtual 255) 3 = true := by decide +kernel
theorem b143_4 {d : Nat} {Q : Option Value ⊕ Nat → am_Mem → Prop} {μ : am_Mem} {r0 : Nat} {x1 x2 : Int32} {P : am_Mem → Prop} {X : Nat → am_Mem → Prop}
    (hk : am_kd μ r0 = (1, 11))
    (hc : Wp d 142 (0, [some (.ref r0), some (.int x1)], [], μ) (pV P X)) (hr : ∀ μ', P μ' → Wp (d + 1) 143 (9, [some (.ref r0), some (.int x1), some (.int x2)], [], (μ')) Q)
    (hx : ∀ x μ', X x μ' → Q (.inr x) μ') :
    Wp (d + 1) 143 (4, [some (.ref r0), some (.int x1), some (.int x2)], [], μ) Q := wp_blk rfl e143_4 (wp_cv (as := [.int x1]) rfl e143_4_c rfl rfl rfl rfl rfl hk hc (fun v μ' hv => by obtain ⟨rfl, hp⟩ := pV_r hv; exact hr μ' hp) hx)
def q143_9 : List (Nat × Instr × Nat) := [(9, .iload_n 2, 1), (10, .ifCond .lt 16, 3)]
theorem e143_9 : am_dec am_M143 q143_9 = true := by decide +kernel
theorem b143_9 {d : Nat} {Q : Option Value ⊕ Nat → am_Mem → Prop} {μ : am_Mem} {r0 : Nat} {x1 x2 : Int32}
    (k1 : x2 < 0 → Wp d 143 (26, [some (.ref r0), some (.int x1), some (.int x2)], [], μ) Q) (k2 : ¬ (x2 < 0) → Wp d 143 (13, [some (.ref r0), some (.int x1), some (.int x2)], [], μ) Q) :
    Wp d 143 (9, [some (.ref r0), some (.int x1), some (.int x2)], [], μ) Q := wp_blk rfl e143_9 (And.intro k1 k2)
def q143_13 : List (Nat × Instr × Nat) := [(13, .iload_n 2, 1), (14, .aload_n 0, 1), (15, .getfield 94, 3), (18, .getfield 264, 3), (21, .iload_n 1, 1), (22, .iaload, 1), (23, .if_icmp .lt 13, 3)]
theorem e143_13 : am_dec am_M143 q143_13 = true := by decide +kernel
theorem b143_13 {d : Nat} {Q : Option Value ⊕ Nat → am_Mem → Prop} {μ : am_Mem} {r0 : Nat} {x1 x2 : Int32}
    (h1 : am_kd μ r0 = (1, 11))
    (h2 : ¬ am_F μ r0 16 = 15)
    (h3 : am_kd μ (am_F μ r0 16) = (1, 6))
    (h4 : ¬ am_F μ (am_F μ r0 16) 5 = 15)
    (h5 : (am_kd μ (am_F μ (am_F μ r0 16) 5)).1 = 2 ∨ (am_kd μ (am_F μ (am_F μ r0 16) 5)).1 = 8)
    (h6 : ¬ (x1 < 0 ∨ (am_kd μ (am_F μ (am_F μ r0 16) 5)).2 ≤ x1.toNatClampNeg))
    (k1 : x2 < (am_A μ (am_F μ (am_F μ r0 16) 5) x1.toNatClampNeg) → Wp d 143 (36, [some (.ref r0), some (.int x1), some (.int x2)], [], μ) Q) (k2 : ¬ (x2 < (am_A μ (am_F μ (am_F μ r0 16) 5) x1.toNatClampNeg)) → Wp d 143 (26, [some (.ref r0), some (.int x1), some (.int x2)], [], μ) Q) :
    Wp d 143 (13, [some (.ref r0), some (.int x1), some (.int x2)], [], μ) Q := wp_blk rfl e143_13 (And.intro h1 (And.intro h2 (And.intro h3 (And.intro h4 (And.intro h5 (And.intro h6 (And.intro k1 k2)))))))
theorem e143_26_t : am_dc1 am_M143 26 (.new 199) 3 = true ∧ am_throw GG 11 143 26 (.new 199) = some 2 := by decide +kernel
theorem b143_26 {d : Nat} {Q : Option Value ⊕ Nat → am_Mem → Prop} {μ : am_Mem} {r0 : Nat} {x1 x2 : Int32}
    (k : Q (.inr 2) (am_nX μ)) :
    Wp d 143 (26, [some (.ref r0), some (.int x1), some (.int x2)], [], μ) Q := (wp_throw rfl e143_26_t.1 ⟨_, rfl⟩ rfl e143_26_t.2 rfl k)
def q143_36 : List (Nat × Instr × Nat) := [(36, .aload_n 0, 1), (37, .getfield 94, 3), (40, .getfield 267, 3), (43, .bipush 40, 2), (45, .iload_n 1, 1), (46, .imul, 1), (47, .iload_n 2, 1), (48, .iadd, 1), (49, .iaload, 1)]
theorem e143_36 : am_dec am_M143 q143_36 = true := by decide +kernel
theorem e143_36_r : am_dec am_M143 [(50, .ireturn, 1)] = true := by decide +kernel
theorem b143_36 {d : Nat} {Q : Option Value ⊕ Nat → am_Mem → Prop} {μ : am_Mem} {r0 : Nat} {x1 x2 : Int32}
    (h1 : am_kd μ r0 = (1, 11))
    (h2 : ¬ am_F μ r0 16 = 15)
    (h3 : am_kd μ (am_F μ r0 16) = (1, 6))
    (h4 : ¬ am_F μ (am_F μ r0 16) 6 = 15)
    (h5 : (am_kd μ (am_F μ (am_F μ r0 16) 6)).1 = 2 ∨ (am_kd μ (am_F μ (am_F μ r0 16) 6)).1 = 8)
    (h6 : ¬ (((((Int8.ofInt 40).toInt32) * x1) + x2) < 0 ∨ (am_kd μ (am_F μ (am_F μ r0 16) 6)).2 ≤ ((((Int8.ofInt 40).toInt32) * x1) + x2).toNatClampNeg))
    (k : Q (.inl (some (.int (am_A μ (am_F μ (am_F μ r0 16) 6) ((((Int8.ofInt 40).toInt32) * x1) + x2).toNatClampNeg)))) μ) :
    Wp d 143 (36, [some (.ref r0), some (.int x1), some (.int x2)], [], μ) Q := wp_blk rfl e143_36 (And.intro h1 (And.intro h2 (And.intro h3 (And.intro h4 (And.intro h5 (And.intro h6 (wp_ri (ty := .int) rfl e143_36_r rfl ⟨rfl, rfl⟩ k)))))))
/-! RuleSheets.value(I)I -/
def q144_0 : List (Nat × Instr × Nat) := [(0, .aload_n 0, 1)]
theorem e144_0 : am_dec am_M144 q144_0 = true := by decide +kernel
theorem e144_0_c : am_dc1 am_M144 1 (.invokevirtual 270) 3 = true := by decide +kernel
theorem b144_0 {d : Nat} {Q : Option Value ⊕ Nat → am_Mem → Prop} {μ : am_Mem} {r0 : Nat} {x1 : Int32} {P : am_Mem → Prop} {X : Nat → am_Mem → Prop}
    (hk : am_kd μ r0 = (1, 11))
    (hc : Wp d 145 (0, [some (.ref r0)], [], μ) (pV P X)) (hr : ∀ μ', P μ' → Wp (d + 1) 144 (4, [some (.ref r0), some (.int x1)], [], (μ')) Q)
    (hx : ∀ x μ', X x μ' → Q (.inr x) μ') :
    Wp (d + 1) 144 (0, [some (.ref r0), some (.int x1)], [], μ) Q := wp_blk rfl e144_0 (wp_cv (as := []) rfl e144_0_c rfl rfl rfl rfl rfl hk hc (fun v μ' hv => by obtain ⟨rfl, hp⟩ := pV_r hv; exact hr μ' hp) hx)
def q144_4 : List (Nat × Instr × Nat) := [(4, .aload_n 0, 1), (5, .iload_n 1, 1)]
theorem e144_4 : am_dec am_M144 q144_4 = true := by decide +kernel
theorem e144_4_c : am_dc1 am_M144 6 (.invokevirtual 255) 3 = true := by decide +kernel
theorem b144_4 {d : Nat} {Q : Option Value ⊕ Nat → am_Mem → Prop} {μ : am_Mem} {r0 : Nat} {x1 : Int32} {P : am_Mem → Prop} {X : Nat → am_Mem → Prop}
    (hk : am_kd μ r0 = (1, 11))
    (hc : Wp d 142 (0, [some (.ref r0), some (.int x1)], [], μ) (pV P X)) (hr : ∀ μ', P μ' → Wp (d + 1) 144 (9, [some (.ref r0), some (.int x1)], [], (μ')) Q)
    (hx : ∀ x μ', X x μ' → Q (.inr x) μ') :
    Wp (d + 1) 144 (4, [some (.ref r0), some (.int x1)], [], μ) Q := wp_blk rfl e144_4 (wp_cv (as := [.int x1]) rfl e144_4_c rfl rfl rfl rfl rfl hk hc (fun v μ' hv => by obtain ⟨rfl, hp⟩ := pV_r hv; exact hr μ' hp) hx)
def q144_9 : List (Nat × Instr × Nat) := [(9, .aload_n 0, 1), (10, .getfield 94, 3), (13, .getfield 273, 3), (16, .iload_n 1, 1), (17, .iaload, 1)]
theorem e144_9 : am_dec am_M144 q144_9 = true := by decide +kernel
theorem e144_9_r : am_dec am_M144 [(18, .ireturn, 1)] = true := by decide +kernel
theorem b144_9 {d : Nat} {Q : Option Value ⊕ Nat → am_Mem → Prop} {μ : am_Mem} {r0 : Nat} {x1 : Int32}
    (h1 : am_kd μ r0 = (1, 11))
    (h2 : ¬ am_F μ r0 16 = 15)
    (h3 : am_kd μ (am_F μ r0 16) = (1, 6))
    (h4 : ¬ am_F μ (am_F μ r0 16) 11 = 15)
    (h5 : (am_kd μ (am_F μ (am_F μ r0 16) 11)).1 = 2 ∨ (am_kd μ (am_F μ (am_F μ r0 16) 11)).1 = 8)
    (h6 : ¬ (x1 < 0 ∨ (am_kd μ (am_F μ (am_F μ r0 16) 11)).2 ≤ x1.toNatClampNeg))
    (k : Q (.inl (some (.int (am_A μ (am_F μ (am_F μ r0 16) 11) x1.toNatClampNeg)))) μ) :
    Wp d 144 (9, [some (.ref r0), some (.int x1)], [], μ) Q := wp_blk rfl e144_9 (And.intro h1 (And.intro h2 (And.intro h3 (And.intro h4 (And.intro h5 (And.intro h6 (wp_ri (ty := .int) rfl e144_9_r rfl ⟨rfl, rfl⟩ k)))))))
/-! RuleSheets.needSound()V -/
def q145_0 : List (Nat × Instr × Nat) := [(0, .aload_n 0, 1), (1, .getfield 98, 3), (4, .iconst 1, 1), (5, .if_icmp .ne 13, 3)]
theorem e145_0 : am_dec am_M145 q145_0 = true := by decide +kernel
theorem b145_0 {d : Nat} {Q : Option Value ⊕ Nat → am_Mem → Prop} {μ : am_Mem} {r0 : Nat}
    (h1 : am_kd μ r0 = (1, 11))
    (k1 : ¬ (am_A μ r0 17) = (Int32.ofInt 1) → Wp d 145 (18, [some (.ref r0)], [], μ) Q) (k2 : ¬ (¬ (am_A μ r0 17) = (Int32.ofInt 1)) → Wp d 145 (8, [some (.ref r0)], [], μ) Q) :
    Wp d 145 (0, [some (.ref r0)], [], μ) Q := wp_blk rfl e145_0 (And.intro h1 (And.intro k1 k2))
def q145_8 : List (Nat × Instr × Nat) := [(8, .aload_n 0, 1), (9, .getfield 94, 3), (12, .getfield 249, 3), (15, .ifCond .eq 14, 3)]
theorem e145_8 : am_dec am_M145 q145_8 = true := by decide +kernel
theorem b145_8 {d : Nat} {Q : Option Value ⊕ Nat → am_Mem → Prop} {μ : am_Mem} {r0 : Nat}
    (h1 : am_kd μ r0 = (1, 11))
    (h2 : ¬ am_F μ r0 16 = 15)
    (h3 : am_kd μ (am_F μ r0 16) = (1, 6))
    (k1 : (am_A μ (am_F μ r0 16) 13) = 0 → Wp d 145 (29, [some (.ref r0)], [], μ) Q) (k2 : ¬ ((am_A μ (am_F μ r0 16) 13) = 0) → Wp d 145 (18, [some (.ref r0)], [], μ) Q) :
    Wp d 145 (8, [some (.ref r0)], [], μ) Q := wp_blk rfl e145_8 (And.intro h1 (And.intro h2 (And.intro h3 (And.intro k1 k2))))
theorem e145_18_t : am_dc1 am_M145 18 (.new 279) 3 = true ∧ am_throw GG 11 145 18 (.new 279) = some 1 := by decide +kernel
theorem b145_18 {d : Nat} {Q : Option Value ⊕ Nat → am_Mem → Prop} {μ : am_Mem} {r0 : Nat}
    (k : Q (.inr 1) (am_nX μ)) :
    Wp d 145 (18, [some (.ref r0)], [], μ) Q := (wp_throw rfl e145_18_t.1 ⟨_, rfl⟩ rfl e145_18_t.2 rfl k)
theorem e145_29_r : am_dec am_M145 [(29, .return_, 1)] = true := by decide +kernel
theorem b145_29 {d : Nat} {Q : Option Value ⊕ Nat → am_Mem → Prop} {μ : am_Mem} {r0 : Nat}
    (k : Q (.inl none) μ) :
    Wp d 145 (29, [some (.ref r0)], [], μ) Q := (wp_rv rfl e145_29_r rfl k)
/-! RuleSheets.best(I)I -/
def q146_0 : List (Nat × Instr × Nat) := [(0, .aload_n 0, 1)]
theorem e146_0 : am_dec am_M146 q146_0 = true := by decide +kernel
theorem e146_0_c : am_dc1 am_M146 1 (.invokevirtual 270) 3 = true := by decide +kernel
theorem b146_0 {d : Nat} {Q : Option Value ⊕ Nat → am_Mem → Prop} {μ : am_Mem} {r0 : Nat} {x1 : Int32} {P : am_Mem → Prop} {X : Nat → am_Mem → Prop}
    (hk : am_kd μ r0 = (1, 11))
    (hc : Wp d 145 (0, [some (.ref r0)], [], μ) (pV P X)) (hr : ∀ μ', P μ' → Wp (d + 1) 146 (4, [some (.ref r0), some (.int x1)], [], (μ')) Q)
    (hx : ∀ x μ', X x μ' → Q (.inr x) μ') :
    Wp (d + 1) 146 (0, [some (.ref r0), some (.int x1)], [], μ) Q := wp_blk rfl e146_0 (wp_cv (as := []) rfl e146_0_c rfl rfl rfl rfl rfl hk hc (fun v μ' hv => by obtain ⟨rfl, hp⟩ := pV_r hv; exact hr μ' hp) hx)
def q146_4 : List (Nat × Instr × Nat) := [(4, .aload_n 0, 1), (5, .iload_n 1, 1)]
theorem e146_4 : am_dec am_M146 q146_4 = true := by decide +kernel
theorem e146_4_c : am_dc1 am_M146 6 (.invokevirtual 255) 3 = true := by decide +kernel
theorem b146_4 {d : Nat} {Q : Option Value ⊕ Nat → am_Mem → Prop} {μ : am_Mem} {r0 : Nat} {x1 : Int32} {P : am_Mem → Prop} {X : Nat → am_Mem → Prop}
    (hk : am_kd μ r0 = (1, 11))
    (hc : Wp d 142 (0, [some (.ref r0), some (.int x1)], [], μ) (pV P X)) (hr : ∀ μ', P μ' → Wp (d + 1) 146 (9, [some (.ref r0), some (.int x1)], [], (μ')) Q)
    (hx : ∀ x μ', X x μ' → Q (.inr x) μ') :
    Wp (d + 1) 146 (4, [some (.ref r0), some (.int x1)], [], μ) Q := wp_blk rfl e146_4 (wp_cv (as := [.int x1]) rfl e146_4_c rfl rfl rfl rfl rfl hk hc (fun v μ' hv => by obtain ⟨rfl, hp⟩ := pV_r hv; exact hr μ' hp) hx)
def q146_9 : List (Nat × Instr × Nat) := [(9, .aload_n 0, 1), (10, .getfield 94, 3), (13, .getfield 276, 3), (16, .iload_n 1, 1), (17, .iaload, 1)]
theorem e146_9 : am_dec am_M146 q146_9 = true := by decide +kernel
theorem e146_9_r : am_dec am_M146 [(18, .ireturn, 1)] = true := by decide +kernel
theorem b146_9 {d : Nat} {Q : Option Value ⊕ Nat → am_Mem → Prop} {μ : am_Mem} {r0 : Nat} {x1 : Int32}
    (h1 : am_kd μ r0 = (1, 11))
    (h2 : ¬ am_F μ r0 16 = 15)
    (h3 : am_kd μ (am_F μ r0 16) = (1, 6))
    (h4 : ¬ am_F μ (am_F μ r0 16) 12 = 15)
    (h5 : (am_kd μ (am_F μ (am_F μ r0 16) 12)).1 = 2 ∨ (am_kd μ (am_F μ (am_F μ r0 16) 12)).1 = 8)
    (h6 : ¬ (x1 < 0 ∨ (am_kd μ (am_F μ (am_F μ r0 16) 12)).2 ≤ x1.toNatClampNeg))
    (k : Q (.inl (some (.int (am_A μ (am_F μ (am_F μ r0 16) 12) x1.toNatClampNeg)))) μ) :
    Wp d 146 (9, [some (.ref r0), some (.int x1)], [], μ) Q := wp_blk rfl e146_9 (And.intro h1 (And.intro h2 (And.intro h3 (And.intro h4 (And.intro h5 (And.intro h6 (wp_ri (ty := .int) rfl e146_9_r rfl ⟨rfl, rfl⟩ k)))))))
