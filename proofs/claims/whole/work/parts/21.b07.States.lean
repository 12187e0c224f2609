/-! ===== printed: the blocks of States ===== -/
/-! RuleSheets$States.<init>()V -/
def q72_0 : List (Nat × Instr × Nat) := [(0, .aload_n 0, 1), (1, .invokespecial 3, 3), (4, .aload_n 0, 1), (5, .iconst 0, 1), (6, .putfield 9, 3), (9, .aload_n 0, 1), (10, .iconst 0, 1), (11, .putfield 15, 3), (14, .aload_n 0, 1), (15, .new 18, 3)]
theorem e72_0 : am_dec am_M72 q72_0 = true := by decide +kernel
theorem b72_0 {d : Nat} {Q : Option Value ⊕ Nat → am_Mem → Prop} {μ : am_Mem} {r0 : Nat}
    (h1 : am_kd μ r0 = (1, 6))
    (h2 : am_kd (am_pA μ r0 0 (Int32.ofInt 0)) r0 = (1, 6))
    (k : Wp d 72 (18, [some (.ref r0)], [.ref (am_n (am_pA (am_pA μ r0 0 (Int32.ofInt 0)) r0 1 (Int32.ofInt 0))), .ref r0], (am_nO (am_pA (am_pA μ r0 0 (Int32.ofInt 0)) r0 1 (Int32.ofInt 0)) 7 6)) Q) :
    Wp d 72 (0, [some (.ref r0)], [], μ) Q := wp_blk rfl e72_0 (And.intro h1 (And.intro ⟨rfl, rfl⟩ (And.intro h2 (And.intro ⟨rfl, rfl⟩ k))))
def q72_18 : List (Nat × Instr × Nat) := [(18, .dup, 1)]
theorem e72_18 : am_dec am_M72 q72_18 = true := by decide +kernel
theorem e72_18_c : am_dc1 am_M72 19 (.invokespecial 20) 3 = true := by decide +kernel
theorem b72_18 {d : Nat} {Q : Option Value ⊕ Nat → am_Mem → Prop} {μ : am_Mem} {r0 r90 r91 : Nat} {P : am_Mem → Prop}
    (hc : Wp d 82 (0, [some (.ref r91)], [], μ) (pV P noX)) (hr : ∀ μ', P μ' → Wp (d + 1) 72 (22, [some (.ref r0)], [.ref r91, .ref r90], (μ')) Q) :
    Wp (d + 1) 72 (18, [some (.ref r0)], [.ref r91, .ref r90], μ) Q := wp_blk rfl e72_18 (wp_ci (as := []) rfl e72_18_c rfl rfl rfl rfl hc (fun v μ' hv => by obtain ⟨rfl, hp⟩ := pV_r hv; exact hr μ' hp) (fun _ _ h => h))
def q72_22 : List (Nat × Instr × Nat) := [(22, .putfield 21, 3), (25, .aload_n 0, 1), (26, .sipush 300, 3), (29, .newarray .int, 2), (31, .putfield 25, 3)]
theorem e72_22 : am_dec am_M72 q72_22 = true := by decide +kernel
theorem b72_22 {d : Nat} {Q : Option Value ⊕ Nat → am_Mem → Prop} {μ : am_Mem} {r0 r90 r91 : Nat}
    (h1 : am_kd μ r90 = (1, 6))
    (h2 : ¬ r91 = 15)
    (h3 : am_kd (am_nA (am_pR μ r90 2 r91) 2 ((Int16.ofInt 300).toInt32).toNatClampNeg) r0 = (1, 6))
    (h4 : ¬ (am_n (am_pR μ r90 2 r91)) = 15)
    (k : Wp d 72 (34, [some (.ref r0)], [], (am_pR (am_nA (am_pR μ r90 2 r91) 2 ((Int16.ofInt 300).toInt32).toNatClampNeg) r0 3 (am_n (am_pR μ r90 2 r91)))) Q) :
    Wp d 72 (22, [some (.ref r0)], [.ref r91, .ref r90], μ) Q := wp_blk rfl e72_22 (And.intro h1 (And.intro h2 (And.intro (by decide) (And.intro h3 (And.intro h4 k)))))
def q72_34 : List (Nat × Instr × Nat) := [(34, .aload_n 0, 1), (35, .sipush 300, 3), (38, .newarray .boolean, 2), (40, .putfield 29, 3)]
theorem e72_34 : am_dec am_M72 q72_34 = true := by decide +kernel
theorem b72_34 {d : Nat} {Q : Option Value ⊕ Nat → am_Mem → Prop} {μ : am_Mem} {r0 : Nat}
    (h1 : am_kd (am_nA μ 4 ((Int16.ofInt 300).toInt32).toNatClampNeg) r0 = (1, 6))
    (h2 : ¬ (am_n μ) = 15)
    (k : Wp d 72 (43, [some (.ref r0)], [], (am_pR (am_nA μ 4 ((Int16.ofInt 300).toInt32).toNatClampNeg) r0 4 (am_n μ))) Q) :
    Wp d 72 (34, [some (.ref r0)], [], μ) Q := wp_blk rfl e72_34 (And.intro (by decide) (And.intro h1 (And.intro h2 k)))
def q72_43 : List (Nat × Instr × Nat) := [(43, .aload_n 0, 1), (44, .sipush 300, 3), (47, .newarray .int, 2), (49, .putfield 33, 3)]
theorem e72_43 : am_dec am_M72 q72_43 = true := by decide +kernel
theorem b72_43 {d : Nat} {Q : Option Value ⊕ Nat → am_Mem → Prop} {μ : am_Mem} {r0 : Nat}
    (h1 : am_kd (am_nA μ 2 ((Int16.ofInt 300).toInt32).toNatClampNeg) r0 = (1, 6))
    (h2 : ¬ (am_n μ) = 15)
    (k : Wp d 72 (52, [some (.ref r0)], [], (am_pR (am_nA μ 2 ((Int16.ofInt 300).toInt32).toNatClampNeg) r0 5 (am_n μ))) Q) :
    Wp d 72 (43, [some (.ref r0)], [], μ) Q := wp_blk rfl e72_43 (And.intro (by decide) (And.intro h1 (And.intro h2 k)))
def q72_52 : List (Nat × Instr × Nat) := [(52, .aload_n 0, 1), (53, .sipush 12000, 3), (56, .newarray .int, 2), (58, .putfield 36, 3)]
theorem e72_52 : am_dec am_M72 q72_52 = true := by decide +kernel
theorem b72_52 {d : Nat} {Q : Option Value ⊕ Nat → am_Mem → Prop} {μ : am_Mem} {r0 : Nat}
    (h1 : am_kd (am_nA μ 2 ((Int16.ofInt 12000).toInt32).toNatClampNeg) r0 = (1, 6))
    (h2 : ¬ (am_n μ) = 15)
    (k : Wp d 72 (61, [some (.ref r0)], [], (am_pR (am_nA μ 2 ((Int16.ofInt 12000).toInt32).toNatClampNeg) r0 6 (am_n μ))) Q) :
    Wp d 72 (52, [some (.ref r0)], [], μ) Q := wp_blk rfl e72_52 (And.intro (by decide) (And.intro h1 (And.intro h2 k)))
def q72_61 : List (Nat × Instr × Nat) := [(61, .aload_n 0, 1), (62, .sipush 300, 3), (65, .newarray .int, 2), (67, .putfield 39, 3)]
theorem e72_61 : am_dec am_M72 q72_61 = true := by decide +kernel
theorem b72_61 {d : Nat} {Q : Option Value ⊕ Nat → am_Mem → Prop} {μ : am_Mem} {r0 : Nat}
    (h1 : am_kd (am_nA μ 2 ((Int16.ofInt 300).toInt32).toNatClampNeg) r0 = (1, 6))
    (h2 : ¬ (am_n μ) = 15)
    (k : Wp d 72 (70, [some (.ref r0)], [], (am_pR (am_nA μ 2 ((Int16.ofInt 300).toInt32).toNatClampNeg) r0 7 (am_n μ))) Q) :
    Wp d 72 (61, [some (.ref r0)], [], μ) Q := wp_blk rfl e72_61 (And.intro (by decide) (And.intro h1 (And.intro h2 k)))
def q72_70 : List (Nat × Instr × Nat) := [(70, .aload_n 0, 1), (71, .sipush 300, 3), (74, .newarray .int, 2), (76, .putfield 42, 3)]
theorem e72_70 : am_dec am_M72 q72_70 = true := by decide +kernel
theorem b72_70 {d : Nat} {Q : Option Value ⊕ Nat → am_Mem → Prop} {μ : am_Mem} {r0 : Nat}
    (h1 : am_kd (am_nA μ 2 ((Int16.ofInt 300).toInt32).toNatClampNeg) r0 = (1, 6))
    (h2 : ¬ (am_n μ) = 15)
    (k : Wp d 72 (79, [some (.ref r0)], [], (am_pR (am_nA μ 2 ((Int16.ofInt 300).toInt32).toNatClampNeg) r0 8 (am_n μ))) Q) :
    Wp d 72 (70, [some (.ref r0)], [], μ) Q := wp_blk rfl e72_70 (And.intro (by decide) (And.intro h1 (And.intro h2 k)))
def q72_79 : List (Nat × Instr × Nat) := [(79, .aload_n 0, 1), (80, .sipush 300, 3), (83, .newarray .int, 2), (85, .putfield 45, 3)]
theorem e72_79 : am_dec am_M72 q72_79 = true := by decide +kernel
theorem b72_79 {d : Nat} {Q : Option Value ⊕ Nat → am_Mem → Prop} {μ : am_Mem} {r0 : Nat}
    (h1 : am_kd (am_nA μ 2 ((Int16.ofInt 300).toInt32).toNatClampNeg) r0 = (1, 6))
    (h2 : ¬ (am_n μ) = 15)
    (k : Wp d 72 (88, [some (.ref r0)], [], (am_pR (am_nA μ 2 ((Int16.ofInt 300).toInt32).toNatClampNeg) r0 9 (am_n μ))) Q) :
    Wp d 72 (79, [some (.ref r0)], [], μ) Q := wp_blk rfl e72_79 (And.intro (by decide) (And.intro h1 (And.intro h2 k)))
def q72_88 : List (Nat × Instr × Nat) := [(88, .aload_n 0, 1), (89, .sipush 300, 3), (92, .newarray .int, 2), (94, .putfield 48, 3)]
theorem e72_88 : am_dec am_M72 q72_88 = true := by decide +kernel
theorem b72_88 {d : Nat} {Q : Option Value ⊕ Nat → am_Mem → Prop} {μ : am_Mem} {r0 : Nat}
    (h1 : am_kd (am_nA μ 2 ((Int16.ofInt 300).toInt32).toNatClampNeg) r0 = (1, 6))
    (h2 : ¬ (am_n μ) = 15)
    (k : Wp d 72 (97, [some (.ref r0)], [], (am_pR (am_nA μ 2 ((Int16.ofInt 300).toInt32).toNatClampNeg) r0 10 (am_n μ))) Q) :
    Wp d 72 (88, [some (.ref r0)], [], μ) Q := wp_blk rfl e72_88 (And.intro (by decide) (And.intro h1 (And.intro h2 k)))
def q72_97 : List (Nat × Instr × Nat) := [(97, .aload_n 0, 1), (98, .sipush 300, 3), (101, .newarray .int, 2), (103, .putfield 51, 3)]
theorem e72_97 : am_dec am_M72 q72_97 = true := by decide +kernel
theorem b72_97 {d : Nat} {Q : Option Value ⊕ Nat → am_Mem → Prop} {μ : am_Mem} {r0 : Nat}
    (h1 : am_kd (am_nA μ 2 ((Int16.ofInt 300).toInt32).toNatClampNeg) r0 = (1, 6))
    (h2 : ¬ (am_n μ) = 15)
    (k : Wp d 72 (106, [some (.ref r0)], [], (am_pR (am_nA μ 2 ((Int16.ofInt 300).toInt32).toNatClampNeg) r0 11 (am_n μ))) Q) :
    Wp d 72 (97, [some (.ref r0)], [], μ) Q := wp_blk rfl e72_97 (And.intro (by decide) (And.intro h1 (And.intro h2 k)))
def q72_106 : List (Nat × Instr × Nat) := [(106, .aload_n 0, 1), (107, .sipush 300, 3), (110, .newarray .int, 2), (112, .putfield 54, 3)]
theorem e72_106 : am_dec am_M72 q72_106 = true := by decide +kernel
theorem b72_106 {d : Nat} {Q : Option Value ⊕ Nat → am_Mem → Prop} {μ : am_Mem} {r0 : Nat}
    (h1 : am_kd (am_nA μ 2 ((Int16.ofInt 300).toInt32).toNatClampNeg) r0 = (1, 6))
    (h2 : ¬ (am_n μ) = 15)
    (k : Wp d 72 (115, [some (.ref r0)], [], (am_pR (am_nA μ 2 ((Int16.ofInt 300).toInt32).toNatClampNeg) r0 12 (am_n μ))) Q) :
    Wp d 72 (106, [some (.ref r0)], [], μ) Q := wp_blk rfl e72_106 (And.intro (by decide) (And.intro h1 (And.intro h2 k)))
def q72_115 : List (Nat × Instr × Nat) := [(115, .aload_n 0, 1), (116, .iconst 0, 1), (117, .putfield 57, 3), (120, .aload_n 0, 1), (121, .iconst (-1), 1), (122, .putfield 60, 3), (125, .aload_n 0, 1), (126, .sipush 300, 3), (129, .newarray .int, 2)]
theorem e72_115 : am_dec am_M72 q72_115 = true := by decide +kernel
theorem b72_115 {d : Nat} {Q : Option Value ⊕ Nat → am_Mem → Prop} {μ : am_Mem} {r0 : Nat}
    (h1 : am_kd μ r0 = (1, 6))
    (h2 : am_kd (am_pA μ r0 13 (Int32.ofInt 0)) r0 = (1, 6))
    (k : Wp d 72 (131, [some (.ref r0)], [.ref (am_n (am_pA (am_pA μ r0 13 (Int32.ofInt 0)) r0 14 (Int32.ofInt (-1)))), .ref r0], (am_nA (am_pA (am_pA μ r0 13 (Int32.ofInt 0)) r0 14 (Int32.ofInt (-1))) 2 ((Int16.ofInt 300).toInt32).toNatClampNeg)) Q) :
    Wp d 72 (115, [some (.ref r0)], [], μ) Q := wp_blk rfl e72_115 (And.intro h1 (And.intro ⟨rfl, rfl⟩ (And.intro h2 (And.intro ⟨rfl, rfl⟩ (And.intro (by decide) k)))))
def q72_131 : List (Nat × Instr × Nat) := [(131, .putfield 63, 3), (134, .aload_n 0, 1), (135, .sipush 300, 3), (138, .newarray .boolean, 2), (140, .putfield 66, 3)]
theorem e72_131 : am_dec am_M72 q72_131 = true := by decide +kernel
theorem b72_131 {d : Nat} {Q : Option Value ⊕ Nat → am_Mem → Prop} {μ : am_Mem} {r0 r90 r91 : Nat}
    (h1 : am_kd μ r90 = (1, 6))
    (h2 : ¬ r91 = 15)
    (h3 : am_kd (am_nA (am_pR μ r90 15 r91) 4 ((Int16.ofInt 300).toInt32).toNatClampNeg) r0 = (1, 6))
    (h4 : ¬ (am_n (am_pR μ r90 15 r91)) = 15)
    (k : Wp d 72 (143, [some (.ref r0)], [], (am_pR (am_nA (am_pR μ r90 15 r91) 4 ((Int16.ofInt 300).toInt32).toNatClampNeg) r0 16 (am_n (am_pR μ r90 15 r91)))) Q) :
    Wp d 72 (131, [some (.ref r0)], [.ref r91, .ref r90], μ) Q := wp_blk rfl e72_131 (And.intro h1 (And.intro h2 (And.intro (by decide) (And.intro h3 (And.intro h4 k)))))
theorem e72_143_r : am_dec am_M72 [(143, .return_, 1)] = true := by decide +kernel
theorem b72_143 {d : Nat} {Q : Option Value ⊕ Nat → am_Mem → Prop} {μ : am_Mem} {r0 : Nat}
    (k : Q (.inl none) μ) :
    Wp d 72 (143, [some (.ref r0)], [], μ) Q := (wp_rv rfl e72_143_r rfl k)
/-! RuleSheets$States.clear(I)V -/
def q73_0 : List (Nat × Instr × Nat) := [(0, .aload_n 0, 1), (1, .iload_n 1, 1), (2, .putfield 9, 3), (5, .aload_n 0, 1), (6, .iconst 0, 1), (7, .putfield 15, 3), (10, .aload_n 0, 1), (11, .getfield 21, 3), (14, .iconst 0, 1), (15, .putfield 69, 3)]
theorem e73_0 : am_dec am_M73 q73_0 = true := by decide +kernel
theorem b73_0 {d : Nat} {Q : Option Value ⊕ Nat → am_Mem → Prop} {μ : am_Mem} {r0 : Nat} {x1 : Int32}
    (h1 : am_kd μ r0 = (1, 6))
    (h2 : am_kd (am_pA μ r0 0 x1) r0 = (1, 6))
    (h3 : am_kd (am_pA (am_pA μ r0 0 x1) r0 1 (Int32.ofInt 0)) r0 = (1, 6))
    (h4 : ¬ am_F (am_pA (am_pA μ r0 0 x1) r0 1 (Int32.ofInt 0)) r0 2 = 15)
    (h5 : am_kd (am_pA (am_pA μ r0 0 x1) r0 1 (Int32.ofInt 0)) (am_F (am_pA (am_pA μ r0 0 x1) r0 1 (Int32.ofInt 0)) r0 2) = (1, 7))
    (k : Wp d 73 (18, [some (.ref r0), some (.int x1)], [], (am_pA (am_pA (am_pA μ r0 0 x1) r0 1 (Int32.ofInt 0)) (am_F (am_pA (am_pA μ r0 0 x1) r0 1 (Int32.ofInt 0)) r0 2) 3 (Int32.ofInt 0))) Q) :
    Wp d 73 (0, [some (.ref r0), some (.int x1)], [], μ) Q := wp_blk rfl e73_0 (And.intro h1 (And.intro ⟨rfl, rfl⟩ (And.intro h2 (And.intro ⟨rfl, rfl⟩ (And.intro h3 (And.intro h4 (And.intro h5 (And.intro ⟨rfl, rfl⟩ k))))))))
theorem e73_18_r : am_dec am_M73 [(18, .return_, 1)] = true := by decide +kernel
theorem b73_18 {d : Nat} {Q : Option Value ⊕ Nat → am_Mem → Prop} {μ : am_Mem} {r0 : Nat} {x1 : Int32}
    (k : Q (.inl none) μ) :
    Wp d 73 (18, [some (.ref r0), some (.int x1)], [], μ) Q := (wp_rv rfl e73_18_r rfl k)
/-! RuleSheets$States.enter([IILRuleSheets$Terms;)I -/
def q74_0 : List (Nat × Instr × Nat) := [(0, .aload_n 0, 1), (1, .getfield 21, 3), (4, .aload_n 1, 1), (5, .iload_n 2, 1), (6, .aload_n 3, 1)]
theorem e74_0 : am_dec am_M74 q74_0 = true := by decide +kernel
theorem e74_0_c : am_dc1 am_M74 7 (.invokevirtual 70) 3 = true := by decide +kernel
theorem b74_0 {d : Nat} {Q : Option Value ⊕ Nat → am_Mem → Prop} {μ : am_Mem} {r0 r1 r3 : Nat} {x2 : Int32} {P : Int32 → am_Mem → Prop} {X : Nat → am_Mem → Prop}
    (h1 : am_kd μ r0 = (1, 6))
    (h2 : ¬ am_F μ r0 2 = 15)
    (hk : am_kd μ (am_F μ r0 2) = (1, 7))
    (hc : Wp d 83 (0, [some (.ref (am_F μ r0 2)), some (.ref r1), some (.int x2), some (.ref r3), none], [], μ) (pI P X)) (hr : ∀ x μ', P x μ' → Wp (d + 1) 74 (10, [some (.ref r0), some (.ref r1), some (.int x2), some (.ref r3), none], [.int x], (μ')) Q)
    (hx : ∀ x μ', X x μ' → Q (.inr x) μ') :
    Wp (d + 1) 74 (0, [some (.ref r0), some (.ref r1), some (.int x2), some (.ref r3), none], [], μ) Q := wp_blk rfl e74_0 (And.intro h1 (And.intro h2 (wp_cv (as := [.ref r1, .int x2, .ref r3]) rfl e74_0_c rfl rfl rfl rfl rfl hk hc (fun v μ' hv => by obtain ⟨x, rfl, hp⟩ := pI_r hv; exact hr x μ' hp) hx)))
def q74_10 : List (Nat × Instr × Nat) := [(10, .istore 4, 2), (12, .aload_n 0, 1), (13, .getfield 25, 3), (16, .iload 4, 2), (18, .iload_n 2, 1), (19, .iastore, 1), (20, .aload_n 0, 1), (21, .aload_n 0, 1), (22, .getfield 21, 3), (25, .getfield 69, 3), (28, .putfield 15, 3)]
theorem e74_10 : am_dec am_M74 q74_10 = true := by decide +kernel
theorem b74_10 {d : Nat} {Q : Option Value ⊕ Nat → am_Mem → Prop} {μ : am_Mem} {r0 r1 r3 : Nat} {x2 s0 : Int32}
    (h1 : am_kd μ r0 = (1, 6))
    (h2 : ¬ am_F μ r0 3 = 15)
    (h3 : (am_kd μ (am_F μ r0 3)).1 = 2)
    (h4 : ¬ (s0 < 0 ∨ (am_kd μ (am_F μ r0 3)).2 ≤ s0.toNatClampNeg))
    (h5 : am_kd (am_pA μ (am_F μ r0 3) s0.toNatClampNeg x2) r0 = (1, 6))
    (h6 : ¬ am_F (am_pA μ (am_F μ r0 3) s0.toNatClampNeg x2) r0 2 = 15)
    (h7 : am_kd (am_pA μ (am_F μ r0 3) s0.toNatClampNeg x2) (am_F (am_pA μ (am_F μ r0 3) s0.toNatClampNeg x2) r0 2) = (1, 7))
    (h8 : am_kd (am_pA μ (am_F μ r0 3) s0.toNatClampNeg x2) r0 = (1, 6))
    (k : Wp d 74 (31, [some (.ref r0), some (.ref r1), some (.int x2), some (.ref r3), some (.int s0)], [], (am_pA (am_pA μ (am_F μ r0 3) s0.toNatClampNeg x2) r0 1 (am_A (am_pA μ (am_F μ r0 3) s0.toNatClampNeg x2) (am_F (am_pA μ (am_F μ r0 3) s0.toNatClampNeg x2) r0 2) 3))) Q) :
    Wp d 74 (10, [some (.ref r0), some (.ref r1), some (.int x2), some (.ref r3), none], [.int s0], μ) Q := wp_blk rfl e74_10 (And.intro h1 (And.intro h2 (And.intro h3 (And.intro h4 (And.intro h5 (And.intro h6 (And.intro h7 (And.intro h8 (And.intro ⟨rfl, rfl⟩ k)))))))))
def q74_31 : List (Nat × Instr × Nat) := [(31, .iload 4, 2)]
theorem e74_31 : am_dec am_M74 q74_31 = true := by decide +kernel
theorem e74_31_r : am_dec am_M74 [(33, .ireturn, 1)] = true := by decide +kernel
theorem b74_31 {d : Nat} {Q : Option Value ⊕ Nat → am_Mem → Prop} {μ : am_Mem} {r0 r1 r3 : Nat} {x2 x4 : Int32}
    (k : Q (.inl (some (.int x4))) μ) :
    Wp d 74 (31, [some (.ref r0), some (.ref r1), some (.int x2), some (.ref r3), some (.int x4)], [], μ) Q := wp_blk rfl e74_31 (wp_ri (ty := .int) rfl e74_31_r rfl ⟨rfl, rfl⟩ k)
/-! RuleSheets$States.look(ILRuleSheets$View;)V -/
def q75_0 : List (Nat × Instr × Nat) := [(0, .aload_n 0, 1), (1, .getfield 29, 3), (4, .iload_n 1, 1), (5, .aload_n 2, 1), (6, .getfield 74, 3), (9, .bastore, 1), (10, .aload_n 2, 1), (11, .getfield 74, 3), (14, .ifCond .eq 7, 3)]
theorem e75_0 : am_dec am_M75 q75_0 = true := by decide +kernel
theorem b75_0 {d : Nat} {Q : Option Value ⊕ Nat → am_Mem → Prop} {μ : am_Mem} {r0 r2 : Nat} {x1 : Int32}
    (h1 : am_kd μ r0 = (1, 6))
    (h2 : ¬ am_F μ r0 4 = 15)
    (h3 : am_kd μ r2 = (1, 10))
    (h4 : (am_kd μ (am_F μ r0 4)).1 = 3 ∨ (am_kd μ (am_F μ r0 4)).1 = 4)
    (h5 : ¬ (x1 < 0 ∨ (am_kd μ (am_F μ r0 4)).2 ≤ x1.toNatClampNeg))
    (h6 : am_kd (am_pA μ (am_F μ r0 4) x1.toNatClampNeg (am_nar (am_kd μ (am_F μ r0 4)).1 (am_A μ r2 3))) r2 = (1, 10))
    (k1 : (am_A (am_pA μ (am_F μ r0 4) x1.toNatClampNeg (am_nar (am_kd μ (am_F μ r0 4)).1 (am_A μ r2 3))) r2 3) = 0 → Wp d 75 (21, [some (.ref r0), some (.int x1), some (.ref r2), none, none], [], (am_pA μ (am_F μ r0 4) x1.toNatClampNeg (am_nar (am_kd μ (am_F μ r0 4)).1 (am_A μ r2 3)))) Q) (k2 : ¬ ((am_A (am_pA μ (am_F μ r0 4) x1.toNatClampNeg (am_nar (am_kd μ (am_F μ r0 4)).1 (am_A μ r2 3))) r2 3) = 0) → Wp d 75 (17, [some (.ref r0), some (.int x1), some (.ref r2), none, none], [], (am_pA μ (am_F μ r0 4) x1.toNatClampNeg (am_nar (am_kd μ (am_F μ r0 4)).1 (am_A μ r2 3)))) Q) :
    Wp d 75 (0, [some (.ref r0), some (.int x1), some (.ref r2), none, none], [], μ) Q := wp_blk rfl e75_0 (And.intro h1 (And.intro h2 (And.intro h3 (And.intro h4 (And.intro h5 (And.intro h6 (And.intro k1 k2)))))))
def q75_17 : List (Nat × Instr × Nat) := [(17, .lconst 0, 1), (18, .goto 7, 3)]
theorem e75_17 : am_dec am_M75 q75_17 = true := by decide +kernel
theorem b75_17 {d : Nat} {Q : Option Value ⊕ Nat → am_Mem → Prop} {μ : am_Mem} {r0 r2 : Nat} {x1 : Int32}
    (k : Wp d 75 (25, [some (.ref r0), some (.int x1), some (.ref r2), none, none], [.long (Int64.ofNat 0)], μ) Q) :
    Wp d 75 (17, [some (.ref r0), some (.int x1), some (.ref r2), none, none], [], μ) Q := wp_blk rfl e75_17 k
def q75_21 : List (Nat × Instr × Nat) := [(21, .aload_n 2, 1)]
theorem e75_21 : am_dec am_M75 q75_21 = true := by decide +kernel
theorem e75_21_c : am_dc1 am_M75 22 (.invokevirtual 79) 3 = true := by decide +kernel
theorem b75_21 {d : Nat} {Q : Option Value ⊕ Nat → am_Mem → Prop} {μ : am_Mem} {r0 r2 : Nat} {x1 : Int32} {P : Int64 → am_Mem → Prop} {X : Nat → am_Mem → Prop}
    (hk : am_kd μ r2 = (1, 10))
    (hc : Wp d 115 (0, [some (.ref r2), none, none, none], [], μ) (pL P X)) (hr : ∀ x μ', P x μ' → Wp (d + 1) 75 (25, [some (.ref r0), some (.int x1), some (.ref r2), none, none], [.long x], (μ')) Q)
    (hx : ∀ x μ', X x μ' → Q (.inr x) μ') :
    Wp (d + 1) 75 (21, [some (.ref r0), some (.int x1), some (.ref r2), none, none], [], μ) Q := wp_blk rfl e75_21 (wp_cv (as := []) rfl e75_21_c rfl rfl rfl rfl rfl hk hc (fun v μ' hv => by obtain ⟨x, rfl, hp⟩ := pL_r hv; exact hr x μ' hp) hx)
def q75_25 : List (Nat × Instr × Nat) := [(25, .lstore_n 3, 1), (26, .lload_n 3, 1), (27, .ldc2_w 83, 3), (30, .lcmp, 1), (31, .ifCond .le 13, 3)]
theorem e75_25 : am_dec am_M75 q75_25 = true := by decide +kernel
theorem b75_25 {d : Nat} {Q : Option Value ⊕ Nat → am_Mem → Prop} {μ : am_Mem} {r0 r2 : Nat} {x1 : Int32} {y90 : Int64}
    (k1 : (lg_cmp y90 (40 : Int64)) ≤ 0 → Wp d 75 (44, [some (.ref r0), some (.int x1), some (.ref r2), some (.long y90), none], [], μ) Q) (k2 : ¬ ((lg_cmp y90 (40 : Int64)) ≤ 0) → Wp d 75 (34, [some (.ref r0), some (.int x1), some (.ref r2), some (.long y90), none], [], μ) Q) :
    Wp d 75 (25, [some (.ref r0), some (.int x1), some (.ref r2), none, none], [.long y90], μ) Q := wp_blk rfl e75_25 (And.intro k1 k2)
theorem e75_34_t : am_dc1 am_M75 34 (.new 85) 3 = true ∧ am_throw GG 6 75 34 (.new 85) = some 3 := by decide +kernel
theorem b75_34 {d : Nat} {Q : Option Value ⊕ Nat → am_Mem → Prop} {μ : am_Mem} {r0 r2 : Nat} {x1 : Int32} {y3 : Int64}
    (k : Q (.inr 3) (am_nX μ)) :
    Wp d 75 (34, [some (.ref r0), some (.int x1), some (.ref r2), some (.long y3), none], [], μ) Q := (wp_throw rfl e75_34_t.1 ⟨_, rfl⟩ rfl e75_34_t.2 rfl k)
def q75_44 : List (Nat × Instr × Nat) := [(44, .aload_n 0, 1), (45, .getfield 33, 3), (48, .iload_n 1, 1), (49, .lload_n 3, 1), (50, .l2i, 1), (51, .iastore, 1), (52, .aload_n 0, 1), (53, .getfield 9, 3), (56, .iconst 2, 1), (57, .if_icmp .ne 49, 3)]
theorem e75_44 : am_dec am_M75 q75_44 = true := by decide +kernel
theorem b75_44 {d : Nat} {Q : Option Value ⊕ Nat → am_Mem → Prop} {μ : am_Mem} {r0 r2 : Nat} {x1 : Int32} {y3 : Int64}
    (h1 : am_kd μ r0 = (1, 6))
    (h2 : ¬ am_F μ r0 5 = 15)
    (h3 : (am_kd μ (am_F μ r0 5)).1 = 2)
    (h4 : ¬ (x1 < 0 ∨ (am_kd μ (am_F μ r0 5)).2 ≤ x1.toNatClampNeg))
    (h5 : am_kd (am_pA μ (am_F μ r0 5) x1.toNatClampNeg y3.toInt32) r0 = (1, 6))
    (k1 : ¬ (am_A (am_pA μ (am_F μ r0 5) x1.toNatClampNeg y3.toInt32) r0 0) = (Int32.ofInt 2) → Wp d 75 (106, [some (.ref r0), some (.int x1), some (.ref r2), some (.long y3), none], [], (am_pA μ (am_F μ r0 5) x1.toNatClampNeg y3.toInt32)) Q) (k2 : ¬ (¬ (am_A (am_pA μ (am_F μ r0 5) x1.toNatClampNeg y3.toInt32) r0 0) = (Int32.ofInt 2)) → Wp d 75 (60, [some (.ref r0), some (.int x1), some (.ref r2), some (.long y3), none], [], (am_pA μ (am_F μ r0 5) x1.toNatClampNeg y3.toInt32)) Q) :
    Wp d 75 (44, [some (.ref r0), some (.int x1), some (.ref r2), some (.long y3), none], [], μ) Q := wp_blk rfl e75_44 (And.intro h1 (And.intro h2 (And.intro h3 (And.intro h4 (And.intro h5 (And.intro k1 k2))))))
def q75_60 : List (Nat × Instr × Nat) := [(60, .aload_n 0, 1), (61, .getfield 39, 3), (64, .iload_n 1, 1), (65, .aload_n 2, 1), (66, .iconst 0, 1)]
theorem e75_60 : am_dec am_M75 q75_60 = true := by decide +kernel
theorem e75_60_c : am_dc1 am_M75 67 (.invokevirtual 92) 3 = true := by decide +kernel
theorem b75_60 {d : Nat} {Q : Option Value ⊕ Nat → am_Mem → Prop} {μ : am_Mem} {r0 r2 : Nat} {x1 : Int32} {y3 : Int64} {P : Int32 → am_Mem → Prop} {X : Nat → am_Mem → Prop}
    (h1 : am_kd μ r0 = (1, 6))
    (h2 : ¬ am_F μ r0 7 = 15)
    (hk : am_kd μ r2 = (1, 10))
    (hc : Wp d 114 (0, [some (.ref r2), some (.int (Int32.ofInt 0))], [], μ) (pI P X)) (hr : ∀ x μ', P x μ' → Wp (d + 1) 75 (70, [some (.ref r0), some (.int x1), some (.ref r2), some (.long y3), none], [.int x, .int x1, .ref (am_F μ r0 7)], (μ')) Q)
    (hx : ∀ x μ', X x μ' → Q (.inr x) μ') :
    Wp (d + 1) 75 (60, [some (.ref r0), some (.int x1), some (.ref r2), some (.long y3), none], [], μ) Q := wp_blk rfl e75_60 (And.intro h1 (And.intro h2 (wp_cv (as := [.int (Int32.ofInt 0)]) rfl e75_60_c rfl rfl rfl rfl rfl hk hc (fun v μ' hv => by obtain ⟨x, rfl, hp⟩ := pI_r hv; exact hr x μ' hp) hx)))
def q75_70 : List (Nat × Instr × Nat) := [(70, .iastore, 1), (71, .aload_n 0, 1), (72, .getfield 42, 3), (75, .iload_n 1, 1), (76, .aload_n 2, 1), (77, .iconst 1, 1)]
theorem e75_70 : am_dec am_M75 q75_70 = true := by decide +kernel
theorem e75_70_c : am_dc1 am_M75 78 (.invokevirtual 92) 3 = true := by decide +kernel
theorem b75_70 {d : Nat} {Q : Option Value ⊕ Nat → am_Mem → Prop} {μ : am_Mem} {r0 r2 r90 : Nat} {x1 s1 s2 : Int32} {y3 : Int64} {P : Int32 → am_Mem → Prop} {X : Nat → am_Mem → Prop}
    (h1 : (am_kd μ r90).1 = 2)
    (h2 : ¬ (s1 < 0 ∨ (am_kd μ r90).2 ≤ s1.toNatClampNeg))
    (h3 : am_kd (am_pA μ r90 s1.toNatClampNeg s2) r0 = (1, 6))
    (h4 : ¬ am_F (am_pA μ r90 s1.toNatClampNeg s2) r0 8 = 15)
    (hk : am_kd (am_pA μ r90 s1.toNatClampNeg s2) r2 = (1, 10))
    (hc : Wp d 114 (0, [some (.ref r2), some (.int (Int32.ofInt 1))], [], (am_pA μ r90 s1.toNatClampNeg s2)) (pI P X)) (hr : ∀ x μ', P x μ' → Wp (d + 1) 75 (81, [some (.ref r0), some (.int x1), some (.ref r2), some (.long y3), none], [.int x, .int x1, .ref (am_F (am_pA μ r90 s1.toNatClampNeg s2) r0 8)], (μ')) Q)
    (hx : ∀ x μ', X x μ' → Q (.inr x) μ') :
    Wp (d + 1) 75 (70, [some (.ref r0), some (.int x1), some (.ref r2), some (.long y3), none], [.int s2, .int s1, .ref r90], μ) Q := wp_blk rfl e75_70 (And.intro h1 (And.intro h2 (And.intro h3 (And.intro h4 (wp_cv (as := [.int (Int32.ofInt 1)]) rfl e75_70_c rfl rfl rfl rfl rfl hk hc (fun v μ' hv => by obtain ⟨x, rfl, hp⟩ := pI_r hv; exact hr x μ' hp) hx)))))
def q75_81 : List (Nat × Instr × Nat) := [(81, .iastore, 1), (82, .aload_n 0, 1), (83, .getfield 45, 3), (86, .iload_n 1, 1), (87, .aload_n 2, 1), (88, .getfield 96, 3), (91, .iconst 0, 1), (92, .iaload, 1), (93, .iastore, 1)]
theorem e75_81 : am_dec am_M75 q75_81 = true := by decide +kernel
theorem b75_81 {d : Nat} {Q : Option Value ⊕ Nat → am_Mem → Prop} {μ : am_Mem} {r0 r2 r90 : Nat} {x1 s1 s2 : Int32} {y3 : Int64}
    (h1 : (am_kd μ r90).1 = 2)
    (h2 : ¬ (s1 < 0 ∨ (am_kd μ r90).2 ≤ s1.toNatClampNeg))
    (h3 : am_kd (am_pA μ r90 s1.toNatClampNeg s2) r0 = (1, 6))
    (h4 : ¬ am_F (am_pA μ r90 s1.toNatClampNeg s2) r0 9 = 15)
    (h5 : am_kd (am_pA μ r90 s1.toNatClampNeg s2) r2 = (1, 10))
    (h6 : ¬ am_F (am_pA μ r90 s1.toNatClampNeg s2) r2 2 = 15)
    (h7 : (am_kd (am_pA μ r90 s1.toNatClampNeg s2) (am_F (am_pA μ r90 s1.toNatClampNeg s2) r2 2)).1 = 2 ∨ (am_kd (am_pA μ r90 s1.toNatClampNeg s2) (am_F (am_pA μ r90 s1.toNatClampNeg s2) r2 2)).1 = 8)
    (h8 : ¬ ((Int32.ofInt 0) < 0 ∨ (am_kd (am_pA μ r90 s1.toNatClampNeg s2) (am_F (am_pA μ r90 s1.toNatClampNeg s2) r2 2)).2 ≤ (Int32.ofInt 0).toNatClampNeg))
    (h9 : (am_kd (am_pA μ r90 s1.toNatClampNeg s2) (am_F (am_pA μ r90 s1.toNatClampNeg s2) r0 9)).1 = 2)
    (h10 : ¬ (x1 < 0 ∨ (am_kd (am_pA μ r90 s1.toNatClampNeg s2) (am_F (am_pA μ r90 s1.toNatClampNeg s2) r0 9)).2 ≤ x1.toNatClampNeg))
    (k : Wp d 75 (94, [some (.ref r0), some (.int x1), some (.ref r2), some (.long y3), none], [], (am_pA (am_pA μ r90 s1.toNatClampNeg s2) (am_F (am_pA μ r90 s1.toNatClampNeg s2) r0 9) x1.toNatClampNeg (am_A (am_pA μ r90 s1.toNatClampNeg s2) (am_F (am_pA μ r90 s1.toNatClampNeg s2) r2 2) (Int32.ofInt 0).toNatClampNeg))) Q) :
    Wp d 75 (81, [some (.ref r0), some (.int x1), some (.ref r2), some (.long y3), none], [.int s2, .int s1, .ref r90], μ) Q := wp_blk rfl e75_81 (And.intro h1 (And.intro h2 (And.intro h3 (And.intro h4 (And.intro h5 (And.intro h6 (And.intro h7 (And.intro h8 (And.intro h9 (And.intro h10 k))))))))))
def q75_94 : List (Nat × Instr × Nat) := [(94, .aload_n 0, 1), (95, .getfield 48, 3), (98, .iload_n 1, 1), (99, .aload_n 2, 1), (100, .getfield 96, 3), (103, .iconst 1, 1), (104, .iaload, 1), (105, .iastore, 1)]
theorem e75_94 : am_dec am_M75 q75_94 = true := by decide +kernel
theorem b75_94 {d : Nat} {Q : Option Value ⊕ Nat → am_Mem → Prop} {μ : am_Mem} {r0 r2 : Nat} {x1 : Int32} {y3 : Int64}
    (h1 : am_kd μ r0 = (1, 6))
    (h2 : ¬ am_F μ r0 10 = 15)
    (h3 : am_kd μ r2 = (1, 10))
    (h4 : ¬ am_F μ r2 2 = 15)
    (h5 : (am_kd μ (am_F μ r2 2)).1 = 2 ∨ (am_kd μ (am_F μ r2 2)).1 = 8)
    (h6 : ¬ ((Int32.ofInt 1) < 0 ∨ (am_kd μ (am_F μ r2 2)).2 ≤ (Int32.ofInt 1).toNatClampNeg))
    (h7 : (am_kd μ (am_F μ r0 10)).1 = 2)
    (h8 : ¬ (x1 < 0 ∨ (am_kd μ (am_F μ r0 10)).2 ≤ x1.toNatClampNeg))
    (k : Wp d 75 (106, [some (.ref r0), some (.int x1), some (.ref r2), some (.long y3), none], [], (am_pA μ (am_F μ r0 10) x1.toNatClampNeg (am_A μ (am_F μ r2 2) (Int32.ofInt 1).toNatClampNeg))) Q) :
    Wp d 75 (94, [some (.ref r0), some (.int x1), some (.ref r2), some (.long y3), none], [], μ) Q := wp_blk rfl e75_94 (And.intro h1 (And.intro h2 (And.intro h3 (And.intro h4 (And.intro h5 (And.intro h6 (And.intro h7 (And.intro h8 k))))))))
theorem e75_106_r : am_dec am_M75 [(106, .return_, 1)] = true := by decide +kernel
theorem b75_106 {d : Nat} {Q : Option Value ⊕ Nat → am_Mem → Prop} {μ : am_Mem} {r0 r2 : Nat} {x1 : Int32} {y3 : Int64}
    (k : Q (.inl none) μ) :
    Wp d 75 (106, [some (.ref r0), some (.int x1), some (.ref r2), some (.long y3), none], [], μ) Q := (wp_rv rfl e75_106_r rfl k)
/-! RuleSheets$States.judge()V -/
def q76_0 : List (Nat × Instr × Nat) := [(0, .aload_n 0, 1), (1, .iconst 0, 1), (2, .putfield 57, 3), (5, .aload_n 0, 1), (6, .iconst (-1), 1), (7, .putfield 60, 3), (10, .aload_n 0, 1), (11, .getfield 9, 3), (14, .iconst 2, 1), (15, .if_icmp .eq 9, 3)]
theorem e76_0 : am_dec am_M76 q76_0 = true := by decide +kernel
theorem b76_0 {d : Nat} {Q : Option Value ⊕ Nat → am_Mem → Prop} {μ : am_Mem} {r0 : Nat}
    (h1 : am_kd μ r0 = (1, 6))
    (h2 : am_kd (am_pA μ r0 13 (Int32.ofInt 0)) r0 = (1, 6))
    (h3 : am_kd (am_pA (am_pA μ r0 13 (Int32.ofInt 0)) r0 14 (Int32.ofInt (-1))) r0 = (1, 6))
    (k1 : (am_A (am_pA (am_pA μ r0 13 (Int32.ofInt 0)) r0 14 (Int32.ofInt (-1))) r0 0) = (Int32.ofInt 2) → Wp d 76 (24, [some (.ref r0), none], [], (am_pA (am_pA μ r0 13 (Int32.ofInt 0)) r0 14 (Int32.ofInt (-1)))) Q) (k2 : ¬ ((am_A (am_pA (am_pA μ r0 13 (Int32.ofInt 0)) r0 14 (Int32.ofInt (-1))) r0 0) = (Int32.ofInt 2)) → Wp d 76 (18, [some (.ref r0), none], [], (am_pA (am_pA μ r0 13 (Int32.ofInt 0)) r0 14 (Int32.ofInt (-1)))) Q) :
    Wp d 76 (0, [some (.ref r0), none], [], μ) Q := wp_blk rfl e76_0 (And.intro h1 (And.intro ⟨rfl, rfl⟩ (And.intro h2 (And.intro ⟨rfl, rfl⟩ (And.intro h3 (And.intro k1 k2))))))
def q76_18 : List (Nat × Instr × Nat) := [(18, .aload_n 0, 1), (19, .iconst 1, 1), (20, .putfield 57, 3)]
theorem e76_18 : am_dec am_M76 q76_18 = true := by decide +kernel
theorem e76_18_r : am_dec am_M76 [(23, .return_, 1)] = true := by decide +kernel
theorem b76_18 {d : Nat} {Q : Option Value ⊕ Nat → am_Mem → Prop} {μ : am_Mem} {r0 : Nat}
    (h1 : am_kd μ r0 = (1, 6))
    (k : Q (.inl none) (am_pA μ r0 13 (Int32.ofInt 1))) :
    Wp d 76 (18, [some (.ref r0), none], [], μ) Q := wp_blk rfl e76_18 (And.intro h1 (And.intro ⟨rfl, rfl⟩ (wp_rv rfl e76_18_r rfl k)))
def q76_24 : List (Nat × Instr × Nat) := [(24, .iconst 0, 1), (25, .istore_n 1, 1)]
theorem e76_24 : am_dec am_M76 q76_24 = true := by decide +kernel
theorem b76_24 {d : Nat} {Q : Option Value ⊕ Nat → am_Mem → Prop} {μ : am_Mem} {r0 : Nat}
    (k : Wp d 76 (26, [some (.ref r0), some (.int (Int32.ofInt 0))], [], μ) Q) :
    Wp d 76 (24, [some (.ref r0), none], [], μ) Q := wp_blk rfl e76_24 k
def q76_26 : List (Nat × Instr × Nat) := [(26, .iload_n 1, 1), (27, .aload_n 0, 1), (28, .getfield 15, 3), (31, .if_icmp .ge 41, 3)]
theorem e76_26 : am_dec am_M76 q76_26 = true := by decide +kernel
theorem b76_26 {d : Nat} {Q : Option Value ⊕ Nat → am_Mem → Prop} {μ : am_Mem} {r0 : Nat} {x1 : Int32}
    (h1 : am_kd μ r0 = (1, 6))
    (k1 : (am_A μ r0 1) ≤ x1 → Wp d 76 (72, [some (.ref r0), some (.int x1)], [], μ) Q) (k2 : ¬ ((am_A μ r0 1) ≤ x1) → Wp d 76 (34, [some (.ref r0), some (.int x1)], [], μ) Q) :
    Wp d 76 (26, [some (.ref r0), some (.int x1)], [], μ) Q := wp_blk rfl e76_26 (And.intro h1 (And.intro k1 k2))
def q76_34 : List (Nat × Instr × Nat) := [(34, .aload_n 0, 1), (35, .getfield 57, 3), (38, .ifCond .ne 34, 3)]
theorem e76_34 : am_dec am_M76 q76_34 = true := by decide +kernel
theorem b76_34 {d : Nat} {Q : Option Value ⊕ Nat → am_Mem → Prop} {μ : am_Mem} {r0 : Nat} {x1 : Int32}
    (h1 : am_kd μ r0 = (1, 6))
    (k1 : ¬ (am_A μ r0 13) = 0 → Wp d 76 (72, [some (.ref r0), some (.int x1)], [], μ) Q) (k2 : ¬ (¬ (am_A μ r0 13) = 0) → Wp d 76 (41, [some (.ref r0), some (.int x1)], [], μ) Q) :
    Wp d 76 (34, [some (.ref r0), some (.int x1)], [], μ) Q := wp_blk rfl e76_34 (And.intro h1 (And.intro k1 k2))
def q76_41 : List (Nat × Instr × Nat) := [(41, .aload_n 0, 1), (42, .aload_n 0, 1), (43, .iload_n 1, 1)]
theorem e76_41 : am_dec am_M76 q76_41 = true := by decide +kernel
theorem e76_41_c : am_dc1 am_M76 44 (.invokevirtual 99) 3 = true := by decide +kernel
theorem b76_41 {d : Nat} {Q : Option Value ⊕ Nat → am_Mem → Prop} {μ : am_Mem} {r0 : Nat} {x1 : Int32} {P : Int32 → am_Mem → Prop} {X : Nat → am_Mem → Prop}
    (hk : am_kd μ r0 = (1, 6))
    (hc : Wp d 77 (0, [some (.ref r0), some (.int x1)], [], μ) (pI P X)) (hr : ∀ x μ', P x μ' → Wp (d + 1) 76 (47, [some (.ref r0), some (.int x1)], [.int x, .ref r0], (μ')) Q)
    (hx : ∀ x μ', X x μ' → Q (.inr x) μ') :
    Wp (d + 1) 76 (41, [some (.ref r0), some (.int x1)], [], μ) Q := wp_blk rfl e76_41 (wp_cv (as := [.int x1]) rfl e76_41_c rfl rfl rfl rfl rfl hk hc (fun v μ' hv => by obtain ⟨x, rfl, hp⟩ := pI_r hv; exact hr x μ' hp) hx)
def q76_47 : List (Nat × Instr × Nat) := [(47, .putfield 57, 3), (50, .aload_n 0, 1), (51, .aload_n 0, 1), (52, .getfield 57, 3), (55, .ifCond .ne 7, 3)]
theorem e76_47 : am_dec am_M76 q76_47 = true := by decide +kernel
theorem b76_47 {d : Nat} {Q : Option Value ⊕ Nat → am_Mem → Prop} {μ : am_Mem} {r0 r90 : Nat} {x1 s1 : Int32}
    (h1 : am_kd μ r90 = (1, 6))
    (h2 : am_kd (am_pA μ r90 13 s1) r0 = (1, 6))
    (k1 : ¬ (am_A (am_pA μ r90 13 s1) r0 13) = 0 → Wp d 76 (62, [some (.ref r0), some (.int x1)], [.ref r0], (am_pA μ r90 13 s1)) Q) (k2 : ¬ (¬ (am_A (am_pA μ r90 13 s1) r0 13) = 0) → Wp d 76 (58, [some (.ref r0), some (.int x1)], [.ref r0], (am_pA μ r90 13 s1)) Q) :
    Wp d 76 (47, [some (.ref r0), some (.int x1)], [.int s1, .ref r90], μ) Q := wp_blk rfl e76_47 (And.intro h1 (And.intro ⟨rfl, rfl⟩ (And.intro h2 (And.intro k1 k2))))
def q76_58 : List (Nat × Instr × Nat) := [(58, .iconst (-1), 1), (59, .goto 4, 3)]
theorem e76_58 : am_dec am_M76 q76_58 = true := by decide +kernel
theorem b76_58 {d : Nat} {Q : Option Value ⊕ Nat → am_Mem → Prop} {μ : am_Mem} {r0 r90 : Nat} {x1 : Int32}
    (k : Wp d 76 (63, [some (.ref r0), some (.int x1)], [.int (Int32.ofInt (-1)), .ref r90], μ) Q) :
    Wp d 76 (58, [some (.ref r0), some (.int x1)], [.ref r90], μ) Q := wp_blk rfl e76_58 k
def q76_62 : List (Nat × Instr × Nat) := [(62, .iload_n 1, 1)]
theorem e76_62 : am_dec am_M76 q76_62 = true := by decide +kernel
theorem b76_62 {d : Nat} {Q : Option Value ⊕ Nat → am_Mem → Prop} {μ : am_Mem} {r0 r90 : Nat} {x1 : Int32}
    (k : Wp d 76 (63, [some (.ref r0), some (.int x1)], [.int x1, .ref r90], μ) Q) :
    Wp d 76 (62, [some (.ref r0), some (.int x1)], [.ref r90], μ) Q := wp_blk rfl e76_62 k
def q76_63 : List (Nat × Instr × Nat) := [(63, .putfield 60, 3), (66, .iinc 1 1, 3), (69, .goto (-43), 3)]
theorem e76_63 : am_dec am_M76 q76_63 = true := by decide +kernel
theorem b76_63 {d : Nat} {Q : Option Value ⊕ Nat → am_Mem → Prop} {μ : am_Mem} {r0 r90 : Nat} {x1 s1 : Int32}
    (h1 : am_kd μ r90 = (1, 6))
    (k : Wp d 76 (26, [some (.ref r0), some (.int (x1 + Int32.ofInt 1))], [], (am_pA μ r90 14 s1)) Q) :
    Wp d 76 (63, [some (.ref r0), some (.int x1)], [.int s1, .ref r90], μ) Q := wp_blk rfl e76_63 (And.intro h1 (And.intro ⟨rfl, rfl⟩ k))
def q76_72 : List (Nat × Instr × Nat) := [(72, .aload_n 0, 1), (73, .getfield 57, 3), (76, .ifCond .ne 24, 3)]
theorem e76_72 : am_dec am_M76 q76_72 = true := by decide +kernel
theorem b76_72 {d : Nat} {Q : Option Value ⊕ Nat → am_Mem → Prop} {μ : am_Mem} {r0 : Nat} {x1 : Int32}
    (h1 : am_kd μ r0 = (1, 6))
    (k1 : ¬ (am_A μ r0 13) = 0 → Wp d 76 (100, [some (.ref r0), some (.int x1)], [], μ) Q) (k2 : ¬ (¬ (am_A μ r0 13) = 0) → Wp d 76 (79, [some (.ref r0), some (.int x1)], [], μ) Q) :
    Wp d 76 (72, [some (.ref r0), some (.int x1)], [], μ) Q := wp_blk rfl e76_72 (And.intro h1 (And.intro k1 k2))
def q76_79 : List (Nat × Instr × Nat) := [(79, .aload_n 0, 1)]
theorem e76_79 : am_dec am_M76 q76_79 = true := by decide +kernel
theorem e76_79_c : am_dc1 am_M76 80 (.invokevirtual 102) 3 = true := by decide +kernel
theorem b76_79 {d : Nat} {Q : Option Value ⊕ Nat → am_Mem → Prop} {μ : am_Mem} {r0 : Nat} {x1 : Int32} {P : Int32 → am_Mem → Prop} {X : Nat → am_Mem → Prop}
    (hk : am_kd μ r0 = (1, 6))
    (hc : Wp d 78 (0, [some (.ref r0), none, none, none, none], [], μ) (pI P X)) (hr : ∀ x μ', P x μ' → Wp (d + 1) 76 (83, [some (.ref r0), some (.int x1)], [.int x], (μ')) Q)
    (hx : ∀ x μ', X x μ' → Q (.inr x) μ') :
    Wp (d + 1) 76 (79, [some (.ref r0), some (.int x1)], [], μ) Q := wp_blk rfl e76_79 (wp_cv (as := []) rfl e76_79_c rfl rfl rfl rfl rfl hk hc (fun v μ' hv => by obtain ⟨x, rfl, hp⟩ := pI_r hv; exact hr x μ' hp) hx)
def q76_83 : List (Nat × Instr × Nat) := [(83, .ifCond .ne 17, 3)]
theorem e76_83 : am_dec am_M76 q76_83 = true := by decide +kernel
theorem b76_83 {d : Nat} {Q : Option Value ⊕ Nat → am_Mem → Prop} {μ : am_Mem} {r0 : Nat} {x1 s0 : Int32}
    (k1 : ¬ s0 = 0 → Wp d 76 (100, [some (.ref r0), some (.int x1)], [], μ) Q) (k2 : ¬ (¬ s0 = 0) → Wp d 76 (86, [some (.ref r0), some (.int x1)], [], μ) Q) :
    Wp d 76 (83, [some (.ref r0), some (.int x1)], [.int s0], μ) Q := wp_blk rfl e76_83 (And.intro k1 k2)
def q76_86 : List (Nat × Instr × Nat) := [(86, .aload_n 0, 1), (87, .bipush 6, 2), (89, .putfield 57, 3), (92, .aload_n 0, 1), (93, .aload_n 0, 1)]
theorem e76_86 : am_dec am_M76 q76_86 = true := by decide +kernel
theorem e76_86_c : am_dc1 am_M76 94 (.invokevirtual 106) 3 = true := by decide +kernel
theorem b76_86 {d : Nat} {Q : Option Value ⊕ Nat → am_Mem → Prop} {μ : am_Mem} {r0 : Nat} {x1 : Int32} {P : Int32 → am_Mem → Prop} {X : Nat → am_Mem → Prop}
    (h1 : am_kd μ r0 = (1, 6))
    (hk : am_kd (am_pA μ r0 13 ((Int8.ofInt 6).toInt32)) r0 = (1, 6))
    (hc : Wp d 80 (0, [some (.ref r0), none], [], (am_pA μ r0 13 ((Int8.ofInt 6).toInt32))) (pI P X)) (hr : ∀ x μ', P x μ' → Wp (d + 1) 76 (97, [some (.ref r0), some (.int x1)], [.int x, .ref r0], (μ')) Q)
    (hx : ∀ x μ', X x μ' → Q (.inr x) μ') :
    Wp (d + 1) 76 (86, [some (.ref r0), some (.int x1)], [], μ) Q := wp_blk rfl e76_86 (And.intro h1 (And.intro ⟨rfl, rfl⟩ (wp_cv (as := []) rfl e76_86_c rfl rfl rfl rfl rfl hk hc (fun v μ' hv => by obtain ⟨x, rfl, hp⟩ := pI_r hv; exact hr x μ' hp) hx)))
def q76_97 : List (Nat × Instr × Nat) := [(97, .putfield 60, 3)]
theorem e76_97 : am_dec am_M76 q76_97 = true := by decide +kernel
theorem b76_97 {d : Nat} {Q : Option Value ⊕ Nat → am_Mem → Prop} {μ : am_Mem} {r0 r90 : Nat} {x1 s1 : Int32}
    (h1 : am_kd μ r90 = (1, 6))
    (k : Wp d 76 (100, [some (.ref r0), some (.int x1)], [], (am_pA μ r90 14 s1)) Q) :
    Wp d 76 (97, [some (.ref r0), some (.int x1)], [.int s1, .ref r90], μ) Q := wp_blk rfl e76_97 (And.intro h1 (And.intro ⟨rfl, rfl⟩ k))
theorem e76_100_r : am_dec am_M76 [(100, .return_, 1)] = true := by decide +kernel
theorem b76_100 {d : Nat} {Q : Option Value ⊕ Nat → am_Mem → Prop} {μ : am_Mem} {r0 : Nat} {x1 : Int32}
    (k : Q (.inl none) μ) :
    Wp d 76 (100, [some (.ref r0), some (.int x1)], [], μ) Q := (wp_rv rfl e76_100_r rfl k)
/-! RuleSheets$States.flawOf(I)I -/
def q77_0 : List (Nat × Instr × Nat) := [(0, .aload_n 0, 1), (1, .getfield 29, 3), (4, .iload_n 1, 1), (5, .baload, 1), (6, .ifCond .ne 49, 3)]
theorem e77_0 : am_dec am_M77 q77_0 = true := by decide +kernel
theorem b77_0 {d : Nat} {Q : Option Value ⊕ Nat → am_Mem → Prop} {μ : am_Mem} {r0 : Nat} {x1 : Int32}
    (h1 : am_kd μ r0 = (1, 6))
    (h2 : ¬ am_F μ r0 4 = 15)
    (h3 : (am_kd μ (am_F μ r0 4)).1 = 3 ∨ (am_kd μ (am_F μ r0 4)).1 = 4 ∨ (am_kd μ (am_F μ r0 4)).1 = 10)
    (h4 : ¬ (x1 < 0 ∨ (am_kd μ (am_F μ r0 4)).2 ≤ x1.toNatClampNeg))
    (k1 : ¬ (am_A μ (am_F μ r0 4) x1.toNatClampNeg) = 0 → Wp d 77 (55, [some (.ref r0), some (.int x1)], [], μ) Q) (k2 : ¬ (¬ (am_A μ (am_F μ r0 4) x1.toNatClampNeg) = 0) → Wp d 77 (9, [some (.ref r0), some (.int x1)], [], μ) Q) :
    Wp d 77 (0, [some (.ref r0), some (.int x1)], [], μ) Q := wp_blk rfl e77_0 (And.intro h1 (And.intro h2 (And.intro h3 (And.intro h4 (And.intro k1 k2)))))
def q77_9 : List (Nat × Instr × Nat) := [(9, .aload_n 0, 1), (10, .getfield 39, 3), (13, .iload_n 1, 1), (14, .iaload, 1), (15, .ifCond .eq 12, 3)]
theorem e77_9 : am_dec am_M77 q77_9 = true := by decide +kernel
theorem b77_9 {d : Nat} {Q : Option Value ⊕ Nat → am_Mem → Prop} {μ : am_Mem} {r0 : Nat} {x1 : Int32}
    (h1 : am_kd μ r0 = (1, 6))
    (h2 : ¬ am_F μ r0 7 = 15)
    (h3 : (am_kd μ (am_F μ r0 7)).1 = 2 ∨ (am_kd μ (am_F μ r0 7)).1 = 8)
    (h4 : ¬ (x1 < 0 ∨ (am_kd μ (am_F μ r0 7)).2 ≤ x1.toNatClampNeg))
    (k1 : (am_A μ (am_F μ r0 7) x1.toNatClampNeg) = 0 → Wp d 77 (27, [some (.ref r0), some (.int x1)], [], μ) Q) (k2 : ¬ ((am_A μ (am_F μ r0 7) x1.toNatClampNeg) = 0) → Wp d 77 (18, [some (.ref r0), some (.int x1)], [], μ) Q) :
    Wp d 77 (9, [some (.ref r0), some (.int x1)], [], μ) Q := wp_blk rfl e77_9 (And.intro h1 (And.intro h2 (And.intro h3 (And.intro h4 (And.intro k1 k2)))))
def q77_18 : List (Nat × Instr × Nat) := [(18, .aload_n 0, 1), (19, .getfield 42, 3), (22, .iload_n 1, 1), (23, .iaload, 1), (24, .ifCond .ne 5, 3)]
theorem e77_18 : am_dec am_M77 q77_18 = true := by decide +kernel
theorem b77_18 {d : Nat} {Q : Option Value ⊕ Nat → am_Mem → Prop} {μ : am_Mem} {r0 : Nat} {x1 : Int32}
    (h1 : am_kd μ r0 = (1, 6))
    (h2 : ¬ am_F μ r0 8 = 15)
    (h3 : (am_kd μ (am_F μ r0 8)).1 = 2 ∨ (am_kd μ (am_F μ r0 8)).1 = 8)
    (h4 : ¬ (x1 < 0 ∨ (am_kd μ (am_F μ r0 8)).2 ≤ x1.toNatClampNeg))
    (k1 : ¬ (am_A μ (am_F μ r0 8) x1.toNatClampNeg) = 0 → Wp d 77 (29, [some (.ref r0), some (.int x1)], [], μ) Q) (k2 : ¬ (¬ (am_A μ (am_F μ r0 8) x1.toNatClampNeg) = 0) → Wp d 77 (27, [some (.ref r0), some (.int x1)], [], μ) Q) :
    Wp d 77 (18, [some (.ref r0), some (.int x1)], [], μ) Q := wp_blk rfl e77_18 (And.intro h1 (And.intro h2 (And.intro h3 (And.intro h4 (And.intro k1 k2)))))
def q77_27 : List (Nat × Instr × Nat) := [(27, .iconst 2, 1)]
theorem e77_27 : am_dec am_M77 q77_27 = true := by decide +kernel
theorem e77_27_r : am_dec am_M77 [(28, .ireturn, 1)] = true := by decide +kernel
theorem b77_27 {d : Nat} {Q : Option Value ⊕ Nat → am_Mem → Prop} {μ : am_Mem} {r0 : Nat} {x1 : Int32}
    (k : Q (.inl (some (.int (Int32.ofInt 2)))) μ) :
    Wp d 77 (27, [some (.ref r0), some (.int x1)], [], μ) Q := wp_blk rfl e77_27 (wp_ri (ty := .int) rfl e77_27_r rfl ⟨rfl, rfl⟩ k)
def q77_29 : List (Nat × Instr × Nat) := [(29, .aload_n 0, 1), (30, .getfield 39, 3), (33, .iload_n 1, 1), (34, .iaload, 1), (35, .iconst 1, 1), (36, .if_icmp .le 17, 3)]
theorem e77_29 : am_dec am_M77 q77_29 = true := by decide +kernel
theorem b77_29 {d : Nat} {Q : Option Value ⊕ Nat → am_Mem → Prop} {μ : am_Mem} {r0 : Nat} {x1 : Int32}
    (h1 : am_kd μ r0 = (1, 6))
    (h2 : ¬ am_F μ r0 7 = 15)
    (h3 : (am_kd μ (am_F μ r0 7)).1 = 2 ∨ (am_kd μ (am_F μ r0 7)).1 = 8)
    (h4 : ¬ (x1 < 0 ∨ (am_kd μ (am_F μ r0 7)).2 ≤ x1.toNatClampNeg))
    (k1 : (am_A μ (am_F μ r0 7) x1.toNatClampNeg) ≤ (Int32.ofInt 1) → Wp d 77 (53, [some (.ref r0), some (.int x1)], [], μ) Q) (k2 : ¬ ((am_A μ (am_F μ r0 7) x1.toNatClampNeg) ≤ (Int32.ofInt 1)) → Wp d 77 (39, [some (.ref r0), some (.int x1)], [], μ) Q) :
    Wp d 77 (29, [some (.ref r0), some (.int x1)], [], μ) Q := wp_blk rfl e77_29 (And.intro h1 (And.intro h2 (And.intro h3 (And.intro h4 (And.intro k1 k2)))))
def q77_39 : List (Nat × Instr × Nat) := [(39, .aload_n 0, 1), (40, .getfield 42, 3), (43, .iload_n 1, 1), (44, .iaload, 1), (45, .iconst 1, 1), (46, .if_icmp .le 7, 3)]
theorem e77_39 : am_dec am_M77 q77_39 = true := by decide +kernel
theorem b77_39 {d : Nat} {Q : Option Value ⊕ Nat → am_Mem → Prop} {μ : am_Mem} {r0 : Nat} {x1 : Int32}
    (h1 : am_kd μ r0 = (1, 6))
    (h2 : ¬ am_F μ r0 8 = 15)
    (h3 : (am_kd μ (am_F μ r0 8)).1 = 2 ∨ (am_kd μ (am_F μ r0 8)).1 = 8)
    (h4 : ¬ (x1 < 0 ∨ (am_kd μ (am_F μ r0 8)).2 ≤ x1.toNatClampNeg))
    (k1 : (am_A μ (am_F μ r0 8) x1.toNatClampNeg) ≤ (Int32.ofInt 1) → Wp d 77 (53, [some (.ref r0), some (.int x1)], [], μ) Q) (k2 : ¬ ((am_A μ (am_F μ r0 8) x1.toNatClampNeg) ≤ (Int32.ofInt 1)) → Wp d 77 (49, [some (.ref r0), some (.int x1)], [], μ) Q) :
    Wp d 77 (39, [some (.ref r0), some (.int x1)], [], μ) Q := wp_blk rfl e77_39 (And.intro h1 (And.intro h2 (And.intro h3 (And.intro h4 (And.intro k1 k2)))))
def q77_49 : List (Nat × Instr × Nat) := [(49, .iconst 3, 1), (50, .goto 4, 3)]
theorem e77_49 : am_dec am_M77 q77_49 = true := by decide +kernel
theorem b77_49 {d : Nat} {Q : Option Value ⊕ Nat → am_Mem → Prop} {μ : am_Mem} {r0 : Nat} {x1 : Int32}
    (k : Wp d 77 (54, [some (.ref r0), some (.int x1)], [.int (Int32.ofInt 3)], μ) Q) :
    Wp d 77 (49, [some (.ref r0), some (.int x1)], [], μ) Q := wp_blk rfl e77_49 k
def q77_53 : List (Nat × Instr × Nat) := [(53, .iconst 0, 1)]
theorem e77_53 : am_dec am_M77 q77_53 = true := by decide +kernel
theorem b77_53 {d : Nat} {Q : Option Value ⊕ Nat → am_Mem → Prop} {μ : am_Mem} {r0 : Nat} {x1 : Int32}
    (k : Wp d 77 (54, [some (.ref r0), some (.int x1)], [.int (Int32.ofInt 0)], μ) Q) :
    Wp d 77 (53, [some (.ref r0), some (.int x1)], [], μ) Q := wp_blk rfl e77_53 k
theorem e77_54_r : am_dec am_M77 [(54, .ireturn, 1)] = true := by decide +kernel
theorem b77_54 {d : Nat} {Q : Option Value ⊕ Nat → am_Mem → Prop} {μ : am_Mem} {r0 : Nat} {x1 s0 : Int32}
    (k : Q (.inl (some (.int s0))) μ) :
    Wp d 77 (54, [some (.ref r0), some (.int x1)], [.int s0], μ) Q := (wp_ri (ty := .int) rfl e77_54_r rfl ⟨rfl, rfl⟩ k)
def q77_55 : List (Nat × Instr × Nat) := [(55, .aload_n 0, 1), (56, .getfield 45, 3), (59, .iload_n 1, 1), (60, .iaload, 1), (61, .ifCond .lt 12, 3)]
theorem e77_55 : am_dec am_M77 q77_55 = true := by decide +kernel
theorem b77_55 {d : Nat} {Q : Option Value ⊕ Nat → am_Mem → Prop} {μ : am_Mem} {r0 : Nat} {x1 : Int32}
    (h1 : am_kd μ r0 = (1, 6))
    (h2 : ¬ am_F μ r0 9 = 15)
    (h3 : (am_kd μ (am_F μ r0 9)).1 = 2 ∨ (am_kd μ (am_F μ r0 9)).1 = 8)
    (h4 : ¬ (x1 < 0 ∨ (am_kd μ (am_F μ r0 9)).2 ≤ x1.toNatClampNeg))
    (k1 : (am_A μ (am_F μ r0 9) x1.toNatClampNeg) < 0 → Wp d 77 (73, [some (.ref r0), some (.int x1)], [], μ) Q) (k2 : ¬ ((am_A μ (am_F μ r0 9) x1.toNatClampNeg) < 0) → Wp d 77 (64, [some (.ref r0), some (.int x1)], [], μ) Q) :
    Wp d 77 (55, [some (.ref r0), some (.int x1)], [], μ) Q := wp_blk rfl e77_55 (And.intro h1 (And.intro h2 (And.intro h3 (And.intro h4 (And.intro k1 k2)))))
def q77_64 : List (Nat × Instr × Nat) := [(64, .aload_n 0, 1), (65, .getfield 48, 3), (68, .iload_n 1, 1), (69, .iaload, 1), (70, .ifCond .ge 5, 3)]
theorem e77_64 : am_dec am_M77 q77_64 = true := by decide +kernel
theorem b77_64 {d : Nat} {Q : Option Value ⊕ Nat → am_Mem → Prop} {μ : am_Mem} {r0 : Nat} {x1 : Int32}
    (h1 : am_kd μ r0 = (1, 6))
    (h2 : ¬ am_F μ r0 10 = 15)
    (h3 : (am_kd μ (am_F μ r0 10)).1 = 2 ∨ (am_kd μ (am_F μ r0 10)).1 = 8)
    (h4 : ¬ (x1 < 0 ∨ (am_kd μ (am_F μ r0 10)).2 ≤ x1.toNatClampNeg))
    (k1 : 0 ≤ (am_A μ (am_F μ r0 10) x1.toNatClampNeg) → Wp d 77 (75, [some (.ref r0), some (.int x1)], [], μ) Q) (k2 : ¬ (0 ≤ (am_A μ (am_F μ r0 10) x1.toNatClampNeg)) → Wp d 77 (73, [some (.ref r0), some (.int x1)], [], μ) Q) :
    Wp d 77 (64, [some (.ref r0), some (.int x1)], [], μ) Q := wp_blk rfl e77_64 (And.intro h1 (And.intro h2 (And.intro h3 (And.intro h4 (And.intro k1 k2)))))
def q77_73 : List (Nat × Instr × Nat) := [(73, .iconst 4, 1)]
theorem e77_73 : am_dec am_M77 q77_73 = true := by decide +kernel
theorem e77_73_r : am_dec am_M77 [(74, .ireturn, 1)] = true := by decide +kernel
theorem b77_73 {d : Nat} {Q : Option Value ⊕ Nat → am_Mem → Prop} {μ : am_Mem} {r0 : Nat} {x1 : Int32}
    (k : Q (.inl (some (.int (Int32.ofInt 4)))) μ) :
    Wp d 77 (73, [some (.ref r0), some (.int x1)], [], μ) Q := wp_blk rfl e77_73 (wp_ri (ty := .int) rfl e77_73_r rfl ⟨rfl, rfl⟩ k)
def q77_75 : List (Nat × Instr × Nat) := [(75, .aload_n 0, 1), (76, .getfield 45, 3), (79, .iload_n 1, 1), (80, .iaload, 1), (81, .aload_n 0, 1), (82, .getfield 48, 3), (85, .iload_n 1, 1), (86, .iaload, 1), (87, .iadd, 1), (88, .bipush 100, 2), (90, .if_icmp .ne 7, 3)]
theorem e77_75 : am_dec am_M77 q77_75 = true := by decide +kernel
theorem b77_75 {d : Nat} {Q : Option Value ⊕ Nat → am_Mem → Prop} {μ : am_Mem} {r0 : Nat} {x1 : Int32}
    (h1 : am_kd μ r0 = (1, 6))
    (h2 : ¬ am_F μ r0 9 = 15)
    (h3 : (am_kd μ (am_F μ r0 9)).1 = 2 ∨ (am_kd μ (am_F μ r0 9)).1 = 8)
    (h4 : ¬ (x1 < 0 ∨ (am_kd μ (am_F μ r0 9)).2 ≤ x1.toNatClampNeg))
    (h5 : am_kd μ r0 = (1, 6))
    (h6 : ¬ am_F μ r0 10 = 15)
    (h7 : (am_kd μ (am_F μ r0 10)).1 = 2 ∨ (am_kd μ (am_F μ r0 10)).1 = 8)
    (h8 : ¬ (x1 < 0 ∨ (am_kd μ (am_F μ r0 10)).2 ≤ x1.toNatClampNeg))
    (k1 : ¬ ((am_A μ (am_F μ r0 9) x1.toNatClampNeg) + (am_A μ (am_F μ r0 10) x1.toNatClampNeg)) = ((Int8.ofInt 100).toInt32) → Wp d 77 (97, [some (.ref r0), some (.int x1)], [], μ) Q) (k2 : ¬ (¬ ((am_A μ (am_F μ r0 9) x1.toNatClampNeg) + (am_A μ (am_F μ r0 10) x1.toNatClampNeg)) = ((Int8.ofInt 100).toInt32)) → Wp d 77 (93, [some (.ref r0), some (.int x1)], [], μ) Q) :
    Wp d 77 (75, [some (.ref r0), some (.int x1)], [], μ) Q := wp_blk rfl e77_75 (And.intro h1 (And.intro h2 (And.intro h3 (And.intro h4 (And.intro h5 (And.intro h6 (And.intro h7 (And.intro h8 (And.intro k1 k2)))))))))
def q77_93 : List (Nat × Instr × Nat) := [(93, .iconst 0, 1), (94, .goto 4, 3)]
theorem e77_93 : am_dec am_M77 q77_93 = true := by decide +kernel
theorem b77_93 {d : Nat} {Q : Option Value ⊕ Nat → am_Mem → Prop} {μ : am_Mem} {r0 : Nat} {x1 : Int32}
    (k : Wp d 77 (98, [some (.ref r0), some (.int x1)], [.int (Int32.ofInt 0)], μ) Q) :
    Wp d 77 (93, [some (.ref r0), some (.int x1)], [], μ) Q := wp_blk rfl e77_93 k
def q77_97 : List (Nat × Instr × Nat) := [(97, .iconst 5, 1)]
theorem e77_97 : am_dec am_M77 q77_97 = true := by decide +kernel
theorem b77_97 {d : Nat} {Q : Option Value ⊕ Nat → am_Mem → Prop} {μ : am_Mem} {r0 : Nat} {x1 : Int32}
    (k : Wp d 77 (98, [some (.ref r0), some (.int x1)], [.int (Int32.ofInt 5)], μ) Q) :
    Wp d 77 (97, [some (.ref r0), some (.int x1)], [], μ) Q := wp_blk rfl e77_97 k
theorem e77_98_r : am_dec am_M77 [(98, .ireturn, 1)] = true := by decide +kernel
theorem b77_98 {d : Nat} {Q : Option Value ⊕ Nat → am_Mem → Prop} {μ : am_Mem} {r0 : Nat} {x1 s0 : Int32}
    (k : Q (.inl (some (.int s0))) μ) :
    Wp d 77 (98, [some (.ref r0), some (.int x1)], [.int s0], μ) Q := (wp_ri (ty := .int) rfl e77_98_r rfl ⟨rfl, rfl⟩ k)
/-! RuleSheets$States.settleAll()Z -/
def q78_0 : List (Nat × Instr × Nat) := [(0, .aload_n 0, 1), (1, .getfield 51, 3), (4, .iconst (-1), 1)]
theorem e78_0 : am_dec am_M78 q78_0 = true := by decide +kernel
theorem e78_0_c : am_dc1 am_M78 5 (.invokestatic 110) 3 = true := by decide +kernel
theorem b78_0 {d : Nat} {Q : Option Value ⊕ Nat → am_Mem → Prop} {μ : am_Mem} {r0 : Nat} {P : am_Mem → Prop} {X : Nat → am_Mem → Prop}
    (h1 : am_kd μ r0 = (1, 6))
    (h2 : ¬ am_F μ r0 11 = 15)
    (hc : Wp d 290 (0, [some (.ref (am_F μ r0 11)), some (.int (Int32.ofInt (-1))), none, none], [], μ) (pV P X)) (hr : ∀ μ', P μ' → Wp (d + 1) 78 (8, [some (.ref r0), none, none, none, none], [], (μ')) Q)
    (hx : ∀ x μ', X x μ' → Q (.inr x) μ') :
    Wp (d + 1) 78 (0, [some (.ref r0), none, none, none, none], [], μ) Q := wp_blk rfl e78_0 (And.intro h1 (And.intro h2 (wp_cs (vs := [.ref (am_F μ r0 11), .int (Int32.ofInt (-1))]) rfl e78_0_c rfl rfl rfl rfl rfl hc (fun v μ' hv => by obtain ⟨rfl, hp⟩ := pV_r hv; exact hr μ' hp) hx)))
def q78_8 : List (Nat × Instr × Nat) := [(8, .iconst 0, 1), (9, .istore_n 1, 1), (10, .iconst 0, 1), (11, .istore_n 2, 1)]
theorem e78_8 : am_dec am_M78 q78_8 = true := by decide +kernel
theorem b78_8 {d : Nat} {Q : Option Value ⊕ Nat → am_Mem → Prop} {μ : am_Mem} {r0 : Nat}
    (k : Wp d 78 (12, [some (.ref r0), some (.int (Int32.ofInt 0)), some (.int (Int32.ofInt 0)), none, none], [], μ) Q) :
    Wp d 78 (8, [some (.ref r0), none, none, none, none], [], μ) Q := wp_blk rfl e78_8 k
def q78_12 : List (Nat × Instr × Nat) := [(12, .iload_n 2, 1), (13, .aload_n 0, 1), (14, .getfield 15, 3), (17, .if_icmp .ge 68, 3)]
theorem e78_12 : am_dec am_M78 q78_12 = true := by decide +kernel
theorem b78_12 {d : Nat} {Q : Option Value ⊕ Nat → am_Mem → Prop} {μ : am_Mem} {r0 : Nat} {x1 x2 : Int32} {o3 o4 : Option Value}
    (h1 : am_kd μ r0 = (1, 6))
    (k1 : (am_A μ r0 1) ≤ x2 → Wp d 78 (85, [some (.ref r0), some (.int x1), some (.int x2), o3, o4], [], μ) Q) (k2 : ¬ ((am_A μ r0 1) ≤ x2) → Wp d 78 (20, [some (.ref r0), some (.int x1), some (.int x2), o3, o4], [], μ) Q) :
    Wp d 78 (12, [some (.ref r0), some (.int x1), some (.int x2), o3, o4], [], μ) Q := wp_blk rfl e78_12 (And.intro h1 (And.intro k1 k2))
def q78_20 : List (Nat × Instr × Nat) := [(20, .iload_n 1, 1), (21, .aload_n 0, 1), (22, .getfield 15, 3), (25, .if_icmp .ge 60, 3)]
theorem e78_20 : am_dec am_M78 q78_20 = true := by decide +kernel
theorem b78_20 {d : Nat} {Q : Option Value ⊕ Nat → am_Mem → Prop} {μ : am_Mem} {r0 : Nat} {x1 x2 : Int32} {o3 o4 : Option Value}
    (h1 : am_kd μ r0 = (1, 6))
    (k1 : (am_A μ r0 1) ≤ x1 → Wp d 78 (85, [some (.ref r0), some (.int x1), some (.int x2), o3, o4], [], μ) Q) (k2 : ¬ ((am_A μ r0 1) ≤ x1) → Wp d 78 (28, [some (.ref r0), some (.int x1), some (.int x2), o3, o4], [], μ) Q) :
    Wp d 78 (20, [some (.ref r0), some (.int x1), some (.int x2), o3, o4], [], μ) Q := wp_blk rfl e78_20 (And.intro h1 (And.intro k1 k2))
def q78_28 : List (Nat × Instr × Nat) := [(28, .iload_n 1, 1), (29, .istore_n 3, 1), (30, .aload_n 0, 1), (31, .getfield 15, 3), (34, .iconst 1, 1), (35, .isub, 1), (36, .istore 4, 2)]
theorem e78_28 : am_dec am_M78 q78_28 = true := by decide +kernel
theorem b78_28 {d : Nat} {Q : Option Value ⊕ Nat → am_Mem → Prop} {μ : am_Mem} {r0 : Nat} {x1 x2 : Int32} {o3 o4 : Option Value}
    (h1 : am_kd μ r0 = (1, 6))
    (k : Wp d 78 (38, [some (.ref r0), some (.int x1), some (.int x2), some (.int x1), some (.int ((am_A μ r0 1) - (Int32.ofInt 1)))], [], μ) Q) :
    Wp d 78 (28, [some (.ref r0), some (.int x1), some (.int x2), o3, o4], [], μ) Q := wp_blk rfl e78_28 (And.intro h1 k)
def q78_38 : List (Nat × Instr × Nat) := [(38, .iload 4, 2), (40, .ifCond .lt 32, 3)]
theorem e78_38 : am_dec am_M78 q78_38 = true := by decide +kernel
theorem b78_38 {d : Nat} {Q : Option Value ⊕ Nat → am_Mem → Prop} {μ : am_Mem} {r0 : Nat} {x1 x2 x3 x4 : Int32}
    (k1 : x4 < 0 → Wp d 78 (72, [some (.ref r0), some (.int x1), some (.int x2), some (.int x3), some (.int x4)], [], μ) Q) (k2 : ¬ (x4 < 0) → Wp d 78 (43, [some (.ref r0), some (.int x1), some (.int x2), some (.int x3), some (.int x4)], [], μ) Q) :
    Wp d 78 (38, [some (.ref r0), some (.int x1), some (.int x2), some (.int x3), some (.int x4)], [], μ) Q := wp_blk rfl e78_38 (And.intro k1 k2)
def q78_43 : List (Nat × Instr × Nat) := [(43, .aload_n 0, 1), (44, .getfield 51, 3), (47, .iload 4, 2), (49, .iaload, 1), (50, .iconst (-1), 1), (51, .if_icmp .ne 15, 3)]
theorem e78_43 : am_dec am_M78 q78_43 = true := by decide +kernel
theorem b78_43 {d : Nat} {Q : Option Value ⊕ Nat → am_Mem → Prop} {μ : am_Mem} {r0 : Nat} {x1 x2 x3 x4 : Int32}
    (h1 : am_kd μ r0 = (1, 6))
    (h2 : ¬ am_F μ r0 11 = 15)
    (h3 : (am_kd μ (am_F μ r0 11)).1 = 2 ∨ (am_kd μ (am_F μ r0 11)).1 = 8)
    (h4 : ¬ (x4 < 0 ∨ (am_kd μ (am_F μ r0 11)).2 ≤ x4.toNatClampNeg))
    (k1 : ¬ (am_A μ (am_F μ r0 11) x4.toNatClampNeg) = (Int32.ofInt (-1)) → Wp d 78 (66, [some (.ref r0), some (.int x1), some (.int x2), some (.int x3), some (.int x4)], [], μ) Q) (k2 : ¬ (¬ (am_A μ (am_F μ r0 11) x4.toNatClampNeg) = (Int32.ofInt (-1))) → Wp d 78 (54, [some (.ref r0), some (.int x1), some (.int x2), some (.int x3), some (.int x4)], [], μ) Q) :
    Wp d 78 (43, [some (.ref r0), some (.int x1), some (.int x2), some (.int x3), some (.int x4)], [], μ) Q := wp_blk rfl e78_43 (And.intro h1 (And.intro h2 (And.intro h3 (And.intro h4 (And.intro k1 k2)))))
def q78_54 : List (Nat × Instr × Nat) := [(54, .aload_n 0, 1), (55, .iload 4, 2)]
theorem e78_54 : am_dec am_M78 q78_54 = true := by decide +kernel
theorem e78_54_c : am_dc1 am_M78 57 (.invokevirtual 116) 3 = true := by decide +kernel
theorem b78_54 {d : Nat} {Q : Option Value ⊕ Nat → am_Mem → Prop} {μ : am_Mem} {r0 : Nat} {x1 x2 x3 x4 : Int32} {P : Int32 → am_Mem → Prop} {X : Nat → am_Mem → Prop}
    (hk : am_kd μ r0 = (1, 6))
    (hc : Wp d 79 (0, [some (.ref r0), some (.int x4), none, none, none, none, none], [], μ) (pI P X)) (hr : ∀ x μ', P x μ' → Wp (d + 1) 78 (60, [some (.ref r0), some (.int x1), some (.int x2), some (.int x3), some (.int x4)], [.int x], (μ')) Q)
    (hx : ∀ x μ', X x μ' → Q (.inr x) μ') :
    Wp (d + 1) 78 (54, [some (.ref r0), some (.int x1), some (.int x2), some (.int x3), some (.int x4)], [], μ) Q := wp_blk rfl e78_54 (wp_cv (as := [.int x4]) rfl e78_54_c rfl rfl rfl rfl rfl hk hc (fun v μ' hv => by obtain ⟨x, rfl, hp⟩ := pI_r hv; exact hr x μ' hp) hx)
def q78_60 : List (Nat × Instr × Nat) := [(60, .ifCond .eq 6, 3)]
theorem e78_60 : am_dec am_M78 q78_60 = true := by decide +kernel
theorem b78_60 {d : Nat} {Q : Option Value ⊕ Nat → am_Mem → Prop} {μ : am_Mem} {r0 : Nat} {x1 x2 x3 x4 s0 : Int32}
    (k1 : s0 = 0 → Wp d 78 (66, [some (.ref r0), some (.int x1), some (.int x2), some (.int x3), some (.int x4)], [], μ) Q) (k2 : ¬ (s0 = 0) → Wp d 78 (63, [some (.ref r0), some (.int x1), some (.int x2), some (.int x3), some (.int x4)], [], μ) Q) :
    Wp d 78 (60, [some (.ref r0), some (.int x1), some (.int x2), some (.int x3), some (.int x4)], [.int s0], μ) Q := wp_blk rfl e78_60 (And.intro k1 k2)
def q78_63 : List (Nat × Instr × Nat) := [(63, .iinc 1 1, 3)]
theorem e78_63 : am_dec am_M78 q78_63 = true := by decide +kernel
theorem b78_63 {d : Nat} {Q : Option Value ⊕ Nat → am_Mem → Prop} {μ : am_Mem} {r0 : Nat} {x1 x2 x3 x4 : Int32}
    (k : Wp d 78 (66, [some (.ref r0), some (.int (x1 + Int32.ofInt 1)), some (.int x2), some (.int x3), some (.int x4)], [], μ) Q) :
    Wp d 78 (63, [some (.ref r0), some (.int x1), some (.int x2), some (.int x3), some (.int x4)], [], μ) Q := wp_blk rfl e78_63 k
def q78_66 : List (Nat × Instr × Nat) := [(66, .iinc 4 (-1), 3), (69, .goto (-31), 3)]
theorem e78_66 : am_dec am_M78 q78_66 = true := by decide +kernel
theorem b78_66 {d : Nat} {Q : Option Value ⊕ Nat → am_Mem → Prop} {μ : am_Mem} {r0 : Nat} {x1 x2 x3 x4 : Int32}
    (k : Wp d 78 (38, [some (.ref r0), some (.int x1), some (.int x2), some (.int x3), some (.int (x4 + Int32.ofInt (-1)))], [], μ) Q) :
    Wp d 78 (66, [some (.ref r0), some (.int x1), some (.int x2), some (.int x3), some (.int x4)], [], μ) Q := wp_blk rfl e78_66 k
def q78_72 : List (Nat × Instr × Nat) := [(72, .iload_n 1, 1), (73, .iload_n 3, 1), (74, .if_icmp .ne 5, 3)]
theorem e78_72 : am_dec am_M78 q78_72 = true := by decide +kernel
theorem b78_72 {d : Nat} {Q : Option Value ⊕ Nat → am_Mem → Prop} {μ : am_Mem} {r0 : Nat} {x1 x2 x3 x4 : Int32}
    (k1 : ¬ x1 = x3 → Wp d 78 (79, [some (.ref r0), some (.int x1), some (.int x2), some (.int x3), some (.int x4)], [], μ) Q) (k2 : ¬ (¬ x1 = x3) → Wp d 78 (77, [some (.ref r0), some (.int x1), some (.int x2), some (.int x3), some (.int x4)], [], μ) Q) :
    Wp d 78 (72, [some (.ref r0), some (.int x1), some (.int x2), some (.int x3), some (.int x4)], [], μ) Q := wp_blk rfl e78_72 (And.intro k1 k2)
def q78_77 : List (Nat × Instr × Nat) := [(77, .iconst 0, 1)]
theorem e78_77 : am_dec am_M78 q78_77 = true := by decide +kernel
theorem e78_77_r : am_dec am_M78 [(78, .ireturn, 1)] = true := by decide +kernel
theorem b78_77 {d : Nat} {Q : Option Value ⊕ Nat → am_Mem → Prop} {μ : am_Mem} {r0 : Nat} {x1 x2 x3 x4 : Int32}
    (k : Q (.inl (some (.int (Int32.ofInt 0)))) μ) :
    Wp d 78 (77, [some (.ref r0), some (.int x1), some (.int x2), some (.int x3), some (.int x4)], [], μ) Q := wp_blk rfl e78_77 (wp_ri (ty := .boolean) rfl e78_77_r rfl (by decide) k)
def q78_79 : List (Nat × Instr × Nat) := [(79, .iinc 2 1, 3), (82, .goto (-70), 3)]
theorem e78_79 : am_dec am_M78 q78_79 = true := by decide +kernel
theorem b78_79 {d : Nat} {Q : Option Value ⊕ Nat → am_Mem → Prop} {μ : am_Mem} {r0 : Nat} {x1 x2 x3 x4 : Int32}
    (k : Wp d 78 (12, [some (.ref r0), some (.int x1), some (.int (x2 + Int32.ofInt 1)), some (.int x3), some (.int x4)], [], μ) Q) :
    Wp d 78 (79, [some (.ref r0), some (.int x1), some (.int x2), some (.int x3), some (.int x4)], [], μ) Q := wp_blk rfl e78_79 k
def q78_85 : List (Nat × Instr × Nat) := [(85, .iload_n 1, 1), (86, .aload_n 0, 1), (87, .getfield 15, 3), (90, .if_icmp .ne 7, 3)]
theorem e78_85 : am_dec am_M78 q78_85 = true := by decide +kernel
theorem b78_85 {d : Nat} {Q : Option Value ⊕ Nat → am_Mem → Prop} {μ : am_Mem} {r0 : Nat} {x1 x2 : Int32} {o3 o4 : Option Value}
    (h1 : am_kd μ r0 = (1, 6))
    (k1 : ¬ x1 = (am_A μ r0 1) → Wp d 78 (97, [some (.ref r0), some (.int x1), some (.int x2), o3, o4], [], μ) Q) (k2 : ¬ (¬ x1 = (am_A μ r0 1)) → Wp d 78 (93, [some (.ref r0), some (.int x1), some (.int x2), o3, o4], [], μ) Q) :
    Wp d 78 (85, [some (.ref r0), some (.int x1), some (.int x2), o3, o4], [], μ) Q := wp_blk rfl e78_85 (And.intro h1 (And.intro k1 k2))
def q78_93 : List (Nat × Instr × Nat) := [(93, .iconst 1, 1), (94, .goto 4, 3)]
theorem e78_93 : am_dec am_M78 q78_93 = true := by decide +kernel
theorem b78_93 {d : Nat} {Q : Option Value ⊕ Nat → am_Mem → Prop} {μ : am_Mem} {r0 : Nat} {x1 x2 : Int32} {o3 o4 : Option Value}
    (k : Wp d 78 (98, [some (.ref r0), some (.int x1), some (.int x2), o3, o4], [.int (Int32.ofInt 1)], μ) Q) :
    Wp d 78 (93, [some (.ref r0), some (.int x1), some (.int x2), o3, o4], [], μ) Q := wp_blk rfl e78_93 k
def q78_97 : List (Nat × Instr × Nat) := [(97, .iconst 0, 1)]
theorem e78_97 : am_dec am_M78 q78_97 = true := by decide +kernel
theorem b78_97 {d : Nat} {Q : Option Value ⊕ Nat → am_Mem → Prop} {μ : am_Mem} {r0 : Nat} {x1 x2 : Int32} {o3 o4 : Option Value}
    (k : Wp d 78 (98, [some (.ref r0), some (.int x1), some (.int x2), o3, o4], [.int (Int32.ofInt 0)], μ) Q) :
    Wp d 78 (97, [some (.ref r0), some (.int x1), some (.int x2), o3, o4], [], μ) Q := wp_blk rfl e78_97 k
theorem e78_98_r : am_dec am_M78 [(98, .ireturn, 1)] = true := by decide +kernel
theorem b78_98 {d : Nat} {Q : Option Value ⊕ Nat → am_Mem → Prop} {μ : am_Mem} {r0 : Nat} {x1 x2 s0 : Int32} {o3 o4 : Option Value}
    (hn : narrow .boolean (.int s0) = .int s0 ∧ fits .boolean (.int s0) = true)
    (k : Q (.inl (some (.int s0))) μ) :
    Wp d 78 (98, [some (.ref r0), some (.int x1), some (.int x2), o3, o4], [.int s0], μ) Q := (wp_ri (ty := .boolean) rfl e78_98_r rfl hn k)
/-! RuleSheets$States.settle(I)Z -/
def q79_0 : List (Nat × Instr × Nat) := [(0, .aload_n 0, 1), (1, .getfield 29, 3), (4, .iload_n 1, 1), (5, .baload, 1), (6, .ifCond .eq 24, 3)]
theorem e79_0 : am_dec am_M79 q79_0 = true := by decide +kernel
theorem b79_0 {d : Nat} {Q : Option Value ⊕ Nat → am_Mem → Prop} {μ : am_Mem} {r0 : Nat} {x1 : Int32}
    (h1 : am_kd μ r0 = (1, 6))
    (h2 : ¬ am_F μ r0 4 = 15)
    (h3 : (am_kd μ (am_F μ r0 4)).1 = 3 ∨ (am_kd μ (am_F μ r0 4)).1 = 4 ∨ (am_kd μ (am_F μ r0 4)).1 = 10)
    (h4 : ¬ (x1 < 0 ∨ (am_kd μ (am_F μ r0 4)).2 ≤ x1.toNatClampNeg))
    (k1 : (am_A μ (am_F μ r0 4) x1.toNatClampNeg) = 0 → Wp d 79 (30, [some (.ref r0), some (.int x1), none, none, none, none, none], [], μ) Q) (k2 : ¬ ((am_A μ (am_F μ r0 4) x1.toNatClampNeg) = 0) → Wp d 79 (9, [some (.ref r0), some (.int x1), none, none, none, none, none], [], μ) Q) :
    Wp d 79 (0, [some (.ref r0), some (.int x1), none, none, none, none, none], [], μ) Q := wp_blk rfl e79_0 (And.intro h1 (And.intro h2 (And.intro h3 (And.intro h4 (And.intro k1 k2)))))
def q79_9 : List (Nat × Instr × Nat) := [(9, .aload_n 0, 1), (10, .getfield 51, 3), (13, .iload_n 1, 1), (14, .aload_n 0, 1), (15, .getfield 45, 3), (18, .iload_n 1, 1), (19, .iaload, 1), (20, .iastore, 1), (21, .aload_n 0, 1), (22, .getfield 54, 3), (25, .iload_n 1, 1), (26, .iconst (-1), 1), (27, .iastore, 1)]
theorem e79_9 : am_dec am_M79 q79_9 = true := by decide +kernel
theorem b79_9 {d : Nat} {Q : Option Value ⊕ Nat → am_Mem → Prop} {μ : am_Mem} {r0 : Nat} {x1 : Int32}
    (h1 : am_kd μ r0 = (1, 6))
    (h2 : ¬ am_F μ r0 11 = 15)
    (h3 : am_kd μ r0 = (1, 6))
    (h4 : ¬ am_F μ r0 9 = 15)
    (h5 : (am_kd μ (am_F μ r0 9)).1 = 2 ∨ (am_kd μ (am_F μ r0 9)).1 = 8)
    (h6 : ¬ (x1 < 0 ∨ (am_kd μ (am_F μ r0 9)).2 ≤ x1.toNatClampNeg))
    (h7 : (am_kd μ (am_F μ r0 11)).1 = 2)
    (h8 : ¬ (x1 < 0 ∨ (am_kd μ (am_F μ r0 11)).2 ≤ x1.toNatClampNeg))
    (h9 : am_kd (am_pA μ (am_F μ r0 11) x1.toNatClampNeg (am_A μ (am_F μ r0 9) x1.toNatClampNeg)) r0 = (1, 6))
    (h10 : ¬ am_F (am_pA μ (am_F μ r0 11) x1.toNatClampNeg (am_A μ (am_F μ r0 9) x1.toNatClampNeg)) r0 12 = 15)
    (h11 : (am_kd (am_pA μ (am_F μ r0 11) x1.toNatClampNeg (am_A μ (am_F μ r0 9) x1.toNatClampNeg)) (am_F (am_pA μ (am_F μ r0 11) x1.toNatClampNeg (am_A μ (am_F μ r0 9) x1.toNatClampNeg)) r0 12)).1 = 2)
    (h12 : ¬ (x1 < 0 ∨ (am_kd (am_pA μ (am_F μ r0 11) x1.toNatClampNeg (am_A μ (am_F μ r0 9) x1.toNatClampNeg)) (am_F (am_pA μ (am_F μ r0 11) x1.toNatClampNeg (am_A μ (am_F μ r0 9) x1.toNatClampNeg)) r0 12)).2 ≤ x1.toNatClampNeg))
    (k : Wp d 79 (28, [some (.ref r0), some (.int x1), none, none, none, none, none], [], (am_pA (am_pA μ (am_F μ r0 11) x1.toNatClampNeg (am_A μ (am_F μ r0 9) x1.toNatClampNeg)) (am_F (am_pA μ (am_F μ r0 11) x1.toNatClampNeg (am_A μ (am_F μ r0 9) x1.toNatClampNeg)) r0 12) x1.toNatClampNeg (Int32.ofInt (-1)))) Q) :
    Wp d 79 (9, [some (.ref r0), some (.int x1), none, none, none, none, none], [], μ) Q := wp_blk rfl e79_9 (And.intro h1 (And.intro h2 (And.intro h3 (And.intro h4 (And.intro h5 (And.intro h6 (And.intro h7 (And.intro h8 (And.intro h9 (And.intro h10 (And.intro h11 (And.intro h12 k))))))))))))
def q79_28 : List (Nat × Instr × Nat) := [(28, .iconst 1, 1)]
theorem e79_28 : am_dec am_M79 q79_28 = true := by decide +kernel
theorem e79_28_r : am_dec am_M79 [(29, .ireturn, 1)] = true := by decide +kernel
theorem b79_28 {d : Nat} {Q : Option Value ⊕ Nat → am_Mem → Prop} {μ : am_Mem} {r0 : Nat} {x1 : Int32}
    (k : Q (.inl (some (.int (Int32.ofInt 1)))) μ) :
    Wp d 79 (28, [some (.ref r0), some (.int x1), none, none, none, none, none], [], μ) Q := wp_blk rfl e79_28 (wp_ri (ty := .boolean) rfl e79_28_r rfl (by decide) k)
def q79_30 : List (Nat × Instr × Nat) := [(30, .bipush 40, 2), (32, .iload_n 1, 1), (33, .imul, 1), (34, .istore_n 2, 1), (35, .iconst 0, 1), (36, .istore_n 3, 1), (37, .iconst 0, 1), (38, .istore 4, 2)]
theorem e79_30 : am_dec am_M79 q79_30 = true := by decide +kernel
theorem b79_30 {d : Nat} {Q : Option Value ⊕ Nat → am_Mem → Prop} {μ : am_Mem} {r0 : Nat} {x1 : Int32}
    (k : Wp d 79 (40, [some (.ref r0), some (.int x1), some (.int (((Int8.ofInt 40).toInt32) * x1)), some (.int (Int32.ofInt 0)), some (.int (Int32.ofInt 0)), none, none], [], μ) Q) :
    Wp d 79 (30, [some (.ref r0), some (.int x1), none, none, none, none, none], [], μ) Q := wp_blk rfl e79_30 k
def q79_40 : List (Nat × Instr × Nat) := [(40, .iload 4, 2), (42, .aload_n 0, 1), (43, .getfield 33, 3), (46, .iload_n 1, 1), (47, .iaload, 1), (48, .if_icmp .ge 78, 3)]
theorem e79_40 : am_dec am_M79 q79_40 = true := by decide +kernel
theorem b79_40 {d : Nat} {Q : Option Value ⊕ Nat → am_Mem → Prop} {μ : am_Mem} {r0 : Nat} {x1 x2 x3 x4 : Int32} {o5 o6 : Option Value}
    (h1 : am_kd μ r0 = (1, 6))
    (h2 : ¬ am_F μ r0 5 = 15)
    (h3 : (am_kd μ (am_F μ r0 5)).1 = 2 ∨ (am_kd μ (am_F μ r0 5)).1 = 8)
    (h4 : ¬ (x1 < 0 ∨ (am_kd μ (am_F μ r0 5)).2 ≤ x1.toNatClampNeg))
    (k1 : (am_A μ (am_F μ r0 5) x1.toNatClampNeg) ≤ x4 → Wp d 79 (126, [some (.ref r0), some (.int x1), some (.int x2), some (.int x3), some (.int x4), o5, o6], [], μ) Q) (k2 : ¬ ((am_A μ (am_F μ r0 5) x1.toNatClampNeg) ≤ x4) → Wp d 79 (51, [some (.ref r0), some (.int x1), some (.int x2), some (.int x3), some (.int x4), o5, o6], [], μ) Q) :
    Wp d 79 (40, [some (.ref r0), some (.int x1), some (.int x2), some (.int x3), some (.int x4), o5, o6], [], μ) Q := wp_blk rfl e79_40 (And.intro h1 (And.intro h2 (And.intro h3 (And.intro h4 (And.intro k1 k2)))))
def q79_51 : List (Nat × Instr × Nat) := [(51, .aload_n 0, 1), (52, .getfield 51, 3), (55, .aload_n 0, 1), (56, .getfield 36, 3), (59, .iload_n 2, 1), (60, .iload 4, 2), (62, .iadd, 1), (63, .iaload, 1), (64, .iaload, 1), (65, .istore 5, 2), (67, .iload 5, 2), (69, .iconst (-1), 1), (70, .if_icmp .ne 5, 3)]
theorem e79_51 : am_dec am_M79 q79_51 = true := by decide +kernel
theorem b79_51 {d : Nat} {Q : Option Value ⊕ Nat → am_Mem → Prop} {μ : am_Mem} {r0 : Nat} {x1 x2 x3 x4 : Int32} {o5 o6 : Option Value}
    (h1 : am_kd μ r0 = (1, 6))
    (h2 : ¬ am_F μ r0 11 = 15)
    (h3 : am_kd μ r0 = (1, 6))
    (h4 : ¬ am_F μ r0 6 = 15)
    (h5 : (am_kd μ (am_F μ r0 6)).1 = 2 ∨ (am_kd μ (am_F μ r0 6)).1 = 8)
    (h6 : ¬ ((x2 + x4) < 0 ∨ (am_kd μ (am_F μ r0 6)).2 ≤ (x2 + x4).toNatClampNeg))
    (h7 : (am_kd μ (am_F μ r0 11)).1 = 2 ∨ (am_kd μ (am_F μ r0 11)).1 = 8)
    (h8 : ¬ ((am_A μ (am_F μ r0 6) (x2 + x4).toNatClampNeg) < 0 ∨ (am_kd μ (am_F μ r0 11)).2 ≤ (am_A μ (am_F μ r0 6) (x2 + x4).toNatClampNeg).toNatClampNeg))
    (k1 : ¬ (am_A μ (am_F μ r0 11) (am_A μ (am_F μ r0 6) (x2 + x4).toNatClampNeg).toNatClampNeg) = (Int32.ofInt (-1)) → Wp d 79 (75, [some (.ref r0), some (.int x1), some (.int x2), some (.int x3), some (.int x4), some (.int (am_A μ (am_F μ r0 11) (am_A μ (am_F μ r0 6) (x2 + x4).toNatClampNeg).toNatClampNeg)), o6], [], μ) Q) (k2 : ¬ (¬ (am_A μ (am_F μ r0 11) (am_A μ (am_F μ r0 6) (x2 + x4).toNatClampNeg).toNatClampNeg) = (Int32.ofInt (-1))) → Wp d 79 (73, [some (.ref r0), some (.int x1), some (.int x2), some (.int x3), some (.int x4), some (.int (am_A μ (am_F μ r0 11) (am_A μ (am_F μ r0 6) (x2 + x4).toNatClampNeg).toNatClampNeg)), o6], [], μ) Q) :
    Wp d 79 (51, [some (.ref r0), some (.int x1), some (.int x2), some (.int x3), some (.int x4), o5, o6], [], μ) Q := wp_blk rfl e79_51 (And.intro h1 (And.intro h2 (And.intro h3 (And.intro h4 (And.intro h5 (And.intro h6 (And.intro h7 (And.intro h8 (And.intro k1 k2)))))))))
def q79_73 : List (Nat × Instr × Nat) := [(73, .iconst 0, 1)]
theorem e79_73 : am_dec am_M79 q79_73 = true := by decide +kernel
theorem e79_73_r : am_dec am_M79 [(74, .ireturn, 1)] = true := by decide +kernel
theorem b79_73 {d : Nat} {Q : Option Value ⊕ Nat → am_Mem → Prop} {μ : am_Mem} {r0 : Nat} {x1 x2 x3 x4 x5 : Int32} {o6 : Option Value}
    (k : Q (.inl (some (.int (Int32.ofInt 0)))) μ) :
    Wp d 79 (73, [some (.ref r0), some (.int x1), some (.int x2), some (.int x3), some (.int x4), some (.int x5), o6], [], μ) Q := wp_blk rfl e79_73 (wp_ri (ty := .boolean) rfl e79_73_r rfl (by decide) k)
def q79_75 : List (Nat × Instr × Nat) := [(75, .aload_n 0, 1), (76, .getfield 51, 3), (79, .aload_n 0, 1), (80, .getfield 36, 3), (83, .iload_n 2, 1), (84, .iload_n 3, 1), (85, .iadd, 1), (86, .iaload, 1), (87, .iaload, 1), (88, .istore 6, 2), (90, .aload_n 0, 1), (91, .getfield 39, 3), (94, .iload_n 1, 1), (95, .iaload, 1), (96, .iconst 1, 1), (97, .if_icmp .le 13, 3)]
theorem e79_75 : am_dec am_M79 q79_75 = true := by decide +kernel
theorem b79_75 {d : Nat} {Q : Option Value ⊕ Nat → am_Mem → Prop} {μ : am_Mem} {r0 : Nat} {x1 x2 x3 x4 x5 : Int32} {o6 : Option Value}
    (h1 : am_kd μ r0 = (1, 6))
    (h2 : ¬ am_F μ r0 11 = 15)
    (h3 : am_kd μ r0 = (1, 6))
    (h4 : ¬ am_F μ r0 6 = 15)
    (h5 : (am_kd μ (am_F μ r0 6)).1 = 2 ∨ (am_kd μ (am_F μ r0 6)).1 = 8)
    (h6 : ¬ ((x2 + x3) < 0 ∨ (am_kd μ (am_F μ r0 6)).2 ≤ (x2 + x3).toNatClampNeg))
    (h7 : (am_kd μ (am_F μ r0 11)).1 = 2 ∨ (am_kd μ (am_F μ r0 11)).1 = 8)
    (h8 : ¬ ((am_A μ (am_F μ r0 6) (x2 + x3).toNatClampNeg) < 0 ∨ (am_kd μ (am_F μ r0 11)).2 ≤ (am_A μ (am_F μ r0 6) (x2 + x3).toNatClampNeg).toNatClampNeg))
    (h9 : am_kd μ r0 = (1, 6))
    (h10 : ¬ am_F μ r0 7 = 15)
    (h11 : (am_kd μ (am_F μ r0 7)).1 = 2 ∨ (am_kd μ (am_F μ r0 7)).1 = 8)
    (h12 : ¬ (x1 < 0 ∨ (am_kd μ (am_F μ r0 7)).2 ≤ x1.toNatClampNeg))
    (k1 : (am_A μ (am_F μ r0 7) x1.toNatClampNeg) ≤ (Int32.ofInt 1) → Wp d 79 (110, [some (.ref r0), some (.int x1), some (.int x2), some (.int x3), some (.int x4), some (.int x5), some (.int (am_A μ (am_F μ r0 11) (am_A μ (am_F μ r0 6) (x2 + x3).toNatClampNeg).toNatClampNeg))], [], μ) Q) (k2 : ¬ ((am_A μ (am_F μ r0 7) x1.toNatClampNeg) ≤ (Int32.ofInt 1)) → Wp d 79 (100, [some (.ref r0), some (.int x1), some (.int x2), some (.int x3), some (.int x4), some (.int x5), some (.int (am_A μ (am_F μ r0 11) (am_A μ (am_F μ r0 6) (x2 + x3).toNatClampNeg).toNatClampNeg))], [], μ) Q) :
    Wp d 79 (75, [some (.ref r0), some (.int x1), some (.int x2), some (.int x3), some (.int x4), some (.int x5), o6], [], μ) Q := wp_blk rfl e79_75 (And.intro h1 (And.intro h2 (And.intro h3 (And.intro h4 (And.intro h5 (And.intro h6 (And.intro h7 (And.intro h8 (And.intro h9 (And.intro h10 (And.intro h11 (And.intro h12 (And.intro k1 k2)))))))))))))
def q79_100 : List (Nat × Instr × Nat) := [(100, .iload 5, 2), (102, .iload 6, 2), (104, .if_icmp .le 16, 3)]
theorem e79_100 : am_dec am_M79 q79_100 = true := by decide +kernel
theorem b79_100 {d : Nat} {Q : Option Value ⊕ Nat → am_Mem → Prop} {μ : am_Mem} {r0 : Nat} {x1 x2 x3 x4 x5 x6 : Int32}
    (k1 : x5 ≤ x6 → Wp d 79 (120, [some (.ref r0), some (.int x1), some (.int x2), some (.int x3), some (.int x4), some (.int x5), some (.int x6)], [], μ) Q) (k2 : ¬ (x5 ≤ x6) → Wp d 79 (107, [some (.ref r0), some (.int x1), some (.int x2), some (.int x3), some (.int x4), some (.int x5), some (.int x6)], [], μ) Q) :
    Wp d 79 (100, [some (.ref r0), some (.int x1), some (.int x2), some (.int x3), some (.int x4), some (.int x5), some (.int x6)], [], μ) Q := wp_blk rfl e79_100 (And.intro k1 k2)
def q79_107 : List (Nat × Instr × Nat) := [(107, .goto 10, 3)]
theorem e79_107 : am_dec am_M79 q79_107 = true := by decide +kernel
theorem b79_107 {d : Nat} {Q : Option Value ⊕ Nat → am_Mem → Prop} {μ : am_Mem} {r0 : Nat} {x1 x2 x3 x4 x5 x6 : Int32}
    (k : Wp d 79 (117, [some (.ref r0), some (.int x1), some (.int x2), some (.int x3), some (.int x4), some (.int x5), some (.int x6)], [], μ) Q) :
    Wp d 79 (107, [some (.ref r0), some (.int x1), some (.int x2), some (.int x3), some (.int x4), some (.int x5), some (.int x6)], [], μ) Q := wp_blk rfl e79_107 k
def q79_110 : List (Nat × Instr × Nat) := [(110, .iload 5, 2), (112, .iload 6, 2), (114, .if_icmp .ge 6, 3)]
theorem e79_110 : am_dec am_M79 q79_110 = true := by decide +kernel
theorem b79_110 {d : Nat} {Q : Option Value ⊕ Nat → am_Mem → Prop} {μ : am_Mem} {r0 : Nat} {x1 x2 x3 x4 x5 x6 : Int32}
    (k1 : x6 ≤ x5 → Wp d 79 (120, [some (.ref r0), some (.int x1), some (.int x2), some (.int x3), some (.int x4), some (.int x5), some (.int x6)], [], μ) Q) (k2 : ¬ (x6 ≤ x5) → Wp d 79 (117, [some (.ref r0), some (.int x1), some (.int x2), some (.int x3), some (.int x4), some (.int x5), some (.int x6)], [], μ) Q) :
    Wp d 79 (110, [some (.ref r0), some (.int x1), some (.int x2), some (.int x3), some (.int x4), some (.int x5), some (.int x6)], [], μ) Q := wp_blk rfl e79_110 (And.intro k1 k2)
def q79_117 : List (Nat × Instr × Nat) := [(117, .iload 4, 2), (119, .istore_n 3, 1)]
theorem e79_117 : am_dec am_M79 q79_117 = true := by decide +kernel
theorem b79_117 {d : Nat} {Q : Option Value ⊕ Nat → am_Mem → Prop} {μ : am_Mem} {r0 : Nat} {x1 x2 x3 x4 x5 x6 : Int32}
    (k : Wp d 79 (120, [some (.ref r0), some (.int x1), some (.int x2), some (.int x4), some (.int x4), some (.int x5), some (.int x6)], [], μ) Q) :
    Wp d 79 (117, [some (.ref r0), some (.int x1), some (.int x2), some (.int x3), some (.int x4), some (.int x5), some (.int x6)], [], μ) Q := wp_blk rfl e79_117 k
def q79_120 : List (Nat × Instr × Nat) := [(120, .iinc 4 1, 3), (123, .goto (-83), 3)]
theorem e79_120 : am_dec am_M79 q79_120 = true := by decide +kernel
theorem b79_120 {d : Nat} {Q : Option Value ⊕ Nat → am_Mem → Prop} {μ : am_Mem} {r0 : Nat} {x1 x2 x3 x4 x5 x6 : Int32}
    (k : Wp d 79 (40, [some (.ref r0), some (.int x1), some (.int x2), some (.int x3), some (.int (x4 + Int32.ofInt 1)), some (.int x5), some (.int x6)], [], μ) Q) :
    Wp d 79 (120, [some (.ref r0), some (.int x1), some (.int x2), some (.int x3), some (.int x4), some (.int x5), some (.int x6)], [], μ) Q := wp_blk rfl e79_120 k
def q79_126 : List (Nat × Instr × Nat) := [(126, .aload_n 0, 1), (127, .getfield 51, 3), (130, .iload_n 1, 1), (131, .aload_n 0, 1), (132, .getfield 51, 3), (135, .aload_n 0, 1), (136, .getfield 36, 3), (139, .iload_n 2, 1), (140, .iload_n 3, 1), (141, .iadd, 1), (142, .iaload, 1), (143, .iaload, 1), (144, .iastore, 1), (145, .aload_n 0, 1), (146, .getfield 54, 3), (149, .iload_n 1, 1), (150, .iload_n 3, 1), (151, .iastore, 1)]
theorem e79_126 : am_dec am_M79 q79_126 = true := by decide +kernel
theorem b79_126 {d : Nat} {Q : Option Value ⊕ Nat → am_Mem → Prop} {μ : am_Mem} {r0 : Nat} {x1 x2 x3 x4 : Int32} {o5 o6 : Option Value}
    (h1 : am_kd μ r0 = (1, 6))
    (h2 : ¬ am_F μ r0 11 = 15)
    (h3 : am_kd μ r0 = (1, 6))
    (h4 : ¬ am_F μ r0 11 = 15)
    (h5 : am_kd μ r0 = (1, 6))
    (h6 : ¬ am_F μ r0 6 = 15)
    (h7 : (am_kd μ (am_F μ r0 6)).1 = 2 ∨ (am_kd μ (am_F μ r0 6)).1 = 8)
    (h8 : ¬ ((x2 + x3) < 0 ∨ (am_kd μ (am_F μ r0 6)).2 ≤ (x2 + x3).toNatClampNeg))
    (h9 : (am_kd μ (am_F μ r0 11)).1 = 2 ∨ (am_kd μ (am_F μ r0 11)).1 = 8)
    (h10 : ¬ ((am_A μ (am_F μ r0 6) (x2 + x3).toNatClampNeg) < 0 ∨ (am_kd μ (am_F μ r0 11)).2 ≤ (am_A μ (am_F μ r0 6) (x2 + x3).toNatClampNeg).toNatClampNeg))
    (h11 : (am_kd μ (am_F μ r0 11)).1 = 2)
    (h12 : ¬ (x1 < 0 ∨ (am_kd μ (am_F μ r0 11)).2 ≤ x1.toNatClampNeg))
    (h13 : am_kd (am_pA μ (am_F μ r0 11) x1.toNatClampNeg (am_A μ (am_F μ r0 11) (am_A μ (am_F μ r0 6) (x2 + x3).toNatClampNeg).toNatClampNeg)) r0 = (1, 6))
    (h14 : ¬ am_F (am_pA μ (am_F μ r0 11) x1.toNatClampNeg (am_A μ (am_F μ r0 11) (am_A μ (am_F μ r0 6) (x2 + x3).toNatClampNeg).toNatClampNeg)) r0 12 = 15)
    (h15 : (am_kd (am_pA μ (am_F μ r0 11) x1.toNatClampNeg (am_A μ (am_F μ r0 11) (am_A μ (am_F μ r0 6) (x2 + x3).toNatClampNeg).toNatClampNeg)) (am_F (am_pA μ (am_F μ r0 11) x1.toNatClampNeg (am_A μ (am_F μ r0 11) (am_A μ (am_F μ r0 6) (x2 + x3).toNatClampNeg).toNatClampNeg)) r0 12)).1 = 2)
    (h16 : ¬ (x1 < 0 ∨ (am_kd (am_pA μ (am_F μ r0 11) x1.toNatClampNeg (am_A μ (am_F μ r0 11) (am_A μ (am_F μ r0 6) (x2 + x3).toNatClampNeg).toNatClampNeg)) (am_F (am_pA μ (am_F μ r0 11) x1.toNatClampNeg (am_A μ (am_F μ r0 11) (am_A μ (am_F μ r0 6) (x2 + x3).toNatClampNeg).toNatClampNeg)) r0 12)).2 ≤ x1.toNatClampNeg))
    (k : Wp d 79 (152, [some (.ref r0), some (.int x1), some (.int x2), some (.int x3), some (.int x4), o5, o6], [], (am_pA (am_pA μ (am_F μ r0 11) x1.toNatClampNeg (am_A μ (am_F μ r0 11) (am_A μ (am_F μ r0 6) (x2 + x3).toNatClampNeg).toNatClampNeg)) (am_F (am_pA μ (am_F μ r0 11) x1.toNatClampNeg (am_A μ (am_F μ r0 11) (am_A μ (am_F μ r0 6) (x2 + x3).toNatClampNeg).toNatClampNeg)) r0 12) x1.toNatClampNeg x3)) Q) :
    Wp d 79 (126, [some (.ref r0), some (.int x1), some (.int x2), some (.int x3), some (.int x4), o5, o6], [], μ) Q := wp_blk rfl e79_126 (And.intro h1 (And.intro h2 (And.intro h3 (And.intro h4 (And.intro h5 (And.intro h6 (And.intro h7 (And.intro h8 (And.intro h9 (And.intro h10 (And.intro h11 (And.intro h12 (And.intro h13 (And.intro h14 (And.intro h15 (And.intro h16 k))))))))))))))))
def q79_152 : List (Nat × Instr × Nat) := [(152, .iconst 1, 1)]
theorem e79_152 : am_dec am_M79 q79_152 = true := by decide +kernel
theorem e79_152_r : am_dec am_M79 [(153, .ireturn, 1)] = true := by decide +kernel
theorem b79_152 {d : Nat} {Q : Option Value ⊕ Nat → am_Mem → Prop} {μ : am_Mem} {r0 : Nat} {x1 x2 x3 x4 : Int32} {o5 o6 : Option Value}
    (k : Q (.inl (some (.int (Int32.ofInt 1)))) μ) :
    Wp d 79 (152, [some (.ref r0), some (.int x1), some (.int x2), some (.int x3), some (.int x4), o5, o6], [], μ) Q := wp_blk rfl e79_152 (wp_ri (ty := .boolean) rfl e79_152_r rfl (by decide) k)
/-! RuleSheets$States.findReturn()I -/
def q80_0 : List (Nat × Instr × Nat) := [(0, .iconst 0, 1), (1, .istore_n 1, 1)]
theorem e80_0 : am_dec am_M80 q80_0 = true := by decide +kernel
theorem b80_0 {d : Nat} {Q : Option Value ⊕ Nat → am_Mem → Prop} {μ : am_Mem} {r0 : Nat}
    (k : Wp d 80 (2, [some (.ref r0), some (.int (Int32.ofInt 0))], [], μ) Q) :
    Wp d 80 (0, [some (.ref r0), none], [], μ) Q := wp_blk rfl e80_0 k
def q80_2 : List (Nat × Instr × Nat) := [(2, .iload_n 1, 1), (3, .aload_n 0, 1), (4, .getfield 15, 3), (7, .if_icmp .ge 19, 3)]
theorem e80_2 : am_dec am_M80 q80_2 = true := by decide +kernel
theorem b80_2 {d : Nat} {Q : Option Value ⊕ Nat → am_Mem → Prop} {μ : am_Mem} {r0 : Nat} {x1 : Int32}
    (h1 : am_kd μ r0 = (1, 6))
    (k1 : (am_A μ r0 1) ≤ x1 → Wp d 80 (26, [some (.ref r0), some (.int x1)], [], μ) Q) (k2 : ¬ ((am_A μ r0 1) ≤ x1) → Wp d 80 (10, [some (.ref r0), some (.int x1)], [], μ) Q) :
    Wp d 80 (2, [some (.ref r0), some (.int x1)], [], μ) Q := wp_blk rfl e80_2 (And.intro h1 (And.intro k1 k2))
def q80_10 : List (Nat × Instr × Nat) := [(10, .aload_n 0, 1), (11, .iload_n 1, 1)]
theorem e80_10 : am_dec am_M80 q80_10 = true := by decide +kernel
theorem e80_10_c : am_dc1 am_M80 12 (.invokevirtual 120) 3 = true := by decide +kernel
theorem b80_10 {d : Nat} {Q : Option Value ⊕ Nat → am_Mem → Prop} {μ : am_Mem} {r0 : Nat} {x1 : Int32} {P : Int32 → am_Mem → Prop} {X : Nat → am_Mem → Prop}
    (hk : am_kd μ r0 = (1, 6))
    (hc : Wp d 81 (0, [some (.ref r0), some (.int x1), none, none, none, none, none], [], μ) (pI P X)) (hr : ∀ x μ', P x μ' → Wp (d + 1) 80 (15, [some (.ref r0), some (.int x1)], [.int x], (μ')) Q)
    (hx : ∀ x μ', X x μ' → Q (.inr x) μ') :
    Wp (d + 1) 80 (10, [some (.ref r0), some (.int x1)], [], μ) Q := wp_blk rfl e80_10 (wp_cv (as := [.int x1]) rfl e80_10_c rfl rfl rfl rfl rfl hk hc (fun v μ' hv => by obtain ⟨x, rfl, hp⟩ := pI_r hv; exact hr x μ' hp) hx)
def q80_15 : List (Nat × Instr × Nat) := [(15, .ifCond .eq 5, 3)]
theorem e80_15 : am_dec am_M80 q80_15 = true := by decide +kernel
theorem b80_15 {d : Nat} {Q : Option Value ⊕ Nat → am_Mem → Prop} {μ : am_Mem} {r0 : Nat} {x1 s0 : Int32}
    (k1 : s0 = 0 → Wp d 80 (20, [some (.ref r0), some (.int x1)], [], μ) Q) (k2 : ¬ (s0 = 0) → Wp d 80 (18, [some (.ref r0), some (.int x1)], [], μ) Q) :
    Wp d 80 (15, [some (.ref r0), some (.int x1)], [.int s0], μ) Q := wp_blk rfl e80_15 (And.intro k1 k2)
def q80_18 : List (Nat × Instr × Nat) := [(18, .iload_n 1, 1)]
theorem e80_18 : am_dec am_M80 q80_18 = true := by decide +kernel
theorem e80_18_r : am_dec am_M80 [(19, .ireturn, 1)] = true := by decide +kernel
theorem b80_18 {d : Nat} {Q : Option Value ⊕ Nat → am_Mem → Prop} {μ : am_Mem} {r0 : Nat} {x1 : Int32}
    (k : Q (.inl (some (.int x1))) μ) :
    Wp d 80 (18, [some (.ref r0), some (.int x1)], [], μ) Q := wp_blk rfl e80_18 (wp_ri (ty := .int) rfl e80_18_r rfl ⟨rfl, rfl⟩ k)
def q80_20 : List (Nat × Instr × Nat) := [(20, .iinc 1 1, 3), (23, .goto (-21), 3)]
theorem e80_20 : am_dec am_M80 q80_20 = true := by decide +kernel
theorem b80_20 {d : Nat} {Q : Option Value ⊕ Nat → am_Mem → Prop} {μ : am_Mem} {r0 : Nat} {x1 : Int32}
    (k : Wp d 80 (2, [some (.ref r0), some (.int (x1 + Int32.ofInt 1))], [], μ) Q) :
    Wp d 80 (20, [some (.ref r0), some (.int x1)], [], μ) Q := wp_blk rfl e80_20 k
def q80_26 : List (Nat × Instr × Nat) := [(26, .iconst (-1), 1)]
theorem e80_26 : am_dec am_M80 q80_26 = true := by decide +kernel
theorem e80_26_r : am_dec am_M80 [(27, .ireturn, 1)] = true := by decide +kernel
theorem b80_26 {d : Nat} {Q : Option Value ⊕ Nat → am_Mem → Prop} {μ : am_Mem} {r0 : Nat} {x1 : Int32}
    (k : Q (.inl (some (.int (Int32.ofInt (-1))))) μ) :
    Wp d 80 (26, [some (.ref r0), some (.int x1)], [], μ) Q := wp_blk rfl e80_26 (wp_ri (ty := .int) rfl e80_26_r rfl ⟨rfl, rfl⟩ k)
/-! RuleSheets$States.returns(I)Z -/
def q81_0 : List (Nat × Instr × Nat) := [(0, .iconst 0, 1), (1, .istore_n 2, 1)]
theorem e81_0 : am_dec am_M81 q81_0 = true := by decide +kernel
theorem b81_0 {d : Nat} {Q : Option Value ⊕ Nat → am_Mem → Prop} {μ : am_Mem} {r0 : Nat} {x1 : Int32}
    (k : Wp d 81 (2, [some (.ref r0), some (.int x1), some (.int (Int32.ofInt 0)), none, none, none, none], [], μ) Q) :
    Wp d 81 (0, [some (.ref r0), some (.int x1), none, none, none, none, none], [], μ) Q := wp_blk rfl e81_0 k
def q81_2 : List (Nat × Instr × Nat) := [(2, .iload_n 2, 1), (3, .aload_n 0, 1), (4, .getfield 15, 3), (7, .if_icmp .ge 16, 3)]
theorem e81_2 : am_dec am_M81 q81_2 = true := by decide +kernel
theorem b81_2 {d : Nat} {Q : Option Value ⊕ Nat → am_Mem → Prop} {μ : am_Mem} {r0 : Nat} {x1 x2 : Int32}
    (h1 : am_kd μ r0 = (1, 6))
    (k1 : (am_A μ r0 1) ≤ x2 → Wp d 81 (23, [some (.ref r0), some (.int x1), some (.int x2), none, none, none, none], [], μ) Q) (k2 : ¬ ((am_A μ r0 1) ≤ x2) → Wp d 81 (10, [some (.ref r0), some (.int x1), some (.int x2), none, none, none, none], [], μ) Q) :
    Wp d 81 (2, [some (.ref r0), some (.int x1), some (.int x2), none, none, none, none], [], μ) Q := wp_blk rfl e81_2 (And.intro h1 (And.intro k1 k2))
def q81_10 : List (Nat × Instr × Nat) := [(10, .aload_n 0, 1), (11, .getfield 66, 3), (14, .iload_n 2, 1), (15, .iconst 0, 1), (16, .bastore, 1), (17, .iinc 2 1, 3), (20, .goto (-18), 3)]
theorem e81_10 : am_dec am_M81 q81_10 = true := by decide +kernel
theorem b81_10 {d : Nat} {Q : Option Value ⊕ Nat → am_Mem → Prop} {μ : am_Mem} {r0 : Nat} {x1 x2 : Int32}
    (h1 : am_kd μ r0 = (1, 6))
    (h2 : ¬ am_F μ r0 16 = 15)
    (h3 : (am_kd μ (am_F μ r0 16)).1 = 3 ∨ (am_kd μ (am_F μ r0 16)).1 = 4)
    (h4 : ¬ (x2 < 0 ∨ (am_kd μ (am_F μ r0 16)).2 ≤ x2.toNatClampNeg))
    (k : Wp d 81 (2, [some (.ref r0), some (.int x1), some (.int (x2 + Int32.ofInt 1)), none, none, none, none], [], (am_pA μ (am_F μ r0 16) x2.toNatClampNeg (am_nar (am_kd μ (am_F μ r0 16)).1 (Int32.ofInt 0)))) Q) :
    Wp d 81 (10, [some (.ref r0), some (.int x1), some (.int x2), none, none, none, none], [], μ) Q := wp_blk rfl e81_10 (And.intro h1 (And.intro h2 (And.intro h3 (And.intro h4 k))))
def q81_23 : List (Nat × Instr × Nat) := [(23, .aload_n 0, 1), (24, .getfield 63, 3), (27, .iconst 0, 1), (28, .iload_n 1, 1), (29, .iastore, 1), (30, .iconst 1, 1), (31, .istore_n 2, 1), (32, .iconst 0, 1), (33, .istore_n 3, 1)]
theorem e81_23 : am_dec am_M81 q81_23 = true := by decide +kernel
theorem b81_23 {d : Nat} {Q : Option Value ⊕ Nat → am_Mem → Prop} {μ : am_Mem} {r0 : Nat} {x1 x2 : Int32}
    (h1 : am_kd μ r0 = (1, 6))
    (h2 : ¬ am_F μ r0 15 = 15)
    (h3 : (am_kd μ (am_F μ r0 15)).1 = 2)
    (h4 : ¬ ((Int32.ofInt 0) < 0 ∨ (am_kd μ (am_F μ r0 15)).2 ≤ (Int32.ofInt 0).toNatClampNeg))
    (k : Wp d 81 (34, [some (.ref r0), some (.int x1), some (.int (Int32.ofInt 1)), some (.int (Int32.ofInt 0)), none, none, none], [], (am_pA μ (am_F μ r0 15) (Int32.ofInt 0).toNatClampNeg x1)) Q) :
    Wp d 81 (23, [some (.ref r0), some (.int x1), some (.int x2), none, none, none, none], [], μ) Q := wp_blk rfl e81_23 (And.intro h1 (And.intro h2 (And.intro h3 (And.intro h4 k))))
def q81_34 : List (Nat × Instr × Nat) := [(34, .iload_n 3, 1), (35, .iload_n 2, 1), (36, .if_icmp .ge 97, 3)]
theorem e81_34 : am_dec am_M81 q81_34 = true := by decide +kernel
theorem b81_34 {d : Nat} {Q : Option Value ⊕ Nat → am_Mem → Prop} {μ : am_Mem} {r0 : Nat} {x1 x2 x3 : Int32} {o4 o5 o6 : Option Value}
    (k1 : x2 ≤ x3 → Wp d 81 (133, [some (.ref r0), some (.int x1), some (.int x2), some (.int x3), o4, o5, o6], [], μ) Q) (k2 : ¬ (x2 ≤ x3) → Wp d 81 (39, [some (.ref r0), some (.int x1), some (.int x2), some (.int x3), o4, o5, o6], [], μ) Q) :
    Wp d 81 (34, [some (.ref r0), some (.int x1), some (.int x2), some (.int x3), o4, o5, o6], [], μ) Q := wp_blk rfl e81_34 (And.intro k1 k2)
def q81_39 : List (Nat × Instr × Nat) := [(39, .iload_n 3, 1), (40, .sipush 300, 3), (43, .if_icmp .ge 90, 3)]
theorem e81_39 : am_dec am_M81 q81_39 = true := by decide +kernel
theorem b81_39 {d : Nat} {Q : Option Value ⊕ Nat → am_Mem → Prop} {μ : am_Mem} {r0 : Nat} {x1 x2 x3 : Int32} {o4 o5 o6 : Option Value}
    (k1 : ((Int16.ofInt 300).toInt32) ≤ x3 → Wp d 81 (133, [some (.ref r0), some (.int x1), some (.int x2), some (.int x3), o4, o5, o6], [], μ) Q) (k2 : ¬ (((Int16.ofInt 300).toInt32) ≤ x3) → Wp d 81 (46, [some (.ref r0), some (.int x1), some (.int x2), some (.int x3), o4, o5, o6], [], μ) Q) :
    Wp d 81 (39, [some (.ref r0), some (.int x1), some (.int x2), some (.int x3), o4, o5, o6], [], μ) Q := wp_blk rfl e81_39 (And.intro k1 k2)
def q81_46 : List (Nat × Instr × Nat) := [(46, .aload_n 0, 1), (47, .getfield 63, 3), (50, .iload_n 3, 1), (51, .iaload, 1), (52, .istore 4, 2), (54, .iconst 0, 1), (55, .istore 5, 2)]
theorem e81_46 : am_dec am_M81 q81_46 = true := by decide +kernel
theorem b81_46 {d : Nat} {Q : Option Value ⊕ Nat → am_Mem → Prop} {μ : am_Mem} {r0 : Nat} {x1 x2 x3 : Int32} {o4 o5 o6 : Option Value}
    (h1 : am_kd μ r0 = (1, 6))
    (h2 : ¬ am_F μ r0 15 = 15)
    (h3 : (am_kd μ (am_F μ r0 15)).1 = 2 ∨ (am_kd μ (am_F μ r0 15)).1 = 8)
    (h4 : ¬ (x3 < 0 ∨ (am_kd μ (am_F μ r0 15)).2 ≤ x3.toNatClampNeg))
    (k : Wp d 81 (57, [some (.ref r0), some (.int x1), some (.int x2), some (.int x3), some (.int (am_A μ (am_F μ r0 15) x3.toNatClampNeg)), some (.int (Int32.ofInt 0)), o6], [], μ) Q) :
    Wp d 81 (46, [some (.ref r0), some (.int x1), some (.int x2), some (.int x3), o4, o5, o6], [], μ) Q := wp_blk rfl e81_46 (And.intro h1 (And.intro h2 (And.intro h3 (And.intro h4 k))))
def q81_57 : List (Nat × Instr × Nat) := [(57, .iload 5, 2), (59, .aload_n 0, 1), (60, .getfield 33, 3), (63, .iload 4, 2), (65, .iaload, 1), (66, .if_icmp .ge 61, 3)]
theorem e81_57 : am_dec am_M81 q81_57 = true := by decide +kernel
theorem b81_57 {d : Nat} {Q : Option Value ⊕ Nat → am_Mem → Prop} {μ : am_Mem} {r0 : Nat} {x1 x2 x3 x4 x5 : Int32} {o6 : Option Value}
    (h1 : am_kd μ r0 = (1, 6))
    (h2 : ¬ am_F μ r0 5 = 15)
    (h3 : (am_kd μ (am_F μ r0 5)).1 = 2 ∨ (am_kd μ (am_F μ r0 5)).1 = 8)
    (h4 : ¬ (x4 < 0 ∨ (am_kd μ (am_F μ r0 5)).2 ≤ x4.toNatClampNeg))
    (k1 : (am_A μ (am_F μ r0 5) x4.toNatClampNeg) ≤ x5 → Wp d 81 (127, [some (.ref r0), some (.int x1), some (.int x2), some (.int x3), some (.int x4), some (.int x5), o6], [], μ) Q) (k2 : ¬ ((am_A μ (am_F μ r0 5) x4.toNatClampNeg) ≤ x5) → Wp d 81 (69, [some (.ref r0), some (.int x1), some (.int x2), some (.int x3), some (.int x4), some (.int x5), o6], [], μ) Q) :
    Wp d 81 (57, [some (.ref r0), some (.int x1), some (.int x2), some (.int x3), some (.int x4), some (.int x5), o6], [], μ) Q := wp_blk rfl e81_57 (And.intro h1 (And.intro h2 (And.intro h3 (And.intro h4 (And.intro k1 k2)))))
def q81_69 : List (Nat × Instr × Nat) := [(69, .aload_n 0, 1), (70, .getfield 36, 3), (73, .bipush 40, 2), (75, .iload 4, 2), (77, .imul, 1), (78, .iload 5, 2), (80, .iadd, 1), (81, .iaload, 1), (82, .istore 6, 2), (84, .iload 6, 2), (86, .iload_n 1, 1), (87, .if_icmp .ne 5, 3)]
theorem e81_69 : am_dec am_M81 q81_69 = true := by decide +kernel
theorem b81_69 {d : Nat} {Q : Option Value ⊕ Nat → am_Mem → Prop} {μ : am_Mem} {r0 : Nat} {x1 x2 x3 x4 x5 : Int32} {o6 : Option Value}
    (h1 : am_kd μ r0 = (1, 6))
    (h2 : ¬ am_F μ r0 6 = 15)
    (h3 : (am_kd μ (am_F μ r0 6)).1 = 2 ∨ (am_kd μ (am_F μ r0 6)).1 = 8)
    (h4 : ¬ (((((Int8.ofInt 40).toInt32) * x4) + x5) < 0 ∨ (am_kd μ (am_F μ r0 6)).2 ≤ ((((Int8.ofInt 40).toInt32) * x4) + x5).toNatClampNeg))
    (k1 : ¬ (am_A μ (am_F μ r0 6) ((((Int8.ofInt 40).toInt32) * x4) + x5).toNatClampNeg) = x1 → Wp d 81 (92, [some (.ref r0), some (.int x1), some (.int x2), some (.int x3), some (.int x4), some (.int x5), some (.int (am_A μ (am_F μ r0 6) ((((Int8.ofInt 40).toInt32) * x4) + x5).toNatClampNeg))], [], μ) Q) (k2 : ¬ (¬ (am_A μ (am_F μ r0 6) ((((Int8.ofInt 40).toInt32) * x4) + x5).toNatClampNeg) = x1) → Wp d 81 (90, [some (.ref r0), some (.int x1), some (.int x2), some (.int x3), some (.int x4), some (.int x5), some (.int (am_A μ (am_F μ r0 6) ((((Int8.ofInt 40).toInt32) * x4) + x5).toNatClampNeg))], [], μ) Q) :
    Wp d 81 (69, [some (.ref r0), some (.int x1), some (.int x2), some (.int x3), some (.int x4), some (.int x5), o6], [], μ) Q := wp_blk rfl e81_69 (And.intro h1 (And.intro h2 (And.intro h3 (And.intro h4 (And.intro k1 k2)))))
def q81_90 : List (Nat × Instr × Nat) := [(90, .iconst 1, 1)]
theorem e81_90 : am_dec am_M81 q81_90 = true := by decide +kernel
theorem e81_90_r : am_dec am_M81 [(91, .ireturn, 1)] = true := by decide +kernel
theorem b81_90 {d : Nat} {Q : Option Value ⊕ Nat → am_Mem → Prop} {μ : am_Mem} {r0 : Nat} {x1 x2 x3 x4 x5 x6 : Int32}
    (k : Q (.inl (some (.int (Int32.ofInt 1)))) μ) :
    Wp d 81 (90, [some (.ref r0), some (.int x1), some (.int x2), some (.int x3), some (.int x4), some (.int x5), some (.int x6)], [], μ) Q := wp_blk rfl e81_90 (wp_ri (ty := .boolean) rfl e81_90_r rfl (by decide) k)
def q81_92 : List (Nat × Instr × Nat) := [(92, .aload_n 0, 1), (93, .getfield 66, 3), (96, .iload 6, 2), (98, .baload, 1), (99, .ifCond .ne 22, 3)]
theorem e81_92 : am_dec am_M81 q81_92 = true := by decide +kernel
theorem b81_92 {d : Nat} {Q : Option Value ⊕ Nat → am_Mem → Prop} {μ : am_Mem} {r0 : Nat} {x1 x2 x3 x4 x5 x6 : Int32}
    (h1 : am_kd μ r0 = (1, 6))
    (h2 : ¬ am_F μ r0 16 = 15)
    (h3 : (am_kd μ (am_F μ r0 16)).1 = 3 ∨ (am_kd μ (am_F μ r0 16)).1 = 4 ∨ (am_kd μ (am_F μ r0 16)).1 = 10)
    (h4 : ¬ (x6 < 0 ∨ (am_kd μ (am_F μ r0 16)).2 ≤ x6.toNatClampNeg))
    (k1 : ¬ (am_A μ (am_F μ r0 16) x6.toNatClampNeg) = 0 → Wp d 81 (121, [some (.ref r0), some (.int x1), some (.int x2), some (.int x3), some (.int x4), some (.int x5), some (.int x6)], [], μ) Q) (k2 : ¬ (¬ (am_A μ (am_F μ r0 16) x6.toNatClampNeg) = 0) → Wp d 81 (102, [some (.ref r0), some (.int x1), some (.int x2), some (.int x3), some (.int x4), some (.int x5), some (.int x6)], [], μ) Q) :
    Wp d 81 (92, [some (.ref r0), some (.int x1), some (.int x2), some (.int x3), some (.int x4), some (.int x5), some (.int x6)], [], μ) Q := wp_blk rfl e81_92 (And.intro h1 (And.intro h2 (And.intro h3 (And.intro h4 (And.intro k1 k2)))))
def q81_102 : List (Nat × Instr × Nat) := [(102, .aload_n 0, 1), (103, .getfield 66, 3), (106, .iload 6, 2), (108, .iconst 1, 1), (109, .bastore, 1), (110, .aload_n 0, 1), (111, .getfield 63, 3), (114, .iload_n 2, 1), (115, .iload 6, 2), (117, .iastore, 1)]
theorem e81_102 : am_dec am_M81 q81_102 = true := by decide +kernel
theorem b81_102 {d : Nat} {Q : Option Value ⊕ Nat → am_Mem → Prop} {μ : am_Mem} {r0 : Nat} {x1 x2 x3 x4 x5 x6 : Int32}
    (h1 : am_kd μ r0 = (1, 6))
    (h2 : ¬ am_F μ r0 16 = 15)
    (h3 : (am_kd μ (am_F μ r0 16)).1 = 3 ∨ (am_kd μ (am_F μ r0 16)).1 = 4)
    (h4 : ¬ (x6 < 0 ∨ (am_kd μ (am_F μ r0 16)).2 ≤ x6.toNatClampNeg))
    (h5 : am_kd (am_pA μ (am_F μ r0 16) x6.toNatClampNeg (am_nar (am_kd μ (am_F μ r0 16)).1 (Int32.ofInt 1))) r0 = (1, 6))
    (h6 : ¬ am_F (am_pA μ (am_F μ r0 16) x6.toNatClampNeg (am_nar (am_kd μ (am_F μ r0 16)).1 (Int32.ofInt 1))) r0 15 = 15)
    (h7 : (am_kd (am_pA μ (am_F μ r0 16) x6.toNatClampNeg (am_nar (am_kd μ (am_F μ r0 16)).1 (Int32.ofInt 1))) (am_F (am_pA μ (am_F μ r0 16) x6.toNatClampNeg (am_nar (am_kd μ (am_F μ r0 16)).1 (Int32.ofInt 1))) r0 15)).1 = 2)
    (h8 : ¬ (x2 < 0 ∨ (am_kd (am_pA μ (am_F μ r0 16) x6.toNatClampNeg (am_nar (am_kd μ (am_F μ r0 16)).1 (Int32.ofInt 1))) (am_F (am_pA μ (am_F μ r0 16) x6.toNatClampNeg (am_nar (am_kd μ (am_F μ r0 16)).1 (Int32.ofInt 1))) r0 15)).2 ≤ x2.toNatClampNeg))
    (k : Wp d 81 (118, [some (.ref r0), some (.int x1), some (.int x2), some (.int x3), some (.int x4), some (.int x5), some (.int x6)], [], (am_pA (am_pA μ (am_F μ r0 16) x6.toNatClampNeg (am_nar (am_kd μ (am_F μ r0 16)).1 (Int32.ofInt 1))) (am_F (am_pA μ (am_F μ r0 16) x6.toNatClampNeg (am_nar (am_kd μ (am_F μ r0 16)).1 (Int32.ofInt 1))) r0 15) x2.toNatClampNeg x6)) Q) :
    Wp d 81 (102, [some (.ref r0), some (.int x1), some (.int x2), some (.int x3), some (.int x4), some (.int x5), some (.int x6)], [], μ) Q := wp_blk rfl e81_102 (And.intro h1 (And.intro h2 (And.intro h3 (And.intro h4 (And.intro h5 (And.intro h6 (And.intro h7 (And.intro h8 k))))))))
def q81_118 : List (Nat × Instr × Nat) := [(118, .iinc 2 1, 3)]
theorem e81_118 : am_dec am_M81 q81_118 = true := by decide +kernel
theorem b81_118 {d : Nat} {Q : Option Value ⊕ Nat → am_Mem → Prop} {μ : am_Mem} {r0 : Nat} {x1 x2 x3 x4 x5 x6 : Int32}
    (k : Wp d 81 (121, [some (.ref r0), some (.int x1), some (.int (x2 + Int32.ofInt 1)), some (.int x3), some (.int x4), some (.int x5), some (.int x6)], [], μ) Q) :
    Wp d 81 (118, [some (.ref r0), some (.int x1), some (.int x2), some (.int x3), some (.int x4), some (.int x5), some (.int x6)], [], μ) Q := wp_blk rfl e81_118 k
def q81_121 : List (Nat × Instr × Nat) := [(121, .iinc 5 1, 3), (124, .goto (-67), 3)]
theorem e81_121 : am_dec am_M81 q81_121 = true := by decide +kernel
theorem b81_121 {d : Nat} {Q : Option Value ⊕ Nat → am_Mem → Prop} {μ : am_Mem} {r0 : Nat} {x1 x2 x3 x4 x5 x6 : Int32}
    (k : Wp d 81 (57, [some (.ref r0), some (.int x1), some (.int x2), some (.int x3), some (.int x4), some (.int (x5 + Int32.ofInt 1)), some (.int x6)], [], μ) Q) :
    Wp d 81 (121, [some (.ref r0), some (.int x1), some (.int x2), some (.int x3), some (.int x4), some (.int x5), some (.int x6)], [], μ) Q := wp_blk rfl e81_121 k
def q81_127 : List (Nat × Instr × Nat) := [(127, .iinc 3 1, 3), (130, .goto (-96), 3)]
theorem e81_127 : am_dec am_M81 q81_127 = true := by decide +kernel
theorem b81_127 {d : Nat} {Q : Option Value ⊕ Nat → am_Mem → Prop} {μ : am_Mem} {r0 : Nat} {x1 x2 x3 x4 x5 : Int32} {o6 : Option Value}
    (k : Wp d 81 (34, [some (.ref r0), some (.int x1), some (.int x2), some (.int (x3 + Int32.ofInt 1)), some (.int x4), some (.int x5), o6], [], μ) Q) :
    Wp d 81 (127, [some (.ref r0), some (.int x1), some (.int x2), some (.int x3), some (.int x4), some (.int x5), o6], [], μ) Q := wp_blk rfl e81_127 k
def q81_133 : List (Nat × Instr × Nat) := [(133, .iconst 0, 1)]
theorem e81_133 : am_dec am_M81 q81_133 = true := by decide +kernel
theorem e81_133_r : am_dec am_M81 [(134, .ireturn, 1)] = true := by decide +kernel
theorem b81_133 {d : Nat} {Q : Option Value ⊕ Nat → am_Mem → Prop} {μ : am_Mem} {r0 : Nat} {x1 x2 x3 : Int32} {o4 o5 o6 : Option Value}
    (k : Q (.inl (some (.int (Int32.ofInt 0)))) μ) :
    Wp d 81 (133, [some (.ref r0), some (.int x1), some (.int x2), some (.int x3), o4, o5, o6], [], μ) Q := wp_blk rfl e81_133 (wp_ri (ty := .boolean) rfl e81_133_r rfl (by decide) k)
