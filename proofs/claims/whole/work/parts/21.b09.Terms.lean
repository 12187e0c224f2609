/-! ===== printed: the blocks of Terms ===== -/
/-! RuleSheets$Terms.<init>(LRuleSheets$Names;)V -/
def q88_0 : List (Nat × Instr × Nat) := [(0, .aload_n 0, 1), (1, .invokespecial 3, 3), (4, .aload_n 0, 1), (5, .sipush 4096, 3), (8, .newarray .int, 2), (10, .putfield 11, 3)]
theorem e88_0 : am_dec am_M88 q88_0 = true := by decide +kernel
theorem b88_0 {d : Nat} {Q : Option Value ⊕ Nat → am_Mem → Prop} {μ : am_Mem} {r0 r1 : Nat}
    (h1 : am_kd (am_nA μ 2 ((Int16.ofInt 4096).toInt32).toNatClampNeg) r0 = (1, 8))
    (h2 : ¬ (am_n μ) = 15)
    (k : Wp d 88 (13, [some (.ref r0), some (.ref r1)], [], (am_pR (am_nA μ 2 ((Int16.ofInt 4096).toInt32).toNatClampNeg) r0 1 (am_n μ))) Q) :
    Wp d 88 (0, [some (.ref r0), some (.ref r1)], [], μ) Q := wp_blk rfl e88_0 (And.intro (by decide) (And.intro h1 (And.intro h2 k)))
def q88_13 : List (Nat × Instr × Nat) := [(13, .aload_n 0, 1), (14, .sipush 4096, 3), (17, .newarray .int, 2), (19, .putfield 15, 3)]
theorem e88_13 : am_dec am_M88 q88_13 = true := by decide +kernel
theorem b88_13 {d : Nat} {Q : Option Value ⊕ Nat → am_Mem → Prop} {μ : am_Mem} {r0 r1 : Nat}
    (h1 : am_kd (am_nA μ 2 ((Int16.ofInt 4096).toInt32).toNatClampNeg) r0 = (1, 8))
    (h2 : ¬ (am_n μ) = 15)
    (k : Wp d 88 (22, [some (.ref r0), some (.ref r1)], [], (am_pR (am_nA μ 2 ((Int16.ofInt 4096).toInt32).toNatClampNeg) r0 2 (am_n μ))) Q) :
    Wp d 88 (13, [some (.ref r0), some (.ref r1)], [], μ) Q := wp_blk rfl e88_13 (And.intro (by decide) (And.intro h1 (And.intro h2 k)))
def q88_22 : List (Nat × Instr × Nat) := [(22, .aload_n 0, 1), (23, .sipush 16384, 3), (26, .newarray .int, 2), (28, .putfield 18, 3)]
theorem e88_22 : am_dec am_M88 q88_22 = true := by decide +kernel
theorem b88_22 {d : Nat} {Q : Option Value ⊕ Nat → am_Mem → Prop} {μ : am_Mem} {r0 r1 : Nat}
    (h1 : am_kd (am_nA μ 2 ((Int16.ofInt 16384).toInt32).toNatClampNeg) r0 = (1, 8))
    (h2 : ¬ (am_n μ) = 15)
    (k : Wp d 88 (31, [some (.ref r0), some (.ref r1)], [], (am_pR (am_nA μ 2 ((Int16.ofInt 16384).toInt32).toNatClampNeg) r0 3 (am_n μ))) Q) :
    Wp d 88 (22, [some (.ref r0), some (.ref r1)], [], μ) Q := wp_blk rfl e88_22 (And.intro (by decide) (And.intro h1 (And.intro h2 k)))
def q88_31 : List (Nat × Instr × Nat) := [(31, .aload_n 0, 1), (32, .sipush 4096, 3), (35, .newarray .int, 2), (37, .putfield 21, 3)]
theorem e88_31 : am_dec am_M88 q88_31 = true := by decide +kernel
theorem b88_31 {d : Nat} {Q : Option Value ⊕ Nat → am_Mem → Prop} {μ : am_Mem} {r0 r1 : Nat}
    (h1 : am_kd (am_nA μ 2 ((Int16.ofInt 4096).toInt32).toNatClampNeg) r0 = (1, 8))
    (h2 : ¬ (am_n μ) = 15)
    (k : Wp d 88 (40, [some (.ref r0), some (.ref r1)], [], (am_pR (am_nA μ 2 ((Int16.ofInt 4096).toInt32).toNatClampNeg) r0 4 (am_n μ))) Q) :
    Wp d 88 (31, [some (.ref r0), some (.ref r1)], [], μ) Q := wp_blk rfl e88_31 (And.intro (by decide) (And.intro h1 (And.intro h2 k)))
def q88_40 : List (Nat × Instr × Nat) := [(40, .aload_n 0, 1), (41, .sipush 4096, 3), (44, .newarray .int, 2), (46, .putfield 24, 3)]
theorem e88_40 : am_dec am_M88 q88_40 = true := by decide +kernel
theorem b88_40 {d : Nat} {Q : Option Value ⊕ Nat → am_Mem → Prop} {μ : am_Mem} {r0 r1 : Nat}
    (h1 : am_kd (am_nA μ 2 ((Int16.ofInt 4096).toInt32).toNatClampNeg) r0 = (1, 8))
    (h2 : ¬ (am_n μ) = 15)
    (k : Wp d 88 (49, [some (.ref r0), some (.ref r1)], [], (am_pR (am_nA μ 2 ((Int16.ofInt 4096).toInt32).toNatClampNeg) r0 5 (am_n μ))) Q) :
    Wp d 88 (40, [some (.ref r0), some (.ref r1)], [], μ) Q := wp_blk rfl e88_40 (And.intro (by decide) (And.intro h1 (And.intro h2 k)))
def q88_49 : List (Nat × Instr × Nat) := [(49, .aload_n 0, 1), (50, .sipush 4096, 3), (53, .newarray .int, 2), (55, .putfield 27, 3)]
theorem e88_49 : am_dec am_M88 q88_49 = true := by decide +kernel
theorem b88_49 {d : Nat} {Q : Option Value ⊕ Nat → am_Mem → Prop} {μ : am_Mem} {r0 r1 : Nat}
    (h1 : am_kd (am_nA μ 2 ((Int16.ofInt 4096).toInt32).toNatClampNeg) r0 = (1, 8))
    (h2 : ¬ (am_n μ) = 15)
    (k : Wp d 88 (58, [some (.ref r0), some (.ref r1)], [], (am_pR (am_nA μ 2 ((Int16.ofInt 4096).toInt32).toNatClampNeg) r0 6 (am_n μ))) Q) :
    Wp d 88 (49, [some (.ref r0), some (.ref r1)], [], μ) Q := wp_blk rfl e88_49 (And.intro (by decide) (And.intro h1 (And.intro h2 k)))
def q88_58 : List (Nat × Instr × Nat) := [(58, .aload_n 0, 1), (59, .sipush 4096, 3), (62, .newarray .int, 2), (64, .putfield 30, 3)]
theorem e88_58 : am_dec am_M88 q88_58 = true := by decide +kernel
theorem b88_58 {d : Nat} {Q : Option Value ⊕ Nat → am_Mem → Prop} {μ : am_Mem} {r0 r1 : Nat}
    (h1 : am_kd (am_nA μ 2 ((Int16.ofInt 4096).toInt32).toNatClampNeg) r0 = (1, 8))
    (h2 : ¬ (am_n μ) = 15)
    (k : Wp d 88 (67, [some (.ref r0), some (.ref r1)], [], (am_pR (am_nA μ 2 ((Int16.ofInt 4096).toInt32).toNatClampNeg) r0 7 (am_n μ))) Q) :
    Wp d 88 (58, [some (.ref r0), some (.ref r1)], [], μ) Q := wp_blk rfl e88_58 (And.intro (by decide) (And.intro h1 (And.intro h2 k)))
def q88_67 : List (Nat × Instr × Nat) := [(67, .aload_n 0, 1), (68, .sipush 8192, 3), (71, .newarray .int, 2), (73, .putfield 33, 3)]
theorem e88_67 : am_dec am_M88 q88_67 = true := by decide +kernel
theorem b88_67 {d : Nat} {Q : Option Value ⊕ Nat → am_Mem → Prop} {μ : am_Mem} {r0 r1 : Nat}
    (h1 : am_kd (am_nA μ 2 ((Int16.ofInt 8192).toInt32).toNatClampNeg) r0 = (1, 8))
    (h2 : ¬ (am_n μ) = 15)
    (k : Wp d 88 (76, [some (.ref r0), some (.ref r1)], [], (am_pR (am_nA μ 2 ((Int16.ofInt 8192).toInt32).toNatClampNeg) r0 8 (am_n μ))) Q) :
    Wp d 88 (67, [some (.ref r0), some (.ref r1)], [], μ) Q := wp_blk rfl e88_67 (And.intro (by decide) (And.intro h1 (And.intro h2 k)))
def q88_76 : List (Nat × Instr × Nat) := [(76, .aload_n 0, 1), (77, .iconst 0, 1), (78, .putfield 36, 3), (81, .aload_n 0, 1), (82, .iconst 4, 1), (83, .newarray .int, 2), (85, .putfield 40, 3)]
theorem e88_76 : am_dec am_M88 q88_76 = true := by decide +kernel
theorem b88_76 {d : Nat} {Q : Option Value ⊕ Nat → am_Mem → Prop} {μ : am_Mem} {r0 r1 : Nat}
    (h1 : am_kd μ r0 = (1, 8))
    (h2 : am_kd (am_nA (am_pA μ r0 9 (Int32.ofInt 0)) 2 (Int32.ofInt 4).toNatClampNeg) r0 = (1, 8))
    (h3 : ¬ (am_n (am_pA μ r0 9 (Int32.ofInt 0))) = 15)
    (k : Wp d 88 (88, [some (.ref r0), some (.ref r1)], [], (am_pR (am_nA (am_pA μ r0 9 (Int32.ofInt 0)) 2 (Int32.ofInt 4).toNatClampNeg) r0 10 (am_n (am_pA μ r0 9 (Int32.ofInt 0))))) Q) :
    Wp d 88 (76, [some (.ref r0), some (.ref r1)], [], μ) Q := wp_blk rfl e88_76 (And.intro h1 (And.intro ⟨rfl, rfl⟩ (And.intro (by decide) (And.intro h2 (And.intro h3 k)))))
def q88_88 : List (Nat × Instr × Nat) := [(88, .aload_n 0, 1), (89, .aload_n 1, 1), (90, .putfield 43, 3)]
theorem e88_88 : am_dec am_M88 q88_88 = true := by decide +kernel
theorem e88_88_r : am_dec am_M88 [(93, .return_, 1)] = true := by decide +kernel
theorem b88_88 {d : Nat} {Q : Option Value ⊕ Nat → am_Mem → Prop} {μ : am_Mem} {r0 r1 : Nat}
    (h1 : am_kd μ r0 = (1, 8))
    (h2 : ¬ r1 = 15)
    (k : Q (.inl none) (am_pR μ r0 0 r1)) :
    Wp d 88 (88, [some (.ref r0), some (.ref r1)], [], μ) Q := wp_blk rfl e88_88 (And.intro h1 (And.intro h2 (wp_rv rfl e88_88_r rfl k)))
/-! RuleSheets$Terms.clear(LRuleSheets$Names;)V -/
def q89_0 : List (Nat × Instr × Nat) := [(0, .aload_n 0, 1), (1, .aload_n 1, 1), (2, .putfield 43, 3), (5, .aload_n 0, 1), (6, .iconst 0, 1)]
theorem e89_0 : am_dec am_M89 q89_0 = true := by decide +kernel
theorem e89_0_c : am_dc1 am_M89 7 (.invokevirtual 47) 3 = true := by decide +kernel
theorem b89_0 {d : Nat} {Q : Option Value ⊕ Nat → am_Mem → Prop} {μ : am_Mem} {r0 r1 : Nat} {P : am_Mem → Prop} {X : Nat → am_Mem → Prop}
    (h1 : am_kd μ r0 = (1, 8))
    (h2 : ¬ r1 = 15)
    (hk : am_kd (am_pR μ r0 0 r1) r0 = (1, 8))
    (hc : Wp d 90 (0, [some (.ref r0), some (.int (Int32.ofInt 0)), none], [], (am_pR μ r0 0 r1)) (pV P X)) (hr : ∀ μ', P μ' → Wp (d + 1) 89 (10, [some (.ref r0), some (.ref r1)], [], (μ')) Q)
    (hx : ∀ x μ', X x μ' → Q (.inr x) μ') :
    Wp (d + 1) 89 (0, [some (.ref r0), some (.ref r1)], [], μ) Q := wp_blk rfl e89_0 (And.intro h1 (And.intro h2 (wp_cv (as := [.int (Int32.ofInt 0)]) rfl e89_0_c rfl rfl rfl rfl rfl hk hc (fun v μ' hv => by obtain ⟨rfl, hp⟩ := pV_r hv; exact hr μ' hp) hx)))
theorem e89_10_r : am_dec am_M89 [(10, .return_, 1)] = true := by decide +kernel
theorem b89_10 {d : Nat} {Q : Option Value ⊕ Nat → am_Mem → Prop} {μ : am_Mem} {r0 r1 : Nat}
    (k : Q (.inl none) μ) :
    Wp d 89 (10, [some (.ref r0), some (.ref r1)], [], μ) Q := (wp_rv rfl e89_10_r rfl k)
/-! RuleSheets$Terms.cut(I)V -/
def q90_0 : List (Nat × Instr × Nat) := [(0, .aload_n 0, 1), (1, .getfield 36, 3), (4, .iconst 1, 1), (5, .isub, 1), (6, .istore_n 2, 1)]
theorem e90_0 : am_dec am_M90 q90_0 = true := by decide +kernel
theorem b90_0 {d : Nat} {Q : Option Value ⊕ Nat → am_Mem → Prop} {μ : am_Mem} {r0 : Nat} {x1 : Int32}
    (h1 : am_kd μ r0 = (1, 8))
    (k : Wp d 90 (7, [some (.ref r0), some (.int x1), some (.int ((am_A μ r0 9) - (Int32.ofInt 1)))], [], μ) Q) :
    Wp d 90 (0, [some (.ref r0), some (.int x1), none], [], μ) Q := wp_blk rfl e90_0 (And.intro h1 k)
def q90_7 : List (Nat × Instr × Nat) := [(7, .iload_n 2, 1), (8, .iload_n 1, 1), (9, .if_icmp .lt 26, 3)]
theorem e90_7 : am_dec am_M90 q90_7 = true := by decide +kernel
theorem b90_7 {d : Nat} {Q : Option Value ⊕ Nat → am_Mem → Prop} {μ : am_Mem} {r0 : Nat} {x1 x2 : Int32}
    (k1 : x2 < x1 → Wp d 90 (35, [some (.ref r0), some (.int x1), some (.int x2)], [], μ) Q) (k2 : ¬ (x2 < x1) → Wp d 90 (12, [some (.ref r0), some (.int x1), some (.int x2)], [], μ) Q) :
    Wp d 90 (7, [some (.ref r0), some (.int x1), some (.int x2)], [], μ) Q := wp_blk rfl e90_7 (And.intro k1 k2)
def q90_12 : List (Nat × Instr × Nat) := [(12, .aload_n 0, 1), (13, .getfield 33, 3), (16, .aload_n 0, 1), (17, .getfield 27, 3), (20, .iload_n 2, 1), (21, .iaload, 1), (22, .iconst 0, 1), (23, .iastore, 1), (24, .aload_n 0, 1), (25, .iload_n 2, 1), (26, .putfield 36, 3), (29, .iinc 2 (-1), 3), (32, .goto (-25), 3)]
theorem e90_12 : am_dec am_M90 q90_12 = true := by decide +kernel
theorem b90_12 {d : Nat} {Q : Option Value ⊕ Nat → am_Mem → Prop} {μ : am_Mem} {r0 : Nat} {x1 x2 : Int32}
    (h1 : am_kd μ r0 = (1, 8))
    (h2 : ¬ am_F μ r0 8 = 15)
    (h3 : am_kd μ r0 = (1, 8))
    (h4 : ¬ am_F μ r0 6 = 15)
    (h5 : (am_kd μ (am_F μ r0 6)).1 = 2 ∨ (am_kd μ (am_F μ r0 6)).1 = 8)
    (h6 : ¬ (x2 < 0 ∨ (am_kd μ (am_F μ r0 6)).2 ≤ x2.toNatClampNeg))
    (h7 : (am_kd μ (am_F μ r0 8)).1 = 2)
    (h8 : ¬ ((am_A μ (am_F μ r0 6) x2.toNatClampNeg) < 0 ∨ (am_kd μ (am_F μ r0 8)).2 ≤ (am_A μ (am_F μ r0 6) x2.toNatClampNeg).toNatClampNeg))
    (h9 : am_kd (am_pA μ (am_F μ r0 8) (am_A μ (am_F μ r0 6) x2.toNatClampNeg).toNatClampNeg (Int32.ofInt 0)) r0 = (1, 8))
    (k : Wp d 90 (7, [some (.ref r0), some (.int x1), some (.int (x2 + Int32.ofInt (-1)))], [], (am_pA (am_pA μ (am_F μ r0 8) (am_A μ (am_F μ r0 6) x2.toNatClampNeg).toNatClampNeg (Int32.ofInt 0)) r0 9 x2)) Q) :
    Wp d 90 (12, [some (.ref r0), some (.int x1), some (.int x2)], [], μ) Q := wp_blk rfl e90_12 (And.intro h1 (And.intro h2 (And.intro h3 (And.intro h4 (And.intro h5 (And.intro h6 (And.intro h7 (And.intro h8 (And.intro h9 (And.intro ⟨rfl, rfl⟩ k))))))))))
theorem e90_35_r : am_dec am_M90 [(35, .return_, 1)] = true := by decide +kernel
theorem b90_35 {d : Nat} {Q : Option Value ⊕ Nat → am_Mem → Prop} {μ : am_Mem} {r0 : Nat} {x1 x2 : Int32}
    (k : Q (.inl none) μ) :
    Wp d 90 (35, [some (.ref r0), some (.int x1), some (.int x2)], [], μ) Q := (wp_rv rfl e90_35_r rfl k)
/-! RuleSheets$Terms.intern(II)I -/
def q91_0 : List (Nat × Instr × Nat) := [(0, .iload_n 1, 1), (1, .ldc 70, 2), (3, .imul, 1), (4, .iload_n 2, 1), (5, .iadd, 1), (6, .istore_n 3, 1), (7, .iconst 0, 1), (8, .istore 4, 2)]
theorem e91_0 : am_dec am_M91 q91_0 = true := by decide +kernel
theorem b91_0 {d : Nat} {Q : Option Value ⊕ Nat → am_Mem → Prop} {μ : am_Mem} {r0 : Nat} {x1 x2 : Int32}
    (k : Wp d 91 (10, [some (.ref r0), some (.int x1), some (.int x2), some (.int ((x1 * (-1640531535 : Int32)) + x2)), some (.int (Int32.ofInt 0)), none, none, none], [], μ) Q) :
    Wp d 91 (0, [some (.ref r0), some (.int x1), some (.int x2), none, none, none, none, none], [], μ) Q := wp_blk rfl e91_0 k
def q91_10 : List (Nat × Instr × Nat) := [(10, .iload 4, 2), (12, .iload_n 2, 1), (13, .if_icmp .ge 32, 3)]
theorem e91_10 : am_dec am_M91 q91_10 = true := by decide +kernel
theorem b91_10 {d : Nat} {Q : Option Value ⊕ Nat → am_Mem → Prop} {μ : am_Mem} {r0 : Nat} {x1 x2 x3 x4 : Int32}
    (k1 : x2 ≤ x4 → Wp d 91 (45, [some (.ref r0), some (.int x1), some (.int x2), some (.int x3), some (.int x4), none, none, none], [], μ) Q) (k2 : ¬ (x2 ≤ x4) → Wp d 91 (16, [some (.ref r0), some (.int x1), some (.int x2), some (.int x3), some (.int x4), none, none, none], [], μ) Q) :
    Wp d 91 (10, [some (.ref r0), some (.int x1), some (.int x2), some (.int x3), some (.int x4), none, none, none], [], μ) Q := wp_blk rfl e91_10 (And.intro k1 k2)
def q91_16 : List (Nat × Instr × Nat) := [(16, .iload_n 3, 1), (17, .iload_n 3, 1), (18, .bipush 15, 2), (20, .iushr, 1), (21, .ixor, 1), (22, .aload_n 0, 1), (23, .getfield 24, 3), (26, .aload_n 0, 1), (27, .getfield 40, 3), (30, .iload 4, 2), (32, .iaload, 1), (33, .iaload, 1), (34, .iadd, 1), (35, .ldc 71, 2), (37, .imul, 1), (38, .istore_n 3, 1), (39, .iinc 4 1, 3), (42, .goto (-32), 3)]
theorem e91_16 : am_dec am_M91 q91_16 = true := by decide +kernel
theorem b91_16 {d : Nat} {Q : Option Value ⊕ Nat → am_Mem → Prop} {μ : am_Mem} {r0 : Nat} {x1 x2 x3 x4 : Int32}
    (h1 : am_kd μ r0 = (1, 8))
    (h2 : ¬ am_F μ r0 5 = 15)
    (h3 : am_kd μ r0 = (1, 8))
    (h4 : ¬ am_F μ r0 10 = 15)
    (h5 : (am_kd μ (am_F μ r0 10)).1 = 2 ∨ (am_kd μ (am_F μ r0 10)).1 = 8)
    (h6 : ¬ (x4 < 0 ∨ (am_kd μ (am_F μ r0 10)).2 ≤ x4.toNatClampNeg))
    (h7 : (am_kd μ (am_F μ r0 5)).1 = 2 ∨ (am_kd μ (am_F μ r0 5)).1 = 8)
    (h8 : ¬ ((am_A μ (am_F μ r0 10) x4.toNatClampNeg) < 0 ∨ (am_kd μ (am_F μ r0 5)).2 ≤ (am_A μ (am_F μ r0 10) x4.toNatClampNeg).toNatClampNeg))
    (k : Wp d 91 (10, [some (.ref r0), some (.int x1), some (.int x2), some (.int (((x3 ^^^ ((x3.toUInt32 >>> (((Int8.ofInt 15).toInt32).toUInt32 &&& Int32.toUInt32 31)).toInt32)) + (am_A μ (am_F μ r0 5) (am_A μ (am_F μ r0 10) x4.toNatClampNeg).toNatClampNeg)) * (-2048144789 : Int32))), some (.int (x4 + Int32.ofInt 1)), none, none, none], [], μ) Q) :
    Wp d 91 (16, [some (.ref r0), some (.int x1), some (.int x2), some (.int x3), some (.int x4), none, none, none], [], μ) Q := wp_blk rfl e91_16 (And.intro h1 (And.intro h2 (And.intro h3 (And.intro h4 (And.intro h5 (And.intro h6 (And.intro h7 (And.intro h8 k))))))))
def q91_45 : List (Nat × Instr × Nat) := [(45, .iload_n 3, 1), (46, .iload_n 3, 1), (47, .bipush 13, 2), (49, .iushr, 1), (50, .ixor, 1), (51, .istore_n 3, 1), (52, .iload_n 3, 1), (53, .aload_n 0, 1), (54, .getfield 33, 3), (57, .arraylength, 1), (58, .iconst 1, 1), (59, .isub, 1), (60, .iand, 1), (61, .istore 4, 2), (63, .iconst 0, 1), (64, .istore 5, 2)]
theorem e91_45 : am_dec am_M91 q91_45 = true := by decide +kernel
theorem b91_45 {d : Nat} {Q : Option Value ⊕ Nat → am_Mem → Prop} {μ : am_Mem} {r0 : Nat} {x1 x2 x3 x4 : Int32}
    (h1 : am_kd μ r0 = (1, 8))
    (h2 : ¬ am_F μ r0 8 = 15)
    (h3 : 2 ≤ (am_kd μ (am_F μ r0 8)).1 ∧ (am_kd μ (am_F μ r0 8)).1 ≤ 10 ∧ ¬ (am_kd μ (am_F μ r0 8)).1 = 9)
    (k : Wp d 91 (66, [some (.ref r0), some (.int x1), some (.int x2), some (.int (x3 ^^^ ((x3.toUInt32 >>> (((Int8.ofInt 13).toInt32).toUInt32 &&& Int32.toUInt32 31)).toInt32))), some (.int ((x3 ^^^ ((x3.toUInt32 >>> (((Int8.ofInt 13).toInt32).toUInt32 &&& Int32.toUInt32 31)).toInt32)) &&& ((Int32.ofNat (am_kd μ (am_F μ r0 8)).2) - (Int32.ofInt 1)))), some (.int (Int32.ofInt 0)), none, none], [], μ) Q) :
    Wp d 91 (45, [some (.ref r0), some (.int x1), some (.int x2), some (.int x3), some (.int x4), none, none, none], [], μ) Q := wp_blk rfl e91_45 (And.intro h1 (And.intro h2 (And.intro h3 k)))
def q91_66 : List (Nat × Instr × Nat) := [(66, .iload 5, 2), (68, .aload_n 0, 1), (69, .getfield 33, 3), (72, .arraylength, 1), (73, .if_icmp .ge 123, 3)]
theorem e91_66 : am_dec am_M91 q91_66 = true := by decide +kernel
theorem b91_66 {d : Nat} {Q : Option Value ⊕ Nat → am_Mem → Prop} {μ : am_Mem} {r0 : Nat} {x1 x2 x3 x4 x5 : Int32} {o6 o7 : Option Value}
    (h1 : am_kd μ r0 = (1, 8))
    (h2 : ¬ am_F μ r0 8 = 15)
    (h3 : 2 ≤ (am_kd μ (am_F μ r0 8)).1 ∧ (am_kd μ (am_F μ r0 8)).1 ≤ 10 ∧ ¬ (am_kd μ (am_F μ r0 8)).1 = 9)
    (k1 : (Int32.ofNat (am_kd μ (am_F μ r0 8)).2) ≤ x5 → Wp d 91 (196, [some (.ref r0), some (.int x1), some (.int x2), some (.int x3), some (.int x4), some (.int x5), o6, o7], [], μ) Q) (k2 : ¬ ((Int32.ofNat (am_kd μ (am_F μ r0 8)).2) ≤ x5) → Wp d 91 (76, [some (.ref r0), some (.int x1), some (.int x2), some (.int x3), some (.int x4), some (.int x5), o6, o7], [], μ) Q) :
    Wp d 91 (66, [some (.ref r0), some (.int x1), some (.int x2), some (.int x3), some (.int x4), some (.int x5), o6, o7], [], μ) Q := wp_blk rfl e91_66 (And.intro h1 (And.intro h2 (And.intro h3 (And.intro k1 k2))))
def q91_76 : List (Nat × Instr × Nat) := [(76, .aload_n 0, 1), (77, .getfield 33, 3), (80, .iload 4, 2), (82, .iaload, 1), (83, .ifCond .eq 113, 3)]
theorem e91_76 : am_dec am_M91 q91_76 = true := by decide +kernel
theorem b91_76 {d : Nat} {Q : Option Value ⊕ Nat → am_Mem → Prop} {μ : am_Mem} {r0 : Nat} {x1 x2 x3 x4 x5 : Int32} {o6 o7 : Option Value}
    (h1 : am_kd μ r0 = (1, 8))
    (h2 : ¬ am_F μ r0 8 = 15)
    (h3 : (am_kd μ (am_F μ r0 8)).1 = 2 ∨ (am_kd μ (am_F μ r0 8)).1 = 8)
    (h4 : ¬ (x4 < 0 ∨ (am_kd μ (am_F μ r0 8)).2 ≤ x4.toNatClampNeg))
    (k1 : (am_A μ (am_F μ r0 8) x4.toNatClampNeg) = 0 → Wp d 91 (196, [some (.ref r0), some (.int x1), some (.int x2), some (.int x3), some (.int x4), some (.int x5), o6, o7], [], μ) Q) (k2 : ¬ ((am_A μ (am_F μ r0 8) x4.toNatClampNeg) = 0) → Wp d 91 (86, [some (.ref r0), some (.int x1), some (.int x2), some (.int x3), some (.int x4), some (.int x5), o6, o7], [], μ) Q) :
    Wp d 91 (76, [some (.ref r0), some (.int x1), some (.int x2), some (.int x3), some (.int x4), some (.int x5), o6, o7], [], μ) Q := wp_blk rfl e91_76 (And.intro h1 (And.intro h2 (And.intro h3 (And.intro h4 (And.intro k1 k2)))))
def q91_86 : List (Nat × Instr × Nat) := [(86, .aload_n 0, 1), (87, .getfield 33, 3), (90, .iload 4, 2), (92, .iaload, 1), (93, .iconst 1, 1), (94, .isub, 1), (95, .istore 6, 2), (97, .iconst 0, 1), (98, .istore 7, 2), (100, .aload_n 0, 1), (101, .getfield 24, 3), (104, .iload 6, 2), (106, .iaload, 1), (107, .iload_n 3, 1), (108, .if_icmp .ne 68, 3)]
theorem e91_86 : am_dec am_M91 q91_86 = true := by decide +kernel
theorem b91_86 {d : Nat} {Q : Option Value ⊕ Nat → am_Mem → Prop} {μ : am_Mem} {r0 : Nat} {x1 x2 x3 x4 x5 : Int32} {o6 o7 : Option Value}
    (h1 : am_kd μ r0 = (1, 8))
    (h2 : ¬ am_F μ r0 8 = 15)
    (h3 : (am_kd μ (am_F μ r0 8)).1 = 2 ∨ (am_kd μ (am_F μ r0 8)).1 = 8)
    (h4 : ¬ (x4 < 0 ∨ (am_kd μ (am_F μ r0 8)).2 ≤ x4.toNatClampNeg))
    (h5 : am_kd μ r0 = (1, 8))
    (h6 : ¬ am_F μ r0 5 = 15)
    (h7 : (am_kd μ (am_F μ r0 5)).1 = 2 ∨ (am_kd μ (am_F μ r0 5)).1 = 8)
    (h8 : ¬ (((am_A μ (am_F μ r0 8) x4.toNatClampNeg) - (Int32.ofInt 1)) < 0 ∨ (am_kd μ (am_F μ r0 5)).2 ≤ ((am_A μ (am_F μ r0 8) x4.toNatClampNeg) - (Int32.ofInt 1)).toNatClampNeg))
    (k1 : ¬ (am_A μ (am_F μ r0 5) ((am_A μ (am_F μ r0 8) x4.toNatClampNeg) - (Int32.ofInt 1)).toNatClampNeg) = x3 → Wp d 91 (176, [some (.ref r0), some (.int x1), some (.int x2), some (.int x3), some (.int x4), some (.int x5), some (.int ((am_A μ (am_F μ r0 8) x4.toNatClampNeg) - (Int32.ofInt 1))), some (.int (Int32.ofInt 0))], [], μ) Q) (k2 : ¬ (¬ (am_A μ (am_F μ r0 5) ((am_A μ (am_F μ r0 8) x4.toNatClampNeg) - (Int32.ofInt 1)).toNatClampNeg) = x3) → Wp d 91 (111, [some (.ref r0), some (.int x1), some (.int x2), some (.int x3), some (.int x4), some (.int x5), some (.int ((am_A μ (am_F μ r0 8) x4.toNatClampNeg) - (Int32.ofInt 1))), some (.int (Int32.ofInt 0))], [], μ) Q) :
    Wp d 91 (86, [some (.ref r0), some (.int x1), some (.int x2), some (.int x3), some (.int x4), some (.int x5), o6, o7], [], μ) Q := wp_blk rfl e91_86 (And.intro h1 (And.intro h2 (And.intro h3 (And.intro h4 (And.intro h5 (And.intro h6 (And.intro h7 (And.intro h8 (And.intro k1 k2)))))))))
def q91_111 : List (Nat × Instr × Nat) := [(111, .aload_n 0, 1), (112, .getfield 11, 3), (115, .iload 6, 2), (117, .iaload, 1), (118, .iload_n 1, 1), (119, .if_icmp .ne 57, 3)]
theorem e91_111 : am_dec am_M91 q91_111 = true := by decide +kernel
theorem b91_111 {d : Nat} {Q : Option Value ⊕ Nat → am_Mem → Prop} {μ : am_Mem} {r0 : Nat} {x1 x2 x3 x4 x5 x6 x7 : Int32}
    (h1 : am_kd μ r0 = (1, 8))
    (h2 : ¬ am_F μ r0 1 = 15)
    (h3 : (am_kd μ (am_F μ r0 1)).1 = 2 ∨ (am_kd μ (am_F μ r0 1)).1 = 8)
    (h4 : ¬ (x6 < 0 ∨ (am_kd μ (am_F μ r0 1)).2 ≤ x6.toNatClampNeg))
    (k1 : ¬ (am_A μ (am_F μ r0 1) x6.toNatClampNeg) = x1 → Wp d 91 (176, [some (.ref r0), some (.int x1), some (.int x2), some (.int x3), some (.int x4), some (.int x5), some (.int x6), some (.int x7)], [], μ) Q) (k2 : ¬ (¬ (am_A μ (am_F μ r0 1) x6.toNatClampNeg) = x1) → Wp d 91 (122, [some (.ref r0), some (.int x1), some (.int x2), some (.int x3), some (.int x4), some (.int x5), some (.int x6), some (.int x7)], [], μ) Q) :
    Wp d 91 (111, [some (.ref r0), some (.int x1), some (.int x2), some (.int x3), some (.int x4), some (.int x5), some (.int x6), some (.int x7)], [], μ) Q := wp_blk rfl e91_111 (And.intro h1 (And.intro h2 (And.intro h3 (And.intro h4 (And.intro k1 k2)))))
def q91_122 : List (Nat × Instr × Nat) := [(122, .aload_n 0, 1), (123, .getfield 15, 3), (126, .iload 6, 2), (128, .iaload, 1), (129, .iload_n 2, 1), (130, .if_icmp .ne 46, 3)]
theorem e91_122 : am_dec am_M91 q91_122 = true := by decide +kernel
theorem b91_122 {d : Nat} {Q : Option Value ⊕ Nat → am_Mem → Prop} {μ : am_Mem} {r0 : Nat} {x1 x2 x3 x4 x5 x6 x7 : Int32}
    (h1 : am_kd μ r0 = (1, 8))
    (h2 : ¬ am_F μ r0 2 = 15)
    (h3 : (am_kd μ (am_F μ r0 2)).1 = 2 ∨ (am_kd μ (am_F μ r0 2)).1 = 8)
    (h4 : ¬ (x6 < 0 ∨ (am_kd μ (am_F μ r0 2)).2 ≤ x6.toNatClampNeg))
    (k1 : ¬ (am_A μ (am_F μ r0 2) x6.toNatClampNeg) = x2 → Wp d 91 (176, [some (.ref r0), some (.int x1), some (.int x2), some (.int x3), some (.int x4), some (.int x5), some (.int x6), some (.int x7)], [], μ) Q) (k2 : ¬ (¬ (am_A μ (am_F μ r0 2) x6.toNatClampNeg) = x2) → Wp d 91 (133, [some (.ref r0), some (.int x1), some (.int x2), some (.int x3), some (.int x4), some (.int x5), some (.int x6), some (.int x7)], [], μ) Q) :
    Wp d 91 (122, [some (.ref r0), some (.int x1), some (.int x2), some (.int x3), some (.int x4), some (.int x5), some (.int x6), some (.int x7)], [], μ) Q := wp_blk rfl e91_122 (And.intro h1 (And.intro h2 (And.intro h3 (And.intro h4 (And.intro k1 k2)))))
def q91_133 : List (Nat × Instr × Nat) := [(133, .iload 7, 2), (135, .iload_n 2, 1), (136, .if_icmp .ge 31, 3)]
theorem e91_133 : am_dec am_M91 q91_133 = true := by decide +kernel
theorem b91_133 {d : Nat} {Q : Option Value ⊕ Nat → am_Mem → Prop} {μ : am_Mem} {r0 : Nat} {x1 x2 x3 x4 x5 x6 x7 : Int32}
    (k1 : x2 ≤ x7 → Wp d 91 (167, [some (.ref r0), some (.int x1), some (.int x2), some (.int x3), some (.int x4), some (.int x5), some (.int x6), some (.int x7)], [], μ) Q) (k2 : ¬ (x2 ≤ x7) → Wp d 91 (139, [some (.ref r0), some (.int x1), some (.int x2), some (.int x3), some (.int x4), some (.int x5), some (.int x6), some (.int x7)], [], μ) Q) :
    Wp d 91 (133, [some (.ref r0), some (.int x1), some (.int x2), some (.int x3), some (.int x4), some (.int x5), some (.int x6), some (.int x7)], [], μ) Q := wp_blk rfl e91_133 (And.intro k1 k2)
def q91_139 : List (Nat × Instr × Nat) := [(139, .aload_n 0, 1), (140, .getfield 18, 3), (143, .iconst 4, 1), (144, .iload 6, 2), (146, .imul, 1), (147, .iload 7, 2), (149, .iadd, 1), (150, .iaload, 1), (151, .aload_n 0, 1), (152, .getfield 40, 3), (155, .iload 7, 2), (157, .iaload, 1), (158, .if_icmp .ne 9, 3)]
theorem e91_139 : am_dec am_M91 q91_139 = true := by decide +kernel
theorem b91_139 {d : Nat} {Q : Option Value ⊕ Nat → am_Mem → Prop} {μ : am_Mem} {r0 : Nat} {x1 x2 x3 x4 x5 x6 x7 : Int32}
    (h1 : am_kd μ r0 = (1, 8))
    (h2 : ¬ am_F μ r0 3 = 15)
    (h3 : (am_kd μ (am_F μ r0 3)).1 = 2 ∨ (am_kd μ (am_F μ r0 3)).1 = 8)
    (h4 : ¬ ((((Int32.ofInt 4) * x6) + x7) < 0 ∨ (am_kd μ (am_F μ r0 3)).2 ≤ (((Int32.ofInt 4) * x6) + x7).toNatClampNeg))
    (h5 : am_kd μ r0 = (1, 8))
    (h6 : ¬ am_F μ r0 10 = 15)
    (h7 : (am_kd μ (am_F μ r0 10)).1 = 2 ∨ (am_kd μ (am_F μ r0 10)).1 = 8)
    (h8 : ¬ (x7 < 0 ∨ (am_kd μ (am_F μ r0 10)).2 ≤ x7.toNatClampNeg))
    (k1 : ¬ (am_A μ (am_F μ r0 3) (((Int32.ofInt 4) * x6) + x7).toNatClampNeg) = (am_A μ (am_F μ r0 10) x7.toNatClampNeg) → Wp d 91 (167, [some (.ref r0), some (.int x1), some (.int x2), some (.int x3), some (.int x4), some (.int x5), some (.int x6), some (.int x7)], [], μ) Q) (k2 : ¬ (¬ (am_A μ (am_F μ r0 3) (((Int32.ofInt 4) * x6) + x7).toNatClampNeg) = (am_A μ (am_F μ r0 10) x7.toNatClampNeg)) → Wp d 91 (161, [some (.ref r0), some (.int x1), some (.int x2), some (.int x3), some (.int x4), some (.int x5), some (.int x6), some (.int x7)], [], μ) Q) :
    Wp d 91 (139, [some (.ref r0), some (.int x1), some (.int x2), some (.int x3), some (.int x4), some (.int x5), some (.int x6), some (.int x7)], [], μ) Q := wp_blk rfl e91_139 (And.intro h1 (And.intro h2 (And.intro h3 (And.intro h4 (And.intro h5 (And.intro h6 (And.intro h7 (And.intro h8 (And.intro k1 k2)))))))))
def q91_161 : List (Nat × Instr × Nat) := [(161, .iinc 7 1, 3), (164, .goto (-31), 3)]
theorem e91_161 : am_dec am_M91 q91_161 = true := by decide +kernel
theorem b91_161 {d : Nat} {Q : Option Value ⊕ Nat → am_Mem → Prop} {μ : am_Mem} {r0 : Nat} {x1 x2 x3 x4 x5 x6 x7 : Int32}
    (k : Wp d 91 (133, [some (.ref r0), some (.int x1), some (.int x2), some (.int x3), some (.int x4), some (.int x5), some (.int x6), some (.int (x7 + Int32.ofInt 1))], [], μ) Q) :
    Wp d 91 (161, [some (.ref r0), some (.int x1), some (.int x2), some (.int x3), some (.int x4), some (.int x5), some (.int x6), some (.int x7)], [], μ) Q := wp_blk rfl e91_161 k
def q91_167 : List (Nat × Instr × Nat) := [(167, .iload 7, 2), (169, .iload_n 2, 1), (170, .if_icmp .ne 6, 3)]
theorem e91_167 : am_dec am_M91 q91_167 = true := by decide +kernel
theorem b91_167 {d : Nat} {Q : Option Value ⊕ Nat → am_Mem → Prop} {μ : am_Mem} {r0 : Nat} {x1 x2 x3 x4 x5 x6 x7 : Int32}
    (k1 : ¬ x7 = x2 → Wp d 91 (176, [some (.ref r0), some (.int x1), some (.int x2), some (.int x3), some (.int x4), some (.int x5), some (.int x6), some (.int x7)], [], μ) Q) (k2 : ¬ (¬ x7 = x2) → Wp d 91 (173, [some (.ref r0), some (.int x1), some (.int x2), some (.int x3), some (.int x4), some (.int x5), some (.int x6), some (.int x7)], [], μ) Q) :
    Wp d 91 (167, [some (.ref r0), some (.int x1), some (.int x2), some (.int x3), some (.int x4), some (.int x5), some (.int x6), some (.int x7)], [], μ) Q := wp_blk rfl e91_167 (And.intro k1 k2)
def q91_173 : List (Nat × Instr × Nat) := [(173, .iload 6, 2)]
theorem e91_173 : am_dec am_M91 q91_173 = true := by decide +kernel
theorem e91_173_r : am_dec am_M91 [(175, .ireturn, 1)] = true := by decide +kernel
theorem b91_173 {d : Nat} {Q : Option Value ⊕ Nat → am_Mem → Prop} {μ : am_Mem} {r0 : Nat} {x1 x2 x3 x4 x5 x6 x7 : Int32}
    (k : Q (.inl (some (.int x6))) μ) :
    Wp d 91 (173, [some (.ref r0), some (.int x1), some (.int x2), some (.int x3), some (.int x4), some (.int x5), some (.int x6), some (.int x7)], [], μ) Q := wp_blk rfl e91_173 (wp_ri (ty := .int) rfl e91_173_r rfl ⟨rfl, rfl⟩ k)
def q91_176 : List (Nat × Instr × Nat) := [(176, .iload 4, 2), (178, .iconst 1, 1), (179, .iadd, 1), (180, .aload_n 0, 1), (181, .getfield 33, 3), (184, .arraylength, 1), (185, .iconst 1, 1), (186, .isub, 1), (187, .iand, 1), (188, .istore 4, 2), (190, .iinc 5 1, 3), (193, .goto (-127), 3)]
theorem e91_176 : am_dec am_M91 q91_176 = true := by decide +kernel
theorem b91_176 {d : Nat} {Q : Option Value ⊕ Nat → am_Mem → Prop} {μ : am_Mem} {r0 : Nat} {x1 x2 x3 x4 x5 x6 x7 : Int32}
    (h1 : am_kd μ r0 = (1, 8))
    (h2 : ¬ am_F μ r0 8 = 15)
    (h3 : 2 ≤ (am_kd μ (am_F μ r0 8)).1 ∧ (am_kd μ (am_F μ r0 8)).1 ≤ 10 ∧ ¬ (am_kd μ (am_F μ r0 8)).1 = 9)
    (k : Wp d 91 (66, [some (.ref r0), some (.int x1), some (.int x2), some (.int x3), some (.int ((x4 + (Int32.ofInt 1)) &&& ((Int32.ofNat (am_kd μ (am_F μ r0 8)).2) - (Int32.ofInt 1)))), some (.int (x5 + Int32.ofInt 1)), some (.int x6), some (.int x7)], [], μ) Q) :
    Wp d 91 (176, [some (.ref r0), some (.int x1), some (.int x2), some (.int x3), some (.int x4), some (.int x5), some (.int x6), some (.int x7)], [], μ) Q := wp_blk rfl e91_176 (And.intro h1 (And.intro h2 (And.intro h3 k)))
def q91_196 : List (Nat × Instr × Nat) := [(196, .aload_n 0, 1), (197, .getfield 43, 3), (200, .getfield 72, 3), (203, .iload_n 1, 1), (204, .iconst 1, 1), (205, .iadd, 1), (206, .iaload, 1), (207, .aload_n 0, 1), (208, .getfield 43, 3), (211, .getfield 72, 3), (214, .iload_n 1, 1), (215, .iaload, 1), (216, .isub, 1), (217, .iload_n 2, 1), (218, .ifCond .ne 7, 3)]
theorem e91_196 : am_dec am_M91 q91_196 = true := by decide +kernel
theorem b91_196 {d : Nat} {Q : Option Value ⊕ Nat → am_Mem → Prop} {μ : am_Mem} {r0 : Nat} {x1 x2 x3 x4 x5 : Int32} {o6 o7 : Option Value}
    (h1 : am_kd μ r0 = (1, 8))
    (h2 : ¬ am_F μ r0 0 = 15)
    (h3 : am_kd μ (am_F μ r0 0) = (1, 3))
    (h4 : ¬ am_F μ (am_F μ r0 0) 2 = 15)
    (h5 : (am_kd μ (am_F μ (am_F μ r0 0) 2)).1 = 2 ∨ (am_kd μ (am_F μ (am_F μ r0 0) 2)).1 = 8)
    (h6 : ¬ ((x1 + (Int32.ofInt 1)) < 0 ∨ (am_kd μ (am_F μ (am_F μ r0 0) 2)).2 ≤ (x1 + (Int32.ofInt 1)).toNatClampNeg))
    (h7 : am_kd μ r0 = (1, 8))
    (h8 : ¬ am_F μ r0 0 = 15)
    (h9 : am_kd μ (am_F μ r0 0) = (1, 3))
    (h10 : ¬ am_F μ (am_F μ r0 0) 2 = 15)
    (h11 : (am_kd μ (am_F μ (am_F μ r0 0) 2)).1 = 2 ∨ (am_kd μ (am_F μ (am_F μ r0 0) 2)).1 = 8)
    (h12 : ¬ (x1 < 0 ∨ (am_kd μ (am_F μ (am_F μ r0 0) 2)).2 ≤ x1.toNatClampNeg))
    (k1 : ¬ x2 = 0 → Wp d 91 (225, [some (.ref r0), some (.int x1), some (.int x2), some (.int x3), some (.int x4), some (.int x5), o6, o7], [.int ((am_A μ (am_F μ (am_F μ r0 0) 2) (x1 + (Int32.ofInt 1)).toNatClampNeg) - (am_A μ (am_F μ (am_F μ r0 0) 2) x1.toNatClampNeg))], μ) Q) (k2 : ¬ (¬ x2 = 0) → Wp d 91 (221, [some (.ref r0), some (.int x1), some (.int x2), some (.int x3), some (.int x4), some (.int x5), o6, o7], [.int ((am_A μ (am_F μ (am_F μ r0 0) 2) (x1 + (Int32.ofInt 1)).toNatClampNeg) - (am_A μ (am_F μ (am_F μ r0 0) 2) x1.toNatClampNeg))], μ) Q) :
    Wp d 91 (196, [some (.ref r0), some (.int x1), some (.int x2), some (.int x3), some (.int x4), some (.int x5), o6, o7], [], μ) Q := wp_blk rfl e91_196 (And.intro h1 (And.intro h2 (And.intro h3 (And.intro h4 (And.intro h5 (And.intro h6 (And.intro h7 (And.intro h8 (And.intro h9 (And.intro h10 (And.intro h11 (And.intro h12 (And.intro k1 k2)))))))))))))
def q91_221 : List (Nat × Instr × Nat) := [(221, .iconst 0, 1), (222, .goto 6, 3)]
theorem e91_221 : am_dec am_M91 q91_221 = true := by decide +kernel
theorem b91_221 {d : Nat} {Q : Option Value ⊕ Nat → am_Mem → Prop} {μ : am_Mem} {r0 : Nat} {x1 x2 x3 x4 x5 s0 : Int32} {o6 o7 : Option Value}
    (k : Wp d 91 (228, [some (.ref r0), some (.int x1), some (.int x2), some (.int x3), some (.int x4), some (.int x5), o6, o7], [.int (Int32.ofInt 0), .int s0], μ) Q) :
    Wp d 91 (221, [some (.ref r0), some (.int x1), some (.int x2), some (.int x3), some (.int x4), some (.int x5), o6, o7], [.int s0], μ) Q := wp_blk rfl e91_221 k
def q91_225 : List (Nat × Instr × Nat) := [(225, .iconst 2, 1), (226, .iload_n 2, 1), (227, .iadd, 1)]
theorem e91_225 : am_dec am_M91 q91_225 = true := by decide +kernel
theorem b91_225 {d : Nat} {Q : Option Value ⊕ Nat → am_Mem → Prop} {μ : am_Mem} {r0 : Nat} {x1 x2 x3 x4 x5 s0 : Int32} {o6 o7 : Option Value}
    (k : Wp d 91 (228, [some (.ref r0), some (.int x1), some (.int x2), some (.int x3), some (.int x4), some (.int x5), o6, o7], [.int ((Int32.ofInt 2) + x2), .int s0], μ) Q) :
    Wp d 91 (225, [some (.ref r0), some (.int x1), some (.int x2), some (.int x3), some (.int x4), some (.int x5), o6, o7], [.int s0], μ) Q := wp_blk rfl e91_225 k
def q91_228 : List (Nat × Instr × Nat) := [(228, .iadd, 1), (229, .istore 5, 2), (231, .iconst 0, 1), (232, .istore 6, 2)]
theorem e91_228 : am_dec am_M91 q91_228 = true := by decide +kernel
theorem b91_228 {d : Nat} {Q : Option Value ⊕ Nat → am_Mem → Prop} {μ : am_Mem} {r0 : Nat} {x1 x2 x3 x4 x5 s0 s1 : Int32} {o6 o7 : Option Value}
    (k : Wp d 91 (234, [some (.ref r0), some (.int x1), some (.int x2), some (.int x3), some (.int x4), some (.int (s0 + s1)), some (.int (Int32.ofInt 0)), o7], [], μ) Q) :
    Wp d 91 (228, [some (.ref r0), some (.int x1), some (.int x2), some (.int x3), some (.int x4), some (.int x5), o6, o7], [.int s1, .int s0], μ) Q := wp_blk rfl e91_228 k
def q91_234 : List (Nat × Instr × Nat) := [(234, .iload 6, 2), (236, .iload_n 2, 1), (237, .if_icmp .ge 47, 3)]
theorem e91_234 : am_dec am_M91 q91_234 = true := by decide +kernel
theorem b91_234 {d : Nat} {Q : Option Value ⊕ Nat → am_Mem → Prop} {μ : am_Mem} {r0 : Nat} {x1 x2 x3 x4 x5 x6 : Int32} {o7 : Option Value}
    (k1 : x2 ≤ x6 → Wp d 91 (284, [some (.ref r0), some (.int x1), some (.int x2), some (.int x3), some (.int x4), some (.int x5), some (.int x6), o7], [], μ) Q) (k2 : ¬ (x2 ≤ x6) → Wp d 91 (240, [some (.ref r0), some (.int x1), some (.int x2), some (.int x3), some (.int x4), some (.int x5), some (.int x6), o7], [], μ) Q) :
    Wp d 91 (234, [some (.ref r0), some (.int x1), some (.int x2), some (.int x3), some (.int x4), some (.int x5), some (.int x6), o7], [], μ) Q := wp_blk rfl e91_234 (And.intro k1 k2)
def q91_240 : List (Nat × Instr × Nat) := [(240, .aload_n 0, 1), (241, .getfield 18, 3), (244, .iconst 4, 1), (245, .aload_n 0, 1), (246, .getfield 36, 3), (249, .imul, 1), (250, .iload 6, 2), (252, .iadd, 1), (253, .aload_n 0, 1), (254, .getfield 40, 3), (257, .iload 6, 2), (259, .iaload, 1), (260, .iastore, 1), (261, .iload 5, 2), (263, .aload_n 0, 1), (264, .getfield 21, 3), (267, .aload_n 0, 1), (268, .getfield 40, 3), (271, .iload 6, 2), (273, .iaload, 1), (274, .iaload, 1)]
theorem e91_240 : am_dec am_M91 q91_240 = true := by decide +kernel
theorem b91_240 {d : Nat} {Q : Option Value ⊕ Nat → am_Mem → Prop} {μ : am_Mem} {r0 : Nat} {x1 x2 x3 x4 x5 x6 : Int32} {o7 : Option Value}
    (h1 : am_kd μ r0 = (1, 8))
    (h2 : ¬ am_F μ r0 3 = 15)
    (h3 : am_kd μ r0 = (1, 8))
    (h4 : am_kd μ r0 = (1, 8))
    (h5 : ¬ am_F μ r0 10 = 15)
    (h6 : (am_kd μ (am_F μ r0 10)).1 = 2 ∨ (am_kd μ (am_F μ r0 10)).1 = 8)
    (h7 : ¬ (x6 < 0 ∨ (am_kd μ (am_F μ r0 10)).2 ≤ x6.toNatClampNeg))
    (h8 : (am_kd μ (am_F μ r0 3)).1 = 2)
    (h9 : ¬ ((((Int32.ofInt 4) * (am_A μ r0 9)) + x6) < 0 ∨ (am_kd μ (am_F μ r0 3)).2 ≤ (((Int32.ofInt 4) * (am_A μ r0 9)) + x6).toNatClampNeg))
    (h10 : am_kd (am_pA μ (am_F μ r0 3) (((Int32.ofInt 4) * (am_A μ r0 9)) + x6).toNatClampNeg (am_A μ (am_F μ r0 10) x6.toNatClampNeg)) r0 = (1, 8))
    (h11 : ¬ am_F (am_pA μ (am_F μ r0 3) (((Int32.ofInt 4) * (am_A μ r0 9)) + x6).toNatClampNeg (am_A μ (am_F μ r0 10) x6.toNatClampNeg)) r0 4 = 15)
    (h12 : am_kd (am_pA μ (am_F μ r0 3) (((Int32.ofInt 4) * (am_A μ r0 9)) + x6).toNatClampNeg (am_A μ (am_F μ r0 10) x6.toNatClampNeg)) r0 = (1, 8))
    (h13 : ¬ am_F (am_pA μ (am_F μ r0 3) (((Int32.ofInt 4) * (am_A μ r0 9)) + x6).toNatClampNeg (am_A μ (am_F μ r0 10) x6.toNatClampNeg)) r0 10 = 15)
    (h14 : (am_kd (am_pA μ (am_F μ r0 3) (((Int32.ofInt 4) * (am_A μ r0 9)) + x6).toNatClampNeg (am_A μ (am_F μ r0 10) x6.toNatClampNeg)) (am_F (am_pA μ (am_F μ r0 3) (((Int32.ofInt 4) * (am_A μ r0 9)) + x6).toNatClampNeg (am_A μ (am_F μ r0 10) x6.toNatClampNeg)) r0 10)).1 = 2 ∨ (am_kd (am_pA μ (am_F μ r0 3) (((Int32.ofInt 4) * (am_A μ r0 9)) + x6).toNatClampNeg (am_A μ (am_F μ r0 10) x6.toNatClampNeg)) (am_F (am_pA μ (am_F μ r0 3) (((Int32.ofInt 4) * (am_A μ r0 9)) + x6).toNatClampNeg (am_A μ (am_F μ r0 10) x6.toNatClampNeg)) r0 10)).1 = 8)
    (h15 : ¬ (x6 < 0 ∨ (am_kd (am_pA μ (am_F μ r0 3) (((Int32.ofInt 4) * (am_A μ r0 9)) + x6).toNatClampNeg (am_A μ (am_F μ r0 10) x6.toNatClampNeg)) (am_F (am_pA μ (am_F μ r0 3) (((Int32.ofInt 4) * (am_A μ r0 9)) + x6).toNatClampNeg (am_A μ (am_F μ r0 10) x6.toNatClampNeg)) r0 10)).2 ≤ x6.toNatClampNeg))
    (h16 : (am_kd (am_pA μ (am_F μ r0 3) (((Int32.ofInt 4) * (am_A μ r0 9)) + x6).toNatClampNeg (am_A μ (am_F μ r0 10) x6.toNatClampNeg)) (am_F (am_pA μ (am_F μ r0 3) (((Int32.ofInt 4) * (am_A μ r0 9)) + x6).toNatClampNeg (am_A μ (am_F μ r0 10) x6.toNatClampNeg)) r0 4)).1 = 2 ∨ (am_kd (am_pA μ (am_F μ r0 3) (((Int32.ofInt 4) * (am_A μ r0 9)) + x6).toNatClampNeg (am_A μ (am_F μ r0 10) x6.toNatClampNeg)) (am_F (am_pA μ (am_F μ r0 3) (((Int32.ofInt 4) * (am_A μ r0 9)) + x6).toNatClampNeg (am_A μ (am_F μ r0 10) x6.toNatClampNeg)) r0 4)).1 = 8)
    (h17 : ¬ ((am_A (am_pA μ (am_F μ r0 3) (((Int32.ofInt 4) * (am_A μ r0 9)) + x6).toNatClampNeg (am_A μ (am_F μ r0 10) x6.toNatClampNeg)) (am_F (am_pA μ (am_F μ r0 3) (((Int32.ofInt 4) * (am_A μ r0 9)) + x6).toNatClampNeg (am_A μ (am_F μ r0 10) x6.toNatClampNeg)) r0 10) x6.toNatClampNeg) < 0 ∨ (am_kd (am_pA μ (am_F μ r0 3) (((Int32.ofInt 4) * (am_A μ r0 9)) + x6).toNatClampNeg (am_A μ (am_F μ r0 10) x6.toNatClampNeg)) (am_F (am_pA μ (am_F μ r0 3) (((Int32.ofInt 4) * (am_A μ r0 9)) + x6).toNatClampNeg (am_A μ (am_F μ r0 10) x6.toNatClampNeg)) r0 4)).2 ≤ (am_A (am_pA μ (am_F μ r0 3) (((Int32.ofInt 4) * (am_A μ r0 9)) + x6).toNatClampNeg (am_A μ (am_F μ r0 10) x6.toNatClampNeg)) (am_F (am_pA μ (am_F μ r0 3) (((Int32.ofInt 4) * (am_A μ r0 9)) + x6).toNatClampNeg (am_A μ (am_F μ r0 10) x6.toNatClampNeg)) r0 10) x6.toNatClampNeg).toNatClampNeg))
    (k : Wp d 91 (275, [some (.ref r0), some (.int x1), some (.int x2), some (.int x3), some (.int x4), some (.int x5), some (.int x6), o7], [.int (am_A (am_pA μ (am_F μ r0 3) (((Int32.ofInt 4) * (am_A μ r0 9)) + x6).toNatClampNeg (am_A μ (am_F μ r0 10) x6.toNatClampNeg)) (am_F (am_pA μ (am_F μ r0 3) (((Int32.ofInt 4) * (am_A μ r0 9)) + x6).toNatClampNeg (am_A μ (am_F μ r0 10) x6.toNatClampNeg)) r0 4) (am_A (am_pA μ (am_F μ r0 3) (((Int32.ofInt 4) * (am_A μ r0 9)) + x6).toNatClampNeg (am_A μ (am_F μ r0 10) x6.toNatClampNeg)) (am_F (am_pA μ (am_F μ r0 3) (((Int32.ofInt 4) * (am_A μ r0 9)) + x6).toNatClampNeg (am_A μ (am_F μ r0 10) x6.toNatClampNeg)) r0 10) x6.toNatClampNeg).toNatClampNeg), .int x5], (am_pA μ (am_F μ r0 3) (((Int32.ofInt 4) * (am_A μ r0 9)) + x6).toNatClampNeg (am_A μ (am_F μ r0 10) x6.toNatClampNeg))) Q) :
    Wp d 91 (240, [some (.ref r0), some (.int x1), some (.int x2), some (.int x3), some (.int x4), some (.int x5), some (.int x6), o7], [], μ) Q := wp_blk rfl e91_240 (And.intro h1 (And.intro h2 (And.intro h3 (And.intro h4 (And.intro h5 (And.intro h6 (And.intro h7 (And.intro h8 (And.intro h9 (And.intro h10 (And.intro h11 (And.intro h12 (And.intro h13 (And.intro h14 (And.intro h15 (And.intro h16 (And.intro h17 k)))))))))))))))))
def q91_275 : List (Nat × Instr × Nat) := [(275, .iadd, 1), (276, .istore 5, 2), (278, .iinc 6 1, 3), (281, .goto (-47), 3)]
theorem e91_275 : am_dec am_M91 q91_275 = true := by decide +kernel
theorem b91_275 {d : Nat} {Q : Option Value ⊕ Nat → am_Mem → Prop} {μ : am_Mem} {r0 : Nat} {x1 x2 x3 x4 x5 x6 s0 s1 : Int32} {o7 : Option Value}
    (k : Wp d 91 (234, [some (.ref r0), some (.int x1), some (.int x2), some (.int x3), some (.int x4), some (.int (s0 + s1)), some (.int (x6 + Int32.ofInt 1)), o7], [], μ) Q) :
    Wp d 91 (275, [some (.ref r0), some (.int x1), some (.int x2), some (.int x3), some (.int x4), some (.int x5), some (.int x6), o7], [.int s1, .int s0], μ) Q := wp_blk rfl e91_275 k
def q91_284 : List (Nat × Instr × Nat) := [(284, .aload_n 0, 1), (285, .getfield 11, 3), (288, .aload_n 0, 1), (289, .getfield 36, 3), (292, .iload_n 1, 1), (293, .iastore, 1), (294, .aload_n 0, 1), (295, .getfield 15, 3), (298, .aload_n 0, 1), (299, .getfield 36, 3), (302, .iload_n 2, 1), (303, .iastore, 1)]
theorem e91_284 : am_dec am_M91 q91_284 = true := by decide +kernel
theorem b91_284 {d : Nat} {Q : Option Value ⊕ Nat → am_Mem → Prop} {μ : am_Mem} {r0 : Nat} {x1 x2 x3 x4 x5 x6 : Int32} {o7 : Option Value}
    (h1 : am_kd μ r0 = (1, 8))
    (h2 : ¬ am_F μ r0 1 = 15)
    (h3 : am_kd μ r0 = (1, 8))
    (h4 : (am_kd μ (am_F μ r0 1)).1 = 2)
    (h5 : ¬ ((am_A μ r0 9) < 0 ∨ (am_kd μ (am_F μ r0 1)).2 ≤ (am_A μ r0 9).toNatClampNeg))
    (h6 : am_kd (am_pA μ (am_F μ r0 1) (am_A μ r0 9).toNatClampNeg x1) r0 = (1, 8))
    (h7 : ¬ am_F (am_pA μ (am_F μ r0 1) (am_A μ r0 9).toNatClampNeg x1) r0 2 = 15)
    (h8 : am_kd (am_pA μ (am_F μ r0 1) (am_A μ r0 9).toNatClampNeg x1) r0 = (1, 8))
    (h9 : (am_kd (am_pA μ (am_F μ r0 1) (am_A μ r0 9).toNatClampNeg x1) (am_F (am_pA μ (am_F μ r0 1) (am_A μ r0 9).toNatClampNeg x1) r0 2)).1 = 2)
    (h10 : ¬ ((am_A (am_pA μ (am_F μ r0 1) (am_A μ r0 9).toNatClampNeg x1) r0 9) < 0 ∨ (am_kd (am_pA μ (am_F μ r0 1) (am_A μ r0 9).toNatClampNeg x1) (am_F (am_pA μ (am_F μ r0 1) (am_A μ r0 9).toNatClampNeg x1) r0 2)).2 ≤ (am_A (am_pA μ (am_F μ r0 1) (am_A μ r0 9).toNatClampNeg x1) r0 9).toNatClampNeg))
    (k : Wp d 91 (304, [some (.ref r0), some (.int x1), some (.int x2), some (.int x3), some (.int x4), some (.int x5), some (.int x6), o7], [], (am_pA (am_pA μ (am_F μ r0 1) (am_A μ r0 9).toNatClampNeg x1) (am_F (am_pA μ (am_F μ r0 1) (am_A μ r0 9).toNatClampNeg x1) r0 2) (am_A (am_pA μ (am_F μ r0 1) (am_A μ r0 9).toNatClampNeg x1) r0 9).toNatClampNeg x2)) Q) :
    Wp d 91 (284, [some (.ref r0), some (.int x1), some (.int x2), some (.int x3), some (.int x4), some (.int x5), some (.int x6), o7], [], μ) Q := wp_blk rfl e91_284 (And.intro h1 (And.intro h2 (And.intro h3 (And.intro h4 (And.intro h5 (And.intro h6 (And.intro h7 (And.intro h8 (And.intro h9 (And.intro h10 k))))))))))
def q91_304 : List (Nat × Instr × Nat) := [(304, .aload_n 0, 1), (305, .getfield 21, 3), (308, .aload_n 0, 1), (309, .getfield 36, 3), (312, .iload 5, 2), (314, .iastore, 1), (315, .aload_n 0, 1), (316, .getfield 24, 3), (319, .aload_n 0, 1), (320, .getfield 36, 3), (323, .iload_n 3, 1), (324, .iastore, 1)]
theorem e91_304 : am_dec am_M91 q91_304 = true := by decide +kernel
theorem b91_304 {d : Nat} {Q : Option Value ⊕ Nat → am_Mem → Prop} {μ : am_Mem} {r0 : Nat} {x1 x2 x3 x4 x5 x6 : Int32} {o7 : Option Value}
    (h1 : am_kd μ r0 = (1, 8))
    (h2 : ¬ am_F μ r0 4 = 15)
    (h3 : am_kd μ r0 = (1, 8))
    (h4 : (am_kd μ (am_F μ r0 4)).1 = 2)
    (h5 : ¬ ((am_A μ r0 9) < 0 ∨ (am_kd μ (am_F μ r0 4)).2 ≤ (am_A μ r0 9).toNatClampNeg))
    (h6 : am_kd (am_pA μ (am_F μ r0 4) (am_A μ r0 9).toNatClampNeg x5) r0 = (1, 8))
    (h7 : ¬ am_F (am_pA μ (am_F μ r0 4) (am_A μ r0 9).toNatClampNeg x5) r0 5 = 15)
    (h8 : am_kd (am_pA μ (am_F μ r0 4) (am_A μ r0 9).toNatClampNeg x5) r0 = (1, 8))
    (h9 : (am_kd (am_pA μ (am_F μ r0 4) (am_A μ r0 9).toNatClampNeg x5) (am_F (am_pA μ (am_F μ r0 4) (am_A μ r0 9).toNatClampNeg x5) r0 5)).1 = 2)
    (h10 : ¬ ((am_A (am_pA μ (am_F μ r0 4) (am_A μ r0 9).toNatClampNeg x5) r0 9) < 0 ∨ (am_kd (am_pA μ (am_F μ r0 4) (am_A μ r0 9).toNatClampNeg x5) (am_F (am_pA μ (am_F μ r0 4) (am_A μ r0 9).toNatClampNeg x5) r0 5)).2 ≤ (am_A (am_pA μ (am_F μ r0 4) (am_A μ r0 9).toNatClampNeg x5) r0 9).toNatClampNeg))
    (k : Wp d 91 (325, [some (.ref r0), some (.int x1), some (.int x2), some (.int x3), some (.int x4), some (.int x5), some (.int x6), o7], [], (am_pA (am_pA μ (am_F μ r0 4) (am_A μ r0 9).toNatClampNeg x5) (am_F (am_pA μ (am_F μ r0 4) (am_A μ r0 9).toNatClampNeg x5) r0 5) (am_A (am_pA μ (am_F μ r0 4) (am_A μ r0 9).toNatClampNeg x5) r0 9).toNatClampNeg x3)) Q) :
    Wp d 91 (304, [some (.ref r0), some (.int x1), some (.int x2), some (.int x3), some (.int x4), some (.int x5), some (.int x6), o7], [], μ) Q := wp_blk rfl e91_304 (And.intro h1 (And.intro h2 (And.intro h3 (And.intro h4 (And.intro h5 (And.intro h6 (And.intro h7 (And.intro h8 (And.intro h9 (And.intro h10 k))))))))))
def q91_325 : List (Nat × Instr × Nat) := [(325, .aload_n 0, 1), (326, .getfield 27, 3), (329, .aload_n 0, 1), (330, .getfield 36, 3), (333, .iload 4, 2), (335, .iastore, 1), (336, .aload_n 0, 1), (337, .dup, 1), (338, .getfield 36, 3), (341, .iconst 1, 1), (342, .iadd, 1), (343, .putfield 36, 3)]
theorem e91_325 : am_dec am_M91 q91_325 = true := by decide +kernel
theorem b91_325 {d : Nat} {Q : Option Value ⊕ Nat → am_Mem → Prop} {μ : am_Mem} {r0 : Nat} {x1 x2 x3 x4 x5 x6 : Int32} {o7 : Option Value}
    (h1 : am_kd μ r0 = (1, 8))
    (h2 : ¬ am_F μ r0 6 = 15)
    (h3 : am_kd μ r0 = (1, 8))
    (h4 : (am_kd μ (am_F μ r0 6)).1 = 2)
    (h5 : ¬ ((am_A μ r0 9) < 0 ∨ (am_kd μ (am_F μ r0 6)).2 ≤ (am_A μ r0 9).toNatClampNeg))
    (h6 : am_kd (am_pA μ (am_F μ r0 6) (am_A μ r0 9).toNatClampNeg x4) r0 = (1, 8))
    (h7 : am_kd (am_pA μ (am_F μ r0 6) (am_A μ r0 9).toNatClampNeg x4) r0 = (1, 8))
    (k : Wp d 91 (346, [some (.ref r0), some (.int x1), some (.int x2), some (.int x3), some (.int x4), some (.int x5), some (.int x6), o7], [], (am_pA (am_pA μ (am_F μ r0 6) (am_A μ r0 9).toNatClampNeg x4) r0 9 ((am_A (am_pA μ (am_F μ r0 6) (am_A μ r0 9).toNatClampNeg x4) r0 9) + (Int32.ofInt 1)))) Q) :
    Wp d 91 (325, [some (.ref r0), some (.int x1), some (.int x2), some (.int x3), some (.int x4), some (.int x5), some (.int x6), o7], [], μ) Q := wp_blk rfl e91_325 (And.intro h1 (And.intro h2 (And.intro h3 (And.intro h4 (And.intro h5 (And.intro h6 (And.intro h7 (And.intro ⟨rfl, rfl⟩ k))))))))
def q91_346 : List (Nat × Instr × Nat) := [(346, .aload_n 0, 1), (347, .getfield 33, 3), (350, .iload 4, 2), (352, .aload_n 0, 1), (353, .getfield 36, 3), (356, .iastore, 1), (357, .aload_n 0, 1), (358, .getfield 36, 3), (361, .iconst 1, 1), (362, .isub, 1)]
theorem e91_346 : am_dec am_M91 q91_346 = true := by decide +kernel
theorem e91_346_r : am_dec am_M91 [(363, .ireturn, 1)] = true := by decide +kernel
theorem b91_346 {d : Nat} {Q : Option Value ⊕ Nat → am_Mem → Prop} {μ : am_Mem} {r0 : Nat} {x1 x2 x3 x4 x5 x6 : Int32} {o7 : Option Value}
    (h1 : am_kd μ r0 = (1, 8))
    (h2 : ¬ am_F μ r0 8 = 15)
    (h3 : am_kd μ r0 = (1, 8))
    (h4 : (am_kd μ (am_F μ r0 8)).1 = 2)
    (h5 : ¬ (x4 < 0 ∨ (am_kd μ (am_F μ r0 8)).2 ≤ x4.toNatClampNeg))
    (h6 : am_kd (am_pA μ (am_F μ r0 8) x4.toNatClampNeg (am_A μ r0 9)) r0 = (1, 8))
    (k : Q (.inl (some (.int ((am_A (am_pA μ (am_F μ r0 8) x4.toNatClampNeg (am_A μ r0 9)) r0 9) - (Int32.ofInt 1))))) (am_pA μ (am_F μ r0 8) x4.toNatClampNeg (am_A μ r0 9))) :
    Wp d 91 (346, [some (.ref r0), some (.int x1), some (.int x2), some (.int x3), some (.int x4), some (.int x5), some (.int x6), o7], [], μ) Q := wp_blk rfl e91_346 (And.intro h1 (And.intro h2 (And.intro h3 (And.intro h4 (And.intro h5 (And.intro h6 (wp_ri (ty := .int) rfl e91_346_r rfl ⟨rfl, rfl⟩ k)))))))
/-! RuleSheets$Terms.reserve(I)V -/
def q92_0 : List (Nat × Instr × Nat) := [(0, .aload_n 0, 1), (1, .getfield 36, 3), (4, .iload_n 1, 1), (5, .iadd, 1), (6, .aload_n 0, 1), (7, .getfield 11, 3), (10, .arraylength, 1), (11, .if_icmp .le 17, 3)]
theorem e92_0 : am_dec am_M92 q92_0 = true := by decide +kernel
theorem b92_0 {d : Nat} {Q : Option Value ⊕ Nat → am_Mem → Prop} {μ : am_Mem} {r0 : Nat} {x1 : Int32}
    (h1 : am_kd μ r0 = (1, 8))
    (h2 : am_kd μ r0 = (1, 8))
    (h3 : ¬ am_F μ r0 1 = 15)
    (h4 : 2 ≤ (am_kd μ (am_F μ r0 1)).1 ∧ (am_kd μ (am_F μ r0 1)).1 ≤ 10 ∧ ¬ (am_kd μ (am_F μ r0 1)).1 = 9)
    (k1 : ((am_A μ r0 9) + x1) ≤ (Int32.ofNat (am_kd μ (am_F μ r0 1)).2) → Wp d 92 (28, [some (.ref r0), some (.int x1)], [], μ) Q) (k2 : ¬ (((am_A μ r0 9) + x1) ≤ (Int32.ofNat (am_kd μ (am_F μ r0 1)).2)) → Wp d 92 (14, [some (.ref r0), some (.int x1)], [], μ) Q) :
    Wp d 92 (0, [some (.ref r0), some (.int x1)], [], μ) Q := wp_blk rfl e92_0 (And.intro h1 (And.intro h2 (And.intro h3 (And.intro h4 (And.intro k1 k2)))))
def q92_14 : List (Nat × Instr × Nat) := [(14, .aload_n 0, 1), (15, .getfield 11, 3), (18, .arraylength, 1), (19, .ldc 51, 2), (21, .if_icmp .ge 7, 3)]
theorem e92_14 : am_dec am_M92 q92_14 = true := by decide +kernel
theorem b92_14 {d : Nat} {Q : Option Value ⊕ Nat → am_Mem → Prop} {μ : am_Mem} {r0 : Nat} {x1 : Int32}
    (h1 : am_kd μ r0 = (1, 8))
    (h2 : ¬ am_F μ r0 1 = 15)
    (h3 : 2 ≤ (am_kd μ (am_F μ r0 1)).1 ∧ (am_kd μ (am_F μ r0 1)).1 ≤ 10 ∧ ¬ (am_kd μ (am_F μ r0 1)).1 = 9)
    (k1 : (58192 : Int32) ≤ (Int32.ofNat (am_kd μ (am_F μ r0 1)).2) → Wp d 92 (28, [some (.ref r0), some (.int x1)], [], μ) Q) (k2 : ¬ ((58192 : Int32) ≤ (Int32.ofNat (am_kd μ (am_F μ r0 1)).2)) → Wp d 92 (24, [some (.ref r0), some (.int x1)], [], μ) Q) :
    Wp d 92 (14, [some (.ref r0), some (.int x1)], [], μ) Q := wp_blk rfl e92_14 (And.intro h1 (And.intro h2 (And.intro h3 (And.intro k1 k2))))
def q92_24 : List (Nat × Instr × Nat) := [(24, .aload_n 0, 1)]
theorem e92_24 : am_dec am_M92 q92_24 = true := by decide +kernel
theorem e92_24_c : am_dc1 am_M92 25 (.invokevirtual 52) 3 = true := by decide +kernel
theorem b92_24 {d : Nat} {Q : Option Value ⊕ Nat → am_Mem → Prop} {μ : am_Mem} {r0 : Nat} {x1 : Int32} {P : am_Mem → Prop} {X : Nat → am_Mem → Prop}
    (hk : am_kd μ r0 = (1, 8))
    (hc : Wp d 93 (0, [some (.ref r0), none, none, none], [], μ) (pV P X)) (hr : ∀ μ', P μ' → Wp (d + 1) 92 (28, [some (.ref r0), some (.int x1)], [], (μ')) Q)
    (hx : ∀ x μ', X x μ' → Q (.inr x) μ') :
    Wp (d + 1) 92 (24, [some (.ref r0), some (.int x1)], [], μ) Q := wp_blk rfl e92_24 (wp_cv (as := []) rfl e92_24_c rfl rfl rfl rfl rfl hk hc (fun v μ' hv => by obtain ⟨rfl, hp⟩ := pV_r hv; exact hr μ' hp) hx)
def q92_28 : List (Nat × Instr × Nat) := [(28, .aload_n 0, 1), (29, .getfield 36, 3), (32, .iload_n 1, 1), (33, .iadd, 1), (34, .aload_n 0, 1), (35, .getfield 11, 3), (38, .arraylength, 1), (39, .if_icmp .le 13, 3)]
theorem e92_28 : am_dec am_M92 q92_28 = true := by decide +kernel
theorem b92_28 {d : Nat} {Q : Option Value ⊕ Nat → am_Mem → Prop} {μ : am_Mem} {r0 : Nat} {x1 : Int32}
    (h1 : am_kd μ r0 = (1, 8))
    (h2 : am_kd μ r0 = (1, 8))
    (h3 : ¬ am_F μ r0 1 = 15)
    (h4 : 2 ≤ (am_kd μ (am_F μ r0 1)).1 ∧ (am_kd μ (am_F μ r0 1)).1 ≤ 10 ∧ ¬ (am_kd μ (am_F μ r0 1)).1 = 9)
    (k1 : ((am_A μ r0 9) + x1) ≤ (Int32.ofNat (am_kd μ (am_F μ r0 1)).2) → Wp d 92 (52, [some (.ref r0), some (.int x1)], [], μ) Q) (k2 : ¬ (((am_A μ r0 9) + x1) ≤ (Int32.ofNat (am_kd μ (am_F μ r0 1)).2)) → Wp d 92 (42, [some (.ref r0), some (.int x1)], [], μ) Q) :
    Wp d 92 (28, [some (.ref r0), some (.int x1)], [], μ) Q := wp_blk rfl e92_28 (And.intro h1 (And.intro h2 (And.intro h3 (And.intro h4 (And.intro k1 k2)))))
theorem e92_42_t : am_dc1 am_M92 42 (.new 55) 3 = true ∧ am_throw GG 8 92 42 (.new 55) = some 3 := by decide +kernel
theorem b92_42 {d : Nat} {Q : Option Value ⊕ Nat → am_Mem → Prop} {μ : am_Mem} {r0 : Nat} {x1 : Int32}
    (k : Q (.inr 3) (am_nX μ)) :
    Wp d 92 (42, [some (.ref r0), some (.int x1)], [], μ) Q := (wp_throw rfl e92_42_t.1 ⟨_, rfl⟩ rfl e92_42_t.2 rfl k)
theorem e92_52_r : am_dec am_M92 [(52, .return_, 1)] = true := by decide +kernel
theorem b92_52 {d : Nat} {Q : Option Value ⊕ Nat → am_Mem → Prop} {μ : am_Mem} {r0 : Nat} {x1 : Int32}
    (k : Q (.inl none) μ) :
    Wp d 92 (52, [some (.ref r0), some (.int x1)], [], μ) Q := (wp_rv rfl e92_52_r rfl k)
/-! RuleSheets$Terms.grow()V -/
def q93_0 : List (Nat × Instr × Nat) := [(0, .aload_n 0, 1), (1, .aload_n 0, 1), (2, .getfield 11, 3), (5, .ldc 51, 2)]
theorem e93_0 : am_dec am_M93 q93_0 = true := by decide +kernel
theorem e93_0_c : am_dc1 am_M93 7 (.invokestatic 62) 3 = true := by decide +kernel
theorem b93_0 {d : Nat} {Q : Option Value ⊕ Nat → am_Mem → Prop} {μ : am_Mem} {r0 : Nat} {P : Nat → am_Mem → Prop} {X : Nat → am_Mem → Prop}
    (h1 : am_kd μ r0 = (1, 8))
    (h2 : ¬ am_F μ r0 1 = 15)
    (hc : Wp d 292 (0, [some (.ref (am_F μ r0 1)), some (.int (58192 : Int32)), none], [], μ) (pR P X)) (hr : ∀ x μ', P x μ' → Wp (d + 1) 93 (10, [some (.ref r0), none, none, none], [.ref x, .ref r0], (μ')) Q)
    (hx : ∀ x μ', X x μ' → Q (.inr x) μ') :
    Wp (d + 1) 93 (0, [some (.ref r0), none, none, none], [], μ) Q := wp_blk rfl e93_0 (And.intro h1 (And.intro h2 (wp_cs (vs := [.ref (am_F μ r0 1), .int (58192 : Int32)]) rfl e93_0_c rfl rfl rfl rfl rfl hc (fun v μ' hv => by obtain ⟨x, rfl, hp⟩ := pR_r hv; exact hr x μ' hp) hx)))
def q93_10 : List (Nat × Instr × Nat) := [(10, .putfield 11, 3), (13, .aload_n 0, 1), (14, .aload_n 0, 1), (15, .getfield 15, 3), (18, .ldc 51, 2)]
theorem e93_10 : am_dec am_M93 q93_10 = true := by decide +kernel
theorem e93_10_c : am_dc1 am_M93 20 (.invokestatic 62) 3 = true := by decide +kernel
theorem b93_10 {d : Nat} {Q : Option Value ⊕ Nat → am_Mem → Prop} {μ : am_Mem} {r0 r90 r91 : Nat} {P : Nat → am_Mem → Prop} {X : Nat → am_Mem → Prop}
    (h1 : am_kd μ r90 = (1, 8))
    (h2 : ¬ r91 = 15)
    (h3 : am_kd (am_pR μ r90 1 r91) r0 = (1, 8))
    (h4 : ¬ am_F (am_pR μ r90 1 r91) r0 2 = 15)
    (hc : Wp d 292 (0, [some (.ref (am_F (am_pR μ r90 1 r91) r0 2)), some (.int (58192 : Int32)), none], [], (am_pR μ r90 1 r91)) (pR P X)) (hr : ∀ x μ', P x μ' → Wp (d + 1) 93 (23, [some (.ref r0), none, none, none], [.ref x, .ref r0], (μ')) Q)
    (hx : ∀ x μ', X x μ' → Q (.inr x) μ') :
    Wp (d + 1) 93 (10, [some (.ref r0), none, none, none], [.ref r91, .ref r90], μ) Q := wp_blk rfl e93_10 (And.intro h1 (And.intro h2 (And.intro h3 (And.intro h4 (wp_cs (vs := [.ref (am_F (am_pR μ r90 1 r91) r0 2), .int (58192 : Int32)]) rfl e93_10_c rfl rfl rfl rfl rfl hc (fun v μ' hv => by obtain ⟨x, rfl, hp⟩ := pR_r hv; exact hr x μ' hp) hx)))))
def q93_23 : List (Nat × Instr × Nat) := [(23, .putfield 15, 3), (26, .aload_n 0, 1), (27, .aload_n 0, 1), (28, .getfield 18, 3), (31, .ldc 68, 2)]
theorem e93_23 : am_dec am_M93 q93_23 = true := by decide +kernel
theorem e93_23_c : am_dc1 am_M93 33 (.invokestatic 62) 3 = true := by decide +kernel
theorem b93_23 {d : Nat} {Q : Option Value ⊕ Nat → am_Mem → Prop} {μ : am_Mem} {r0 r90 r91 : Nat} {P : Nat → am_Mem → Prop} {X : Nat → am_Mem → Prop}
    (h1 : am_kd μ r90 = (1, 8))
    (h2 : ¬ r91 = 15)
    (h3 : am_kd (am_pR μ r90 2 r91) r0 = (1, 8))
    (h4 : ¬ am_F (am_pR μ r90 2 r91) r0 3 = 15)
    (hc : Wp d 292 (0, [some (.ref (am_F (am_pR μ r90 2 r91) r0 3)), some (.int (232768 : Int32)), none], [], (am_pR μ r90 2 r91)) (pR P X)) (hr : ∀ x μ', P x μ' → Wp (d + 1) 93 (36, [some (.ref r0), none, none, none], [.ref x, .ref r0], (μ')) Q)
    (hx : ∀ x μ', X x μ' → Q (.inr x) μ') :
    Wp (d + 1) 93 (23, [some (.ref r0), none, none, none], [.ref r91, .ref r90], μ) Q := wp_blk rfl e93_23 (And.intro h1 (And.intro h2 (And.intro h3 (And.intro h4 (wp_cs (vs := [.ref (am_F (am_pR μ r90 2 r91) r0 3), .int (232768 : Int32)]) rfl e93_23_c rfl rfl rfl rfl rfl hc (fun v μ' hv => by obtain ⟨x, rfl, hp⟩ := pR_r hv; exact hr x μ' hp) hx)))))
def q93_36 : List (Nat × Instr × Nat) := [(36, .putfield 18, 3), (39, .aload_n 0, 1), (40, .aload_n 0, 1), (41, .getfield 21, 3), (44, .ldc 51, 2)]
theorem e93_36 : am_dec am_M93 q93_36 = true := by decide +kernel
theorem e93_36_c : am_dc1 am_M93 46 (.invokestatic 62) 3 = true := by decide +kernel
theorem b93_36 {d : Nat} {Q : Option Value ⊕ Nat → am_Mem → Prop} {μ : am_Mem} {r0 r90 r91 : Nat} {P : Nat → am_Mem → Prop} {X : Nat → am_Mem → Prop}
    (h1 : am_kd μ r90 = (1, 8))
    (h2 : ¬ r91 = 15)
    (h3 : am_kd (am_pR μ r90 3 r91) r0 = (1, 8))
    (h4 : ¬ am_F (am_pR μ r90 3 r91) r0 4 = 15)
    (hc : Wp d 292 (0, [some (.ref (am_F (am_pR μ r90 3 r91) r0 4)), some (.int (58192 : Int32)), none], [], (am_pR μ r90 3 r91)) (pR P X)) (hr : ∀ x μ', P x μ' → Wp (d + 1) 93 (49, [some (.ref r0), none, none, none], [.ref x, .ref r0], (μ')) Q)
    (hx : ∀ x μ', X x μ' → Q (.inr x) μ') :
    Wp (d + 1) 93 (36, [some (.ref r0), none, none, none], [.ref r91, .ref r90], μ) Q := wp_blk rfl e93_36 (And.intro h1 (And.intro h2 (And.intro h3 (And.intro h4 (wp_cs (vs := [.ref (am_F (am_pR μ r90 3 r91) r0 4), .int (58192 : Int32)]) rfl e93_36_c rfl rfl rfl rfl rfl hc (fun v μ' hv => by obtain ⟨x, rfl, hp⟩ := pR_r hv; exact hr x μ' hp) hx)))))
def q93_49 : List (Nat × Instr × Nat) := [(49, .putfield 21, 3), (52, .aload_n 0, 1), (53, .aload_n 0, 1), (54, .getfield 24, 3), (57, .ldc 51, 2)]
theorem e93_49 : am_dec am_M93 q93_49 = true := by decide +kernel
theorem e93_49_c : am_dc1 am_M93 59 (.invokestatic 62) 3 = true := by decide +kernel
theorem b93_49 {d : Nat} {Q : Option Value ⊕ Nat → am_Mem → Prop} {μ : am_Mem} {r0 r90 r91 : Nat} {P : Nat → am_Mem → Prop} {X : Nat → am_Mem → Prop}
    (h1 : am_kd μ r90 = (1, 8))
    (h2 : ¬ r91 = 15)
    (h3 : am_kd (am_pR μ r90 4 r91) r0 = (1, 8))
    (h4 : ¬ am_F (am_pR μ r90 4 r91) r0 5 = 15)
    (hc : Wp d 292 (0, [some (.ref (am_F (am_pR μ r90 4 r91) r0 5)), some (.int (58192 : Int32)), none], [], (am_pR μ r90 4 r91)) (pR P X)) (hr : ∀ x μ', P x μ' → Wp (d + 1) 93 (62, [some (.ref r0), none, none, none], [.ref x, .ref r0], (μ')) Q)
    (hx : ∀ x μ', X x μ' → Q (.inr x) μ') :
    Wp (d + 1) 93 (49, [some (.ref r0), none, none, none], [.ref r91, .ref r90], μ) Q := wp_blk rfl e93_49 (And.intro h1 (And.intro h2 (And.intro h3 (And.intro h4 (wp_cs (vs := [.ref (am_F (am_pR μ r90 4 r91) r0 5), .int (58192 : Int32)]) rfl e93_49_c rfl rfl rfl rfl rfl hc (fun v μ' hv => by obtain ⟨x, rfl, hp⟩ := pR_r hv; exact hr x μ' hp) hx)))))
def q93_62 : List (Nat × Instr × Nat) := [(62, .putfield 24, 3), (65, .aload_n 0, 1), (66, .aload_n 0, 1), (67, .getfield 27, 3), (70, .ldc 51, 2)]
theorem e93_62 : am_dec am_M93 q93_62 = true := by decide +kernel
theorem e93_62_c : am_dc1 am_M93 72 (.invokestatic 62) 3 = true := by decide +kernel
theorem b93_62 {d : Nat} {Q : Option Value ⊕ Nat → am_Mem → Prop} {μ : am_Mem} {r0 r90 r91 : Nat} {P : Nat → am_Mem → Prop} {X : Nat → am_Mem → Prop}
    (h1 : am_kd μ r90 = (1, 8))
    (h2 : ¬ r91 = 15)
    (h3 : am_kd (am_pR μ r90 5 r91) r0 = (1, 8))
    (h4 : ¬ am_F (am_pR μ r90 5 r91) r0 6 = 15)
    (hc : Wp d 292 (0, [some (.ref (am_F (am_pR μ r90 5 r91) r0 6)), some (.int (58192 : Int32)), none], [], (am_pR μ r90 5 r91)) (pR P X)) (hr : ∀ x μ', P x μ' → Wp (d + 1) 93 (75, [some (.ref r0), none, none, none], [.ref x, .ref r0], (μ')) Q)
    (hx : ∀ x μ', X x μ' → Q (.inr x) μ') :
    Wp (d + 1) 93 (62, [some (.ref r0), none, none, none], [.ref r91, .ref r90], μ) Q := wp_blk rfl e93_62 (And.intro h1 (And.intro h2 (And.intro h3 (And.intro h4 (wp_cs (vs := [.ref (am_F (am_pR μ r90 5 r91) r0 6), .int (58192 : Int32)]) rfl e93_62_c rfl rfl rfl rfl rfl hc (fun v μ' hv => by obtain ⟨x, rfl, hp⟩ := pR_r hv; exact hr x μ' hp) hx)))))
def q93_75 : List (Nat × Instr × Nat) := [(75, .putfield 27, 3), (78, .aload_n 0, 1), (79, .ldc 51, 2), (81, .newarray .int, 2), (83, .putfield 30, 3)]
theorem e93_75 : am_dec am_M93 q93_75 = true := by decide +kernel
theorem b93_75 {d : Nat} {Q : Option Value ⊕ Nat → am_Mem → Prop} {μ : am_Mem} {r0 r90 r91 : Nat}
    (h1 : am_kd μ r90 = (1, 8))
    (h2 : ¬ r91 = 15)
    (h3 : am_kd (am_nA (am_pR μ r90 6 r91) 2 (58192 : Int32).toNatClampNeg) r0 = (1, 8))
    (h4 : ¬ (am_n (am_pR μ r90 6 r91)) = 15)
    (k : Wp d 93 (86, [some (.ref r0), none, none, none], [], (am_pR (am_nA (am_pR μ r90 6 r91) 2 (58192 : Int32).toNatClampNeg) r0 7 (am_n (am_pR μ r90 6 r91)))) Q) :
    Wp d 93 (75, [some (.ref r0), none, none, none], [.ref r91, .ref r90], μ) Q := wp_blk rfl e93_75 (And.intro h1 (And.intro h2 (And.intro (by decide) (And.intro h3 (And.intro h4 k)))))
def q93_86 : List (Nat × Instr × Nat) := [(86, .aload_n 0, 1), (87, .ldc 69, 2), (89, .newarray .int, 2), (91, .putfield 33, 3)]
theorem e93_86 : am_dec am_M93 q93_86 = true := by decide +kernel
theorem b93_86 {d : Nat} {Q : Option Value ⊕ Nat → am_Mem → Prop} {μ : am_Mem} {r0 : Nat}
    (h1 : am_kd (am_nA μ 2 (131072 : Int32).toNatClampNeg) r0 = (1, 8))
    (h2 : ¬ (am_n μ) = 15)
    (k : Wp d 93 (94, [some (.ref r0), none, none, none], [], (am_pR (am_nA μ 2 (131072 : Int32).toNatClampNeg) r0 8 (am_n μ))) Q) :
    Wp d 93 (86, [some (.ref r0), none, none, none], [], μ) Q := wp_blk rfl e93_86 (And.intro (by decide) (And.intro h1 (And.intro h2 k)))
def q93_94 : List (Nat × Instr × Nat) := [(94, .iconst 0, 1), (95, .istore_n 1, 1)]
theorem e93_94 : am_dec am_M93 q93_94 = true := by decide +kernel
theorem b93_94 {d : Nat} {Q : Option Value ⊕ Nat → am_Mem → Prop} {μ : am_Mem} {r0 : Nat}
    (k : Wp d 93 (96, [some (.ref r0), some (.int (Int32.ofInt 0)), none, none], [], μ) Q) :
    Wp d 93 (94, [some (.ref r0), none, none, none], [], μ) Q := wp_blk rfl e93_94 k
def q93_96 : List (Nat × Instr × Nat) := [(96, .iload_n 1, 1), (97, .aload_n 0, 1), (98, .getfield 36, 3), (101, .if_icmp .ge 78, 3)]
theorem e93_96 : am_dec am_M93 q93_96 = true := by decide +kernel
theorem b93_96 {d : Nat} {Q : Option Value ⊕ Nat → am_Mem → Prop} {μ : am_Mem} {r0 : Nat} {x1 : Int32} {o2 o3 : Option Value}
    (h1 : am_kd μ r0 = (1, 8))
    (k1 : (am_A μ r0 9) ≤ x1 → Wp d 93 (179, [some (.ref r0), some (.int x1), o2, o3], [], μ) Q) (k2 : ¬ ((am_A μ r0 9) ≤ x1) → Wp d 93 (104, [some (.ref r0), some (.int x1), o2, o3], [], μ) Q) :
    Wp d 93 (96, [some (.ref r0), some (.int x1), o2, o3], [], μ) Q := wp_blk rfl e93_96 (And.intro h1 (And.intro k1 k2))
def q93_104 : List (Nat × Instr × Nat) := [(104, .aload_n 0, 1), (105, .getfield 24, 3), (108, .iload_n 1, 1), (109, .iaload, 1), (110, .aload_n 0, 1), (111, .getfield 33, 3), (114, .arraylength, 1), (115, .iconst 1, 1), (116, .isub, 1), (117, .iand, 1), (118, .istore_n 2, 1), (119, .iconst 0, 1), (120, .istore_n 3, 1)]
theorem e93_104 : am_dec am_M93 q93_104 = true := by decide +kernel
theorem b93_104 {d : Nat} {Q : Option Value ⊕ Nat → am_Mem → Prop} {μ : am_Mem} {r0 : Nat} {x1 : Int32} {o2 o3 : Option Value}
    (h1 : am_kd μ r0 = (1, 8))
    (h2 : ¬ am_F μ r0 5 = 15)
    (h3 : (am_kd μ (am_F μ r0 5)).1 = 2 ∨ (am_kd μ (am_F μ r0 5)).1 = 8)
    (h4 : ¬ (x1 < 0 ∨ (am_kd μ (am_F μ r0 5)).2 ≤ x1.toNatClampNeg))
    (h5 : am_kd μ r0 = (1, 8))
    (h6 : ¬ am_F μ r0 8 = 15)
    (h7 : 2 ≤ (am_kd μ (am_F μ r0 8)).1 ∧ (am_kd μ (am_F μ r0 8)).1 ≤ 10 ∧ ¬ (am_kd μ (am_F μ r0 8)).1 = 9)
    (k : Wp d 93 (121, [some (.ref r0), some (.int x1), some (.int ((am_A μ (am_F μ r0 5) x1.toNatClampNeg) &&& ((Int32.ofNat (am_kd μ (am_F μ r0 8)).2) - (Int32.ofInt 1)))), some (.int (Int32.ofInt 0))], [], μ) Q) :
    Wp d 93 (104, [some (.ref r0), some (.int x1), o2, o3], [], μ) Q := wp_blk rfl e93_104 (And.intro h1 (And.intro h2 (And.intro h3 (And.intro h4 (And.intro h5 (And.intro h6 (And.intro h7 k)))))))
def q93_121 : List (Nat × Instr × Nat) := [(121, .iload_n 3, 1), (122, .aload_n 0, 1), (123, .getfield 33, 3), (126, .arraylength, 1), (127, .if_icmp .ge 30, 3)]
theorem e93_121 : am_dec am_M93 q93_121 = true := by decide +kernel
theorem b93_121 {d : Nat} {Q : Option Value ⊕ Nat → am_Mem → Prop} {μ : am_Mem} {r0 : Nat} {x1 x2 x3 : Int32}
    (h1 : am_kd μ r0 = (1, 8))
    (h2 : ¬ am_F μ r0 8 = 15)
    (h3 : 2 ≤ (am_kd μ (am_F μ r0 8)).1 ∧ (am_kd μ (am_F μ r0 8)).1 ≤ 10 ∧ ¬ (am_kd μ (am_F μ r0 8)).1 = 9)
    (k1 : (Int32.ofNat (am_kd μ (am_F μ r0 8)).2) ≤ x3 → Wp d 93 (157, [some (.ref r0), some (.int x1), some (.int x2), some (.int x3)], [], μ) Q) (k2 : ¬ ((Int32.ofNat (am_kd μ (am_F μ r0 8)).2) ≤ x3) → Wp d 93 (130, [some (.ref r0), some (.int x1), some (.int x2), some (.int x3)], [], μ) Q) :
    Wp d 93 (121, [some (.ref r0), some (.int x1), some (.int x2), some (.int x3)], [], μ) Q := wp_blk rfl e93_121 (And.intro h1 (And.intro h2 (And.intro h3 (And.intro k1 k2))))
def q93_130 : List (Nat × Instr × Nat) := [(130, .aload_n 0, 1), (131, .getfield 33, 3), (134, .iload_n 2, 1), (135, .iaload, 1), (136, .ifCond .eq 21, 3)]
theorem e93_130 : am_dec am_M93 q93_130 = true := by decide +kernel
theorem b93_130 {d : Nat} {Q : Option Value ⊕ Nat → am_Mem → Prop} {μ : am_Mem} {r0 : Nat} {x1 x2 x3 : Int32}
    (h1 : am_kd μ r0 = (1, 8))
    (h2 : ¬ am_F μ r0 8 = 15)
    (h3 : (am_kd μ (am_F μ r0 8)).1 = 2 ∨ (am_kd μ (am_F μ r0 8)).1 = 8)
    (h4 : ¬ (x2 < 0 ∨ (am_kd μ (am_F μ r0 8)).2 ≤ x2.toNatClampNeg))
    (k1 : (am_A μ (am_F μ r0 8) x2.toNatClampNeg) = 0 → Wp d 93 (157, [some (.ref r0), some (.int x1), some (.int x2), some (.int x3)], [], μ) Q) (k2 : ¬ ((am_A μ (am_F μ r0 8) x2.toNatClampNeg) = 0) → Wp d 93 (139, [some (.ref r0), some (.int x1), some (.int x2), some (.int x3)], [], μ) Q) :
    Wp d 93 (130, [some (.ref r0), some (.int x1), some (.int x2), some (.int x3)], [], μ) Q := wp_blk rfl e93_130 (And.intro h1 (And.intro h2 (And.intro h3 (And.intro h4 (And.intro k1 k2)))))
def q93_139 : List (Nat × Instr × Nat) := [(139, .iload_n 2, 1), (140, .iconst 1, 1), (141, .iadd, 1), (142, .aload_n 0, 1), (143, .getfield 33, 3), (146, .arraylength, 1), (147, .iconst 1, 1), (148, .isub, 1), (149, .iand, 1), (150, .istore_n 2, 1), (151, .iinc 3 1, 3), (154, .goto (-33), 3)]
theorem e93_139 : am_dec am_M93 q93_139 = true := by decide +kernel
theorem b93_139 {d : Nat} {Q : Option Value ⊕ Nat → am_Mem → Prop} {μ : am_Mem} {r0 : Nat} {x1 x2 x3 : Int32}
    (h1 : am_kd μ r0 = (1, 8))
    (h2 : ¬ am_F μ r0 8 = 15)
    (h3 : 2 ≤ (am_kd μ (am_F μ r0 8)).1 ∧ (am_kd μ (am_F μ r0 8)).1 ≤ 10 ∧ ¬ (am_kd μ (am_F μ r0 8)).1 = 9)
    (k : Wp d 93 (121, [some (.ref r0), some (.int x1), some (.int ((x2 + (Int32.ofInt 1)) &&& ((Int32.ofNat (am_kd μ (am_F μ r0 8)).2) - (Int32.ofInt 1)))), some (.int (x3 + Int32.ofInt 1))], [], μ) Q) :
    Wp d 93 (139, [some (.ref r0), some (.int x1), some (.int x2), some (.int x3)], [], μ) Q := wp_blk rfl e93_139 (And.intro h1 (And.intro h2 (And.intro h3 k)))
def q93_157 : List (Nat × Instr × Nat) := [(157, .aload_n 0, 1), (158, .getfield 33, 3), (161, .iload_n 2, 1), (162, .iload_n 1, 1), (163, .iconst 1, 1), (164, .iadd, 1), (165, .iastore, 1), (166, .aload_n 0, 1), (167, .getfield 27, 3), (170, .iload_n 1, 1), (171, .iload_n 2, 1), (172, .iastore, 1)]
theorem e93_157 : am_dec am_M93 q93_157 = true := by decide +kernel
theorem b93_157 {d : Nat} {Q : Option Value ⊕ Nat → am_Mem → Prop} {μ : am_Mem} {r0 : Nat} {x1 x2 x3 : Int32}
    (h1 : am_kd μ r0 = (1, 8))
    (h2 : ¬ am_F μ r0 8 = 15)
    (h3 : (am_kd μ (am_F μ r0 8)).1 = 2)
    (h4 : ¬ (x2 < 0 ∨ (am_kd μ (am_F μ r0 8)).2 ≤ x2.toNatClampNeg))
    (h5 : am_kd (am_pA μ (am_F μ r0 8) x2.toNatClampNeg (x1 + (Int32.ofInt 1))) r0 = (1, 8))
    (h6 : ¬ am_F (am_pA μ (am_F μ r0 8) x2.toNatClampNeg (x1 + (Int32.ofInt 1))) r0 6 = 15)
    (h7 : (am_kd (am_pA μ (am_F μ r0 8) x2.toNatClampNeg (x1 + (Int32.ofInt 1))) (am_F (am_pA μ (am_F μ r0 8) x2.toNatClampNeg (x1 + (Int32.ofInt 1))) r0 6)).1 = 2)
    (h8 : ¬ (x1 < 0 ∨ (am_kd (am_pA μ (am_F μ r0 8) x2.toNatClampNeg (x1 + (Int32.ofInt 1))) (am_F (am_pA μ (am_F μ r0 8) x2.toNatClampNeg (x1 + (Int32.ofInt 1))) r0 6)).2 ≤ x1.toNatClampNeg))
    (k : Wp d 93 (173, [some (.ref r0), some (.int x1), some (.int x2), some (.int x3)], [], (am_pA (am_pA μ (am_F μ r0 8) x2.toNatClampNeg (x1 + (Int32.ofInt 1))) (am_F (am_pA μ (am_F μ r0 8) x2.toNatClampNeg (x1 + (Int32.ofInt 1))) r0 6) x1.toNatClampNeg x2)) Q) :
    Wp d 93 (157, [some (.ref r0), some (.int x1), some (.int x2), some (.int x3)], [], μ) Q := wp_blk rfl e93_157 (And.intro h1 (And.intro h2 (And.intro h3 (And.intro h4 (And.intro h5 (And.intro h6 (And.intro h7 (And.intro h8 k))))))))
def q93_173 : List (Nat × Instr × Nat) := [(173, .iinc 1 1, 3), (176, .goto (-80), 3)]
theorem e93_173 : am_dec am_M93 q93_173 = true := by decide +kernel
theorem b93_173 {d : Nat} {Q : Option Value ⊕ Nat → am_Mem → Prop} {μ : am_Mem} {r0 : Nat} {x1 x2 x3 : Int32}
    (k : Wp d 93 (96, [some (.ref r0), some (.int (x1 + Int32.ofInt 1)), some (.int x2), some (.int x3)], [], μ) Q) :
    Wp d 93 (173, [some (.ref r0), some (.int x1), some (.int x2), some (.int x3)], [], μ) Q := wp_blk rfl e93_173 k
theorem e93_179_r : am_dec am_M93 [(179, .return_, 1)] = true := by decide +kernel
theorem b93_179 {d : Nat} {Q : Option Value ⊕ Nat → am_Mem → Prop} {μ : am_Mem} {r0 : Nat} {x1 : Int32} {o2 o3 : Option Value}
    (k : Q (.inl none) μ) :
    Wp d 93 (179, [some (.ref r0), some (.int x1), o2, o3], [], μ) Q := (wp_rv rfl e93_179_r rfl k)
/-! RuleSheets$Terms.keep([III)V -/
def q94_0 : List (Nat × Instr × Nat) := [(0, .aload_n 0, 1), (1, .getfield 36, 3), (4, .istore 4, 2), (6, .iload_n 3, 1), (7, .istore 5, 2)]
theorem e94_0 : am_dec am_M94 q94_0 = true := by decide +kernel
theorem b94_0 {d : Nat} {Q : Option Value ⊕ Nat → am_Mem → Prop} {μ : am_Mem} {r0 r1 : Nat} {x2 x3 : Int32}
    (h1 : am_kd μ r0 = (1, 8))
    (k : Wp d 94 (9, [some (.ref r0), some (.ref r1), some (.int x2), some (.int x3), some (.int (am_A μ r0 9)), some (.int x3), none], [], μ) Q) :
    Wp d 94 (0, [some (.ref r0), some (.ref r1), some (.int x2), some (.int x3), none, none, none], [], μ) Q := wp_blk rfl e94_0 (And.intro h1 k)
def q94_9 : List (Nat × Instr × Nat) := [(9, .iload 5, 2), (11, .iload 4, 2), (13, .if_icmp .ge 17, 3)]
theorem e94_9 : am_dec am_M94 q94_9 = true := by decide +kernel
theorem b94_9 {d : Nat} {Q : Option Value ⊕ Nat → am_Mem → Prop} {μ : am_Mem} {r0 r1 : Nat} {x2 x3 x4 x5 : Int32}
    (k1 : x4 ≤ x5 → Wp d 94 (30, [some (.ref r0), some (.ref r1), some (.int x2), some (.int x3), some (.int x4), some (.int x5), none], [], μ) Q) (k2 : ¬ (x4 ≤ x5) → Wp d 94 (16, [some (.ref r0), some (.ref r1), some (.int x2), some (.int x3), some (.int x4), some (.int x5), none], [], μ) Q) :
    Wp d 94 (9, [some (.ref r0), some (.ref r1), some (.int x2), some (.int x3), some (.int x4), some (.int x5), none], [], μ) Q := wp_blk rfl e94_9 (And.intro k1 k2)
def q94_16 : List (Nat × Instr × Nat) := [(16, .aload_n 0, 1), (17, .getfield 30, 3), (20, .iload 5, 2), (22, .iconst (-1), 1), (23, .iastore, 1), (24, .iinc 5 1, 3), (27, .goto (-18), 3)]
theorem e94_16 : am_dec am_M94 q94_16 = true := by decide +kernel
theorem b94_16 {d : Nat} {Q : Option Value ⊕ Nat → am_Mem → Prop} {μ : am_Mem} {r0 r1 : Nat} {x2 x3 x4 x5 : Int32}
    (h1 : am_kd μ r0 = (1, 8))
    (h2 : ¬ am_F μ r0 7 = 15)
    (h3 : (am_kd μ (am_F μ r0 7)).1 = 2)
    (h4 : ¬ (x5 < 0 ∨ (am_kd μ (am_F μ r0 7)).2 ≤ x5.toNatClampNeg))
    (k : Wp d 94 (9, [some (.ref r0), some (.ref r1), some (.int x2), some (.int x3), some (.int x4), some (.int (x5 + Int32.ofInt 1)), none], [], (am_pA μ (am_F μ r0 7) x5.toNatClampNeg (Int32.ofInt (-1)))) Q) :
    Wp d 94 (16, [some (.ref r0), some (.ref r1), some (.int x2), some (.int x3), some (.int x4), some (.int x5), none], [], μ) Q := wp_blk rfl e94_16 (And.intro h1 (And.intro h2 (And.intro h3 (And.intro h4 k))))
def q94_30 : List (Nat × Instr × Nat) := [(30, .iconst 0, 1), (31, .istore 5, 2)]
theorem e94_30 : am_dec am_M94 q94_30 = true := by decide +kernel
theorem b94_30 {d : Nat} {Q : Option Value ⊕ Nat → am_Mem → Prop} {μ : am_Mem} {r0 r1 : Nat} {x2 x3 x4 x5 : Int32}
    (k : Wp d 94 (33, [some (.ref r0), some (.ref r1), some (.int x2), some (.int x3), some (.int x4), some (.int (Int32.ofInt 0)), none], [], μ) Q) :
    Wp d 94 (30, [some (.ref r0), some (.ref r1), some (.int x2), some (.int x3), some (.int x4), some (.int x5), none], [], μ) Q := wp_blk rfl e94_30 k
def q94_33 : List (Nat × Instr × Nat) := [(33, .iload 5, 2), (35, .iload_n 2, 1), (36, .if_icmp .ge 18, 3)]
theorem e94_33 : am_dec am_M94 q94_33 = true := by decide +kernel
theorem b94_33 {d : Nat} {Q : Option Value ⊕ Nat → am_Mem → Prop} {μ : am_Mem} {r0 r1 : Nat} {x2 x3 x4 x5 : Int32}
    (k1 : x2 ≤ x5 → Wp d 94 (54, [some (.ref r0), some (.ref r1), some (.int x2), some (.int x3), some (.int x4), some (.int x5), none], [], μ) Q) (k2 : ¬ (x2 ≤ x5) → Wp d 94 (39, [some (.ref r0), some (.ref r1), some (.int x2), some (.int x3), some (.int x4), some (.int x5), none], [], μ) Q) :
    Wp d 94 (33, [some (.ref r0), some (.ref r1), some (.int x2), some (.int x3), some (.int x4), some (.int x5), none], [], μ) Q := wp_blk rfl e94_33 (And.intro k1 k2)
def q94_39 : List (Nat × Instr × Nat) := [(39, .aload_n 0, 1), (40, .aload_n 1, 1), (41, .iload 5, 2), (43, .iaload, 1), (44, .iload_n 3, 1)]
theorem e94_39 : am_dec am_M94 q94_39 = true := by decide +kernel
theorem e94_39_c : am_dc1 am_M94 45 (.invokevirtual 77) 3 = true := by decide +kernel
theorem b94_39 {d : Nat} {Q : Option Value ⊕ Nat → am_Mem → Prop} {μ : am_Mem} {r0 r1 : Nat} {x2 x3 x4 x5 : Int32} {P : am_Mem → Prop} {X : Nat → am_Mem → Prop}
    (h1 : (am_kd μ r1).1 = 2 ∨ (am_kd μ r1).1 = 8)
    (h2 : ¬ (x5 < 0 ∨ (am_kd μ r1).2 ≤ x5.toNatClampNeg))
    (hk : am_kd μ r0 = (1, 8))
    (hc : Wp d 95 (0, [some (.ref r0), some (.int (am_A μ r1 x5.toNatClampNeg)), some (.int x3)], [], μ) (pV P X)) (hr : ∀ μ', P μ' → Wp (d + 1) 94 (48, [some (.ref r0), some (.ref r1), some (.int x2), some (.int x3), some (.int x4), some (.int x5), none], [], (μ')) Q)
    (hx : ∀ x μ', X x μ' → Q (.inr x) μ') :
    Wp (d + 1) 94 (39, [some (.ref r0), some (.ref r1), some (.int x2), some (.int x3), some (.int x4), some (.int x5), none], [], μ) Q := wp_blk rfl e94_39 (And.intro h1 (And.intro h2 (wp_cv (as := [.int (am_A μ r1 x5.toNatClampNeg), .int x3]) rfl e94_39_c rfl rfl rfl rfl rfl hk hc (fun v μ' hv => by obtain ⟨rfl, hp⟩ := pV_r hv; exact hr μ' hp) hx)))
def q94_48 : List (Nat × Instr × Nat) := [(48, .iinc 5 1, 3), (51, .goto (-18), 3)]
theorem e94_48 : am_dec am_M94 q94_48 = true := by decide +kernel
theorem b94_48 {d : Nat} {Q : Option Value ⊕ Nat → am_Mem → Prop} {μ : am_Mem} {r0 r1 : Nat} {x2 x3 x4 x5 : Int32}
    (k : Wp d 94 (33, [some (.ref r0), some (.ref r1), some (.int x2), some (.int x3), some (.int x4), some (.int (x5 + Int32.ofInt 1)), none], [], μ) Q) :
    Wp d 94 (48, [some (.ref r0), some (.ref r1), some (.int x2), some (.int x3), some (.int x4), some (.int x5), none], [], μ) Q := wp_blk rfl e94_48 k
def q94_54 : List (Nat × Instr × Nat) := [(54, .iload 4, 2), (56, .iconst 1, 1), (57, .isub, 1), (58, .istore 5, 2)]
theorem e94_54 : am_dec am_M94 q94_54 = true := by decide +kernel
theorem b94_54 {d : Nat} {Q : Option Value ⊕ Nat → am_Mem → Prop} {μ : am_Mem} {r0 r1 : Nat} {x2 x3 x4 x5 : Int32}
    (k : Wp d 94 (60, [some (.ref r0), some (.ref r1), some (.int x2), some (.int x3), some (.int x4), some (.int (x4 - (Int32.ofInt 1))), none], [], μ) Q) :
    Wp d 94 (54, [some (.ref r0), some (.ref r1), some (.int x2), some (.int x3), some (.int x4), some (.int x5), none], [], μ) Q := wp_blk rfl e94_54 k
def q94_60 : List (Nat × Instr × Nat) := [(60, .iload 5, 2), (62, .iload_n 3, 1), (63, .if_icmp .lt 58, 3)]
theorem e94_60 : am_dec am_M94 q94_60 = true := by decide +kernel
theorem b94_60 {d : Nat} {Q : Option Value ⊕ Nat → am_Mem → Prop} {μ : am_Mem} {r0 r1 : Nat} {x2 x3 x4 x5 : Int32} {o6 : Option Value}
    (k1 : x5 < x3 → Wp d 94 (121, [some (.ref r0), some (.ref r1), some (.int x2), some (.int x3), some (.int x4), some (.int x5), o6], [], μ) Q) (k2 : ¬ (x5 < x3) → Wp d 94 (66, [some (.ref r0), some (.ref r1), some (.int x2), some (.int x3), some (.int x4), some (.int x5), o6], [], μ) Q) :
    Wp d 94 (60, [some (.ref r0), some (.ref r1), some (.int x2), some (.int x3), some (.int x4), some (.int x5), o6], [], μ) Q := wp_blk rfl e94_60 (And.intro k1 k2)
def q94_66 : List (Nat × Instr × Nat) := [(66, .iconst 0, 1), (67, .istore 6, 2)]
theorem e94_66 : am_dec am_M94 q94_66 = true := by decide +kernel
theorem b94_66 {d : Nat} {Q : Option Value ⊕ Nat → am_Mem → Prop} {μ : am_Mem} {r0 r1 : Nat} {x2 x3 x4 x5 : Int32} {o6 : Option Value}
    (k : Wp d 94 (69, [some (.ref r0), some (.ref r1), some (.int x2), some (.int x3), some (.int x4), some (.int x5), some (.int (Int32.ofInt 0))], [], μ) Q) :
    Wp d 94 (66, [some (.ref r0), some (.ref r1), some (.int x2), some (.int x3), some (.int x4), some (.int x5), o6], [], μ) Q := wp_blk rfl e94_66 k
def q94_69 : List (Nat × Instr × Nat) := [(69, .iload 6, 2), (71, .aload_n 0, 1), (72, .getfield 15, 3), (75, .iload 5, 2), (77, .iaload, 1), (78, .if_icmp .ge 37, 3)]
theorem e94_69 : am_dec am_M94 q94_69 = true := by decide +kernel
theorem b94_69 {d : Nat} {Q : Option Value ⊕ Nat → am_Mem → Prop} {μ : am_Mem} {r0 r1 : Nat} {x2 x3 x4 x5 x6 : Int32}
    (h1 : am_kd μ r0 = (1, 8))
    (h2 : ¬ am_F μ r0 2 = 15)
    (h3 : (am_kd μ (am_F μ r0 2)).1 = 2 ∨ (am_kd μ (am_F μ r0 2)).1 = 8)
    (h4 : ¬ (x5 < 0 ∨ (am_kd μ (am_F μ r0 2)).2 ≤ x5.toNatClampNeg))
    (k1 : (am_A μ (am_F μ r0 2) x5.toNatClampNeg) ≤ x6 → Wp d 94 (115, [some (.ref r0), some (.ref r1), some (.int x2), some (.int x3), some (.int x4), some (.int x5), some (.int x6)], [], μ) Q) (k2 : ¬ ((am_A μ (am_F μ r0 2) x5.toNatClampNeg) ≤ x6) → Wp d 94 (81, [some (.ref r0), some (.ref r1), some (.int x2), some (.int x3), some (.int x4), some (.int x5), some (.int x6)], [], μ) Q) :
    Wp d 94 (69, [some (.ref r0), some (.ref r1), some (.int x2), some (.int x3), some (.int x4), some (.int x5), some (.int x6)], [], μ) Q := wp_blk rfl e94_69 (And.intro h1 (And.intro h2 (And.intro h3 (And.intro h4 (And.intro k1 k2)))))
def q94_81 : List (Nat × Instr × Nat) := [(81, .aload_n 0, 1), (82, .getfield 30, 3), (85, .iload 5, 2), (87, .iaload, 1), (88, .iconst (-1), 1), (89, .if_icmp .eq 26, 3)]
theorem e94_81 : am_dec am_M94 q94_81 = true := by decide +kernel
theorem b94_81 {d : Nat} {Q : Option Value ⊕ Nat → am_Mem → Prop} {μ : am_Mem} {r0 r1 : Nat} {x2 x3 x4 x5 x6 : Int32}
    (h1 : am_kd μ r0 = (1, 8))
    (h2 : ¬ am_F μ r0 7 = 15)
    (h3 : (am_kd μ (am_F μ r0 7)).1 = 2 ∨ (am_kd μ (am_F μ r0 7)).1 = 8)
    (h4 : ¬ (x5 < 0 ∨ (am_kd μ (am_F μ r0 7)).2 ≤ x5.toNatClampNeg))
    (k1 : (am_A μ (am_F μ r0 7) x5.toNatClampNeg) = (Int32.ofInt (-1)) → Wp d 94 (115, [some (.ref r0), some (.ref r1), some (.int x2), some (.int x3), some (.int x4), some (.int x5), some (.int x6)], [], μ) Q) (k2 : ¬ ((am_A μ (am_F μ r0 7) x5.toNatClampNeg) = (Int32.ofInt (-1))) → Wp d 94 (92, [some (.ref r0), some (.ref r1), some (.int x2), some (.int x3), some (.int x4), some (.int x5), some (.int x6)], [], μ) Q) :
    Wp d 94 (81, [some (.ref r0), some (.ref r1), some (.int x2), some (.int x3), some (.int x4), some (.int x5), some (.int x6)], [], μ) Q := wp_blk rfl e94_81 (And.intro h1 (And.intro h2 (And.intro h3 (And.intro h4 (And.intro k1 k2)))))
def q94_92 : List (Nat × Instr × Nat) := [(92, .aload_n 0, 1), (93, .aload_n 0, 1), (94, .getfield 18, 3), (97, .iconst 4, 1), (98, .iload 5, 2), (100, .imul, 1), (101, .iload 6, 2), (103, .iadd, 1), (104, .iaload, 1), (105, .iload_n 3, 1)]
theorem e94_92 : am_dec am_M94 q94_92 = true := by decide +kernel
theorem e94_92_c : am_dc1 am_M94 106 (.invokevirtual 77) 3 = true := by decide +kernel
theorem b94_92 {d : Nat} {Q : Option Value ⊕ Nat → am_Mem → Prop} {μ : am_Mem} {r0 r1 : Nat} {x2 x3 x4 x5 x6 : Int32} {P : am_Mem → Prop} {X : Nat → am_Mem → Prop}
    (h1 : am_kd μ r0 = (1, 8))
    (h2 : ¬ am_F μ r0 3 = 15)
    (h3 : (am_kd μ (am_F μ r0 3)).1 = 2 ∨ (am_kd μ (am_F μ r0 3)).1 = 8)
    (h4 : ¬ ((((Int32.ofInt 4) * x5) + x6) < 0 ∨ (am_kd μ (am_F μ r0 3)).2 ≤ (((Int32.ofInt 4) * x5) + x6).toNatClampNeg))
    (hk : am_kd μ r0 = (1, 8))
    (hc : Wp d 95 (0, [some (.ref r0), some (.int (am_A μ (am_F μ r0 3) (((Int32.ofInt 4) * x5) + x6).toNatClampNeg)), some (.int x3)], [], μ) (pV P X)) (hr : ∀ μ', P μ' → Wp (d + 1) 94 (109, [some (.ref r0), some (.ref r1), some (.int x2), some (.int x3), some (.int x4), some (.int x5), some (.int x6)], [], (μ')) Q)
    (hx : ∀ x μ', X x μ' → Q (.inr x) μ') :
    Wp (d + 1) 94 (92, [some (.ref r0), some (.ref r1), some (.int x2), some (.int x3), some (.int x4), some (.int x5), some (.int x6)], [], μ) Q := wp_blk rfl e94_92 (And.intro h1 (And.intro h2 (And.intro h3 (And.intro h4 (wp_cv (as := [.int (am_A μ (am_F μ r0 3) (((Int32.ofInt 4) * x5) + x6).toNatClampNeg), .int x3]) rfl e94_92_c rfl rfl rfl rfl rfl hk hc (fun v μ' hv => by obtain ⟨rfl, hp⟩ := pV_r hv; exact hr μ' hp) hx)))))
def q94_109 : List (Nat × Instr × Nat) := [(109, .iinc 6 1, 3), (112, .goto (-43), 3)]
theorem e94_109 : am_dec am_M94 q94_109 = true := by decide +kernel
theorem b94_109 {d : Nat} {Q : Option Value ⊕ Nat → am_Mem → Prop} {μ : am_Mem} {r0 r1 : Nat} {x2 x3 x4 x5 x6 : Int32}
    (k : Wp d 94 (69, [some (.ref r0), some (.ref r1), some (.int x2), some (.int x3), some (.int x4), some (.int x5), some (.int (x6 + Int32.ofInt 1))], [], μ) Q) :
    Wp d 94 (109, [some (.ref r0), some (.ref r1), some (.int x2), some (.int x3), some (.int x4), some (.int x5), some (.int x6)], [], μ) Q := wp_blk rfl e94_109 k
def q94_115 : List (Nat × Instr × Nat) := [(115, .iinc 5 (-1), 3), (118, .goto (-58), 3)]
theorem e94_115 : am_dec am_M94 q94_115 = true := by decide +kernel
theorem b94_115 {d : Nat} {Q : Option Value ⊕ Nat → am_Mem → Prop} {μ : am_Mem} {r0 r1 : Nat} {x2 x3 x4 x5 x6 : Int32}
    (k : Wp d 94 (60, [some (.ref r0), some (.ref r1), some (.int x2), some (.int x3), some (.int x4), some (.int (x5 + Int32.ofInt (-1))), some (.int x6)], [], μ) Q) :
    Wp d 94 (115, [some (.ref r0), some (.ref r1), some (.int x2), some (.int x3), some (.int x4), some (.int x5), some (.int x6)], [], μ) Q := wp_blk rfl e94_115 k
def q94_121 : List (Nat × Instr × Nat) := [(121, .aload_n 0, 1), (122, .iload_n 3, 1)]
theorem e94_121 : am_dec am_M94 q94_121 = true := by decide +kernel
theorem e94_121_c : am_dc1 am_M94 123 (.invokevirtual 47) 3 = true := by decide +kernel
theorem b94_121 {d : Nat} {Q : Option Value ⊕ Nat → am_Mem → Prop} {μ : am_Mem} {r0 r1 : Nat} {x2 x3 x4 x5 : Int32} {o6 : Option Value} {P : am_Mem → Prop} {X : Nat → am_Mem → Prop}
    (hk : am_kd μ r0 = (1, 8))
    (hc : Wp d 90 (0, [some (.ref r0), some (.int x3), none], [], μ) (pV P X)) (hr : ∀ μ', P μ' → Wp (d + 1) 94 (126, [some (.ref r0), some (.ref r1), some (.int x2), some (.int x3), some (.int x4), some (.int x5), o6], [], (μ')) Q)
    (hx : ∀ x μ', X x μ' → Q (.inr x) μ') :
    Wp (d + 1) 94 (121, [some (.ref r0), some (.ref r1), some (.int x2), some (.int x3), some (.int x4), some (.int x5), o6], [], μ) Q := wp_blk rfl e94_121 (wp_cv (as := [.int x3]) rfl e94_121_c rfl rfl rfl rfl rfl hk hc (fun v μ' hv => by obtain ⟨rfl, hp⟩ := pV_r hv; exact hr μ' hp) hx)
def q94_126 : List (Nat × Instr × Nat) := [(126, .iload_n 3, 1), (127, .istore 5, 2)]
theorem e94_126 : am_dec am_M94 q94_126 = true := by decide +kernel
theorem b94_126 {d : Nat} {Q : Option Value ⊕ Nat → am_Mem → Prop} {μ : am_Mem} {r0 r1 : Nat} {x2 x3 x4 x5 : Int32} {o6 : Option Value}
    (k : Wp d 94 (129, [some (.ref r0), some (.ref r1), some (.int x2), some (.int x3), some (.int x4), some (.int x3), o6], [], μ) Q) :
    Wp d 94 (126, [some (.ref r0), some (.ref r1), some (.int x2), some (.int x3), some (.int x4), some (.int x5), o6], [], μ) Q := wp_blk rfl e94_126 k
def q94_129 : List (Nat × Instr × Nat) := [(129, .iload 5, 2), (131, .iload 4, 2), (133, .if_icmp .ge 90, 3)]
theorem e94_129 : am_dec am_M94 q94_129 = true := by decide +kernel
theorem b94_129 {d : Nat} {Q : Option Value ⊕ Nat → am_Mem → Prop} {μ : am_Mem} {r0 r1 : Nat} {x2 x3 x4 x5 : Int32} {o6 : Option Value}
    (k1 : x4 ≤ x5 → Wp d 94 (223, [some (.ref r0), some (.ref r1), some (.int x2), some (.int x3), some (.int x4), some (.int x5), o6], [], μ) Q) (k2 : ¬ (x4 ≤ x5) → Wp d 94 (136, [some (.ref r0), some (.ref r1), some (.int x2), some (.int x3), some (.int x4), some (.int x5), o6], [], μ) Q) :
    Wp d 94 (129, [some (.ref r0), some (.ref r1), some (.int x2), some (.int x3), some (.int x4), some (.int x5), o6], [], μ) Q := wp_blk rfl e94_129 (And.intro k1 k2)
def q94_136 : List (Nat × Instr × Nat) := [(136, .aload_n 0, 1), (137, .getfield 30, 3), (140, .iload 5, 2), (142, .iaload, 1), (143, .iconst (-1), 1), (144, .if_icmp .eq 73, 3)]
theorem e94_136 : am_dec am_M94 q94_136 = true := by decide +kernel
theorem b94_136 {d : Nat} {Q : Option Value ⊕ Nat → am_Mem → Prop} {μ : am_Mem} {r0 r1 : Nat} {x2 x3 x4 x5 : Int32} {o6 : Option Value}
    (h1 : am_kd μ r0 = (1, 8))
    (h2 : ¬ am_F μ r0 7 = 15)
    (h3 : (am_kd μ (am_F μ r0 7)).1 = 2 ∨ (am_kd μ (am_F μ r0 7)).1 = 8)
    (h4 : ¬ (x5 < 0 ∨ (am_kd μ (am_F μ r0 7)).2 ≤ x5.toNatClampNeg))
    (k1 : (am_A μ (am_F μ r0 7) x5.toNatClampNeg) = (Int32.ofInt (-1)) → Wp d 94 (217, [some (.ref r0), some (.ref r1), some (.int x2), some (.int x3), some (.int x4), some (.int x5), o6], [], μ) Q) (k2 : ¬ ((am_A μ (am_F μ r0 7) x5.toNatClampNeg) = (Int32.ofInt (-1))) → Wp d 94 (147, [some (.ref r0), some (.ref r1), some (.int x2), some (.int x3), some (.int x4), some (.int x5), o6], [], μ) Q) :
    Wp d 94 (136, [some (.ref r0), some (.ref r1), some (.int x2), some (.int x3), some (.int x4), some (.int x5), o6], [], μ) Q := wp_blk rfl e94_136 (And.intro h1 (And.intro h2 (And.intro h3 (And.intro h4 (And.intro k1 k2)))))
def q94_147 : List (Nat × Instr × Nat) := [(147, .iconst 0, 1), (148, .istore 6, 2)]
theorem e94_147 : am_dec am_M94 q94_147 = true := by decide +kernel
theorem b94_147 {d : Nat} {Q : Option Value ⊕ Nat → am_Mem → Prop} {μ : am_Mem} {r0 r1 : Nat} {x2 x3 x4 x5 : Int32} {o6 : Option Value}
    (k : Wp d 94 (150, [some (.ref r0), some (.ref r1), some (.int x2), some (.int x3), some (.int x4), some (.int x5), some (.int (Int32.ofInt 0))], [], μ) Q) :
    Wp d 94 (147, [some (.ref r0), some (.ref r1), some (.int x2), some (.int x3), some (.int x4), some (.int x5), o6], [], μ) Q := wp_blk rfl e94_147 k
def q94_150 : List (Nat × Instr × Nat) := [(150, .iload 6, 2), (152, .aload_n 0, 1), (153, .getfield 15, 3), (156, .iload 5, 2), (158, .iaload, 1), (159, .if_icmp .ge 33, 3)]
theorem e94_150 : am_dec am_M94 q94_150 = true := by decide +kernel
theorem b94_150 {d : Nat} {Q : Option Value ⊕ Nat → am_Mem → Prop} {μ : am_Mem} {r0 r1 : Nat} {x2 x3 x4 x5 x6 : Int32}
    (h1 : am_kd μ r0 = (1, 8))
    (h2 : ¬ am_F μ r0 2 = 15)
    (h3 : (am_kd μ (am_F μ r0 2)).1 = 2 ∨ (am_kd μ (am_F μ r0 2)).1 = 8)
    (h4 : ¬ (x5 < 0 ∨ (am_kd μ (am_F μ r0 2)).2 ≤ x5.toNatClampNeg))
    (k1 : (am_A μ (am_F μ r0 2) x5.toNatClampNeg) ≤ x6 → Wp d 94 (192, [some (.ref r0), some (.ref r1), some (.int x2), some (.int x3), some (.int x4), some (.int x5), some (.int x6)], [], μ) Q) (k2 : ¬ ((am_A μ (am_F μ r0 2) x5.toNatClampNeg) ≤ x6) → Wp d 94 (162, [some (.ref r0), some (.ref r1), some (.int x2), some (.int x3), some (.int x4), some (.int x5), some (.int x6)], [], μ) Q) :
    Wp d 94 (150, [some (.ref r0), some (.ref r1), some (.int x2), some (.int x3), some (.int x4), some (.int x5), some (.int x6)], [], μ) Q := wp_blk rfl e94_150 (And.intro h1 (And.intro h2 (And.intro h3 (And.intro h4 (And.intro k1 k2)))))
def q94_162 : List (Nat × Instr × Nat) := [(162, .aload_n 0, 1), (163, .getfield 40, 3), (166, .iload 6, 2), (168, .aload_n 0, 1), (169, .aload_n 0, 1), (170, .getfield 18, 3), (173, .iconst 4, 1), (174, .iload 5, 2), (176, .imul, 1), (177, .iload 6, 2), (179, .iadd, 1), (180, .iaload, 1), (181, .iload_n 3, 1)]
theorem e94_162 : am_dec am_M94 q94_162 = true := by decide +kernel
theorem e94_162_c : am_dc1 am_M94 182 (.invokevirtual 81) 3 = true := by decide +kernel
theorem b94_162 {d : Nat} {Q : Option Value ⊕ Nat → am_Mem → Prop} {μ : am_Mem} {r0 r1 : Nat} {x2 x3 x4 x5 x6 : Int32} {P : Int32 → am_Mem → Prop} {X : Nat → am_Mem → Prop}
    (h1 : am_kd μ r0 = (1, 8))
    (h2 : ¬ am_F μ r0 10 = 15)
    (h3 : am_kd μ r0 = (1, 8))
    (h4 : ¬ am_F μ r0 3 = 15)
    (h5 : (am_kd μ (am_F μ r0 3)).1 = 2 ∨ (am_kd μ (am_F μ r0 3)).1 = 8)
    (h6 : ¬ ((((Int32.ofInt 4) * x5) + x6) < 0 ∨ (am_kd μ (am_F μ r0 3)).2 ≤ (((Int32.ofInt 4) * x5) + x6).toNatClampNeg))
    (hk : am_kd μ r0 = (1, 8))
    (hc : Wp d 96 (0, [some (.ref r0), some (.int (am_A μ (am_F μ r0 3) (((Int32.ofInt 4) * x5) + x6).toNatClampNeg)), some (.int x3)], [], μ) (pI P X)) (hr : ∀ x μ', P x μ' → Wp (d + 1) 94 (185, [some (.ref r0), some (.ref r1), some (.int x2), some (.int x3), some (.int x4), some (.int x5), some (.int x6)], [.int x, .int x6, .ref (am_F μ r0 10)], (μ')) Q)
    (hx : ∀ x μ', X x μ' → Q (.inr x) μ') :
    Wp (d + 1) 94 (162, [some (.ref r0), some (.ref r1), some (.int x2), some (.int x3), some (.int x4), some (.int x5), some (.int x6)], [], μ) Q := wp_blk rfl e94_162 (And.intro h1 (And.intro h2 (And.intro h3 (And.intro h4 (And.intro h5 (And.intro h6 (wp_cv (as := [.int (am_A μ (am_F μ r0 3) (((Int32.ofInt 4) * x5) + x6).toNatClampNeg), .int x3]) rfl e94_162_c rfl rfl rfl rfl rfl hk hc (fun v μ' hv => by obtain ⟨x, rfl, hp⟩ := pI_r hv; exact hr x μ' hp) hx)))))))
def q94_185 : List (Nat × Instr × Nat) := [(185, .iastore, 1), (186, .iinc 6 1, 3), (189, .goto (-39), 3)]
theorem e94_185 : am_dec am_M94 q94_185 = true := by decide +kernel
theorem b94_185 {d : Nat} {Q : Option Value ⊕ Nat → am_Mem → Prop} {μ : am_Mem} {r0 r1 r90 : Nat} {x2 x3 x4 x5 x6 s1 s2 : Int32}
    (h1 : (am_kd μ r90).1 = 2)
    (h2 : ¬ (s1 < 0 ∨ (am_kd μ r90).2 ≤ s1.toNatClampNeg))
    (k : Wp d 94 (150, [some (.ref r0), some (.ref r1), some (.int x2), some (.int x3), some (.int x4), some (.int x5), some (.int (x6 + Int32.ofInt 1))], [], (am_pA μ r90 s1.toNatClampNeg s2)) Q) :
    Wp d 94 (185, [some (.ref r0), some (.ref r1), some (.int x2), some (.int x3), some (.int x4), some (.int x5), some (.int x6)], [.int s2, .int s1, .ref r90], μ) Q := wp_blk rfl e94_185 (And.intro h1 (And.intro h2 k))
def q94_192 : List (Nat × Instr × Nat) := [(192, .aload_n 0, 1), (193, .getfield 30, 3), (196, .iload 5, 2), (198, .aload_n 0, 1), (199, .aload_n 0, 1), (200, .getfield 11, 3), (203, .iload 5, 2), (205, .iaload, 1), (206, .aload_n 0, 1), (207, .getfield 15, 3), (210, .iload 5, 2), (212, .iaload, 1)]
theorem e94_192 : am_dec am_M94 q94_192 = true := by decide +kernel
theorem e94_192_c : am_dc1 am_M94 213 (.invokevirtual 85) 3 = true := by decide +kernel
theorem b94_192 {d : Nat} {Q : Option Value ⊕ Nat → am_Mem → Prop} {μ : am_Mem} {r0 r1 : Nat} {x2 x3 x4 x5 x6 : Int32} {P : Int32 → am_Mem → Prop} {X : Nat → am_Mem → Prop}
    (h1 : am_kd μ r0 = (1, 8))
    (h2 : ¬ am_F μ r0 7 = 15)
    (h3 : am_kd μ r0 = (1, 8))
    (h4 : ¬ am_F μ r0 1 = 15)
    (h5 : (am_kd μ (am_F μ r0 1)).1 = 2 ∨ (am_kd μ (am_F μ r0 1)).1 = 8)
    (h6 : ¬ (x5 < 0 ∨ (am_kd μ (am_F μ r0 1)).2 ≤ x5.toNatClampNeg))
    (h7 : am_kd μ r0 = (1, 8))
    (h8 : ¬ am_F μ r0 2 = 15)
    (h9 : (am_kd μ (am_F μ r0 2)).1 = 2 ∨ (am_kd μ (am_F μ r0 2)).1 = 8)
    (h10 : ¬ (x5 < 0 ∨ (am_kd μ (am_F μ r0 2)).2 ≤ x5.toNatClampNeg))
    (hk : am_kd μ r0 = (1, 8))
    (hc : Wp d 91 (0, [some (.ref r0), some (.int (am_A μ (am_F μ r0 1) x5.toNatClampNeg)), some (.int (am_A μ (am_F μ r0 2) x5.toNatClampNeg)), none, none, none, none, none], [], μ) (pI P X)) (hr : ∀ x μ', P x μ' → Wp (d + 1) 94 (216, [some (.ref r0), some (.ref r1), some (.int x2), some (.int x3), some (.int x4), some (.int x5), some (.int x6)], [.int x, .int x5, .ref (am_F μ r0 7)], (μ')) Q)
    (hx : ∀ x μ', X x μ' → Q (.inr x) μ') :
    Wp (d + 1) 94 (192, [some (.ref r0), some (.ref r1), some (.int x2), some (.int x3), some (.int x4), some (.int x5), some (.int x6)], [], μ) Q := wp_blk rfl e94_192 (And.intro h1 (And.intro h2 (And.intro h3 (And.intro h4 (And.intro h5 (And.intro h6 (And.intro h7 (And.intro h8 (And.intro h9 (And.intro h10 (wp_cv (as := [.int (am_A μ (am_F μ r0 1) x5.toNatClampNeg), .int (am_A μ (am_F μ r0 2) x5.toNatClampNeg)]) rfl e94_192_c rfl rfl rfl rfl rfl hk hc (fun v μ' hv => by obtain ⟨x, rfl, hp⟩ := pI_r hv; exact hr x μ' hp) hx)))))))))))
def q94_216 : List (Nat × Instr × Nat) := [(216, .iastore, 1)]
theorem e94_216 : am_dec am_M94 q94_216 = true := by decide +kernel
theorem b94_216 {d : Nat} {Q : Option Value ⊕ Nat → am_Mem → Prop} {μ : am_Mem} {r0 r1 r90 : Nat} {x2 x3 x4 x5 x6 s1 s2 : Int32}
    (h1 : (am_kd μ r90).1 = 2)
    (h2 : ¬ (s1 < 0 ∨ (am_kd μ r90).2 ≤ s1.toNatClampNeg))
    (k : Wp d 94 (217, [some (.ref r0), some (.ref r1), some (.int x2), some (.int x3), some (.int x4), some (.int x5), some (.int x6)], [], (am_pA μ r90 s1.toNatClampNeg s2)) Q) :
    Wp d 94 (216, [some (.ref r0), some (.ref r1), some (.int x2), some (.int x3), some (.int x4), some (.int x5), some (.int x6)], [.int s2, .int s1, .ref r90], μ) Q := wp_blk rfl e94_216 (And.intro h1 (And.intro h2 k))
def q94_217 : List (Nat × Instr × Nat) := [(217, .iinc 5 1, 3), (220, .goto (-91), 3)]
theorem e94_217 : am_dec am_M94 q94_217 = true := by decide +kernel
theorem b94_217 {d : Nat} {Q : Option Value ⊕ Nat → am_Mem → Prop} {μ : am_Mem} {r0 r1 : Nat} {x2 x3 x4 x5 : Int32} {o6 : Option Value}
    (k : Wp d 94 (129, [some (.ref r0), some (.ref r1), some (.int x2), some (.int x3), some (.int x4), some (.int (x5 + Int32.ofInt 1)), o6], [], μ) Q) :
    Wp d 94 (217, [some (.ref r0), some (.ref r1), some (.int x2), some (.int x3), some (.int x4), some (.int x5), o6], [], μ) Q := wp_blk rfl e94_217 k
def q94_223 : List (Nat × Instr × Nat) := [(223, .iconst 0, 1), (224, .istore 5, 2)]
theorem e94_223 : am_dec am_M94 q94_223 = true := by decide +kernel
theorem b94_223 {d : Nat} {Q : Option Value ⊕ Nat → am_Mem → Prop} {μ : am_Mem} {r0 r1 : Nat} {x2 x3 x4 x5 : Int32} {o6 : Option Value}
    (k : Wp d 94 (226, [some (.ref r0), some (.ref r1), some (.int x2), some (.int x3), some (.int x4), some (.int (Int32.ofInt 0)), o6], [], μ) Q) :
    Wp d 94 (223, [some (.ref r0), some (.ref r1), some (.int x2), some (.int x3), some (.int x4), some (.int x5), o6], [], μ) Q := wp_blk rfl e94_223 k
def q94_226 : List (Nat × Instr × Nat) := [(226, .iload 5, 2), (228, .iload_n 2, 1), (229, .if_icmp .ge 22, 3)]
theorem e94_226 : am_dec am_M94 q94_226 = true := by decide +kernel
theorem b94_226 {d : Nat} {Q : Option Value ⊕ Nat → am_Mem → Prop} {μ : am_Mem} {r0 r1 : Nat} {x2 x3 x4 x5 : Int32} {o6 : Option Value}
    (k1 : x2 ≤ x5 → Wp d 94 (251, [some (.ref r0), some (.ref r1), some (.int x2), some (.int x3), some (.int x4), some (.int x5), o6], [], μ) Q) (k2 : ¬ (x2 ≤ x5) → Wp d 94 (232, [some (.ref r0), some (.ref r1), some (.int x2), some (.int x3), some (.int x4), some (.int x5), o6], [], μ) Q) :
    Wp d 94 (226, [some (.ref r0), some (.ref r1), some (.int x2), some (.int x3), some (.int x4), some (.int x5), o6], [], μ) Q := wp_blk rfl e94_226 (And.intro k1 k2)
def q94_232 : List (Nat × Instr × Nat) := [(232, .aload_n 1, 1), (233, .iload 5, 2), (235, .aload_n 0, 1), (236, .aload_n 1, 1), (237, .iload 5, 2), (239, .iaload, 1), (240, .iload_n 3, 1)]
theorem e94_232 : am_dec am_M94 q94_232 = true := by decide +kernel
theorem e94_232_c : am_dc1 am_M94 241 (.invokevirtual 81) 3 = true := by decide +kernel
theorem b94_232 {d : Nat} {Q : Option Value ⊕ Nat → am_Mem → Prop} {μ : am_Mem} {r0 r1 : Nat} {x2 x3 x4 x5 : Int32} {o6 : Option Value} {P : Int32 → am_Mem → Prop} {X : Nat → am_Mem → Prop}
    (h1 : (am_kd μ r1).1 = 2 ∨ (am_kd μ r1).1 = 8)
    (h2 : ¬ (x5 < 0 ∨ (am_kd μ r1).2 ≤ x5.toNatClampNeg))
    (hk : am_kd μ r0 = (1, 8))
    (hc : Wp d 96 (0, [some (.ref r0), some (.int (am_A μ r1 x5.toNatClampNeg)), some (.int x3)], [], μ) (pI P X)) (hr : ∀ x μ', P x μ' → Wp (d + 1) 94 (244, [some (.ref r0), some (.ref r1), some (.int x2), some (.int x3), some (.int x4), some (.int x5), o6], [.int x, .int x5, .ref r1], (μ')) Q)
    (hx : ∀ x μ', X x μ' → Q (.inr x) μ') :
    Wp (d + 1) 94 (232, [some (.ref r0), some (.ref r1), some (.int x2), some (.int x3), some (.int x4), some (.int x5), o6], [], μ) Q := wp_blk rfl e94_232 (And.intro h1 (And.intro h2 (wp_cv (as := [.int (am_A μ r1 x5.toNatClampNeg), .int x3]) rfl e94_232_c rfl rfl rfl rfl rfl hk hc (fun v μ' hv => by obtain ⟨x, rfl, hp⟩ := pI_r hv; exact hr x μ' hp) hx)))
def q94_244 : List (Nat × Instr × Nat) := [(244, .iastore, 1), (245, .iinc 5 1, 3), (248, .goto (-22), 3)]
theorem e94_244 : am_dec am_M94 q94_244 = true := by decide +kernel
theorem b94_244 {d : Nat} {Q : Option Value ⊕ Nat → am_Mem → Prop} {μ : am_Mem} {r0 r1 r90 : Nat} {x2 x3 x4 x5 s1 s2 : Int32} {o6 : Option Value}
    (h1 : (am_kd μ r90).1 = 2)
    (h2 : ¬ (s1 < 0 ∨ (am_kd μ r90).2 ≤ s1.toNatClampNeg))
    (k : Wp d 94 (226, [some (.ref r0), some (.ref r1), some (.int x2), some (.int x3), some (.int x4), some (.int (x5 + Int32.ofInt 1)), o6], [], (am_pA μ r90 s1.toNatClampNeg s2)) Q) :
    Wp d 94 (244, [some (.ref r0), some (.ref r1), some (.int x2), some (.int x3), some (.int x4), some (.int x5), o6], [.int s2, .int s1, .ref r90], μ) Q := wp_blk rfl e94_244 (And.intro h1 (And.intro h2 k))
theorem e94_251_r : am_dec am_M94 [(251, .return_, 1)] = true := by decide +kernel
theorem b94_251 {d : Nat} {Q : Option Value ⊕ Nat → am_Mem → Prop} {μ : am_Mem} {r0 r1 : Nat} {x2 x3 x4 x5 : Int32} {o6 : Option Value}
    (k : Q (.inl none) μ) :
    Wp d 94 (251, [some (.ref r0), some (.ref r1), some (.int x2), some (.int x3), some (.int x4), some (.int x5), o6], [], μ) Q := (wp_rv rfl e94_251_r rfl k)
/-! RuleSheets$Terms.flag(II)V -/
def q95_0 : List (Nat × Instr × Nat) := [(0, .iload_n 1, 1), (1, .iload_n 2, 1), (2, .if_icmp .lt 10, 3)]
theorem e95_0 : am_dec am_M95 q95_0 = true := by decide +kernel
theorem b95_0 {d : Nat} {Q : Option Value ⊕ Nat → am_Mem → Prop} {μ : am_Mem} {r0 : Nat} {x1 x2 : Int32}
    (k1 : x1 < x2 → Wp d 95 (12, [some (.ref r0), some (.int x1), some (.int x2)], [], μ) Q) (k2 : ¬ (x1 < x2) → Wp d 95 (5, [some (.ref r0), some (.int x1), some (.int x2)], [], μ) Q) :
    Wp d 95 (0, [some (.ref r0), some (.int x1), some (.int x2)], [], μ) Q := wp_blk rfl e95_0 (And.intro k1 k2)
def q95_5 : List (Nat × Instr × Nat) := [(5, .aload_n 0, 1), (6, .getfield 30, 3), (9, .iload_n 1, 1), (10, .iconst 0, 1), (11, .iastore, 1)]
theorem e95_5 : am_dec am_M95 q95_5 = true := by decide +kernel
theorem b95_5 {d : Nat} {Q : Option Value ⊕ Nat → am_Mem → Prop} {μ : am_Mem} {r0 : Nat} {x1 x2 : Int32}
    (h1 : am_kd μ r0 = (1, 8))
    (h2 : ¬ am_F μ r0 7 = 15)
    (h3 : (am_kd μ (am_F μ r0 7)).1 = 2)
    (h4 : ¬ (x1 < 0 ∨ (am_kd μ (am_F μ r0 7)).2 ≤ x1.toNatClampNeg))
    (k : Wp d 95 (12, [some (.ref r0), some (.int x1), some (.int x2)], [], (am_pA μ (am_F μ r0 7) x1.toNatClampNeg (Int32.ofInt 0))) Q) :
    Wp d 95 (5, [some (.ref r0), some (.int x1), some (.int x2)], [], μ) Q := wp_blk rfl e95_5 (And.intro h1 (And.intro h2 (And.intro h3 (And.intro h4 k))))
theorem e95_12_r : am_dec am_M95 [(12, .return_, 1)] = true := by decide +kernel
theorem b95_12 {d : Nat} {Q : Option Value ⊕ Nat → am_Mem → Prop} {μ : am_Mem} {r0 : Nat} {x1 x2 : Int32}
    (k : Q (.inl none) μ) :
    Wp d 95 (12, [some (.ref r0), some (.int x1), some (.int x2)], [], μ) Q := (wp_rv rfl e95_12_r rfl k)
/-! RuleSheets$Terms.placeOf(II)I -/
def q96_0 : List (Nat × Instr × Nat) := [(0, .iload_n 1, 1), (1, .iload_n 2, 1), (2, .if_icmp .ge 7, 3)]
theorem e96_0 : am_dec am_M96 q96_0 = true := by decide +kernel
theorem b96_0 {d : Nat} {Q : Option Value ⊕ Nat → am_Mem → Prop} {μ : am_Mem} {r0 : Nat} {x1 x2 : Int32}
    (k1 : x2 ≤ x1 → Wp d 96 (9, [some (.ref r0), some (.int x1), some (.int x2)], [], μ) Q) (k2 : ¬ (x2 ≤ x1) → Wp d 96 (5, [some (.ref r0), some (.int x1), some (.int x2)], [], μ) Q) :
    Wp d 96 (0, [some (.ref r0), some (.int x1), some (.int x2)], [], μ) Q := wp_blk rfl e96_0 (And.intro k1 k2)
def q96_5 : List (Nat × Instr × Nat) := [(5, .iload_n 1, 1), (6, .goto 9, 3)]
theorem e96_5 : am_dec am_M96 q96_5 = true := by decide +kernel
theorem b96_5 {d : Nat} {Q : Option Value ⊕ Nat → am_Mem → Prop} {μ : am_Mem} {r0 : Nat} {x1 x2 : Int32}
    (k : Wp d 96 (15, [some (.ref r0), some (.int x1), some (.int x2)], [.int x1], μ) Q) :
    Wp d 96 (5, [some (.ref r0), some (.int x1), some (.int x2)], [], μ) Q := wp_blk rfl e96_5 k
def q96_9 : List (Nat × Instr × Nat) := [(9, .aload_n 0, 1), (10, .getfield 30, 3), (13, .iload_n 1, 1), (14, .iaload, 1)]
theorem e96_9 : am_dec am_M96 q96_9 = true := by decide +kernel
theorem b96_9 {d : Nat} {Q : Option Value ⊕ Nat → am_Mem → Prop} {μ : am_Mem} {r0 : Nat} {x1 x2 : Int32}
    (h1 : am_kd μ r0 = (1, 8))
    (h2 : ¬ am_F μ r0 7 = 15)
    (h3 : (am_kd μ (am_F μ r0 7)).1 = 2 ∨ (am_kd μ (am_F μ r0 7)).1 = 8)
    (h4 : ¬ (x1 < 0 ∨ (am_kd μ (am_F μ r0 7)).2 ≤ x1.toNatClampNeg))
    (k : Wp d 96 (15, [some (.ref r0), some (.int x1), some (.int x2)], [.int (am_A μ (am_F μ r0 7) x1.toNatClampNeg)], μ) Q) :
    Wp d 96 (9, [some (.ref r0), some (.int x1), some (.int x2)], [], μ) Q := wp_blk rfl e96_9 (And.intro h1 (And.intro h2 (And.intro h3 (And.intro h4 k))))
theorem e96_15_r : am_dec am_M96 [(15, .ireturn, 1)] = true := by decide +kernel
theorem b96_15 {d : Nat} {Q : Option Value ⊕ Nat → am_Mem → Prop} {μ : am_Mem} {r0 : Nat} {x1 x2 s0 : Int32}
    (k : Q (.inl (some (.int s0))) μ) :
    Wp d 96 (15, [some (.ref r0), some (.int x1), some (.int x2)], [.int s0], μ) Q := (wp_ri (ty := .int) rfl e96_15_r rfl ⟨rfl, rfl⟩ k)
/-! RuleSheets$Terms.insert([IIII)V -/
def q97_0 : List (Nat × Instr × Nat) := [(0, .iload_n 2, 1), (1, .istore 5, 2), (3, .iload_n 3, 1), (4, .istore 6, 2), (6, .iload_n 2, 1), (7, .istore 7, 2)]
theorem e97_0 : am_dec am_M97 q97_0 = true := by decide +kernel
theorem b97_0 {d : Nat} {Q : Option Value ⊕ Nat → am_Mem → Prop} {μ : am_Mem} {r0 r1 : Nat} {x2 x3 x4 : Int32}
    (k : Wp d 97 (9, [some (.ref r0), some (.ref r1), some (.int x2), some (.int x3), some (.int x4), some (.int x2), some (.int x3), some (.int x2), none], [], μ) Q) :
    Wp d 97 (0, [some (.ref r0), some (.ref r1), some (.int x2), some (.int x3), some (.int x4), none, none, none, none], [], μ) Q := wp_blk rfl e97_0 k
def q97_9 : List (Nat × Instr × Nat) := [(9, .iload 7, 2), (11, .iload_n 3, 1), (12, .if_icmp .gt 51, 3)]
theorem e97_9 : am_dec am_M97 q97_9 = true := by decide +kernel
theorem b97_9 {d : Nat} {Q : Option Value ⊕ Nat → am_Mem → Prop} {μ : am_Mem} {r0 r1 : Nat} {x2 x3 x4 x5 x6 x7 : Int32} {o8 : Option Value}
    (k1 : x3 < x7 → Wp d 97 (63, [some (.ref r0), some (.ref r1), some (.int x2), some (.int x3), some (.int x4), some (.int x5), some (.int x6), some (.int x7), o8], [], μ) Q) (k2 : ¬ (x3 < x7) → Wp d 97 (15, [some (.ref r0), some (.ref r1), some (.int x2), some (.int x3), some (.int x4), some (.int x5), some (.int x6), some (.int x7), o8], [], μ) Q) :
    Wp d 97 (9, [some (.ref r0), some (.ref r1), some (.int x2), some (.int x3), some (.int x4), some (.int x5), some (.int x6), some (.int x7), o8], [], μ) Q := wp_blk rfl e97_9 (And.intro k1 k2)
def q97_15 : List (Nat × Instr × Nat) := [(15, .iload 5, 2), (17, .iload 6, 2), (19, .if_icmp .ge 44, 3)]
theorem e97_15 : am_dec am_M97 q97_15 = true := by decide +kernel
theorem b97_15 {d : Nat} {Q : Option Value ⊕ Nat → am_Mem → Prop} {μ : am_Mem} {r0 r1 : Nat} {x2 x3 x4 x5 x6 x7 : Int32} {o8 : Option Value}
    (k1 : x6 ≤ x5 → Wp d 97 (63, [some (.ref r0), some (.ref r1), some (.int x2), some (.int x3), some (.int x4), some (.int x5), some (.int x6), some (.int x7), o8], [], μ) Q) (k2 : ¬ (x6 ≤ x5) → Wp d 97 (22, [some (.ref r0), some (.ref r1), some (.int x2), some (.int x3), some (.int x4), some (.int x5), some (.int x6), some (.int x7), o8], [], μ) Q) :
    Wp d 97 (15, [some (.ref r0), some (.ref r1), some (.int x2), some (.int x3), some (.int x4), some (.int x5), some (.int x6), some (.int x7), o8], [], μ) Q := wp_blk rfl e97_15 (And.intro k1 k2)
def q97_22 : List (Nat × Instr × Nat) := [(22, .iload 5, 2), (24, .iload 6, 2), (26, .iadd, 1), (27, .iconst 2, 1), (28, .idiv, 1), (29, .istore 8, 2), (31, .aload_n 0, 1), (32, .aload_n 1, 1), (33, .iload 8, 2), (35, .iaload, 1), (36, .iload 4, 2)]
theorem e97_22 : am_dec am_M97 q97_22 = true := by decide +kernel
theorem e97_22_c : am_dc1 am_M97 38 (.invokevirtual 88) 3 = true := by decide +kernel
theorem b97_22 {d : Nat} {Q : Option Value ⊕ Nat → am_Mem → Prop} {μ : am_Mem} {r0 r1 : Nat} {x2 x3 x4 x5 x6 x7 : Int32} {o8 : Option Value} {P : Int32 → am_Mem → Prop} {X : Nat → am_Mem → Prop}
    (h1 : ¬ (Int32.ofInt 2) = 0)
    (h2 : (am_kd μ r1).1 = 2 ∨ (am_kd μ r1).1 = 8)
    (h3 : ¬ (((x5 + x6) / (Int32.ofInt 2)) < 0 ∨ (am_kd μ r1).2 ≤ ((x5 + x6) / (Int32.ofInt 2)).toNatClampNeg))
    (hk : am_kd μ r0 = (1, 8))
    (hc : Wp d 98 (0, [some (.ref r0), some (.int (am_A μ r1 ((x5 + x6) / (Int32.ofInt 2)).toNatClampNeg)), some (.int x4), none, none, none, none, none, none], [], μ) (pI P X)) (hr : ∀ x μ', P x μ' → Wp (d + 1) 97 (41, [some (.ref r0), some (.ref r1), some (.int x2), some (.int x3), some (.int x4), some (.int x5), some (.int x6), some (.int x7), some (.int ((x5 + x6) / (Int32.ofInt 2)))], [.int x], (μ')) Q)
    (hx : ∀ x μ', X x μ' → Q (.inr x) μ') :
    Wp (d + 1) 97 (22, [some (.ref r0), some (.ref r1), some (.int x2), some (.int x3), some (.int x4), some (.int x5), some (.int x6), some (.int x7), o8], [], μ) Q := wp_blk rfl e97_22 (And.intro h1 (And.intro h2 (And.intro h3 (wp_cv (as := [.int (am_A μ r1 ((x5 + x6) / (Int32.ofInt 2)).toNatClampNeg), .int x4]) rfl e97_22_c rfl rfl rfl rfl rfl hk hc (fun v μ' hv => by obtain ⟨x, rfl, hp⟩ := pI_r hv; exact hr x μ' hp) hx))))
def q97_41 : List (Nat × Instr × Nat) := [(41, .ifCond .ge 12, 3)]
theorem e97_41 : am_dec am_M97 q97_41 = true := by decide +kernel
theorem b97_41 {d : Nat} {Q : Option Value ⊕ Nat → am_Mem → Prop} {μ : am_Mem} {r0 r1 : Nat} {x2 x3 x4 x5 x6 x7 x8 s0 : Int32}
    (k1 : 0 ≤ s0 → Wp d 97 (53, [some (.ref r0), some (.ref r1), some (.int x2), some (.int x3), some (.int x4), some (.int x5), some (.int x6), some (.int x7), some (.int x8)], [], μ) Q) (k2 : ¬ (0 ≤ s0) → Wp d 97 (44, [some (.ref r0), some (.ref r1), some (.int x2), some (.int x3), some (.int x4), some (.int x5), some (.int x6), some (.int x7), some (.int x8)], [], μ) Q) :
    Wp d 97 (41, [some (.ref r0), some (.ref r1), some (.int x2), some (.int x3), some (.int x4), some (.int x5), some (.int x6), some (.int x7), some (.int x8)], [.int s0], μ) Q := wp_blk rfl e97_41 (And.intro k1 k2)
def q97_44 : List (Nat × Instr × Nat) := [(44, .iload 8, 2), (46, .iconst 1, 1), (47, .iadd, 1), (48, .istore 5, 2), (50, .goto 7, 3)]
theorem e97_44 : am_dec am_M97 q97_44 = true := by decide +kernel
theorem b97_44 {d : Nat} {Q : Option Value ⊕ Nat → am_Mem → Prop} {μ : am_Mem} {r0 r1 : Nat} {x2 x3 x4 x5 x6 x7 x8 : Int32}
    (k : Wp d 97 (57, [some (.ref r0), some (.ref r1), some (.int x2), some (.int x3), some (.int x4), some (.int (x8 + (Int32.ofInt 1))), some (.int x6), some (.int x7), some (.int x8)], [], μ) Q) :
    Wp d 97 (44, [some (.ref r0), some (.ref r1), some (.int x2), some (.int x3), some (.int x4), some (.int x5), some (.int x6), some (.int x7), some (.int x8)], [], μ) Q := wp_blk rfl e97_44 k
def q97_53 : List (Nat × Instr × Nat) := [(53, .iload 8, 2), (55, .istore 6, 2)]
theorem e97_53 : am_dec am_M97 q97_53 = true := by decide +kernel
theorem b97_53 {d : Nat} {Q : Option Value ⊕ Nat → am_Mem → Prop} {μ : am_Mem} {r0 r1 : Nat} {x2 x3 x4 x5 x6 x7 x8 : Int32}
    (k : Wp d 97 (57, [some (.ref r0), some (.ref r1), some (.int x2), some (.int x3), some (.int x4), some (.int x5), some (.int x8), some (.int x7), some (.int x8)], [], μ) Q) :
    Wp d 97 (53, [some (.ref r0), some (.ref r1), some (.int x2), some (.int x3), some (.int x4), some (.int x5), some (.int x6), some (.int x7), some (.int x8)], [], μ) Q := wp_blk rfl e97_53 k
def q97_57 : List (Nat × Instr × Nat) := [(57, .iinc 7 1, 3), (60, .goto (-51), 3)]
theorem e97_57 : am_dec am_M97 q97_57 = true := by decide +kernel
theorem b97_57 {d : Nat} {Q : Option Value ⊕ Nat → am_Mem → Prop} {μ : am_Mem} {r0 r1 : Nat} {x2 x3 x4 x5 x6 x7 x8 : Int32}
    (k : Wp d 97 (9, [some (.ref r0), some (.ref r1), some (.int x2), some (.int x3), some (.int x4), some (.int x5), some (.int x6), some (.int (x7 + Int32.ofInt 1)), some (.int x8)], [], μ) Q) :
    Wp d 97 (57, [some (.ref r0), some (.ref r1), some (.int x2), some (.int x3), some (.int x4), some (.int x5), some (.int x6), some (.int x7), some (.int x8)], [], μ) Q := wp_blk rfl e97_57 k
def q97_63 : List (Nat × Instr × Nat) := [(63, .aload_n 1, 1), (64, .iload 5, 2), (66, .aload_n 1, 1), (67, .iload 5, 2), (69, .iconst 1, 1), (70, .iadd, 1), (71, .iload_n 3, 1), (72, .iload 5, 2), (74, .isub, 1), (75, .invokestatic 91, 3), (78, .aload_n 1, 1), (79, .iload 5, 2), (81, .iload 4, 2), (83, .iastore, 1)]
theorem e97_63 : am_dec am_M97 q97_63 = true := by decide +kernel
theorem e97_63_r : am_dec am_M97 [(84, .return_, 1)] = true := by decide +kernel
theorem b97_63 {d : Nat} {Q : Option Value ⊕ Nat → am_Mem → Prop} {μ : am_Mem} {r0 r1 : Nat} {x2 x3 x4 x5 x6 x7 : Int32} {o8 : Option Value}
    (h1 : (((am_kd μ r1).1 = 2 ∨ (am_kd μ r1).1 = 8) ∧ (am_kd μ r1).1 = 2) ∨ ((am_kd μ r1).1 = 7 ∧ (am_kd μ r1).1 = 7 ∧ ∀ i, i < (x3 - x5).toNatClampNeg → fits .short (.int (am_A μ r1 (x5.toNatClampNeg + i))) = true))
    (h2 : ¬ (x3 - x5) < 0 ∧ ¬ (x5 + (Int32.ofInt 1)) < 0 ∧ ¬ x5 < 0)
    (h3 : x5.toNatClampNeg + (x3 - x5).toNatClampNeg ≤ (am_kd μ r1).2 ∧ (x5 + (Int32.ofInt 1)).toNatClampNeg + (x3 - x5).toNatClampNeg ≤ (am_kd μ r1).2)
    (h4 : (am_kd (am_wA μ r1 (am_cp (am_A μ r1) (am_A μ r1) x5.toNatClampNeg (x5 + (Int32.ofInt 1)).toNatClampNeg (x3 - x5).toNatClampNeg)) r1).1 = 2)
    (h5 : ¬ (x5 < 0 ∨ (am_kd (am_wA μ r1 (am_cp (am_A μ r1) (am_A μ r1) x5.toNatClampNeg (x5 + (Int32.ofInt 1)).toNatClampNeg (x3 - x5).toNatClampNeg)) r1).2 ≤ x5.toNatClampNeg))
    (k : Q (.inl none) (am_pA (am_wA μ r1 (am_cp (am_A μ r1) (am_A μ r1) x5.toNatClampNeg (x5 + (Int32.ofInt 1)).toNatClampNeg (x3 - x5).toNatClampNeg)) r1 x5.toNatClampNeg x4)) :
    Wp d 97 (63, [some (.ref r0), some (.ref r1), some (.int x2), some (.int x3), some (.int x4), some (.int x5), some (.int x6), some (.int x7), o8], [], μ) Q := wp_blk rfl e97_63 (And.intro h1 (And.intro h2 (And.intro h3 (And.intro h4 (And.intro h5 (wp_rv rfl e97_63_r rfl k))))))
/-! RuleSheets$Terms.compare(II)I -/
def q98_0 : List (Nat × Instr × Nat) := [(0, .iload_n 1, 1), (1, .istore_n 3, 1), (2, .iload_n 2, 1), (3, .istore 4, 2), (5, .iconst 0, 1), (6, .istore 5, 2)]
theorem e98_0 : am_dec am_M98 q98_0 = true := by decide +kernel
theorem b98_0 {d : Nat} {Q : Option Value ⊕ Nat → am_Mem → Prop} {μ : am_Mem} {r0 : Nat} {x1 x2 : Int32}
    (k : Wp d 98 (8, [some (.ref r0), some (.int x1), some (.int x2), some (.int x1), some (.int x2), some (.int (Int32.ofInt 0)), none, none, none], [], μ) Q) :
    Wp d 98 (0, [some (.ref r0), some (.int x1), some (.int x2), none, none, none, none, none, none], [], μ) Q := wp_blk rfl e98_0 k
def q98_8 : List (Nat × Instr × Nat) := [(8, .iload 5, 2), (10, .sipush 2000, 3), (13, .if_icmp .gt 225, 3)]
theorem e98_8 : am_dec am_M98 q98_8 = true := by decide +kernel
theorem b98_8 {d : Nat} {Q : Option Value ⊕ Nat → am_Mem → Prop} {μ : am_Mem} {r0 : Nat} {x1 x2 x3 x4 x5 : Int32} {o6 o7 o8 : Option Value}
    (k1 : ((Int16.ofInt 2000).toInt32) < x5 → Wp d 98 (238, [some (.ref r0), some (.int x1), some (.int x2), some (.int x3), some (.int x4), some (.int x5), o6, o7, o8], [], μ) Q) (k2 : ¬ (((Int16.ofInt 2000).toInt32) < x5) → Wp d 98 (16, [some (.ref r0), some (.int x1), some (.int x2), some (.int x3), some (.int x4), some (.int x5), o6, o7, o8], [], μ) Q) :
    Wp d 98 (8, [some (.ref r0), some (.int x1), some (.int x2), some (.int x3), some (.int x4), some (.int x5), o6, o7, o8], [], μ) Q := wp_blk rfl e98_8 (And.intro k1 k2)
def q98_16 : List (Nat × Instr × Nat) := [(16, .iload_n 3, 1), (17, .iload 4, 2), (19, .if_icmp .eq 219, 3)]
theorem e98_16 : am_dec am_M98 q98_16 = true := by decide +kernel
theorem b98_16 {d : Nat} {Q : Option Value ⊕ Nat → am_Mem → Prop} {μ : am_Mem} {r0 : Nat} {x1 x2 x3 x4 x5 : Int32} {o6 o7 o8 : Option Value}
    (k1 : x3 = x4 → Wp d 98 (238, [some (.ref r0), some (.int x1), some (.int x2), some (.int x3), some (.int x4), some (.int x5), o6, o7, o8], [], μ) Q) (k2 : ¬ (x3 = x4) → Wp d 98 (22, [some (.ref r0), some (.int x1), some (.int x2), some (.int x3), some (.int x4), some (.int x5), o6, o7, o8], [], μ) Q) :
    Wp d 98 (16, [some (.ref r0), some (.int x1), some (.int x2), some (.int x3), some (.int x4), some (.int x5), o6, o7, o8], [], μ) Q := wp_blk rfl e98_16 (And.intro k1 k2)
def q98_22 : List (Nat × Instr × Nat) := [(22, .aload_n 0, 1), (23, .getfield 15, 3), (26, .iload_n 3, 1), (27, .iaload, 1), (28, .ifCond .eq 29, 3)]
theorem e98_22 : am_dec am_M98 q98_22 = true := by decide +kernel
theorem b98_22 {d : Nat} {Q : Option Value ⊕ Nat → am_Mem → Prop} {μ : am_Mem} {r0 : Nat} {x1 x2 x3 x4 x5 : Int32} {o6 o7 o8 : Option Value}
    (h1 : am_kd μ r0 = (1, 8))
    (h2 : ¬ am_F μ r0 2 = 15)
    (h3 : (am_kd μ (am_F μ r0 2)).1 = 2 ∨ (am_kd μ (am_F μ r0 2)).1 = 8)
    (h4 : ¬ (x3 < 0 ∨ (am_kd μ (am_F μ r0 2)).2 ≤ x3.toNatClampNeg))
    (k1 : (am_A μ (am_F μ r0 2) x3.toNatClampNeg) = 0 → Wp d 98 (57, [some (.ref r0), some (.int x1), some (.int x2), some (.int x3), some (.int x4), some (.int x5), o6, o7, o8], [], μ) Q) (k2 : ¬ ((am_A μ (am_F μ r0 2) x3.toNatClampNeg) = 0) → Wp d 98 (31, [some (.ref r0), some (.int x1), some (.int x2), some (.int x3), some (.int x4), some (.int x5), o6, o7, o8], [], μ) Q) :
    Wp d 98 (22, [some (.ref r0), some (.int x1), some (.int x2), some (.int x3), some (.int x4), some (.int x5), o6, o7, o8], [], μ) Q := wp_blk rfl e98_22 (And.intro h1 (And.intro h2 (And.intro h3 (And.intro h4 (And.intro k1 k2)))))
def q98_31 : List (Nat × Instr × Nat) := [(31, .aload_n 0, 1), (32, .getfield 15, 3), (35, .iload 4, 2), (37, .iaload, 1), (38, .ifCond .eq 19, 3)]
theorem e98_31 : am_dec am_M98 q98_31 = true := by decide +kernel
theorem b98_31 {d : Nat} {Q : Option Value ⊕ Nat → am_Mem → Prop} {μ : am_Mem} {r0 : Nat} {x1 x2 x3 x4 x5 : Int32} {o6 o7 o8 : Option Value}
    (h1 : am_kd μ r0 = (1, 8))
    (h2 : ¬ am_F μ r0 2 = 15)
    (h3 : (am_kd μ (am_F μ r0 2)).1 = 2 ∨ (am_kd μ (am_F μ r0 2)).1 = 8)
    (h4 : ¬ (x4 < 0 ∨ (am_kd μ (am_F μ r0 2)).2 ≤ x4.toNatClampNeg))
    (k1 : (am_A μ (am_F μ r0 2) x4.toNatClampNeg) = 0 → Wp d 98 (57, [some (.ref r0), some (.int x1), some (.int x2), some (.int x3), some (.int x4), some (.int x5), o6, o7, o8], [], μ) Q) (k2 : ¬ ((am_A μ (am_F μ r0 2) x4.toNatClampNeg) = 0) → Wp d 98 (41, [some (.ref r0), some (.int x1), some (.int x2), some (.int x3), some (.int x4), some (.int x5), o6, o7, o8], [], μ) Q) :
    Wp d 98 (31, [some (.ref r0), some (.int x1), some (.int x2), some (.int x3), some (.int x4), some (.int x5), o6, o7, o8], [], μ) Q := wp_blk rfl e98_31 (And.intro h1 (And.intro h2 (And.intro h3 (And.intro h4 (And.intro k1 k2)))))
def q98_41 : List (Nat × Instr × Nat) := [(41, .aload_n 0, 1), (42, .getfield 11, 3), (45, .iload_n 3, 1), (46, .iaload, 1), (47, .aload_n 0, 1), (48, .getfield 11, 3), (51, .iload 4, 2), (53, .iaload, 1), (54, .if_icmp .eq 66, 3)]
theorem e98_41 : am_dec am_M98 q98_41 = true := by decide +kernel
theorem b98_41 {d : Nat} {Q : Option Value ⊕ Nat → am_Mem → Prop} {μ : am_Mem} {r0 : Nat} {x1 x2 x3 x4 x5 : Int32} {o6 o7 o8 : Option Value}
    (h1 : am_kd μ r0 = (1, 8))
    (h2 : ¬ am_F μ r0 1 = 15)
    (h3 : (am_kd μ (am_F μ r0 1)).1 = 2 ∨ (am_kd μ (am_F μ r0 1)).1 = 8)
    (h4 : ¬ (x3 < 0 ∨ (am_kd μ (am_F μ r0 1)).2 ≤ x3.toNatClampNeg))
    (h5 : am_kd μ r0 = (1, 8))
    (h6 : ¬ am_F μ r0 1 = 15)
    (h7 : (am_kd μ (am_F μ r0 1)).1 = 2 ∨ (am_kd μ (am_F μ r0 1)).1 = 8)
    (h8 : ¬ (x4 < 0 ∨ (am_kd μ (am_F μ r0 1)).2 ≤ x4.toNatClampNeg))
    (k1 : (am_A μ (am_F μ r0 1) x3.toNatClampNeg) = (am_A μ (am_F μ r0 1) x4.toNatClampNeg) → Wp d 98 (120, [some (.ref r0), some (.int x1), some (.int x2), some (.int x3), some (.int x4), some (.int x5), o6, o7, o8], [], μ) Q) (k2 : ¬ ((am_A μ (am_F μ r0 1) x3.toNatClampNeg) = (am_A μ (am_F μ r0 1) x4.toNatClampNeg)) → Wp d 98 (57, [some (.ref r0), some (.int x1), some (.int x2), some (.int x3), some (.int x4), some (.int x5), o6, o7, o8], [], μ) Q) :
    Wp d 98 (41, [some (.ref r0), some (.int x1), some (.int x2), some (.int x3), some (.int x4), some (.int x5), o6, o7, o8], [], μ) Q := wp_blk rfl e98_41 (And.intro h1 (And.intro h2 (And.intro h3 (And.intro h4 (And.intro h5 (And.intro h6 (And.intro h7 (And.intro h8 (And.intro k1 k2)))))))))
def q98_57 : List (Nat × Instr × Nat) := [(57, .aload_n 0, 1), (58, .getfield 15, 3), (61, .iload_n 3, 1), (62, .iaload, 1), (63, .ifCond .ne 7, 3)]
theorem e98_57 : am_dec am_M98 q98_57 = true := by decide +kernel
theorem b98_57 {d : Nat} {Q : Option Value ⊕ Nat → am_Mem → Prop} {μ : am_Mem} {r0 : Nat} {x1 x2 x3 x4 x5 : Int32} {o6 o7 o8 : Option Value}
    (h1 : am_kd μ r0 = (1, 8))
    (h2 : ¬ am_F μ r0 2 = 15)
    (h3 : (am_kd μ (am_F μ r0 2)).1 = 2 ∨ (am_kd μ (am_F μ r0 2)).1 = 8)
    (h4 : ¬ (x3 < 0 ∨ (am_kd μ (am_F μ r0 2)).2 ≤ x3.toNatClampNeg))
    (k1 : ¬ (am_A μ (am_F μ r0 2) x3.toNatClampNeg) = 0 → Wp d 98 (70, [some (.ref r0), some (.int x1), some (.int x2), some (.int x3), some (.int x4), some (.int x5), o6, o7, o8], [], μ) Q) (k2 : ¬ (¬ (am_A μ (am_F μ r0 2) x3.toNatClampNeg) = 0) → Wp d 98 (66, [some (.ref r0), some (.int x1), some (.int x2), some (.int x3), some (.int x4), some (.int x5), o6, o7, o8], [], μ) Q) :
    Wp d 98 (57, [some (.ref r0), some (.int x1), some (.int x2), some (.int x3), some (.int x4), some (.int x5), o6, o7, o8], [], μ) Q := wp_blk rfl e98_57 (And.intro h1 (And.intro h2 (And.intro h3 (And.intro h4 (And.intro k1 k2)))))
def q98_66 : List (Nat × Instr × Nat) := [(66, .iconst 1, 1), (67, .goto 4, 3)]
theorem e98_66 : am_dec am_M98 q98_66 = true := by decide +kernel
theorem b98_66 {d : Nat} {Q : Option Value ⊕ Nat → am_Mem → Prop} {μ : am_Mem} {r0 : Nat} {x1 x2 x3 x4 x5 : Int32} {o6 o7 o8 : Option Value}
    (k : Wp d 98 (71, [some (.ref r0), some (.int x1), some (.int x2), some (.int x3), some (.int x4), some (.int x5), o6, o7, o8], [.int (Int32.ofInt 1)], μ) Q) :
    Wp d 98 (66, [some (.ref r0), some (.int x1), some (.int x2), some (.int x3), some (.int x4), some (.int x5), o6, o7, o8], [], μ) Q := wp_blk rfl e98_66 k
def q98_70 : List (Nat × Instr × Nat) := [(70, .iconst 0, 1)]
theorem e98_70 : am_dec am_M98 q98_70 = true := by decide +kernel
theorem b98_70 {d : Nat} {Q : Option Value ⊕ Nat → am_Mem → Prop} {μ : am_Mem} {r0 : Nat} {x1 x2 x3 x4 x5 : Int32} {o6 o7 o8 : Option Value}
    (k : Wp d 98 (71, [some (.ref r0), some (.int x1), some (.int x2), some (.int x3), some (.int x4), some (.int x5), o6, o7, o8], [.int (Int32.ofInt 0)], μ) Q) :
    Wp d 98 (70, [some (.ref r0), some (.int x1), some (.int x2), some (.int x3), some (.int x4), some (.int x5), o6, o7, o8], [], μ) Q := wp_blk rfl e98_70 k
def q98_71 : List (Nat × Instr × Nat) := [(71, .aload_n 0, 1), (72, .getfield 15, 3), (75, .iload 4, 2), (77, .iaload, 1), (78, .ifCond .ne 7, 3)]
theorem e98_71 : am_dec am_M98 q98_71 = true := by decide +kernel
theorem b98_71 {d : Nat} {Q : Option Value ⊕ Nat → am_Mem → Prop} {μ : am_Mem} {r0 : Nat} {x1 x2 x3 x4 x5 s0 : Int32} {o6 o7 o8 : Option Value}
    (h1 : am_kd μ r0 = (1, 8))
    (h2 : ¬ am_F μ r0 2 = 15)
    (h3 : (am_kd μ (am_F μ r0 2)).1 = 2 ∨ (am_kd μ (am_F μ r0 2)).1 = 8)
    (h4 : ¬ (x4 < 0 ∨ (am_kd μ (am_F μ r0 2)).2 ≤ x4.toNatClampNeg))
    (k1 : ¬ (am_A μ (am_F μ r0 2) x4.toNatClampNeg) = 0 → Wp d 98 (85, [some (.ref r0), some (.int x1), some (.int x2), some (.int x3), some (.int x4), some (.int x5), o6, o7, o8], [.int s0], μ) Q) (k2 : ¬ (¬ (am_A μ (am_F μ r0 2) x4.toNatClampNeg) = 0) → Wp d 98 (81, [some (.ref r0), some (.int x1), some (.int x2), some (.int x3), some (.int x4), some (.int x5), o6, o7, o8], [.int s0], μ) Q) :
    Wp d 98 (71, [some (.ref r0), some (.int x1), some (.int x2), some (.int x3), some (.int x4), some (.int x5), o6, o7, o8], [.int s0], μ) Q := wp_blk rfl e98_71 (And.intro h1 (And.intro h2 (And.intro h3 (And.intro h4 (And.intro k1 k2)))))
def q98_81 : List (Nat × Instr × Nat) := [(81, .iconst 1, 1), (82, .goto 4, 3)]
theorem e98_81 : am_dec am_M98 q98_81 = true := by decide +kernel
theorem b98_81 {d : Nat} {Q : Option Value ⊕ Nat → am_Mem → Prop} {μ : am_Mem} {r0 : Nat} {x1 x2 x3 x4 x5 s0 : Int32} {o6 o7 o8 : Option Value}
    (k : Wp d 98 (86, [some (.ref r0), some (.int x1), some (.int x2), some (.int x3), some (.int x4), some (.int x5), o6, o7, o8], [.int (Int32.ofInt 1), .int s0], μ) Q) :
    Wp d 98 (81, [some (.ref r0), some (.int x1), some (.int x2), some (.int x3), some (.int x4), some (.int x5), o6, o7, o8], [.int s0], μ) Q := wp_blk rfl e98_81 k
def q98_85 : List (Nat × Instr × Nat) := [(85, .iconst 0, 1)]
theorem e98_85 : am_dec am_M98 q98_85 = true := by decide +kernel
theorem b98_85 {d : Nat} {Q : Option Value ⊕ Nat → am_Mem → Prop} {μ : am_Mem} {r0 : Nat} {x1 x2 x3 x4 x5 s0 : Int32} {o6 o7 o8 : Option Value}
    (k : Wp d 98 (86, [some (.ref r0), some (.int x1), some (.int x2), some (.int x3), some (.int x4), some (.int x5), o6, o7, o8], [.int (Int32.ofInt 0), .int s0], μ) Q) :
    Wp d 98 (85, [some (.ref r0), some (.int x1), some (.int x2), some (.int x3), some (.int x4), some (.int x5), o6, o7, o8], [.int s0], μ) Q := wp_blk rfl e98_85 k
def q98_86 : List (Nat × Instr × Nat) := [(86, .isub, 1), (87, .istore 6, 2), (89, .iload 6, 2), (91, .ifCond .eq 8, 3)]
theorem e98_86 : am_dec am_M98 q98_86 = true := by decide +kernel
theorem b98_86 {d : Nat} {Q : Option Value ⊕ Nat → am_Mem → Prop} {μ : am_Mem} {r0 : Nat} {x1 x2 x3 x4 x5 s0 s1 : Int32} {o6 o7 o8 : Option Value}
    (k1 : (s0 - s1) = 0 → Wp d 98 (99, [some (.ref r0), some (.int x1), some (.int x2), some (.int x3), some (.int x4), some (.int x5), some (.int (s0 - s1)), o7, o8], [], μ) Q) (k2 : ¬ ((s0 - s1) = 0) → Wp d 98 (94, [some (.ref r0), some (.int x1), some (.int x2), some (.int x3), some (.int x4), some (.int x5), some (.int (s0 - s1)), o7, o8], [], μ) Q) :
    Wp d 98 (86, [some (.ref r0), some (.int x1), some (.int x2), some (.int x3), some (.int x4), some (.int x5), o6, o7, o8], [.int s1, .int s0], μ) Q := wp_blk rfl e98_86 (And.intro k1 k2)
def q98_94 : List (Nat × Instr × Nat) := [(94, .iload 6, 2), (96, .goto 23, 3)]
theorem e98_94 : am_dec am_M98 q98_94 = true := by decide +kernel
theorem b98_94 {d : Nat} {Q : Option Value ⊕ Nat → am_Mem → Prop} {μ : am_Mem} {r0 : Nat} {x1 x2 x3 x4 x5 x6 : Int32} {o7 o8 : Option Value}
    (k : Wp d 98 (119, [some (.ref r0), some (.int x1), some (.int x2), some (.int x3), some (.int x4), some (.int x5), some (.int x6), o7, o8], [.int x6], μ) Q) :
    Wp d 98 (94, [some (.ref r0), some (.int x1), some (.int x2), some (.int x3), some (.int x4), some (.int x5), some (.int x6), o7, o8], [], μ) Q := wp_blk rfl e98_94 k
def q98_99 : List (Nat × Instr × Nat) := [(99, .aload_n 0, 1), (100, .getfield 43, 3), (103, .aload_n 0, 1), (104, .getfield 11, 3), (107, .iload_n 3, 1), (108, .iaload, 1), (109, .aload_n 0, 1), (110, .getfield 11, 3), (113, .iload 4, 2), (115, .iaload, 1)]
theorem e98_99 : am_dec am_M98 q98_99 = true := by decide +kernel
theorem e98_99_c : am_dc1 am_M98 116 (.invokevirtual 101) 3 = true := by decide +kernel
theorem b98_99 {d : Nat} {Q : Option Value ⊕ Nat → am_Mem → Prop} {μ : am_Mem} {r0 : Nat} {x1 x2 x3 x4 x5 x6 : Int32} {o7 o8 : Option Value} {P : Int32 → am_Mem → Prop} {X : Nat → am_Mem → Prop}
    (h1 : am_kd μ r0 = (1, 8))
    (h2 : ¬ am_F μ r0 0 = 15)
    (h3 : am_kd μ r0 = (1, 8))
    (h4 : ¬ am_F μ r0 1 = 15)
    (h5 : (am_kd μ (am_F μ r0 1)).1 = 2 ∨ (am_kd μ (am_F μ r0 1)).1 = 8)
    (h6 : ¬ (x3 < 0 ∨ (am_kd μ (am_F μ r0 1)).2 ≤ x3.toNatClampNeg))
    (h7 : am_kd μ r0 = (1, 8))
    (h8 : ¬ am_F μ r0 1 = 15)
    (h9 : (am_kd μ (am_F μ r0 1)).1 = 2 ∨ (am_kd μ (am_F μ r0 1)).1 = 8)
    (h10 : ¬ (x4 < 0 ∨ (am_kd μ (am_F μ r0 1)).2 ≤ x4.toNatClampNeg))
    (hk : am_kd μ (am_F μ r0 0) = (1, 3))
    (hc : Wp d 52 (0, [some (.ref (am_F μ r0 0)), some (.int (am_A μ (am_F μ r0 1) x3.toNatClampNeg)), some (.int (am_A μ (am_F μ r0 1) x4.toNatClampNeg)), none, none], [], μ) (pI P X)) (hr : ∀ x μ', P x μ' → Wp (d + 1) 98 (119, [some (.ref r0), some (.int x1), some (.int x2), some (.int x3), some (.int x4), some (.int x5), some (.int x6), o7, o8], [.int x], (μ')) Q)
    (hx : ∀ x μ', X x μ' → Q (.inr x) μ') :
    Wp (d + 1) 98 (99, [some (.ref r0), some (.int x1), some (.int x2), some (.int x3), some (.int x4), some (.int x5), some (.int x6), o7, o8], [], μ) Q := wp_blk rfl e98_99 (And.intro h1 (And.intro h2 (And.intro h3 (And.intro h4 (And.intro h5 (And.intro h6 (And.intro h7 (And.intro h8 (And.intro h9 (And.intro h10 (wp_cv (as := [.int (am_A μ (am_F μ r0 1) x3.toNatClampNeg), .int (am_A μ (am_F μ r0 1) x4.toNatClampNeg)]) rfl e98_99_c rfl rfl rfl rfl rfl hk hc (fun v μ' hv => by obtain ⟨x, rfl, hp⟩ := pI_r hv; exact hr x μ' hp) hx)))))))))))
theorem e98_119_r : am_dec am_M98 [(119, .ireturn, 1)] = true := by decide +kernel
theorem b98_119 {d : Nat} {Q : Option Value ⊕ Nat → am_Mem → Prop} {μ : am_Mem} {r0 : Nat} {x1 x2 x3 x4 x5 x6 s0 : Int32} {o7 o8 : Option Value}
    (k : Q (.inl (some (.int s0))) μ) :
    Wp d 98 (119, [some (.ref r0), some (.int x1), some (.int x2), some (.int x3), some (.int x4), some (.int x5), some (.int x6), o7, o8], [.int s0], μ) Q := (wp_ri (ty := .int) rfl e98_119_r rfl ⟨rfl, rfl⟩ k)
def q98_120 : List (Nat × Instr × Nat) := [(120, .aload_n 0, 1), (121, .getfield 15, 3), (124, .iload_n 3, 1), (125, .iaload, 1), (126, .aload_n 0, 1), (127, .getfield 15, 3), (130, .iload 4, 2), (132, .iaload, 1), (133, .invokestatic 102, 3), (136, .istore 6, 2), (138, .iconst 0, 1), (139, .istore 7, 2)]
theorem e98_120 : am_dec am_M98 q98_120 = true := by decide +kernel
theorem b98_120 {d : Nat} {Q : Option Value ⊕ Nat → am_Mem → Prop} {μ : am_Mem} {r0 : Nat} {x1 x2 x3 x4 x5 : Int32} {o6 o7 o8 : Option Value}
    (h1 : am_kd μ r0 = (1, 8))
    (h2 : ¬ am_F μ r0 2 = 15)
    (h3 : (am_kd μ (am_F μ r0 2)).1 = 2 ∨ (am_kd μ (am_F μ r0 2)).1 = 8)
    (h4 : ¬ (x3 < 0 ∨ (am_kd μ (am_F μ r0 2)).2 ≤ x3.toNatClampNeg))
    (h5 : am_kd μ r0 = (1, 8))
    (h6 : ¬ am_F μ r0 2 = 15)
    (h7 : (am_kd μ (am_F μ r0 2)).1 = 2 ∨ (am_kd μ (am_F μ r0 2)).1 = 8)
    (h8 : ¬ (x4 < 0 ∨ (am_kd μ (am_F μ r0 2)).2 ≤ x4.toNatClampNeg))
    (k : Wp d 98 (141, [some (.ref r0), some (.int x1), some (.int x2), some (.int x3), some (.int x4), some (.int x5), some (.int (if (am_A μ (am_F μ r0 2) x4.toNatClampNeg) < (am_A μ (am_F μ r0 2) x3.toNatClampNeg) then (am_A μ (am_F μ r0 2) x4.toNatClampNeg) else (am_A μ (am_F μ r0 2) x3.toNatClampNeg))), some (.int (Int32.ofInt 0)), o8], [], μ) Q) :
    Wp d 98 (120, [some (.ref r0), some (.int x1), some (.int x2), some (.int x3), some (.int x4), some (.int x5), o6, o7, o8], [], μ) Q := wp_blk rfl e98_120 (And.intro h1 (And.intro h2 (And.intro h3 (And.intro h4 (And.intro h5 (And.intro h6 (And.intro h7 (And.intro h8 k))))))))
def q98_141 : List (Nat × Instr × Nat) := [(141, .iload 7, 2), (143, .iload 6, 2), (145, .if_icmp .ge 35, 3)]
theorem e98_141 : am_dec am_M98 q98_141 = true := by decide +kernel
theorem b98_141 {d : Nat} {Q : Option Value ⊕ Nat → am_Mem → Prop} {μ : am_Mem} {r0 : Nat} {x1 x2 x3 x4 x5 x6 x7 : Int32} {o8 : Option Value}
    (k1 : x6 ≤ x7 → Wp d 98 (180, [some (.ref r0), some (.int x1), some (.int x2), some (.int x3), some (.int x4), some (.int x5), some (.int x6), some (.int x7), o8], [], μ) Q) (k2 : ¬ (x6 ≤ x7) → Wp d 98 (148, [some (.ref r0), some (.int x1), some (.int x2), some (.int x3), some (.int x4), some (.int x5), some (.int x6), some (.int x7), o8], [], μ) Q) :
    Wp d 98 (141, [some (.ref r0), some (.int x1), some (.int x2), some (.int x3), some (.int x4), some (.int x5), some (.int x6), some (.int x7), o8], [], μ) Q := wp_blk rfl e98_141 (And.intro k1 k2)
def q98_148 : List (Nat × Instr × Nat) := [(148, .aload_n 0, 1), (149, .getfield 18, 3), (152, .iconst 4, 1), (153, .iload_n 3, 1), (154, .imul, 1), (155, .iload 7, 2), (157, .iadd, 1), (158, .iaload, 1), (159, .aload_n 0, 1), (160, .getfield 18, 3), (163, .iconst 4, 1), (164, .iload 4, 2), (166, .imul, 1), (167, .iload 7, 2), (169, .iadd, 1), (170, .iaload, 1), (171, .if_icmp .ne 9, 3)]
theorem e98_148 : am_dec am_M98 q98_148 = true := by decide +kernel
theorem b98_148 {d : Nat} {Q : Option Value ⊕ Nat → am_Mem → Prop} {μ : am_Mem} {r0 : Nat} {x1 x2 x3 x4 x5 x6 x7 : Int32} {o8 : Option Value}
    (h1 : am_kd μ r0 = (1, 8))
    (h2 : ¬ am_F μ r0 3 = 15)
    (h3 : (am_kd μ (am_F μ r0 3)).1 = 2 ∨ (am_kd μ (am_F μ r0 3)).1 = 8)
    (h4 : ¬ ((((Int32.ofInt 4) * x3) + x7) < 0 ∨ (am_kd μ (am_F μ r0 3)).2 ≤ (((Int32.ofInt 4) * x3) + x7).toNatClampNeg))
    (h5 : am_kd μ r0 = (1, 8))
    (h6 : ¬ am_F μ r0 3 = 15)
    (h7 : (am_kd μ (am_F μ r0 3)).1 = 2 ∨ (am_kd μ (am_F μ r0 3)).1 = 8)
    (h8 : ¬ ((((Int32.ofInt 4) * x4) + x7) < 0 ∨ (am_kd μ (am_F μ r0 3)).2 ≤ (((Int32.ofInt 4) * x4) + x7).toNatClampNeg))
    (k1 : ¬ (am_A μ (am_F μ r0 3) (((Int32.ofInt 4) * x3) + x7).toNatClampNeg) = (am_A μ (am_F μ r0 3) (((Int32.ofInt 4) * x4) + x7).toNatClampNeg) → Wp d 98 (180, [some (.ref r0), some (.int x1), some (.int x2), some (.int x3), some (.int x4), some (.int x5), some (.int x6), some (.int x7), o8], [], μ) Q) (k2 : ¬ (¬ (am_A μ (am_F μ r0 3) (((Int32.ofInt 4) * x3) + x7).toNatClampNeg) = (am_A μ (am_F μ r0 3) (((Int32.ofInt 4) * x4) + x7).toNatClampNeg)) → Wp d 98 (174, [some (.ref r0), some (.int x1), some (.int x2), some (.int x3), some (.int x4), some (.int x5), some (.int x6), some (.int x7), o8], [], μ) Q) :
    Wp d 98 (148, [some (.ref r0), some (.int x1), some (.int x2), some (.int x3), some (.int x4), some (.int x5), some (.int x6), some (.int x7), o8], [], μ) Q := wp_blk rfl e98_148 (And.intro h1 (And.intro h2 (And.intro h3 (And.intro h4 (And.intro h5 (And.intro h6 (And.intro h7 (And.intro h8 (And.intro k1 k2)))))))))
def q98_174 : List (Nat × Instr × Nat) := [(174, .iinc 7 1, 3), (177, .goto (-36), 3)]
theorem e98_174 : am_dec am_M98 q98_174 = true := by decide +kernel
theorem b98_174 {d : Nat} {Q : Option Value ⊕ Nat → am_Mem → Prop} {μ : am_Mem} {r0 : Nat} {x1 x2 x3 x4 x5 x6 x7 : Int32} {o8 : Option Value}
    (k : Wp d 98 (141, [some (.ref r0), some (.int x1), some (.int x2), some (.int x3), some (.int x4), some (.int x5), some (.int x6), some (.int (x7 + Int32.ofInt 1)), o8], [], μ) Q) :
    Wp d 98 (174, [some (.ref r0), some (.int x1), some (.int x2), some (.int x3), some (.int x4), some (.int x5), some (.int x6), some (.int x7), o8], [], μ) Q := wp_blk rfl e98_174 k
def q98_180 : List (Nat × Instr × Nat) := [(180, .iload 7, 2), (182, .iload 6, 2), (184, .if_icmp .ne 18, 3)]
theorem e98_180 : am_dec am_M98 q98_180 = true := by decide +kernel
theorem b98_180 {d : Nat} {Q : Option Value ⊕ Nat → am_Mem → Prop} {μ : am_Mem} {r0 : Nat} {x1 x2 x3 x4 x5 x6 x7 : Int32} {o8 : Option Value}
    (k1 : ¬ x7 = x6 → Wp d 98 (202, [some (.ref r0), some (.int x1), some (.int x2), some (.int x3), some (.int x4), some (.int x5), some (.int x6), some (.int x7), o8], [], μ) Q) (k2 : ¬ (¬ x7 = x6) → Wp d 98 (187, [some (.ref r0), some (.int x1), some (.int x2), some (.int x3), some (.int x4), some (.int x5), some (.int x6), some (.int x7), o8], [], μ) Q) :
    Wp d 98 (180, [some (.ref r0), some (.int x1), some (.int x2), some (.int x3), some (.int x4), some (.int x5), some (.int x6), some (.int x7), o8], [], μ) Q := wp_blk rfl e98_180 (And.intro k1 k2)
def q98_187 : List (Nat × Instr × Nat) := [(187, .aload_n 0, 1), (188, .getfield 15, 3), (191, .iload 4, 2), (193, .iaload, 1), (194, .aload_n 0, 1), (195, .getfield 15, 3), (198, .iload_n 3, 1), (199, .iaload, 1), (200, .isub, 1)]
theorem e98_187 : am_dec am_M98 q98_187 = true := by decide +kernel
theorem e98_187_r : am_dec am_M98 [(201, .ireturn, 1)] = true := by decide +kernel
theorem b98_187 {d : Nat} {Q : Option Value ⊕ Nat → am_Mem → Prop} {μ : am_Mem} {r0 : Nat} {x1 x2 x3 x4 x5 x6 x7 : Int32} {o8 : Option Value}
    (h1 : am_kd μ r0 = (1, 8))
    (h2 : ¬ am_F μ r0 2 = 15)
    (h3 : (am_kd μ (am_F μ r0 2)).1 = 2 ∨ (am_kd μ (am_F μ r0 2)).1 = 8)
    (h4 : ¬ (x4 < 0 ∨ (am_kd μ (am_F μ r0 2)).2 ≤ x4.toNatClampNeg))
    (h5 : am_kd μ r0 = (1, 8))
    (h6 : ¬ am_F μ r0 2 = 15)
    (h7 : (am_kd μ (am_F μ r0 2)).1 = 2 ∨ (am_kd μ (am_F μ r0 2)).1 = 8)
    (h8 : ¬ (x3 < 0 ∨ (am_kd μ (am_F μ r0 2)).2 ≤ x3.toNatClampNeg))
    (k : Q (.inl (some (.int ((am_A μ (am_F μ r0 2) x4.toNatClampNeg) - (am_A μ (am_F μ r0 2) x3.toNatClampNeg))))) μ) :
    Wp d 98 (187, [some (.ref r0), some (.int x1), some (.int x2), some (.int x3), some (.int x4), some (.int x5), some (.int x6), some (.int x7), o8], [], μ) Q := wp_blk rfl e98_187 (And.intro h1 (And.intro h2 (And.intro h3 (And.intro h4 (And.intro h5 (And.intro h6 (And.intro h7 (And.intro h8 (wp_ri (ty := .int) rfl e98_187_r rfl ⟨rfl, rfl⟩ k)))))))))
def q98_202 : List (Nat × Instr × Nat) := [(202, .aload_n 0, 1), (203, .getfield 18, 3), (206, .iconst 4, 1), (207, .iload_n 3, 1), (208, .imul, 1), (209, .iload 7, 2), (211, .iadd, 1), (212, .iaload, 1), (213, .istore 8, 2), (215, .aload_n 0, 1), (216, .getfield 18, 3), (219, .iconst 4, 1), (220, .iload 4, 2), (222, .imul, 1), (223, .iload 7, 2), (225, .iadd, 1), (226, .iaload, 1), (227, .istore 4, 2), (229, .iload 8, 2), (231, .istore_n 3, 1), (232, .iinc 5 1, 3), (235, .goto (-227), 3)]
theorem e98_202 : am_dec am_M98 q98_202 = true := by decide +kernel
theorem b98_202 {d : Nat} {Q : Option Value ⊕ Nat → am_Mem → Prop} {μ : am_Mem} {r0 : Nat} {x1 x2 x3 x4 x5 x6 x7 : Int32} {o8 : Option Value}
    (h1 : am_kd μ r0 = (1, 8))
    (h2 : ¬ am_F μ r0 3 = 15)
    (h3 : (am_kd μ (am_F μ r0 3)).1 = 2 ∨ (am_kd μ (am_F μ r0 3)).1 = 8)
    (h4 : ¬ ((((Int32.ofInt 4) * x3) + x7) < 0 ∨ (am_kd μ (am_F μ r0 3)).2 ≤ (((Int32.ofInt 4) * x3) + x7).toNatClampNeg))
    (h5 : am_kd μ r0 = (1, 8))
    (h6 : ¬ am_F μ r0 3 = 15)
    (h7 : (am_kd μ (am_F μ r0 3)).1 = 2 ∨ (am_kd μ (am_F μ r0 3)).1 = 8)
    (h8 : ¬ ((((Int32.ofInt 4) * x4) + x7) < 0 ∨ (am_kd μ (am_F μ r0 3)).2 ≤ (((Int32.ofInt 4) * x4) + x7).toNatClampNeg))
    (k : Wp d 98 (8, [some (.ref r0), some (.int x1), some (.int x2), some (.int (am_A μ (am_F μ r0 3) (((Int32.ofInt 4) * x3) + x7).toNatClampNeg)), some (.int (am_A μ (am_F μ r0 3) (((Int32.ofInt 4) * x4) + x7).toNatClampNeg)), some (.int (x5 + Int32.ofInt 1)), some (.int x6), some (.int x7), some (.int (am_A μ (am_F μ r0 3) (((Int32.ofInt 4) * x3) + x7).toNatClampNeg))], [], μ) Q) :
    Wp d 98 (202, [some (.ref r0), some (.int x1), some (.int x2), some (.int x3), some (.int x4), some (.int x5), some (.int x6), some (.int x7), o8], [], μ) Q := wp_blk rfl e98_202 (And.intro h1 (And.intro h2 (And.intro h3 (And.intro h4 (And.intro h5 (And.intro h6 (And.intro h7 (And.intro h8 k))))))))
def q98_238 : List (Nat × Instr × Nat) := [(238, .iconst 0, 1)]
theorem e98_238 : am_dec am_M98 q98_238 = true := by decide +kernel
theorem e98_238_r : am_dec am_M98 [(239, .ireturn, 1)] = true := by decide +kernel
theorem b98_238 {d : Nat} {Q : Option Value ⊕ Nat → am_Mem → Prop} {μ : am_Mem} {r0 : Nat} {x1 x2 x3 x4 x5 : Int32} {o6 o7 o8 : Option Value}
    (k : Q (.inl (some (.int (Int32.ofInt 0)))) μ) :
    Wp d 98 (238, [some (.ref r0), some (.int x1), some (.int x2), some (.int x3), some (.int x4), some (.int x5), o6, o7, o8], [], μ) Q := wp_blk rfl e98_238 (wp_ri (ty := .int) rfl e98_238_r rfl ⟨rfl, rfl⟩ k)
/-! RuleSheets$Terms.numberOf(I)I -/
def q99_0 : List (Nat × Instr × Nat) := [(0, .aload_n 0, 1), (1, .getfield 21, 3), (4, .iload_n 1, 1), (5, .iaload, 1), (6, .istore_n 2, 1), (7, .aload_n 0, 1), (8, .getfield 15, 3), (11, .iload_n 1, 1), (12, .iaload, 1), (13, .ifCond .ne 8, 3)]
theorem e99_0 : am_dec am_M99 q99_0 = true := by decide +kernel
theorem b99_0 {d : Nat} {Q : Option Value ⊕ Nat → am_Mem → Prop} {μ : am_Mem} {r0 : Nat} {x1 : Int32}
    (h1 : am_kd μ r0 = (1, 8))
    (h2 : ¬ am_F μ r0 4 = 15)
    (h3 : (am_kd μ (am_F μ r0 4)).1 = 2 ∨ (am_kd μ (am_F μ r0 4)).1 = 8)
    (h4 : ¬ (x1 < 0 ∨ (am_kd μ (am_F μ r0 4)).2 ≤ x1.toNatClampNeg))
    (h5 : am_kd μ r0 = (1, 8))
    (h6 : ¬ am_F μ r0 2 = 15)
    (h7 : (am_kd μ (am_F μ r0 2)).1 = 2 ∨ (am_kd μ (am_F μ r0 2)).1 = 8)
    (h8 : ¬ (x1 < 0 ∨ (am_kd μ (am_F μ r0 2)).2 ≤ x1.toNatClampNeg))
    (k1 : ¬ (am_A μ (am_F μ r0 2) x1.toNatClampNeg) = 0 → Wp d 99 (21, [some (.ref r0), some (.int x1), some (.int (am_A μ (am_F μ r0 4) x1.toNatClampNeg)), none, none, none], [], μ) Q) (k2 : ¬ (¬ (am_A μ (am_F μ r0 2) x1.toNatClampNeg) = 0) → Wp d 99 (16, [some (.ref r0), some (.int x1), some (.int (am_A μ (am_F μ r0 4) x1.toNatClampNeg)), none, none, none], [], μ) Q) :
    Wp d 99 (0, [some (.ref r0), some (.int x1), none, none, none, none], [], μ) Q := wp_blk rfl e99_0 (And.intro h1 (And.intro h2 (And.intro h3 (And.intro h4 (And.intro h5 (And.intro h6 (And.intro h7 (And.intro h8 (And.intro k1 k2)))))))))
def q99_16 : List (Nat × Instr × Nat) := [(16, .iload_n 2, 1), (17, .iconst 3, 1), (18, .if_icmp .le 5, 3)]
theorem e99_16 : am_dec am_M99 q99_16 = true := by decide +kernel
theorem b99_16 {d : Nat} {Q : Option Value ⊕ Nat → am_Mem → Prop} {μ : am_Mem} {r0 : Nat} {x1 x2 : Int32}
    (k1 : x2 ≤ (Int32.ofInt 3) → Wp d 99 (23, [some (.ref r0), some (.int x1), some (.int x2), none, none, none], [], μ) Q) (k2 : ¬ (x2 ≤ (Int32.ofInt 3)) → Wp d 99 (21, [some (.ref r0), some (.int x1), some (.int x2), none, none, none], [], μ) Q) :
    Wp d 99 (16, [some (.ref r0), some (.int x1), some (.int x2), none, none, none], [], μ) Q := wp_blk rfl e99_16 (And.intro k1 k2)
def q99_21 : List (Nat × Instr × Nat) := [(21, .iconst (-1), 1)]
theorem e99_21 : am_dec am_M99 q99_21 = true := by decide +kernel
theorem e99_21_r : am_dec am_M99 [(22, .ireturn, 1)] = true := by decide +kernel
theorem b99_21 {d : Nat} {Q : Option Value ⊕ Nat → am_Mem → Prop} {μ : am_Mem} {r0 : Nat} {x1 x2 : Int32}
    (k : Q (.inl (some (.int (Int32.ofInt (-1))))) μ) :
    Wp d 99 (21, [some (.ref r0), some (.int x1), some (.int x2), none, none, none], [], μ) Q := wp_blk rfl e99_21 (wp_ri (ty := .int) rfl e99_21_r rfl ⟨rfl, rfl⟩ k)
def q99_23 : List (Nat × Instr × Nat) := [(23, .iconst 0, 1), (24, .istore_n 3, 1), (25, .iconst 0, 1), (26, .istore 4, 2)]
theorem e99_23 : am_dec am_M99 q99_23 = true := by decide +kernel
theorem b99_23 {d : Nat} {Q : Option Value ⊕ Nat → am_Mem → Prop} {μ : am_Mem} {r0 : Nat} {x1 x2 : Int32}
    (k : Wp d 99 (28, [some (.ref r0), some (.int x1), some (.int x2), some (.int (Int32.ofInt 0)), some (.int (Int32.ofInt 0)), none], [], μ) Q) :
    Wp d 99 (23, [some (.ref r0), some (.int x1), some (.int x2), none, none, none], [], μ) Q := wp_blk rfl e99_23 k
def q99_28 : List (Nat × Instr × Nat) := [(28, .iload 4, 2), (30, .iload_n 2, 1), (31, .if_icmp .ge 51, 3)]
theorem e99_28 : am_dec am_M99 q99_28 = true := by decide +kernel
theorem b99_28 {d : Nat} {Q : Option Value ⊕ Nat → am_Mem → Prop} {μ : am_Mem} {r0 : Nat} {x1 x2 x3 x4 : Int32} {o5 : Option Value}
    (k1 : x2 ≤ x4 → Wp d 99 (82, [some (.ref r0), some (.int x1), some (.int x2), some (.int x3), some (.int x4), o5], [], μ) Q) (k2 : ¬ (x2 ≤ x4) → Wp d 99 (34, [some (.ref r0), some (.int x1), some (.int x2), some (.int x3), some (.int x4), o5], [], μ) Q) :
    Wp d 99 (28, [some (.ref r0), some (.int x1), some (.int x2), some (.int x3), some (.int x4), o5], [], μ) Q := wp_blk rfl e99_28 (And.intro k1 k2)
def q99_34 : List (Nat × Instr × Nat) := [(34, .aload_n 0, 1), (35, .getfield 43, 3), (38, .aload_n 0, 1), (39, .getfield 11, 3), (42, .iload_n 1, 1), (43, .iaload, 1), (44, .iload 4, 2)]
theorem e99_34 : am_dec am_M99 q99_34 = true := by decide +kernel
theorem e99_34_c : am_dc1 am_M99 46 (.invokevirtual 111) 3 = true := by decide +kernel
theorem b99_34 {d : Nat} {Q : Option Value ⊕ Nat → am_Mem → Prop} {μ : am_Mem} {r0 : Nat} {x1 x2 x3 x4 : Int32} {o5 : Option Value} {P : Int32 → am_Mem → Prop} {X : Nat → am_Mem → Prop}
    (h1 : am_kd μ r0 = (1, 8))
    (h2 : ¬ am_F μ r0 0 = 15)
    (h3 : am_kd μ r0 = (1, 8))
    (h4 : ¬ am_F μ r0 1 = 15)
    (h5 : (am_kd μ (am_F μ r0 1)).1 = 2 ∨ (am_kd μ (am_F μ r0 1)).1 = 8)
    (h6 : ¬ (x1 < 0 ∨ (am_kd μ (am_F μ r0 1)).2 ≤ x1.toNatClampNeg))
    (hk : am_kd μ (am_F μ r0 0) = (1, 3))
    (hc : Wp d 53 (0, [some (.ref (am_F μ r0 0)), some (.int (am_A μ (am_F μ r0 1) x1.toNatClampNeg)), some (.int x4)], [], μ) (pI P X)) (hr : ∀ x μ', P x μ' → Wp (d + 1) 99 (49, [some (.ref r0), some (.int x1), some (.int x2), some (.int x3), some (.int x4), o5], [.int x], (μ')) Q)
    (hx : ∀ x μ', X x μ' → Q (.inr x) μ') :
    Wp (d + 1) 99 (34, [some (.ref r0), some (.int x1), some (.int x2), some (.int x3), some (.int x4), o5], [], μ) Q := wp_blk rfl e99_34 (And.intro h1 (And.intro h2 (And.intro h3 (And.intro h4 (And.intro h5 (And.intro h6 (wp_cv (as := [.int (am_A μ (am_F μ r0 1) x1.toNatClampNeg), .int x4]) rfl e99_34_c rfl rfl rfl rfl rfl hk hc (fun v μ' hv => by obtain ⟨x, rfl, hp⟩ := pI_r hv; exact hr x μ' hp) hx)))))))
def q99_49 : List (Nat × Instr × Nat) := [(49, .bipush 48, 2), (51, .isub, 1), (52, .istore 5, 2), (54, .iload 5, 2), (56, .ifCond .lt 10, 3)]
theorem e99_49 : am_dec am_M99 q99_49 = true := by decide +kernel
theorem b99_49 {d : Nat} {Q : Option Value ⊕ Nat → am_Mem → Prop} {μ : am_Mem} {r0 : Nat} {x1 x2 x3 x4 s0 : Int32} {o5 : Option Value}
    (k1 : (s0 - ((Int8.ofInt 48).toInt32)) < 0 → Wp d 99 (66, [some (.ref r0), some (.int x1), some (.int x2), some (.int x3), some (.int x4), some (.int (s0 - ((Int8.ofInt 48).toInt32)))], [], μ) Q) (k2 : ¬ ((s0 - ((Int8.ofInt 48).toInt32)) < 0) → Wp d 99 (59, [some (.ref r0), some (.int x1), some (.int x2), some (.int x3), some (.int x4), some (.int (s0 - ((Int8.ofInt 48).toInt32)))], [], μ) Q) :
    Wp d 99 (49, [some (.ref r0), some (.int x1), some (.int x2), some (.int x3), some (.int x4), o5], [.int s0], μ) Q := wp_blk rfl e99_49 (And.intro k1 k2)
def q99_59 : List (Nat × Instr × Nat) := [(59, .iload 5, 2), (61, .bipush 9, 2), (63, .if_icmp .le 5, 3)]
theorem e99_59 : am_dec am_M99 q99_59 = true := by decide +kernel
theorem b99_59 {d : Nat} {Q : Option Value ⊕ Nat → am_Mem → Prop} {μ : am_Mem} {r0 : Nat} {x1 x2 x3 x4 x5 : Int32}
    (k1 : x5 ≤ ((Int8.ofInt 9).toInt32) → Wp d 99 (68, [some (.ref r0), some (.int x1), some (.int x2), some (.int x3), some (.int x4), some (.int x5)], [], μ) Q) (k2 : ¬ (x5 ≤ ((Int8.ofInt 9).toInt32)) → Wp d 99 (66, [some (.ref r0), some (.int x1), some (.int x2), some (.int x3), some (.int x4), some (.int x5)], [], μ) Q) :
    Wp d 99 (59, [some (.ref r0), some (.int x1), some (.int x2), some (.int x3), some (.int x4), some (.int x5)], [], μ) Q := wp_blk rfl e99_59 (And.intro k1 k2)
def q99_66 : List (Nat × Instr × Nat) := [(66, .iconst (-1), 1)]
theorem e99_66 : am_dec am_M99 q99_66 = true := by decide +kernel
theorem e99_66_r : am_dec am_M99 [(67, .ireturn, 1)] = true := by decide +kernel
theorem b99_66 {d : Nat} {Q : Option Value ⊕ Nat → am_Mem → Prop} {μ : am_Mem} {r0 : Nat} {x1 x2 x3 x4 x5 : Int32}
    (k : Q (.inl (some (.int (Int32.ofInt (-1))))) μ) :
    Wp d 99 (66, [some (.ref r0), some (.int x1), some (.int x2), some (.int x3), some (.int x4), some (.int x5)], [], μ) Q := wp_blk rfl e99_66 (wp_ri (ty := .int) rfl e99_66_r rfl ⟨rfl, rfl⟩ k)
def q99_68 : List (Nat × Instr × Nat) := [(68, .bipush 10, 2), (70, .iload_n 3, 1), (71, .imul, 1), (72, .iload 5, 2), (74, .iadd, 1), (75, .istore_n 3, 1), (76, .iinc 4 1, 3), (79, .goto (-51), 3)]
theorem e99_68 : am_dec am_M99 q99_68 = true := by decide +kernel
theorem b99_68 {d : Nat} {Q : Option Value ⊕ Nat → am_Mem → Prop} {μ : am_Mem} {r0 : Nat} {x1 x2 x3 x4 x5 : Int32}
    (k : Wp d 99 (28, [some (.ref r0), some (.int x1), some (.int x2), some (.int ((((Int8.ofInt 10).toInt32) * x3) + x5)), some (.int (x4 + Int32.ofInt 1)), some (.int x5)], [], μ) Q) :
    Wp d 99 (68, [some (.ref r0), some (.int x1), some (.int x2), some (.int x3), some (.int x4), some (.int x5)], [], μ) Q := wp_blk rfl e99_68 k
def q99_82 : List (Nat × Instr × Nat) := [(82, .iload_n 3, 1), (83, .bipush 100, 2), (85, .if_icmp .gt 7, 3)]
theorem e99_82 : am_dec am_M99 q99_82 = true := by decide +kernel
theorem b99_82 {d : Nat} {Q : Option Value ⊕ Nat → am_Mem → Prop} {μ : am_Mem} {r0 : Nat} {x1 x2 x3 x4 : Int32} {o5 : Option Value}
    (k1 : ((Int8.ofInt 100).toInt32) < x3 → Wp d 99 (92, [some (.ref r0), some (.int x1), some (.int x2), some (.int x3), some (.int x4), o5], [], μ) Q) (k2 : ¬ (((Int8.ofInt 100).toInt32) < x3) → Wp d 99 (88, [some (.ref r0), some (.int x1), some (.int x2), some (.int x3), some (.int x4), o5], [], μ) Q) :
    Wp d 99 (82, [some (.ref r0), some (.int x1), some (.int x2), some (.int x3), some (.int x4), o5], [], μ) Q := wp_blk rfl e99_82 (And.intro k1 k2)
def q99_88 : List (Nat × Instr × Nat) := [(88, .iload_n 3, 1), (89, .goto 4, 3)]
theorem e99_88 : am_dec am_M99 q99_88 = true := by decide +kernel
theorem b99_88 {d : Nat} {Q : Option Value ⊕ Nat → am_Mem → Prop} {μ : am_Mem} {r0 : Nat} {x1 x2 x3 x4 : Int32} {o5 : Option Value}
    (k : Wp d 99 (93, [some (.ref r0), some (.int x1), some (.int x2), some (.int x3), some (.int x4), o5], [.int x3], μ) Q) :
    Wp d 99 (88, [some (.ref r0), some (.int x1), some (.int x2), some (.int x3), some (.int x4), o5], [], μ) Q := wp_blk rfl e99_88 k
def q99_92 : List (Nat × Instr × Nat) := [(92, .iconst (-1), 1)]
theorem e99_92 : am_dec am_M99 q99_92 = true := by decide +kernel
theorem b99_92 {d : Nat} {Q : Option Value ⊕ Nat → am_Mem → Prop} {μ : am_Mem} {r0 : Nat} {x1 x2 x3 x4 : Int32} {o5 : Option Value}
    (k : Wp d 99 (93, [some (.ref r0), some (.int x1), some (.int x2), some (.int x3), some (.int x4), o5], [.int (Int32.ofInt (-1))], μ) Q) :
    Wp d 99 (92, [some (.ref r0), some (.int x1), some (.int x2), some (.int x3), some (.int x4), o5], [], μ) Q := wp_blk rfl e99_92 k
theorem e99_93_r : am_dec am_M99 [(93, .ireturn, 1)] = true := by decide +kernel
theorem b99_93 {d : Nat} {Q : Option Value ⊕ Nat → am_Mem → Prop} {μ : am_Mem} {r0 : Nat} {x1 x2 x3 x4 s0 : Int32} {o5 : Option Value}
    (k : Q (.inl (some (.int s0))) μ) :
    Wp d 99 (93, [some (.ref r0), some (.int x1), some (.int x2), some (.int x3), some (.int x4), o5], [.int s0], μ) Q := (wp_ri (ty := .int) rfl e99_93_r rfl ⟨rfl, rfl⟩ k)
/-! RuleSheets$Terms.signAt(II)I -/
def q100_0 : List (Nat × Instr × Nat) := [(0, .iload_n 2, 1), (1, .aload_n 0, 1), (2, .getfield 21, 3), (5, .iload_n 1, 1), (6, .iaload, 1), (7, .if_icmp .lt 5, 3)]
theorem e100_0 : am_dec am_M100 q100_0 = true := by decide +kernel
theorem b100_0 {d : Nat} {Q : Option Value ⊕ Nat → am_Mem → Prop} {μ : am_Mem} {r0 : Nat} {x1 x2 : Int32}
    (h1 : am_kd μ r0 = (1, 8))
    (h2 : ¬ am_F μ r0 4 = 15)
    (h3 : (am_kd μ (am_F μ r0 4)).1 = 2 ∨ (am_kd μ (am_F μ r0 4)).1 = 8)
    (h4 : ¬ (x1 < 0 ∨ (am_kd μ (am_F μ r0 4)).2 ≤ x1.toNatClampNeg))
    (k1 : x2 < (am_A μ (am_F μ r0 4) x1.toNatClampNeg) → Wp d 100 (12, [some (.ref r0), some (.int x1), some (.int x2), none, none, none, none, none], [], μ) Q) (k2 : ¬ (x2 < (am_A μ (am_F μ r0 4) x1.toNatClampNeg)) → Wp d 100 (10, [some (.ref r0), some (.int x1), some (.int x2), none, none, none, none, none], [], μ) Q) :
    Wp d 100 (0, [some (.ref r0), some (.int x1), some (.int x2), none, none, none, none, none], [], μ) Q := wp_blk rfl e100_0 (And.intro h1 (And.intro h2 (And.intro h3 (And.intro h4 (And.intro k1 k2)))))
def q100_10 : List (Nat × Instr × Nat) := [(10, .iconst 0, 1)]
theorem e100_10 : am_dec am_M100 q100_10 = true := by decide +kernel
theorem e100_10_r : am_dec am_M100 [(11, .ireturn, 1)] = true := by decide +kernel
theorem b100_10 {d : Nat} {Q : Option Value ⊕ Nat → am_Mem → Prop} {μ : am_Mem} {r0 : Nat} {x1 x2 : Int32}
    (k : Q (.inl (some (.int (Int32.ofInt 0)))) μ) :
    Wp d 100 (10, [some (.ref r0), some (.int x1), some (.int x2), none, none, none, none, none], [], μ) Q := wp_blk rfl e100_10 (wp_ri (ty := .int) rfl e100_10_r rfl ⟨rfl, rfl⟩ k)
def q100_12 : List (Nat × Instr × Nat) := [(12, .iload_n 1, 1), (13, .istore_n 3, 1), (14, .iload_n 2, 1), (15, .istore 4, 2), (17, .iconst 0, 1), (18, .istore 5, 2)]
theorem e100_12 : am_dec am_M100 q100_12 = true := by decide +kernel
theorem b100_12 {d : Nat} {Q : Option Value ⊕ Nat → am_Mem → Prop} {μ : am_Mem} {r0 : Nat} {x1 x2 : Int32}
    (k : Wp d 100 (20, [some (.ref r0), some (.int x1), some (.int x2), some (.int x1), some (.int x2), some (.int (Int32.ofInt 0)), none, none], [], μ) Q) :
    Wp d 100 (12, [some (.ref r0), some (.int x1), some (.int x2), none, none, none, none, none], [], μ) Q := wp_blk rfl e100_12 k
def q100_20 : List (Nat × Instr × Nat) := [(20, .iload 5, 2), (22, .sipush 2000, 3), (25, .if_icmp .gt 178, 3)]
theorem e100_20 : am_dec am_M100 q100_20 = true := by decide +kernel
theorem b100_20 {d : Nat} {Q : Option Value ⊕ Nat → am_Mem → Prop} {μ : am_Mem} {r0 : Nat} {x1 x2 x3 x4 x5 : Int32} {o6 o7 : Option Value}
    (k1 : ((Int16.ofInt 2000).toInt32) < x5 → Wp d 100 (203, [some (.ref r0), some (.int x1), some (.int x2), some (.int x3), some (.int x4), some (.int x5), o6, o7], [], μ) Q) (k2 : ¬ (((Int16.ofInt 2000).toInt32) < x5) → Wp d 100 (28, [some (.ref r0), some (.int x1), some (.int x2), some (.int x3), some (.int x4), some (.int x5), o6, o7], [], μ) Q) :
    Wp d 100 (20, [some (.ref r0), some (.int x1), some (.int x2), some (.int x3), some (.int x4), some (.int x5), o6, o7], [], μ) Q := wp_blk rfl e100_20 (And.intro k1 k2)
def q100_28 : List (Nat × Instr × Nat) := [(28, .aload_n 0, 1), (29, .getfield 15, 3), (32, .iload_n 3, 1), (33, .iaload, 1), (34, .ifCond .le 169, 3)]
theorem e100_28 : am_dec am_M100 q100_28 = true := by decide +kernel
theorem b100_28 {d : Nat} {Q : Option Value ⊕ Nat → am_Mem → Prop} {μ : am_Mem} {r0 : Nat} {x1 x2 x3 x4 x5 : Int32} {o6 o7 : Option Value}
    (h1 : am_kd μ r0 = (1, 8))
    (h2 : ¬ am_F μ r0 2 = 15)
    (h3 : (am_kd μ (am_F μ r0 2)).1 = 2 ∨ (am_kd μ (am_F μ r0 2)).1 = 8)
    (h4 : ¬ (x3 < 0 ∨ (am_kd μ (am_F μ r0 2)).2 ≤ x3.toNatClampNeg))
    (k1 : (am_A μ (am_F μ r0 2) x3.toNatClampNeg) ≤ 0 → Wp d 100 (203, [some (.ref r0), some (.int x1), some (.int x2), some (.int x3), some (.int x4), some (.int x5), o6, o7], [], μ) Q) (k2 : ¬ ((am_A μ (am_F μ r0 2) x3.toNatClampNeg) ≤ 0) → Wp d 100 (37, [some (.ref r0), some (.int x1), some (.int x2), some (.int x3), some (.int x4), some (.int x5), o6, o7], [], μ) Q) :
    Wp d 100 (28, [some (.ref r0), some (.int x1), some (.int x2), some (.int x3), some (.int x4), some (.int x5), o6, o7], [], μ) Q := wp_blk rfl e100_28 (And.intro h1 (And.intro h2 (And.intro h3 (And.intro h4 (And.intro k1 k2)))))
def q100_37 : List (Nat × Instr × Nat) := [(37, .aload_n 0, 1), (38, .getfield 11, 3), (41, .iload_n 3, 1), (42, .iaload, 1), (43, .istore 6, 2), (45, .iload 4, 2), (47, .ifCond .ne 6, 3)]
theorem e100_37 : am_dec am_M100 q100_37 = true := by decide +kernel
theorem b100_37 {d : Nat} {Q : Option Value ⊕ Nat → am_Mem → Prop} {μ : am_Mem} {r0 : Nat} {x1 x2 x3 x4 x5 : Int32} {o6 o7 : Option Value}
    (h1 : am_kd μ r0 = (1, 8))
    (h2 : ¬ am_F μ r0 1 = 15)
    (h3 : (am_kd μ (am_F μ r0 1)).1 = 2 ∨ (am_kd μ (am_F μ r0 1)).1 = 8)
    (h4 : ¬ (x3 < 0 ∨ (am_kd μ (am_F μ r0 1)).2 ≤ x3.toNatClampNeg))
    (k1 : ¬ x4 = 0 → Wp d 100 (53, [some (.ref r0), some (.int x1), some (.int x2), some (.int x3), some (.int x4), some (.int x5), some (.int (am_A μ (am_F μ r0 1) x3.toNatClampNeg)), o7], [], μ) Q) (k2 : ¬ (¬ x4 = 0) → Wp d 100 (50, [some (.ref r0), some (.int x1), some (.int x2), some (.int x3), some (.int x4), some (.int x5), some (.int (am_A μ (am_F μ r0 1) x3.toNatClampNeg)), o7], [], μ) Q) :
    Wp d 100 (37, [some (.ref r0), some (.int x1), some (.int x2), some (.int x3), some (.int x4), some (.int x5), o6, o7], [], μ) Q := wp_blk rfl e100_37 (And.intro h1 (And.intro h2 (And.intro h3 (And.intro h4 (And.intro k1 k2)))))
def q100_50 : List (Nat × Instr × Nat) := [(50, .bipush 40, 2)]
theorem e100_50 : am_dec am_M100 q100_50 = true := by decide +kernel
theorem e100_50_r : am_dec am_M100 [(52, .ireturn, 1)] = true := by decide +kernel
theorem b100_50 {d : Nat} {Q : Option Value ⊕ Nat → am_Mem → Prop} {μ : am_Mem} {r0 : Nat} {x1 x2 x3 x4 x5 x6 : Int32} {o7 : Option Value}
    (k : Q (.inl (some (.int ((Int8.ofInt 40).toInt32)))) μ) :
    Wp d 100 (50, [some (.ref r0), some (.int x1), some (.int x2), some (.int x3), some (.int x4), some (.int x5), some (.int x6), o7], [], μ) Q := wp_blk rfl e100_50 (wp_ri (ty := .int) rfl e100_50_r rfl ⟨rfl, rfl⟩ k)
def q100_53 : List (Nat × Instr × Nat) := [(53, .iinc 4 (-1), 3), (56, .iload 4, 2), (58, .aload_n 0, 1), (59, .getfield 43, 3), (62, .iload 6, 2)]
theorem e100_53 : am_dec am_M100 q100_53 = true := by decide +kernel
theorem e100_53_c : am_dc1 am_M100 64 (.invokevirtual 107) 3 = true := by decide +kernel
theorem b100_53 {d : Nat} {Q : Option Value ⊕ Nat → am_Mem → Prop} {μ : am_Mem} {r0 : Nat} {x1 x2 x3 x4 x5 x6 : Int32} {o7 : Option Value} {P : Int32 → am_Mem → Prop} {X : Nat → am_Mem → Prop}
    (h1 : am_kd μ r0 = (1, 8))
    (h2 : ¬ am_F μ r0 0 = 15)
    (hk : am_kd μ (am_F μ r0 0) = (1, 3))
    (hc : Wp d 51 (0, [some (.ref (am_F μ r0 0)), some (.int x6)], [], μ) (pI P X)) (hr : ∀ x μ', P x μ' → Wp (d + 1) 100 (67, [some (.ref r0), some (.int x1), some (.int x2), some (.int x3), some (.int (x4 + Int32.ofInt (-1))), some (.int x5), some (.int x6), o7], [.int x, .int (x4 + Int32.ofInt (-1))], (μ')) Q)
    (hx : ∀ x μ', X x μ' → Q (.inr x) μ') :
    Wp (d + 1) 100 (53, [some (.ref r0), some (.int x1), some (.int x2), some (.int x3), some (.int x4), some (.int x5), some (.int x6), o7], [], μ) Q := wp_blk rfl e100_53 (And.intro h1 (And.intro h2 (wp_cv (as := [.int x6]) rfl e100_53_c rfl rfl rfl rfl rfl hk hc (fun v μ' hv => by obtain ⟨x, rfl, hp⟩ := pI_r hv; exact hr x μ' hp) hx)))
def q100_67 : List (Nat × Instr × Nat) := [(67, .if_icmp .ge 15, 3)]
theorem e100_67 : am_dec am_M100 q100_67 = true := by decide +kernel
theorem b100_67 {d : Nat} {Q : Option Value ⊕ Nat → am_Mem → Prop} {μ : am_Mem} {r0 : Nat} {x1 x2 x3 x4 x5 x6 s0 s1 : Int32} {o7 : Option Value}
    (k1 : s1 ≤ s0 → Wp d 100 (82, [some (.ref r0), some (.int x1), some (.int x2), some (.int x3), some (.int x4), some (.int x5), some (.int x6), o7], [], μ) Q) (k2 : ¬ (s1 ≤ s0) → Wp d 100 (70, [some (.ref r0), some (.int x1), some (.int x2), some (.int x3), some (.int x4), some (.int x5), some (.int x6), o7], [], μ) Q) :
    Wp d 100 (67, [some (.ref r0), some (.int x1), some (.int x2), some (.int x3), some (.int x4), some (.int x5), some (.int x6), o7], [.int s1, .int s0], μ) Q := wp_blk rfl e100_67 (And.intro k1 k2)
def q100_70 : List (Nat × Instr × Nat) := [(70, .aload_n 0, 1), (71, .getfield 43, 3), (74, .iload 6, 2), (76, .iload 4, 2)]
theorem e100_70 : am_dec am_M100 q100_70 = true := by decide +kernel
theorem e100_70_c : am_dc1 am_M100 78 (.invokevirtual 111) 3 = true := by decide +kernel
theorem b100_70 {d : Nat} {Q : Option Value ⊕ Nat → am_Mem → Prop} {μ : am_Mem} {r0 : Nat} {x1 x2 x3 x4 x5 x6 : Int32} {o7 : Option Value} {P : Int32 → am_Mem → Prop} {X : Nat → am_Mem → Prop}
    (h1 : am_kd μ r0 = (1, 8))
    (h2 : ¬ am_F μ r0 0 = 15)
    (hk : am_kd μ (am_F μ r0 0) = (1, 3))
    (hc : Wp d 53 (0, [some (.ref (am_F μ r0 0)), some (.int x6), some (.int x4)], [], μ) (pI P X)) (hr : ∀ x μ', P x μ' → Wp (d + 1) 100 (81, [some (.ref r0), some (.int x1), some (.int x2), some (.int x3), some (.int x4), some (.int x5), some (.int x6), o7], [.int x], (μ')) Q)
    (hx : ∀ x μ', X x μ' → Q (.inr x) μ') :
    Wp (d + 1) 100 (70, [some (.ref r0), some (.int x1), some (.int x2), some (.int x3), some (.int x4), some (.int x5), some (.int x6), o7], [], μ) Q := wp_blk rfl e100_70 (And.intro h1 (And.intro h2 (wp_cv (as := [.int x6, .int x4]) rfl e100_70_c rfl rfl rfl rfl rfl hk hc (fun v μ' hv => by obtain ⟨x, rfl, hp⟩ := pI_r hv; exact hr x μ' hp) hx)))
theorem e100_81_r : am_dec am_M100 [(81, .ireturn, 1)] = true := by decide +kernel
theorem b100_81 {d : Nat} {Q : Option Value ⊕ Nat → am_Mem → Prop} {μ : am_Mem} {r0 : Nat} {x1 x2 x3 x4 x5 x6 s0 : Int32} {o7 : Option Value}
    (k : Q (.inl (some (.int s0))) μ) :
    Wp d 100 (81, [some (.ref r0), some (.int x1), some (.int x2), some (.int x3), some (.int x4), some (.int x5), some (.int x6), o7], [.int s0], μ) Q := (wp_ri (ty := .int) rfl e100_81_r rfl ⟨rfl, rfl⟩ k)
def q100_82 : List (Nat × Instr × Nat) := [(82, .iload 4, 2), (84, .aload_n 0, 1), (85, .getfield 43, 3), (88, .iload 6, 2)]
theorem e100_82 : am_dec am_M100 q100_82 = true := by decide +kernel
theorem e100_82_c : am_dc1 am_M100 90 (.invokevirtual 107) 3 = true := by decide +kernel
theorem b100_82 {d : Nat} {Q : Option Value ⊕ Nat → am_Mem → Prop} {μ : am_Mem} {r0 : Nat} {x1 x2 x3 x4 x5 x6 : Int32} {o7 : Option Value} {P : Int32 → am_Mem → Prop} {X : Nat → am_Mem → Prop}
    (h1 : am_kd μ r0 = (1, 8))
    (h2 : ¬ am_F μ r0 0 = 15)
    (hk : am_kd μ (am_F μ r0 0) = (1, 3))
    (hc : Wp d 51 (0, [some (.ref (am_F μ r0 0)), some (.int x6)], [], μ) (pI P X)) (hr : ∀ x μ', P x μ' → Wp (d + 1) 100 (93, [some (.ref r0), some (.int x1), some (.int x2), some (.int x3), some (.int x4), some (.int x5), some (.int x6), o7], [.int x, .int x4], (μ')) Q)
    (hx : ∀ x μ', X x μ' → Q (.inr x) μ') :
    Wp (d + 1) 100 (82, [some (.ref r0), some (.int x1), some (.int x2), some (.int x3), some (.int x4), some (.int x5), some (.int x6), o7], [], μ) Q := wp_blk rfl e100_82 (And.intro h1 (And.intro h2 (wp_cv (as := [.int x6]) rfl e100_82_c rfl rfl rfl rfl rfl hk hc (fun v μ' hv => by obtain ⟨x, rfl, hp⟩ := pI_r hv; exact hr x μ' hp) hx)))
def q100_93 : List (Nat × Instr × Nat) := [(93, .isub, 1), (94, .istore 4, 2), (96, .iconst 0, 1), (97, .istore 7, 2)]
theorem e100_93 : am_dec am_M100 q100_93 = true := by decide +kernel
theorem b100_93 {d : Nat} {Q : Option Value ⊕ Nat → am_Mem → Prop} {μ : am_Mem} {r0 : Nat} {x1 x2 x3 x4 x5 x6 s0 s1 : Int32} {o7 : Option Value}
    (k : Wp d 100 (99, [some (.ref r0), some (.int x1), some (.int x2), some (.int x3), some (.int (s0 - s1)), some (.int x5), some (.int x6), some (.int (Int32.ofInt 0))], [], μ) Q) :
    Wp d 100 (93, [some (.ref r0), some (.int x1), some (.int x2), some (.int x3), some (.int x4), some (.int x5), some (.int x6), o7], [.int s1, .int s0], μ) Q := wp_blk rfl e100_93 k
def q100_99 : List (Nat × Instr × Nat) := [(99, .iload 7, 2), (101, .aload_n 0, 1), (102, .getfield 15, 3), (105, .iload_n 3, 1), (106, .iaload, 1), (107, .if_icmp .ge 53, 3)]
theorem e100_99 : am_dec am_M100 q100_99 = true := by decide +kernel
theorem b100_99 {d : Nat} {Q : Option Value ⊕ Nat → am_Mem → Prop} {μ : am_Mem} {r0 : Nat} {x1 x2 x3 x4 x5 x6 x7 : Int32}
    (h1 : am_kd μ r0 = (1, 8))
    (h2 : ¬ am_F μ r0 2 = 15)
    (h3 : (am_kd μ (am_F μ r0 2)).1 = 2 ∨ (am_kd μ (am_F μ r0 2)).1 = 8)
    (h4 : ¬ (x3 < 0 ∨ (am_kd μ (am_F μ r0 2)).2 ≤ x3.toNatClampNeg))
    (k1 : (am_A μ (am_F μ r0 2) x3.toNatClampNeg) ≤ x7 → Wp d 100 (160, [some (.ref r0), some (.int x1), some (.int x2), some (.int x3), some (.int x4), some (.int x5), some (.int x6), some (.int x7)], [], μ) Q) (k2 : ¬ ((am_A μ (am_F μ r0 2) x3.toNatClampNeg) ≤ x7) → Wp d 100 (110, [some (.ref r0), some (.int x1), some (.int x2), some (.int x3), some (.int x4), some (.int x5), some (.int x6), some (.int x7)], [], μ) Q) :
    Wp d 100 (99, [some (.ref r0), some (.int x1), some (.int x2), some (.int x3), some (.int x4), some (.int x5), some (.int x6), some (.int x7)], [], μ) Q := wp_blk rfl e100_99 (And.intro h1 (And.intro h2 (And.intro h3 (And.intro h4 (And.intro k1 k2)))))
def q100_110 : List (Nat × Instr × Nat) := [(110, .iload 4, 2), (112, .aload_n 0, 1), (113, .getfield 21, 3), (116, .aload_n 0, 1), (117, .getfield 18, 3), (120, .iconst 4, 1), (121, .iload_n 3, 1), (122, .imul, 1), (123, .iload 7, 2), (125, .iadd, 1), (126, .iaload, 1), (127, .iaload, 1), (128, .if_icmp .le 32, 3)]
theorem e100_110 : am_dec am_M100 q100_110 = true := by decide +kernel
theorem b100_110 {d : Nat} {Q : Option Value ⊕ Nat → am_Mem → Prop} {μ : am_Mem} {r0 : Nat} {x1 x2 x3 x4 x5 x6 x7 : Int32}
    (h1 : am_kd μ r0 = (1, 8))
    (h2 : ¬ am_F μ r0 4 = 15)
    (h3 : am_kd μ r0 = (1, 8))
    (h4 : ¬ am_F μ r0 3 = 15)
    (h5 : (am_kd μ (am_F μ r0 3)).1 = 2 ∨ (am_kd μ (am_F μ r0 3)).1 = 8)
    (h6 : ¬ ((((Int32.ofInt 4) * x3) + x7) < 0 ∨ (am_kd μ (am_F μ r0 3)).2 ≤ (((Int32.ofInt 4) * x3) + x7).toNatClampNeg))
    (h7 : (am_kd μ (am_F μ r0 4)).1 = 2 ∨ (am_kd μ (am_F μ r0 4)).1 = 8)
    (h8 : ¬ ((am_A μ (am_F μ r0 3) (((Int32.ofInt 4) * x3) + x7).toNatClampNeg) < 0 ∨ (am_kd μ (am_F μ r0 4)).2 ≤ (am_A μ (am_F μ r0 3) (((Int32.ofInt 4) * x3) + x7).toNatClampNeg).toNatClampNeg))
    (k1 : x4 ≤ (am_A μ (am_F μ r0 4) (am_A μ (am_F μ r0 3) (((Int32.ofInt 4) * x3) + x7).toNatClampNeg).toNatClampNeg) → Wp d 100 (160, [some (.ref r0), some (.int x1), some (.int x2), some (.int x3), some (.int x4), some (.int x5), some (.int x6), some (.int x7)], [], μ) Q) (k2 : ¬ (x4 ≤ (am_A μ (am_F μ r0 4) (am_A μ (am_F μ r0 3) (((Int32.ofInt 4) * x3) + x7).toNatClampNeg).toNatClampNeg)) → Wp d 100 (131, [some (.ref r0), some (.int x1), some (.int x2), some (.int x3), some (.int x4), some (.int x5), some (.int x6), some (.int x7)], [], μ) Q) :
    Wp d 100 (110, [some (.ref r0), some (.int x1), some (.int x2), some (.int x3), some (.int x4), some (.int x5), some (.int x6), some (.int x7)], [], μ) Q := wp_blk rfl e100_110 (And.intro h1 (And.intro h2 (And.intro h3 (And.intro h4 (And.intro h5 (And.intro h6 (And.intro h7 (And.intro h8 (And.intro k1 k2)))))))))
def q100_131 : List (Nat × Instr × Nat) := [(131, .iload 4, 2), (133, .iconst 1, 1), (134, .aload_n 0, 1), (135, .getfield 21, 3), (138, .aload_n 0, 1), (139, .getfield 18, 3), (142, .iconst 4, 1), (143, .iload_n 3, 1), (144, .imul, 1), (145, .iload 7, 2), (147, .iadd, 1), (148, .iaload, 1), (149, .iaload, 1), (150, .iadd, 1), (151, .isub, 1), (152, .istore 4, 2), (154, .iinc 7 1, 3), (157, .goto (-58), 3)]
theorem e100_131 : am_dec am_M100 q100_131 = true := by decide +kernel
theorem b100_131 {d : Nat} {Q : Option Value ⊕ Nat → am_Mem → Prop} {μ : am_Mem} {r0 : Nat} {x1 x2 x3 x4 x5 x6 x7 : Int32}
    (h1 : am_kd μ r0 = (1, 8))
    (h2 : ¬ am_F μ r0 4 = 15)
    (h3 : am_kd μ r0 = (1, 8))
    (h4 : ¬ am_F μ r0 3 = 15)
    (h5 : (am_kd μ (am_F μ r0 3)).1 = 2 ∨ (am_kd μ (am_F μ r0 3)).1 = 8)
    (h6 : ¬ ((((Int32.ofInt 4) * x3) + x7) < 0 ∨ (am_kd μ (am_F μ r0 3)).2 ≤ (((Int32.ofInt 4) * x3) + x7).toNatClampNeg))
    (h7 : (am_kd μ (am_F μ r0 4)).1 = 2 ∨ (am_kd μ (am_F μ r0 4)).1 = 8)
    (h8 : ¬ ((am_A μ (am_F μ r0 3) (((Int32.ofInt 4) * x3) + x7).toNatClampNeg) < 0 ∨ (am_kd μ (am_F μ r0 4)).2 ≤ (am_A μ (am_F μ r0 3) (((Int32.ofInt 4) * x3) + x7).toNatClampNeg).toNatClampNeg))
    (k : Wp d 100 (99, [some (.ref r0), some (.int x1), some (.int x2), some (.int x3), some (.int (x4 - ((Int32.ofInt 1) + (am_A μ (am_F μ r0 4) (am_A μ (am_F μ r0 3) (((Int32.ofInt 4) * x3) + x7).toNatClampNeg).toNatClampNeg)))), some (.int x5), some (.int x6), some (.int (x7 + Int32.ofInt 1))], [], μ) Q) :
    Wp d 100 (131, [some (.ref r0), some (.int x1), some (.int x2), some (.int x3), some (.int x4), some (.int x5), some (.int x6), some (.int x7)], [], μ) Q := wp_blk rfl e100_131 (And.intro h1 (And.intro h2 (And.intro h3 (And.intro h4 (And.intro h5 (And.intro h6 (And.intro h7 (And.intro h8 k))))))))
def q100_160 : List (Nat × Instr × Nat) := [(160, .iload 7, 2), (162, .aload_n 0, 1), (163, .getfield 15, 3), (166, .iload_n 3, 1), (167, .iaload, 1), (168, .if_icmp .ne 6, 3)]
theorem e100_160 : am_dec am_M100 q100_160 = true := by decide +kernel
theorem b100_160 {d : Nat} {Q : Option Value ⊕ Nat → am_Mem → Prop} {μ : am_Mem} {r0 : Nat} {x1 x2 x3 x4 x5 x6 x7 : Int32}
    (h1 : am_kd μ r0 = (1, 8))
    (h2 : ¬ am_F μ r0 2 = 15)
    (h3 : (am_kd μ (am_F μ r0 2)).1 = 2 ∨ (am_kd μ (am_F μ r0 2)).1 = 8)
    (h4 : ¬ (x3 < 0 ∨ (am_kd μ (am_F μ r0 2)).2 ≤ x3.toNatClampNeg))
    (k1 : ¬ x7 = (am_A μ (am_F μ r0 2) x3.toNatClampNeg) → Wp d 100 (174, [some (.ref r0), some (.int x1), some (.int x2), some (.int x3), some (.int x4), some (.int x5), some (.int x6), some (.int x7)], [], μ) Q) (k2 : ¬ (¬ x7 = (am_A μ (am_F μ r0 2) x3.toNatClampNeg)) → Wp d 100 (171, [some (.ref r0), some (.int x1), some (.int x2), some (.int x3), some (.int x4), some (.int x5), some (.int x6), some (.int x7)], [], μ) Q) :
    Wp d 100 (160, [some (.ref r0), some (.int x1), some (.int x2), some (.int x3), some (.int x4), some (.int x5), some (.int x6), some (.int x7)], [], μ) Q := wp_blk rfl e100_160 (And.intro h1 (And.intro h2 (And.intro h3 (And.intro h4 (And.intro k1 k2)))))
def q100_171 : List (Nat × Instr × Nat) := [(171, .bipush 41, 2)]
theorem e100_171 : am_dec am_M100 q100_171 = true := by decide +kernel
theorem e100_171_r : am_dec am_M100 [(173, .ireturn, 1)] = true := by decide +kernel
theorem b100_171 {d : Nat} {Q : Option Value ⊕ Nat → am_Mem → Prop} {μ : am_Mem} {r0 : Nat} {x1 x2 x3 x4 x5 x6 x7 : Int32}
    (k : Q (.inl (some (.int ((Int8.ofInt 41).toInt32)))) μ) :
    Wp d 100 (171, [some (.ref r0), some (.int x1), some (.int x2), some (.int x3), some (.int x4), some (.int x5), some (.int x6), some (.int x7)], [], μ) Q := wp_blk rfl e100_171 (wp_ri (ty := .int) rfl e100_171_r rfl ⟨rfl, rfl⟩ k)
def q100_174 : List (Nat × Instr × Nat) := [(174, .iload 4, 2), (176, .ifCond .ne 6, 3)]
theorem e100_174 : am_dec am_M100 q100_174 = true := by decide +kernel
theorem b100_174 {d : Nat} {Q : Option Value ⊕ Nat → am_Mem → Prop} {μ : am_Mem} {r0 : Nat} {x1 x2 x3 x4 x5 x6 x7 : Int32}
    (k1 : ¬ x4 = 0 → Wp d 100 (182, [some (.ref r0), some (.int x1), some (.int x2), some (.int x3), some (.int x4), some (.int x5), some (.int x6), some (.int x7)], [], μ) Q) (k2 : ¬ (¬ x4 = 0) → Wp d 100 (179, [some (.ref r0), some (.int x1), some (.int x2), some (.int x3), some (.int x4), some (.int x5), some (.int x6), some (.int x7)], [], μ) Q) :
    Wp d 100 (174, [some (.ref r0), some (.int x1), some (.int x2), some (.int x3), some (.int x4), some (.int x5), some (.int x6), some (.int x7)], [], μ) Q := wp_blk rfl e100_174 (And.intro k1 k2)
def q100_179 : List (Nat × Instr × Nat) := [(179, .bipush 32, 2)]
theorem e100_179 : am_dec am_M100 q100_179 = true := by decide +kernel
theorem e100_179_r : am_dec am_M100 [(181, .ireturn, 1)] = true := by decide +kernel
theorem b100_179 {d : Nat} {Q : Option Value ⊕ Nat → am_Mem → Prop} {μ : am_Mem} {r0 : Nat} {x1 x2 x3 x4 x5 x6 x7 : Int32}
    (k : Q (.inl (some (.int ((Int8.ofInt 32).toInt32)))) μ) :
    Wp d 100 (179, [some (.ref r0), some (.int x1), some (.int x2), some (.int x3), some (.int x4), some (.int x5), some (.int x6), some (.int x7)], [], μ) Q := wp_blk rfl e100_179 (wp_ri (ty := .int) rfl e100_179_r rfl ⟨rfl, rfl⟩ k)
def q100_182 : List (Nat × Instr × Nat) := [(182, .iinc 4 (-1), 3), (185, .aload_n 0, 1), (186, .getfield 18, 3), (189, .iconst 4, 1), (190, .iload_n 3, 1), (191, .imul, 1), (192, .iload 7, 2), (194, .iadd, 1), (195, .iaload, 1), (196, .istore_n 3, 1), (197, .iinc 5 1, 3), (200, .goto (-180), 3)]
theorem e100_182 : am_dec am_M100 q100_182 = true := by decide +kernel
theorem b100_182 {d : Nat} {Q : Option Value ⊕ Nat → am_Mem → Prop} {μ : am_Mem} {r0 : Nat} {x1 x2 x3 x4 x5 x6 x7 : Int32}
    (h1 : am_kd μ r0 = (1, 8))
    (h2 : ¬ am_F μ r0 3 = 15)
    (h3 : (am_kd μ (am_F μ r0 3)).1 = 2 ∨ (am_kd μ (am_F μ r0 3)).1 = 8)
    (h4 : ¬ ((((Int32.ofInt 4) * x3) + x7) < 0 ∨ (am_kd μ (am_F μ r0 3)).2 ≤ (((Int32.ofInt 4) * x3) + x7).toNatClampNeg))
    (k : Wp d 100 (20, [some (.ref r0), some (.int x1), some (.int x2), some (.int (am_A μ (am_F μ r0 3) (((Int32.ofInt 4) * x3) + x7).toNatClampNeg)), some (.int (x4 + Int32.ofInt (-1))), some (.int (x5 + Int32.ofInt 1)), some (.int x6), some (.int x7)], [], μ) Q) :
    Wp d 100 (182, [some (.ref r0), some (.int x1), some (.int x2), some (.int x3), some (.int x4), some (.int x5), some (.int x6), some (.int x7)], [], μ) Q := wp_blk rfl e100_182 (And.intro h1 (And.intro h2 (And.intro h3 (And.intro h4 k))))
def q100_203 : List (Nat × Instr × Nat) := [(203, .aload_n 0, 1), (204, .getfield 43, 3), (207, .aload_n 0, 1), (208, .getfield 11, 3), (211, .iload_n 3, 1), (212, .iaload, 1), (213, .iload 4, 2)]
theorem e100_203 : am_dec am_M100 q100_203 = true := by decide +kernel
theorem e100_203_c : am_dc1 am_M100 215 (.invokevirtual 111) 3 = true := by decide +kernel
theorem b100_203 {d : Nat} {Q : Option Value ⊕ Nat → am_Mem → Prop} {μ : am_Mem} {r0 : Nat} {x1 x2 x3 x4 x5 : Int32} {o6 o7 : Option Value} {P : Int32 → am_Mem → Prop} {X : Nat → am_Mem → Prop}
    (h1 : am_kd μ r0 = (1, 8))
    (h2 : ¬ am_F μ r0 0 = 15)
    (h3 : am_kd μ r0 = (1, 8))
    (h4 : ¬ am_F μ r0 1 = 15)
    (h5 : (am_kd μ (am_F μ r0 1)).1 = 2 ∨ (am_kd μ (am_F μ r0 1)).1 = 8)
    (h6 : ¬ (x3 < 0 ∨ (am_kd μ (am_F μ r0 1)).2 ≤ x3.toNatClampNeg))
    (hk : am_kd μ (am_F μ r0 0) = (1, 3))
    (hc : Wp d 53 (0, [some (.ref (am_F μ r0 0)), some (.int (am_A μ (am_F μ r0 1) x3.toNatClampNeg)), some (.int x4)], [], μ) (pI P X)) (hr : ∀ x μ', P x μ' → Wp (d + 1) 100 (218, [some (.ref r0), some (.int x1), some (.int x2), some (.int x3), some (.int x4), some (.int x5), o6, o7], [.int x], (μ')) Q)
    (hx : ∀ x μ', X x μ' → Q (.inr x) μ') :
    Wp (d + 1) 100 (203, [some (.ref r0), some (.int x1), some (.int x2), some (.int x3), some (.int x4), some (.int x5), o6, o7], [], μ) Q := wp_blk rfl e100_203 (And.intro h1 (And.intro h2 (And.intro h3 (And.intro h4 (And.intro h5 (And.intro h6 (wp_cv (as := [.int (am_A μ (am_F μ r0 1) x3.toNatClampNeg), .int x4]) rfl e100_203_c rfl rfl rfl rfl rfl hk hc (fun v μ' hv => by obtain ⟨x, rfl, hp⟩ := pI_r hv; exact hr x μ' hp) hx)))))))
theorem e100_218_r : am_dec am_M100 [(218, .ireturn, 1)] = true := by decide +kernel
theorem b100_218 {d : Nat} {Q : Option Value ⊕ Nat → am_Mem → Prop} {μ : am_Mem} {r0 : Nat} {x1 x2 x3 x4 x5 s0 : Int32} {o6 o7 : Option Value}
    (k : Q (.inl (some (.int s0))) μ) :
    Wp d 100 (218, [some (.ref r0), some (.int x1), some (.int x2), some (.int x3), some (.int x4), some (.int x5), o6, o7], [.int s0], μ) Q := (wp_ri (ty := .int) rfl e100_218_r rfl ⟨rfl, rfl⟩ k)
/-! RuleSheets$Terms.arrange([II)V -/
def q101_0 : List (Nat × Instr × Nat) := [(0, .iconst 1, 1), (1, .istore_n 3, 1)]
theorem e101_0 : am_dec am_M101 q101_0 = true := by decide +kernel
theorem b101_0 {d : Nat} {Q : Option Value ⊕ Nat → am_Mem → Prop} {μ : am_Mem} {r0 r1 : Nat} {x2 : Int32}
    (k : Wp d 101 (2, [some (.ref r0), some (.ref r1), some (.int x2), some (.int (Int32.ofInt 1)), none, none], [], μ) Q) :
    Wp d 101 (0, [some (.ref r0), some (.ref r1), some (.int x2), none, none, none], [], μ) Q := wp_blk rfl e101_0 k
def q101_2 : List (Nat × Instr × Nat) := [(2, .iload_n 3, 1), (3, .iload_n 2, 1), (4, .if_icmp .ge 59, 3)]
theorem e101_2 : am_dec am_M101 q101_2 = true := by decide +kernel
theorem b101_2 {d : Nat} {Q : Option Value ⊕ Nat → am_Mem → Prop} {μ : am_Mem} {r0 r1 : Nat} {x2 x3 : Int32} {o4 o5 : Option Value}
    (k1 : x2 ≤ x3 → Wp d 101 (63, [some (.ref r0), some (.ref r1), some (.int x2), some (.int x3), o4, o5], [], μ) Q) (k2 : ¬ (x2 ≤ x3) → Wp d 101 (7, [some (.ref r0), some (.ref r1), some (.int x2), some (.int x3), o4, o5], [], μ) Q) :
    Wp d 101 (2, [some (.ref r0), some (.ref r1), some (.int x2), some (.int x3), o4, o5], [], μ) Q := wp_blk rfl e101_2 (And.intro k1 k2)
def q101_7 : List (Nat × Instr × Nat) := [(7, .aload_n 1, 1), (8, .iload_n 3, 1), (9, .iaload, 1), (10, .istore 4, 2), (12, .iload_n 3, 1), (13, .istore 5, 2)]
theorem e101_7 : am_dec am_M101 q101_7 = true := by decide +kernel
theorem b101_7 {d : Nat} {Q : Option Value ⊕ Nat → am_Mem → Prop} {μ : am_Mem} {r0 r1 : Nat} {x2 x3 : Int32} {o4 o5 : Option Value}
    (h1 : (am_kd μ r1).1 = 2 ∨ (am_kd μ r1).1 = 8)
    (h2 : ¬ (x3 < 0 ∨ (am_kd μ r1).2 ≤ x3.toNatClampNeg))
    (k : Wp d 101 (15, [some (.ref r0), some (.ref r1), some (.int x2), some (.int x3), some (.int (am_A μ r1 x3.toNatClampNeg)), some (.int x3)], [], μ) Q) :
    Wp d 101 (7, [some (.ref r0), some (.ref r1), some (.int x2), some (.int x3), o4, o5], [], μ) Q := wp_blk rfl e101_7 (And.intro h1 (And.intro h2 k))
def q101_15 : List (Nat × Instr × Nat) := [(15, .iload 5, 2), (17, .ifCond .le 34, 3)]
theorem e101_15 : am_dec am_M101 q101_15 = true := by decide +kernel
theorem b101_15 {d : Nat} {Q : Option Value ⊕ Nat → am_Mem → Prop} {μ : am_Mem} {r0 r1 : Nat} {x2 x3 x4 x5 : Int32}
    (k1 : x5 ≤ 0 → Wp d 101 (51, [some (.ref r0), some (.ref r1), some (.int x2), some (.int x3), some (.int x4), some (.int x5)], [], μ) Q) (k2 : ¬ (x5 ≤ 0) → Wp d 101 (20, [some (.ref r0), some (.ref r1), some (.int x2), some (.int x3), some (.int x4), some (.int x5)], [], μ) Q) :
    Wp d 101 (15, [some (.ref r0), some (.ref r1), some (.int x2), some (.int x3), some (.int x4), some (.int x5)], [], μ) Q := wp_blk rfl e101_15 (And.intro k1 k2)
def q101_20 : List (Nat × Instr × Nat) := [(20, .aload_n 0, 1), (21, .aload_n 1, 1), (22, .iload 5, 2), (24, .iconst 1, 1), (25, .isub, 1), (26, .iaload, 1), (27, .iload 4, 2)]
theorem e101_20 : am_dec am_M101 q101_20 = true := by decide +kernel
theorem e101_20_c : am_dc1 am_M101 29 (.invokevirtual 97) 3 = true := by decide +kernel
theorem b101_20 {d : Nat} {Q : Option Value ⊕ Nat → am_Mem → Prop} {μ : am_Mem} {r0 r1 : Nat} {x2 x3 x4 x5 : Int32} {P : Int32 → am_Mem → Prop} {X : Nat → am_Mem → Prop}
    (h1 : (am_kd μ r1).1 = 2 ∨ (am_kd μ r1).1 = 8)
    (h2 : ¬ ((x5 - (Int32.ofInt 1)) < 0 ∨ (am_kd μ r1).2 ≤ (x5 - (Int32.ofInt 1)).toNatClampNeg))
    (hk : am_kd μ r0 = (1, 8))
    (hc : Wp d 102 (0, [some (.ref r0), some (.int (am_A μ r1 (x5 - (Int32.ofInt 1)).toNatClampNeg)), some (.int x4)], [], μ) (pI P X)) (hr : ∀ x μ', P x μ' → Wp (d + 1) 101 (32, [some (.ref r0), some (.ref r1), some (.int x2), some (.int x3), some (.int x4), some (.int x5)], [.int x], (μ')) Q)
    (hx : ∀ x μ', X x μ' → Q (.inr x) μ') :
    Wp (d + 1) 101 (20, [some (.ref r0), some (.ref r1), some (.int x2), some (.int x3), some (.int x4), some (.int x5)], [], μ) Q := wp_blk rfl e101_20 (And.intro h1 (And.intro h2 (wp_cv (as := [.int (am_A μ r1 (x5 - (Int32.ofInt 1)).toNatClampNeg), .int x4]) rfl e101_20_c rfl rfl rfl rfl rfl hk hc (fun v μ' hv => by obtain ⟨x, rfl, hp⟩ := pI_r hv; exact hr x μ' hp) hx)))
def q101_32 : List (Nat × Instr × Nat) := [(32, .ifCond .eq 19, 3)]
theorem e101_32 : am_dec am_M101 q101_32 = true := by decide +kernel
theorem b101_32 {d : Nat} {Q : Option Value ⊕ Nat → am_Mem → Prop} {μ : am_Mem} {r0 r1 : Nat} {x2 x3 x4 x5 s0 : Int32}
    (k1 : s0 = 0 → Wp d 101 (51, [some (.ref r0), some (.ref r1), some (.int x2), some (.int x3), some (.int x4), some (.int x5)], [], μ) Q) (k2 : ¬ (s0 = 0) → Wp d 101 (35, [some (.ref r0), some (.ref r1), some (.int x2), some (.int x3), some (.int x4), some (.int x5)], [], μ) Q) :
    Wp d 101 (32, [some (.ref r0), some (.ref r1), some (.int x2), some (.int x3), some (.int x4), some (.int x5)], [.int s0], μ) Q := wp_blk rfl e101_32 (And.intro k1 k2)
def q101_35 : List (Nat × Instr × Nat) := [(35, .aload_n 1, 1), (36, .iload 5, 2), (38, .aload_n 1, 1), (39, .iload 5, 2), (41, .iconst 1, 1), (42, .isub, 1), (43, .iaload, 1), (44, .iastore, 1), (45, .iinc 5 (-1), 3), (48, .goto (-33), 3)]
theorem e101_35 : am_dec am_M101 q101_35 = true := by decide +kernel
theorem b101_35 {d : Nat} {Q : Option Value ⊕ Nat → am_Mem → Prop} {μ : am_Mem} {r0 r1 : Nat} {x2 x3 x4 x5 : Int32}
    (h1 : (am_kd μ r1).1 = 2 ∨ (am_kd μ r1).1 = 8)
    (h2 : ¬ ((x5 - (Int32.ofInt 1)) < 0 ∨ (am_kd μ r1).2 ≤ (x5 - (Int32.ofInt 1)).toNatClampNeg))
    (h3 : (am_kd μ r1).1 = 2)
    (h4 : ¬ (x5 < 0 ∨ (am_kd μ r1).2 ≤ x5.toNatClampNeg))
    (k : Wp d 101 (15, [some (.ref r0), some (.ref r1), some (.int x2), some (.int x3), some (.int x4), some (.int (x5 + Int32.ofInt (-1)))], [], (am_pA μ r1 x5.toNatClampNeg (am_A μ r1 (x5 - (Int32.ofInt 1)).toNatClampNeg))) Q) :
    Wp d 101 (35, [some (.ref r0), some (.ref r1), some (.int x2), some (.int x3), some (.int x4), some (.int x5)], [], μ) Q := wp_blk rfl e101_35 (And.intro h1 (And.intro h2 (And.intro h3 (And.intro h4 k))))
def q101_51 : List (Nat × Instr × Nat) := [(51, .aload_n 1, 1), (52, .iload 5, 2), (54, .iload 4, 2), (56, .iastore, 1), (57, .iinc 3 1, 3), (60, .goto (-58), 3)]
theorem e101_51 : am_dec am_M101 q101_51 = true := by decide +kernel
theorem b101_51 {d : Nat} {Q : Option Value ⊕ Nat → am_Mem → Prop} {μ : am_Mem} {r0 r1 : Nat} {x2 x3 x4 x5 : Int32}
    (h1 : (am_kd μ r1).1 = 2)
    (h2 : ¬ (x5 < 0 ∨ (am_kd μ r1).2 ≤ x5.toNatClampNeg))
    (k : Wp d 101 (2, [some (.ref r0), some (.ref r1), some (.int x2), some (.int (x3 + Int32.ofInt 1)), some (.int x4), some (.int x5)], [], (am_pA μ r1 x5.toNatClampNeg x4)) Q) :
    Wp d 101 (51, [some (.ref r0), some (.ref r1), some (.int x2), some (.int x3), some (.int x4), some (.int x5)], [], μ) Q := wp_blk rfl e101_51 (And.intro h1 (And.intro h2 k))
theorem e101_63_r : am_dec am_M101 [(63, .return_, 1)] = true := by decide +kernel
theorem b101_63 {d : Nat} {Q : Option Value ⊕ Nat → am_Mem → Prop} {μ : am_Mem} {r0 r1 : Nat} {x2 x3 : Int32} {o4 o5 : Option Value}
    (k : Q (.inl none) μ) :
    Wp d 101 (63, [some (.ref r0), some (.ref r1), some (.int x2), some (.int x3), o4, o5], [], μ) Q := (wp_rv rfl e101_63_r rfl k)
/-! RuleSheets$Terms.isBehind(II)Z -/
def q102_0 : List (Nat × Instr × Nat) := [(0, .aload_n 0, 1), (1, .getfield 24, 3), (4, .iload_n 1, 1), (5, .iaload, 1), (6, .aload_n 0, 1), (7, .getfield 24, 3), (10, .iload_n 2, 1), (11, .iaload, 1), (12, .if_icmp .gt 27, 3)]
theorem e102_0 : am_dec am_M102 q102_0 = true := by decide +kernel
theorem b102_0 {d : Nat} {Q : Option Value ⊕ Nat → am_Mem → Prop} {μ : am_Mem} {r0 : Nat} {x1 x2 : Int32}
    (h1 : am_kd μ r0 = (1, 8))
    (h2 : ¬ am_F μ r0 5 = 15)
    (h3 : (am_kd μ (am_F μ r0 5)).1 = 2 ∨ (am_kd μ (am_F μ r0 5)).1 = 8)
    (h4 : ¬ (x1 < 0 ∨ (am_kd μ (am_F μ r0 5)).2 ≤ x1.toNatClampNeg))
    (h5 : am_kd μ r0 = (1, 8))
    (h6 : ¬ am_F μ r0 5 = 15)
    (h7 : (am_kd μ (am_F μ r0 5)).1 = 2 ∨ (am_kd μ (am_F μ r0 5)).1 = 8)
    (h8 : ¬ (x2 < 0 ∨ (am_kd μ (am_F μ r0 5)).2 ≤ x2.toNatClampNeg))
    (k1 : (am_A μ (am_F μ r0 5) x2.toNatClampNeg) < (am_A μ (am_F μ r0 5) x1.toNatClampNeg) → Wp d 102 (39, [some (.ref r0), some (.int x1), some (.int x2)], [], μ) Q) (k2 : ¬ ((am_A μ (am_F μ r0 5) x2.toNatClampNeg) < (am_A μ (am_F μ r0 5) x1.toNatClampNeg)) → Wp d 102 (15, [some (.ref r0), some (.int x1), some (.int x2)], [], μ) Q) :
    Wp d 102 (0, [some (.ref r0), some (.int x1), some (.int x2)], [], μ) Q := wp_blk rfl e102_0 (And.intro h1 (And.intro h2 (And.intro h3 (And.intro h4 (And.intro h5 (And.intro h6 (And.intro h7 (And.intro h8 (And.intro k1 k2)))))))))
def q102_15 : List (Nat × Instr × Nat) := [(15, .aload_n 0, 1), (16, .getfield 24, 3), (19, .iload_n 1, 1), (20, .iaload, 1), (21, .aload_n 0, 1), (22, .getfield 24, 3), (25, .iload_n 2, 1), (26, .iaload, 1), (27, .if_icmp .ne 16, 3)]
theorem e102_15 : am_dec am_M102 q102_15 = true := by decide +kernel
theorem b102_15 {d : Nat} {Q : Option Value ⊕ Nat → am_Mem → Prop} {μ : am_Mem} {r0 : Nat} {x1 x2 : Int32}
    (h1 : am_kd μ r0 = (1, 8))
    (h2 : ¬ am_F μ r0 5 = 15)
    (h3 : (am_kd μ (am_F μ r0 5)).1 = 2 ∨ (am_kd μ (am_F μ r0 5)).1 = 8)
    (h4 : ¬ (x1 < 0 ∨ (am_kd μ (am_F μ r0 5)).2 ≤ x1.toNatClampNeg))
    (h5 : am_kd μ r0 = (1, 8))
    (h6 : ¬ am_F μ r0 5 = 15)
    (h7 : (am_kd μ (am_F μ r0 5)).1 = 2 ∨ (am_kd μ (am_F μ r0 5)).1 = 8)
    (h8 : ¬ (x2 < 0 ∨ (am_kd μ (am_F μ r0 5)).2 ≤ x2.toNatClampNeg))
    (k1 : ¬ (am_A μ (am_F μ r0 5) x1.toNatClampNeg) = (am_A μ (am_F μ r0 5) x2.toNatClampNeg) → Wp d 102 (43, [some (.ref r0), some (.int x1), some (.int x2)], [], μ) Q) (k2 : ¬ (¬ (am_A μ (am_F μ r0 5) x1.toNatClampNeg) = (am_A μ (am_F μ r0 5) x2.toNatClampNeg)) → Wp d 102 (30, [some (.ref r0), some (.int x1), some (.int x2)], [], μ) Q) :
    Wp d 102 (15, [some (.ref r0), some (.int x1), some (.int x2)], [], μ) Q := wp_blk rfl e102_15 (And.intro h1 (And.intro h2 (And.intro h3 (And.intro h4 (And.intro h5 (And.intro h6 (And.intro h7 (And.intro h8 (And.intro k1 k2)))))))))
def q102_30 : List (Nat × Instr × Nat) := [(30, .aload_n 0, 1), (31, .iload_n 1, 1), (32, .iload_n 2, 1)]
theorem e102_30 : am_dec am_M102 q102_30 = true := by decide +kernel
theorem e102_30_c : am_dc1 am_M102 33 (.invokevirtual 88) 3 = true := by decide +kernel
theorem b102_30 {d : Nat} {Q : Option Value ⊕ Nat → am_Mem → Prop} {μ : am_Mem} {r0 : Nat} {x1 x2 : Int32} {P : Int32 → am_Mem → Prop} {X : Nat → am_Mem → Prop}
    (hk : am_kd μ r0 = (1, 8))
    (hc : Wp d 98 (0, [some (.ref r0), some (.int x1), some (.int x2), none, none, none, none, none, none], [], μ) (pI P X)) (hr : ∀ x μ', P x μ' → Wp (d + 1) 102 (36, [some (.ref r0), some (.int x1), some (.int x2)], [.int x], (μ')) Q)
    (hx : ∀ x μ', X x μ' → Q (.inr x) μ') :
    Wp (d + 1) 102 (30, [some (.ref r0), some (.int x1), some (.int x2)], [], μ) Q := wp_blk rfl e102_30 (wp_cv (as := [.int x1, .int x2]) rfl e102_30_c rfl rfl rfl rfl rfl hk hc (fun v μ' hv => by obtain ⟨x, rfl, hp⟩ := pI_r hv; exact hr x μ' hp) hx)
def q102_36 : List (Nat × Instr × Nat) := [(36, .ifCond .le 7, 3)]
theorem e102_36 : am_dec am_M102 q102_36 = true := by decide +kernel
theorem b102_36 {d : Nat} {Q : Option Value ⊕ Nat → am_Mem → Prop} {μ : am_Mem} {r0 : Nat} {x1 x2 s0 : Int32}
    (k1 : s0 ≤ 0 → Wp d 102 (43, [some (.ref r0), some (.int x1), some (.int x2)], [], μ) Q) (k2 : ¬ (s0 ≤ 0) → Wp d 102 (39, [some (.ref r0), some (.int x1), some (.int x2)], [], μ) Q) :
    Wp d 102 (36, [some (.ref r0), some (.int x1), some (.int x2)], [.int s0], μ) Q := wp_blk rfl e102_36 (And.intro k1 k2)
def q102_39 : List (Nat × Instr × Nat) := [(39, .iconst 1, 1), (40, .goto 4, 3)]
theorem e102_39 : am_dec am_M102 q102_39 = true := by decide +kernel
theorem b102_39 {d : Nat} {Q : Option Value ⊕ Nat → am_Mem → Prop} {μ : am_Mem} {r0 : Nat} {x1 x2 : Int32}
    (k : Wp d 102 (44, [some (.ref r0), some (.int x1), some (.int x2)], [.int (Int32.ofInt 1)], μ) Q) :
    Wp d 102 (39, [some (.ref r0), some (.int x1), some (.int x2)], [], μ) Q := wp_blk rfl e102_39 k
def q102_43 : List (Nat × Instr × Nat) := [(43, .iconst 0, 1)]
theorem e102_43 : am_dec am_M102 q102_43 = true := by decide +kernel
theorem b102_43 {d : Nat} {Q : Option Value ⊕ Nat → am_Mem → Prop} {μ : am_Mem} {r0 : Nat} {x1 x2 : Int32}
    (k : Wp d 102 (44, [some (.ref r0), some (.int x1), some (.int x2)], [.int (Int32.ofInt 0)], μ) Q) :
    Wp d 102 (43, [some (.ref r0), some (.int x1), some (.int x2)], [], μ) Q := wp_blk rfl e102_43 k
theorem e102_44_r : am_dec am_M102 [(44, .ireturn, 1)] = true := by decide +kernel
theorem b102_44 {d : Nat} {Q : Option Value ⊕ Nat → am_Mem → Prop} {μ : am_Mem} {r0 : Nat} {x1 x2 s0 : Int32}
    (hn : narrow .boolean (.int s0) = .int s0 ∧ fits .boolean (.int s0) = true)
    (k : Q (.inl (some (.int s0))) μ) :
    Wp d 102 (44, [some (.ref r0), some (.int x1), some (.int x2)], [.int s0], μ) Q := (wp_ri (ty := .boolean) rfl e102_44_r rfl hn k)
