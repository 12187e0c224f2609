/-! ===== printed: the blocks of Facts ===== -/
/-! RuleSheets$Facts.<init>()V -/
def q27_0 : List (Nat × Instr × Nat) := [(0, .aload_n 0, 1), (1, .invokespecial 3, 3), (4, .aload_n 0, 1), (5, .sipush 1000, 3), (8, .newarray .int, 2), (10, .putfield 9, 3)]
theorem e27_0 : am_dec am_M27 q27_0 = true := by decide +kernel
theorem b27_0 {d : Nat} {Q : Option Value ⊕ Nat → am_Mem → Prop} {μ : am_Mem} {r0 : Nat}
    (h1 : am_kd (am_nA μ 2 ((Int16.ofInt 1000).toInt32).toNatClampNeg) r0 = (1, 1))
    (h2 : ¬ (am_n μ) = 15)
    (k : Wp d 27 (13, [some (.ref r0)], [], (am_pR (am_nA μ 2 ((Int16.ofInt 1000).toInt32).toNatClampNeg) r0 0 (am_n μ))) Q) :
    Wp d 27 (0, [some (.ref r0)], [], μ) Q := wp_blk rfl e27_0 (And.intro (by decide) (And.intro h1 (And.intro h2 k)))
def q27_13 : List (Nat × Instr × Nat) := [(13, .aload_n 0, 1), (14, .sipush 4000, 3), (17, .newarray .int, 2), (19, .putfield 15, 3)]
theorem e27_13 : am_dec am_M27 q27_13 = true := by decide +kernel
theorem b27_13 {d : Nat} {Q : Option Value ⊕ Nat → am_Mem → Prop} {μ : am_Mem} {r0 : Nat}
    (h1 : am_kd (am_nA μ 2 ((Int16.ofInt 4000).toInt32).toNatClampNeg) r0 = (1, 1))
    (h2 : ¬ (am_n μ) = 15)
    (k : Wp d 27 (22, [some (.ref r0)], [], (am_pR (am_nA μ 2 ((Int16.ofInt 4000).toInt32).toNatClampNeg) r0 1 (am_n μ))) Q) :
    Wp d 27 (13, [some (.ref r0)], [], μ) Q := wp_blk rfl e27_13 (And.intro (by decide) (And.intro h1 (And.intro h2 k)))
def q27_22 : List (Nat × Instr × Nat) := [(22, .aload_n 0, 1), (23, .sipush 1000, 3), (26, .newarray .int, 2), (28, .putfield 18, 3)]
theorem e27_22 : am_dec am_M27 q27_22 = true := by decide +kernel
theorem b27_22 {d : Nat} {Q : Option Value ⊕ Nat → am_Mem → Prop} {μ : am_Mem} {r0 : Nat}
    (h1 : am_kd (am_nA μ 2 ((Int16.ofInt 1000).toInt32).toNatClampNeg) r0 = (1, 1))
    (h2 : ¬ (am_n μ) = 15)
    (k : Wp d 27 (31, [some (.ref r0)], [], (am_pR (am_nA μ 2 ((Int16.ofInt 1000).toInt32).toNatClampNeg) r0 2 (am_n μ))) Q) :
    Wp d 27 (22, [some (.ref r0)], [], μ) Q := wp_blk rfl e27_22 (And.intro (by decide) (And.intro h1 (And.intro h2 k)))
def q27_31 : List (Nat × Instr × Nat) := [(31, .aload_n 0, 1), (32, .sipush 1000, 3), (35, .newarray .int, 2), (37, .putfield 21, 3)]
theorem e27_31 : am_dec am_M27 q27_31 = true := by decide +kernel
theorem b27_31 {d : Nat} {Q : Option Value ⊕ Nat → am_Mem → Prop} {μ : am_Mem} {r0 : Nat}
    (h1 : am_kd (am_nA μ 2 ((Int16.ofInt 1000).toInt32).toNatClampNeg) r0 = (1, 1))
    (h2 : ¬ (am_n μ) = 15)
    (k : Wp d 27 (40, [some (.ref r0)], [], (am_pR (am_nA μ 2 ((Int16.ofInt 1000).toInt32).toNatClampNeg) r0 3 (am_n μ))) Q) :
    Wp d 27 (31, [some (.ref r0)], [], μ) Q := wp_blk rfl e27_31 (And.intro (by decide) (And.intro h1 (And.intro h2 k)))
def q27_40 : List (Nat × Instr × Nat) := [(40, .aload_n 0, 1), (41, .sipush 4096, 3), (44, .newarray .int, 2), (46, .putfield 24, 3)]
theorem e27_40 : am_dec am_M27 q27_40 = true := by decide +kernel
theorem b27_40 {d : Nat} {Q : Option Value ⊕ Nat → am_Mem → Prop} {μ : am_Mem} {r0 : Nat}
    (h1 : am_kd (am_nA μ 2 ((Int16.ofInt 4096).toInt32).toNatClampNeg) r0 = (1, 1))
    (h2 : ¬ (am_n μ) = 15)
    (k : Wp d 27 (49, [some (.ref r0)], [], (am_pR (am_nA μ 2 ((Int16.ofInt 4096).toInt32).toNatClampNeg) r0 4 (am_n μ))) Q) :
    Wp d 27 (40, [some (.ref r0)], [], μ) Q := wp_blk rfl e27_40 (And.intro (by decide) (And.intro h1 (And.intro h2 k)))
def q27_49 : List (Nat × Instr × Nat) := [(49, .aload_n 0, 1), (50, .sipush 1024, 3), (53, .newarray .int, 2), (55, .putfield 27, 3)]
theorem e27_49 : am_dec am_M27 q27_49 = true := by decide +kernel
theorem b27_49 {d : Nat} {Q : Option Value ⊕ Nat → am_Mem → Prop} {μ : am_Mem} {r0 : Nat}
    (h1 : am_kd (am_nA μ 2 ((Int16.ofInt 1024).toInt32).toNatClampNeg) r0 = (1, 1))
    (h2 : ¬ (am_n μ) = 15)
    (k : Wp d 27 (58, [some (.ref r0)], [], (am_pR (am_nA μ 2 ((Int16.ofInt 1024).toInt32).toNatClampNeg) r0 5 (am_n μ))) Q) :
    Wp d 27 (49, [some (.ref r0)], [], μ) Q := wp_blk rfl e27_49 (And.intro (by decide) (And.intro h1 (And.intro h2 k)))
def q27_58 : List (Nat × Instr × Nat) := [(58, .aload_n 0, 1), (59, .sipush 1024, 3), (62, .newarray .int, 2), (64, .putfield 30, 3)]
theorem e27_58 : am_dec am_M27 q27_58 = true := by decide +kernel
theorem b27_58 {d : Nat} {Q : Option Value ⊕ Nat → am_Mem → Prop} {μ : am_Mem} {r0 : Nat}
    (h1 : am_kd (am_nA μ 2 ((Int16.ofInt 1024).toInt32).toNatClampNeg) r0 = (1, 1))
    (h2 : ¬ (am_n μ) = 15)
    (k : Wp d 27 (67, [some (.ref r0)], [], (am_pR (am_nA μ 2 ((Int16.ofInt 1024).toInt32).toNatClampNeg) r0 6 (am_n μ))) Q) :
    Wp d 27 (58, [some (.ref r0)], [], μ) Q := wp_blk rfl e27_58 (And.intro (by decide) (And.intro h1 (And.intro h2 k)))
def q27_67 : List (Nat × Instr × Nat) := [(67, .aload_n 0, 1), (68, .iconst 0, 1), (69, .putfield 33, 3), (72, .aload_n 0, 1), (73, .iconst 4, 1), (74, .newarray .int, 2), (76, .putfield 37, 3)]
theorem e27_67 : am_dec am_M27 q27_67 = true := by decide +kernel
theorem b27_67 {d : Nat} {Q : Option Value ⊕ Nat → am_Mem → Prop} {μ : am_Mem} {r0 : Nat}
    (h1 : am_kd μ r0 = (1, 1))
    (h2 : am_kd (am_nA (am_pA μ r0 7 (Int32.ofInt 0)) 2 (Int32.ofInt 4).toNatClampNeg) r0 = (1, 1))
    (h3 : ¬ (am_n (am_pA μ r0 7 (Int32.ofInt 0))) = 15)
    (k : Wp d 27 (79, [some (.ref r0)], [], (am_pR (am_nA (am_pA μ r0 7 (Int32.ofInt 0)) 2 (Int32.ofInt 4).toNatClampNeg) r0 8 (am_n (am_pA μ r0 7 (Int32.ofInt 0))))) Q) :
    Wp d 27 (67, [some (.ref r0)], [], μ) Q := wp_blk rfl e27_67 (And.intro h1 (And.intro ⟨rfl, rfl⟩ (And.intro (by decide) (And.intro h2 (And.intro h3 k)))))
theorem e27_79_r : am_dec am_M27 [(79, .return_, 1)] = true := by decide +kernel
theorem b27_79 {d : Nat} {Q : Option Value ⊕ Nat → am_Mem → Prop} {μ : am_Mem} {r0 : Nat}
    (k : Q (.inl none) μ) :
    Wp d 27 (79, [some (.ref r0)], [], μ) Q := (wp_rv rfl e27_79_r rfl k)
/-! RuleSheets$Facts.cut(I)V -/
def q28_0 : List (Nat × Instr × Nat) := [(0, .aload_n 0, 1), (1, .getfield 33, 3), (4, .iconst 1, 1), (5, .isub, 1), (6, .istore_n 2, 1)]
theorem e28_0 : am_dec am_M28 q28_0 = true := by decide +kernel
theorem b28_0 {d : Nat} {Q : Option Value ⊕ Nat → am_Mem → Prop} {μ : am_Mem} {r0 : Nat} {x1 : Int32}
    (h1 : am_kd μ r0 = (1, 1))
    (k : Wp d 28 (7, [some (.ref r0), some (.int x1), some (.int ((am_A μ r0 7) - (Int32.ofInt 1)))], [], μ) Q) :
    Wp d 28 (0, [some (.ref r0), some (.int x1), none], [], μ) Q := wp_blk rfl e28_0 (And.intro h1 k)
def q28_7 : List (Nat × Instr × Nat) := [(7, .iload_n 2, 1), (8, .iload_n 1, 1), (9, .if_icmp .lt 58, 3)]
theorem e28_7 : am_dec am_M28 q28_7 = true := by decide +kernel
theorem b28_7 {d : Nat} {Q : Option Value ⊕ Nat → am_Mem → Prop} {μ : am_Mem} {r0 : Nat} {x1 x2 : Int32}
    (k1 : x2 < x1 → Wp d 28 (67, [some (.ref r0), some (.int x1), some (.int x2)], [], μ) Q) (k2 : ¬ (x2 < x1) → Wp d 28 (12, [some (.ref r0), some (.int x1), some (.int x2)], [], μ) Q) :
    Wp d 28 (7, [some (.ref r0), some (.int x1), some (.int x2)], [], μ) Q := wp_blk rfl e28_7 (And.intro k1 k2)
def q28_12 : List (Nat × Instr × Nat) := [(12, .aload_n 0, 1), (13, .getfield 24, 3), (16, .aload_n 0, 1), (17, .getfield 21, 3), (20, .iload_n 2, 1), (21, .iaload, 1), (22, .iconst 0, 1), (23, .iastore, 1), (24, .aload_n 0, 1), (25, .getfield 27, 3), (28, .aload_n 0, 1), (29, .getfield 9, 3), (32, .iload_n 2, 1), (33, .iaload, 1), (34, .aload_n 0, 1), (35, .getfield 18, 3), (38, .iload_n 2, 1), (39, .iaload, 1)]
theorem e28_12 : am_dec am_M28 q28_12 = true := by decide +kernel
theorem b28_12 {d : Nat} {Q : Option Value ⊕ Nat → am_Mem → Prop} {μ : am_Mem} {r0 : Nat} {x1 x2 : Int32}
    (h1 : am_kd μ r0 = (1, 1))
    (h2 : ¬ am_F μ r0 4 = 15)
    (h3 : am_kd μ r0 = (1, 1))
    (h4 : ¬ am_F μ r0 3 = 15)
    (h5 : (am_kd μ (am_F μ r0 3)).1 = 2 ∨ (am_kd μ (am_F μ r0 3)).1 = 8)
    (h6 : ¬ (x2 < 0 ∨ (am_kd μ (am_F μ r0 3)).2 ≤ x2.toNatClampNeg))
    (h7 : (am_kd μ (am_F μ r0 4)).1 = 2)
    (h8 : ¬ ((am_A μ (am_F μ r0 3) x2.toNatClampNeg) < 0 ∨ (am_kd μ (am_F μ r0 4)).2 ≤ (am_A μ (am_F μ r0 3) x2.toNatClampNeg).toNatClampNeg))
    (h9 : am_kd (am_pA μ (am_F μ r0 4) (am_A μ (am_F μ r0 3) x2.toNatClampNeg).toNatClampNeg (Int32.ofInt 0)) r0 = (1, 1))
    (h10 : ¬ am_F (am_pA μ (am_F μ r0 4) (am_A μ (am_F μ r0 3) x2.toNatClampNeg).toNatClampNeg (Int32.ofInt 0)) r0 5 = 15)
    (h11 : am_kd (am_pA μ (am_F μ r0 4) (am_A μ (am_F μ r0 3) x2.toNatClampNeg).toNatClampNeg (Int32.ofInt 0)) r0 = (1, 1))
    (h12 : ¬ am_F (am_pA μ (am_F μ r0 4) (am_A μ (am_F μ r0 3) x2.toNatClampNeg).toNatClampNeg (Int32.ofInt 0)) r0 0 = 15)
    (h13 : (am_kd (am_pA μ (am_F μ r0 4) (am_A μ (am_F μ r0 3) x2.toNatClampNeg).toNatClampNeg (Int32.ofInt 0)) (am_F (am_pA μ (am_F μ r0 4) (am_A μ (am_F μ r0 3) x2.toNatClampNeg).toNatClampNeg (Int32.ofInt 0)) r0 0)).1 = 2 ∨ (am_kd (am_pA μ (am_F μ r0 4) (am_A μ (am_F μ r0 3) x2.toNatClampNeg).toNatClampNeg (Int32.ofInt 0)) (am_F (am_pA μ (am_F μ r0 4) (am_A μ (am_F μ r0 3) x2.toNatClampNeg).toNatClampNeg (Int32.ofInt 0)) r0 0)).1 = 8)
    (h14 : ¬ (x2 < 0 ∨ (am_kd (am_pA μ (am_F μ r0 4) (am_A μ (am_F μ r0 3) x2.toNatClampNeg).toNatClampNeg (Int32.ofInt 0)) (am_F (am_pA μ (am_F μ r0 4) (am_A μ (am_F μ r0 3) x2.toNatClampNeg).toNatClampNeg (Int32.ofInt 0)) r0 0)).2 ≤ x2.toNatClampNeg))
    (h15 : am_kd (am_pA μ (am_F μ r0 4) (am_A μ (am_F μ r0 3) x2.toNatClampNeg).toNatClampNeg (Int32.ofInt 0)) r0 = (1, 1))
    (h16 : ¬ am_F (am_pA μ (am_F μ r0 4) (am_A μ (am_F μ r0 3) x2.toNatClampNeg).toNatClampNeg (Int32.ofInt 0)) r0 2 = 15)
    (h17 : (am_kd (am_pA μ (am_F μ r0 4) (am_A μ (am_F μ r0 3) x2.toNatClampNeg).toNatClampNeg (Int32.ofInt 0)) (am_F (am_pA μ (am_F μ r0 4) (am_A μ (am_F μ r0 3) x2.toNatClampNeg).toNatClampNeg (Int32.ofInt 0)) r0 2)).1 = 2 ∨ (am_kd (am_pA μ (am_F μ r0 4) (am_A μ (am_F μ r0 3) x2.toNatClampNeg).toNatClampNeg (Int32.ofInt 0)) (am_F (am_pA μ (am_F μ r0 4) (am_A μ (am_F μ r0 3) x2.toNatClampNeg).toNatClampNeg (Int32.ofInt 0)) r0 2)).1 = 8)
    (h18 : ¬ (x2 < 0 ∨ (am_kd (am_pA μ (am_F μ r0 4) (am_A μ (am_F μ r0 3) x2.toNatClampNeg).toNatClampNeg (Int32.ofInt 0)) (am_F (am_pA μ (am_F μ r0 4) (am_A μ (am_F μ r0 3) x2.toNatClampNeg).toNatClampNeg (Int32.ofInt 0)) r0 2)).2 ≤ x2.toNatClampNeg))
    (k : Wp d 28 (40, [some (.ref r0), some (.int x1), some (.int x2)], [.int (am_A (am_pA μ (am_F μ r0 4) (am_A μ (am_F μ r0 3) x2.toNatClampNeg).toNatClampNeg (Int32.ofInt 0)) (am_F (am_pA μ (am_F μ r0 4) (am_A μ (am_F μ r0 3) x2.toNatClampNeg).toNatClampNeg (Int32.ofInt 0)) r0 2) x2.toNatClampNeg), .int (am_A (am_pA μ (am_F μ r0 4) (am_A μ (am_F μ r0 3) x2.toNatClampNeg).toNatClampNeg (Int32.ofInt 0)) (am_F (am_pA μ (am_F μ r0 4) (am_A μ (am_F μ r0 3) x2.toNatClampNeg).toNatClampNeg (Int32.ofInt 0)) r0 0) x2.toNatClampNeg), .ref (am_F (am_pA μ (am_F μ r0 4) (am_A μ (am_F μ r0 3) x2.toNatClampNeg).toNatClampNeg (Int32.ofInt 0)) r0 5)], (am_pA μ (am_F μ r0 4) (am_A μ (am_F μ r0 3) x2.toNatClampNeg).toNatClampNeg (Int32.ofInt 0))) Q) :
    Wp d 28 (12, [some (.ref r0), some (.int x1), some (.int x2)], [], μ) Q := wp_blk rfl e28_12 (And.intro h1 (And.intro h2 (And.intro h3 (And.intro h4 (And.intro h5 (And.intro h6 (And.intro h7 (And.intro h8 (And.intro h9 (And.intro h10 (And.intro h11 (And.intro h12 (And.intro h13 (And.intro h14 (And.intro h15 (And.intro h16 (And.intro h17 (And.intro h18 k))))))))))))))))))
def q28_40 : List (Nat × Instr × Nat) := [(40, .iastore, 1), (41, .aload_n 0, 1), (42, .getfield 30, 3), (45, .aload_n 0, 1), (46, .getfield 9, 3), (49, .iload_n 2, 1), (50, .iaload, 1), (51, .dup2, 1), (52, .iaload, 1), (53, .iconst 1, 1), (54, .isub, 1), (55, .iastore, 1)]
theorem e28_40 : am_dec am_M28 q28_40 = true := by decide +kernel
theorem b28_40 {d : Nat} {Q : Option Value ⊕ Nat → am_Mem → Prop} {μ : am_Mem} {r0 r90 : Nat} {x1 x2 s1 s2 : Int32}
    (h1 : (am_kd μ r90).1 = 2)
    (h2 : ¬ (s1 < 0 ∨ (am_kd μ r90).2 ≤ s1.toNatClampNeg))
    (h3 : am_kd (am_pA μ r90 s1.toNatClampNeg s2) r0 = (1, 1))
    (h4 : ¬ am_F (am_pA μ r90 s1.toNatClampNeg s2) r0 6 = 15)
    (h5 : am_kd (am_pA μ r90 s1.toNatClampNeg s2) r0 = (1, 1))
    (h6 : ¬ am_F (am_pA μ r90 s1.toNatClampNeg s2) r0 0 = 15)
    (h7 : (am_kd (am_pA μ r90 s1.toNatClampNeg s2) (am_F (am_pA μ r90 s1.toNatClampNeg s2) r0 0)).1 = 2 ∨ (am_kd (am_pA μ r90 s1.toNatClampNeg s2) (am_F (am_pA μ r90 s1.toNatClampNeg s2) r0 0)).1 = 8)
    (h8 : ¬ (x2 < 0 ∨ (am_kd (am_pA μ r90 s1.toNatClampNeg s2) (am_F (am_pA μ r90 s1.toNatClampNeg s2) r0 0)).2 ≤ x2.toNatClampNeg))
    (h9 : (am_kd (am_pA μ r90 s1.toNatClampNeg s2) (am_F (am_pA μ r90 s1.toNatClampNeg s2) r0 6)).1 = 2 ∨ (am_kd (am_pA μ r90 s1.toNatClampNeg s2) (am_F (am_pA μ r90 s1.toNatClampNeg s2) r0 6)).1 = 8)
    (h10 : ¬ ((am_A (am_pA μ r90 s1.toNatClampNeg s2) (am_F (am_pA μ r90 s1.toNatClampNeg s2) r0 0) x2.toNatClampNeg) < 0 ∨ (am_kd (am_pA μ r90 s1.toNatClampNeg s2) (am_F (am_pA μ r90 s1.toNatClampNeg s2) r0 6)).2 ≤ (am_A (am_pA μ r90 s1.toNatClampNeg s2) (am_F (am_pA μ r90 s1.toNatClampNeg s2) r0 0) x2.toNatClampNeg).toNatClampNeg))
    (h11 : (am_kd (am_pA μ r90 s1.toNatClampNeg s2) (am_F (am_pA μ r90 s1.toNatClampNeg s2) r0 6)).1 = 2)
    (h12 : ¬ ((am_A (am_pA μ r90 s1.toNatClampNeg s2) (am_F (am_pA μ r90 s1.toNatClampNeg s2) r0 0) x2.toNatClampNeg) < 0 ∨ (am_kd (am_pA μ r90 s1.toNatClampNeg s2) (am_F (am_pA μ r90 s1.toNatClampNeg s2) r0 6)).2 ≤ (am_A (am_pA μ r90 s1.toNatClampNeg s2) (am_F (am_pA μ r90 s1.toNatClampNeg s2) r0 0) x2.toNatClampNeg).toNatClampNeg))
    (k : Wp d 28 (56, [some (.ref r0), some (.int x1), some (.int x2)], [], (am_pA (am_pA μ r90 s1.toNatClampNeg s2) (am_F (am_pA μ r90 s1.toNatClampNeg s2) r0 6) (am_A (am_pA μ r90 s1.toNatClampNeg s2) (am_F (am_pA μ r90 s1.toNatClampNeg s2) r0 0) x2.toNatClampNeg).toNatClampNeg ((am_A (am_pA μ r90 s1.toNatClampNeg s2) (am_F (am_pA μ r90 s1.toNatClampNeg s2) r0 6) (am_A (am_pA μ r90 s1.toNatClampNeg s2) (am_F (am_pA μ r90 s1.toNatClampNeg s2) r0 0) x2.toNatClampNeg).toNatClampNeg) - (Int32.ofInt 1)))) Q) :
    Wp d 28 (40, [some (.ref r0), some (.int x1), some (.int x2)], [.int s2, .int s1, .ref r90], μ) Q := wp_blk rfl e28_40 (And.intro h1 (And.intro h2 (And.intro h3 (And.intro h4 (And.intro h5 (And.intro h6 (And.intro h7 (And.intro h8 (And.intro h9 (And.intro h10 (And.intro h11 (And.intro h12 k))))))))))))
def q28_56 : List (Nat × Instr × Nat) := [(56, .aload_n 0, 1), (57, .iload_n 2, 1), (58, .putfield 33, 3), (61, .iinc 2 (-1), 3), (64, .goto (-57), 3)]
theorem e28_56 : am_dec am_M28 q28_56 = true := by decide +kernel
theorem b28_56 {d : Nat} {Q : Option Value ⊕ Nat → am_Mem → Prop} {μ : am_Mem} {r0 : Nat} {x1 x2 : Int32}
    (h1 : am_kd μ r0 = (1, 1))
    (k : Wp d 28 (7, [some (.ref r0), some (.int x1), some (.int (x2 + Int32.ofInt (-1)))], [], (am_pA μ r0 7 x2)) Q) :
    Wp d 28 (56, [some (.ref r0), some (.int x1), some (.int x2)], [], μ) Q := wp_blk rfl e28_56 (And.intro h1 (And.intro ⟨rfl, rfl⟩ k))
theorem e28_67_r : am_dec am_M28 [(67, .return_, 1)] = true := by decide +kernel
theorem b28_67 {d : Nat} {Q : Option Value ⊕ Nat → am_Mem → Prop} {μ : am_Mem} {r0 : Nat} {x1 x2 : Int32}
    (k : Q (.inl none) μ) :
    Wp d 28 (67, [some (.ref r0), some (.int x1), some (.int x2)], [], μ) Q := (wp_rv rfl e28_67_r rfl k)
/-! RuleSheets$Facts.find(II)I -/
def q29_0 : List (Nat × Instr × Nat) := [(0, .aload_n 0, 1), (1, .getfield 24, 3), (4, .aload_n 0, 1), (5, .iload_n 1, 1), (6, .iload_n 2, 1)]
theorem e29_0 : am_dec am_M29 q29_0 = true := by decide +kernel
theorem e29_0_c : am_dc1 am_M29 7 (.invokevirtual 42) 3 = true := by decide +kernel
theorem b29_0 {d : Nat} {Q : Option Value ⊕ Nat → am_Mem → Prop} {μ : am_Mem} {r0 : Nat} {x1 x2 : Int32} {P : Int32 → am_Mem → Prop} {X : Nat → am_Mem → Prop}
    (h1 : am_kd μ r0 = (1, 1))
    (h2 : ¬ am_F μ r0 4 = 15)
    (hk : am_kd μ r0 = (1, 1))
    (hc : Wp d 30 (0, [some (.ref r0), some (.int x1), some (.int x2), none, none, none, none, none], [], μ) (pI P X)) (hr : ∀ x μ', P x μ' → Wp (d + 1) 29 (10, [some (.ref r0), some (.int x1), some (.int x2)], [.int x, .ref (am_F μ r0 4)], (μ')) Q)
    (hx : ∀ x μ', X x μ' → Q (.inr x) μ') :
    Wp (d + 1) 29 (0, [some (.ref r0), some (.int x1), some (.int x2)], [], μ) Q := wp_blk rfl e29_0 (And.intro h1 (And.intro h2 (wp_cv (as := [.int x1, .int x2]) rfl e29_0_c rfl rfl rfl rfl rfl hk hc (fun v μ' hv => by obtain ⟨x, rfl, hp⟩ := pI_r hv; exact hr x μ' hp) hx)))
def q29_10 : List (Nat × Instr × Nat) := [(10, .iaload, 1), (11, .iconst 1, 1), (12, .isub, 1)]
theorem e29_10 : am_dec am_M29 q29_10 = true := by decide +kernel
theorem e29_10_r : am_dec am_M29 [(13, .ireturn, 1)] = true := by decide +kernel
theorem b29_10 {d : Nat} {Q : Option Value ⊕ Nat → am_Mem → Prop} {μ : am_Mem} {r0 r90 : Nat} {x1 x2 s1 : Int32}
    (h1 : (am_kd μ r90).1 = 2 ∨ (am_kd μ r90).1 = 8)
    (h2 : ¬ (s1 < 0 ∨ (am_kd μ r90).2 ≤ s1.toNatClampNeg))
    (k : Q (.inl (some (.int ((am_A μ r90 s1.toNatClampNeg) - (Int32.ofInt 1))))) μ) :
    Wp d 29 (10, [some (.ref r0), some (.int x1), some (.int x2)], [.int s1, .ref r90], μ) Q := wp_blk rfl e29_10 (And.intro h1 (And.intro h2 (wp_ri (ty := .int) rfl e29_10_r rfl ⟨rfl, rfl⟩ k)))
/-! RuleSheets$Facts.slotOf(II)I -/
def q30_0 : List (Nat × Instr × Nat) := [(0, .iload_n 1, 1), (1, .ldc 40, 2), (3, .imul, 1), (4, .istore_n 3, 1), (5, .iconst 0, 1), (6, .istore 4, 2)]
theorem e30_0 : am_dec am_M30 q30_0 = true := by decide +kernel
theorem b30_0 {d : Nat} {Q : Option Value ⊕ Nat → am_Mem → Prop} {μ : am_Mem} {r0 : Nat} {x1 x2 : Int32}
    (k : Wp d 30 (8, [some (.ref r0), some (.int x1), some (.int x2), some (.int (x1 * (-1640531535 : Int32))), some (.int (Int32.ofInt 0)), none, none, none], [], μ) Q) :
    Wp d 30 (0, [some (.ref r0), some (.int x1), some (.int x2), none, none, none, none, none], [], μ) Q := wp_blk rfl e30_0 k
def q30_8 : List (Nat × Instr × Nat) := [(8, .iload 4, 2), (10, .iload_n 2, 1), (11, .if_icmp .ge 27, 3)]
theorem e30_8 : am_dec am_M30 q30_8 = true := by decide +kernel
theorem b30_8 {d : Nat} {Q : Option Value ⊕ Nat → am_Mem → Prop} {μ : am_Mem} {r0 : Nat} {x1 x2 x3 x4 : Int32}
    (k1 : x2 ≤ x4 → Wp d 30 (38, [some (.ref r0), some (.int x1), some (.int x2), some (.int x3), some (.int x4), none, none, none], [], μ) Q) (k2 : ¬ (x2 ≤ x4) → Wp d 30 (14, [some (.ref r0), some (.int x1), some (.int x2), some (.int x3), some (.int x4), none, none, none], [], μ) Q) :
    Wp d 30 (8, [some (.ref r0), some (.int x1), some (.int x2), some (.int x3), some (.int x4), none, none, none], [], μ) Q := wp_blk rfl e30_8 (And.intro k1 k2)
def q30_14 : List (Nat × Instr × Nat) := [(14, .iload_n 3, 1), (15, .iload_n 3, 1), (16, .bipush 15, 2), (18, .iushr, 1), (19, .ixor, 1), (20, .aload_n 0, 1), (21, .getfield 37, 3), (24, .iload 4, 2), (26, .iaload, 1), (27, .iadd, 1), (28, .ldc 41, 2), (30, .imul, 1), (31, .istore_n 3, 1), (32, .iinc 4 1, 3), (35, .goto (-27), 3)]
theorem e30_14 : am_dec am_M30 q30_14 = true := by decide +kernel
theorem b30_14 {d : Nat} {Q : Option Value ⊕ Nat → am_Mem → Prop} {μ : am_Mem} {r0 : Nat} {x1 x2 x3 x4 : Int32}
    (h1 : am_kd μ r0 = (1, 1))
    (h2 : ¬ am_F μ r0 8 = 15)
    (h3 : (am_kd μ (am_F μ r0 8)).1 = 2 ∨ (am_kd μ (am_F μ r0 8)).1 = 8)
    (h4 : ¬ (x4 < 0 ∨ (am_kd μ (am_F μ r0 8)).2 ≤ x4.toNatClampNeg))
    (k : Wp d 30 (8, [some (.ref r0), some (.int x1), some (.int x2), some (.int (((x3 ^^^ ((x3.toUInt32 >>> (((Int8.ofInt 15).toInt32).toUInt32 &&& Int32.toUInt32 31)).toInt32)) + (am_A μ (am_F μ r0 8) x4.toNatClampNeg)) * (-2048144789 : Int32))), some (.int (x4 + Int32.ofInt 1)), none, none, none], [], μ) Q) :
    Wp d 30 (14, [some (.ref r0), some (.int x1), some (.int x2), some (.int x3), some (.int x4), none, none, none], [], μ) Q := wp_blk rfl e30_14 (And.intro h1 (And.intro h2 (And.intro h3 (And.intro h4 k))))
def q30_38 : List (Nat × Instr × Nat) := [(38, .iload_n 3, 1), (39, .iload_n 3, 1), (40, .bipush 13, 2), (42, .iushr, 1), (43, .ixor, 1), (44, .sipush 4095, 3), (47, .iand, 1), (48, .istore 4, 2), (50, .iconst 0, 1), (51, .istore 5, 2)]
theorem e30_38 : am_dec am_M30 q30_38 = true := by decide +kernel
theorem b30_38 {d : Nat} {Q : Option Value ⊕ Nat → am_Mem → Prop} {μ : am_Mem} {r0 : Nat} {x1 x2 x3 x4 : Int32}
    (k : Wp d 30 (53, [some (.ref r0), some (.int x1), some (.int x2), some (.int x3), some (.int ((x3 ^^^ ((x3.toUInt32 >>> (((Int8.ofInt 13).toInt32).toUInt32 &&& Int32.toUInt32 31)).toInt32)) &&& ((Int16.ofInt 4095).toInt32))), some (.int (Int32.ofInt 0)), none, none], [], μ) Q) :
    Wp d 30 (38, [some (.ref r0), some (.int x1), some (.int x2), some (.int x3), some (.int x4), none, none, none], [], μ) Q := wp_blk rfl e30_38 k
def q30_53 : List (Nat × Instr × Nat) := [(53, .iload 5, 2), (55, .sipush 4096, 3), (58, .if_icmp .ge 97, 3)]
theorem e30_53 : am_dec am_M30 q30_53 = true := by decide +kernel
theorem b30_53 {d : Nat} {Q : Option Value ⊕ Nat → am_Mem → Prop} {μ : am_Mem} {r0 : Nat} {x1 x2 x3 x4 x5 : Int32} {o6 o7 : Option Value}
    (k1 : ((Int16.ofInt 4096).toInt32) ≤ x5 → Wp d 30 (155, [some (.ref r0), some (.int x1), some (.int x2), some (.int x3), some (.int x4), some (.int x5), o6, o7], [], μ) Q) (k2 : ¬ (((Int16.ofInt 4096).toInt32) ≤ x5) → Wp d 30 (61, [some (.ref r0), some (.int x1), some (.int x2), some (.int x3), some (.int x4), some (.int x5), o6, o7], [], μ) Q) :
    Wp d 30 (53, [some (.ref r0), some (.int x1), some (.int x2), some (.int x3), some (.int x4), some (.int x5), o6, o7], [], μ) Q := wp_blk rfl e30_53 (And.intro k1 k2)
def q30_61 : List (Nat × Instr × Nat) := [(61, .aload_n 0, 1), (62, .getfield 24, 3), (65, .iload 4, 2), (67, .iaload, 1), (68, .ifCond .eq 87, 3)]
theorem e30_61 : am_dec am_M30 q30_61 = true := by decide +kernel
theorem b30_61 {d : Nat} {Q : Option Value ⊕ Nat → am_Mem → Prop} {μ : am_Mem} {r0 : Nat} {x1 x2 x3 x4 x5 : Int32} {o6 o7 : Option Value}
    (h1 : am_kd μ r0 = (1, 1))
    (h2 : ¬ am_F μ r0 4 = 15)
    (h3 : (am_kd μ (am_F μ r0 4)).1 = 2 ∨ (am_kd μ (am_F μ r0 4)).1 = 8)
    (h4 : ¬ (x4 < 0 ∨ (am_kd μ (am_F μ r0 4)).2 ≤ x4.toNatClampNeg))
    (k1 : (am_A μ (am_F μ r0 4) x4.toNatClampNeg) = 0 → Wp d 30 (155, [some (.ref r0), some (.int x1), some (.int x2), some (.int x3), some (.int x4), some (.int x5), o6, o7], [], μ) Q) (k2 : ¬ ((am_A μ (am_F μ r0 4) x4.toNatClampNeg) = 0) → Wp d 30 (71, [some (.ref r0), some (.int x1), some (.int x2), some (.int x3), some (.int x4), some (.int x5), o6, o7], [], μ) Q) :
    Wp d 30 (61, [some (.ref r0), some (.int x1), some (.int x2), some (.int x3), some (.int x4), some (.int x5), o6, o7], [], μ) Q := wp_blk rfl e30_61 (And.intro h1 (And.intro h2 (And.intro h3 (And.intro h4 (And.intro k1 k2)))))
def q30_71 : List (Nat × Instr × Nat) := [(71, .aload_n 0, 1), (72, .getfield 24, 3), (75, .iload 4, 2), (77, .iaload, 1), (78, .iconst 1, 1), (79, .isub, 1), (80, .istore 6, 2), (82, .aload_n 0, 1), (83, .getfield 9, 3), (86, .iload 6, 2), (88, .iaload, 1), (89, .iload_n 1, 1), (90, .if_icmp .ne 49, 3)]
theorem e30_71 : am_dec am_M30 q30_71 = true := by decide +kernel
theorem b30_71 {d : Nat} {Q : Option Value ⊕ Nat → am_Mem → Prop} {μ : am_Mem} {r0 : Nat} {x1 x2 x3 x4 x5 : Int32} {o6 o7 : Option Value}
    (h1 : am_kd μ r0 = (1, 1))
    (h2 : ¬ am_F μ r0 4 = 15)
    (h3 : (am_kd μ (am_F μ r0 4)).1 = 2 ∨ (am_kd μ (am_F μ r0 4)).1 = 8)
    (h4 : ¬ (x4 < 0 ∨ (am_kd μ (am_F μ r0 4)).2 ≤ x4.toNatClampNeg))
    (h5 : am_kd μ r0 = (1, 1))
    (h6 : ¬ am_F μ r0 0 = 15)
    (h7 : (am_kd μ (am_F μ r0 0)).1 = 2 ∨ (am_kd μ (am_F μ r0 0)).1 = 8)
    (h8 : ¬ (((am_A μ (am_F μ r0 4) x4.toNatClampNeg) - (Int32.ofInt 1)) < 0 ∨ (am_kd μ (am_F μ r0 0)).2 ≤ ((am_A μ (am_F μ r0 4) x4.toNatClampNeg) - (Int32.ofInt 1)).toNatClampNeg))
    (k1 : ¬ (am_A μ (am_F μ r0 0) ((am_A μ (am_F μ r0 4) x4.toNatClampNeg) - (Int32.ofInt 1)).toNatClampNeg) = x1 → Wp d 30 (139, [some (.ref r0), some (.int x1), some (.int x2), some (.int x3), some (.int x4), some (.int x5), some (.int ((am_A μ (am_F μ r0 4) x4.toNatClampNeg) - (Int32.ofInt 1))), o7], [], μ) Q) (k2 : ¬ (¬ (am_A μ (am_F μ r0 0) ((am_A μ (am_F μ r0 4) x4.toNatClampNeg) - (Int32.ofInt 1)).toNatClampNeg) = x1) → Wp d 30 (93, [some (.ref r0), some (.int x1), some (.int x2), some (.int x3), some (.int x4), some (.int x5), some (.int ((am_A μ (am_F μ r0 4) x4.toNatClampNeg) - (Int32.ofInt 1))), o7], [], μ) Q) :
    Wp d 30 (71, [some (.ref r0), some (.int x1), some (.int x2), some (.int x3), some (.int x4), some (.int x5), o6, o7], [], μ) Q := wp_blk rfl e30_71 (And.intro h1 (And.intro h2 (And.intro h3 (And.intro h4 (And.intro h5 (And.intro h6 (And.intro h7 (And.intro h8 (And.intro k1 k2)))))))))
def q30_93 : List (Nat × Instr × Nat) := [(93, .iconst 0, 1), (94, .istore 7, 2)]
theorem e30_93 : am_dec am_M30 q30_93 = true := by decide +kernel
theorem b30_93 {d : Nat} {Q : Option Value ⊕ Nat → am_Mem → Prop} {μ : am_Mem} {r0 : Nat} {x1 x2 x3 x4 x5 x6 : Int32} {o7 : Option Value}
    (k : Wp d 30 (96, [some (.ref r0), some (.int x1), some (.int x2), some (.int x3), some (.int x4), some (.int x5), some (.int x6), some (.int (Int32.ofInt 0))], [], μ) Q) :
    Wp d 30 (93, [some (.ref r0), some (.int x1), some (.int x2), some (.int x3), some (.int x4), some (.int x5), some (.int x6), o7], [], μ) Q := wp_blk rfl e30_93 k
def q30_96 : List (Nat × Instr × Nat) := [(96, .iload 7, 2), (98, .iload_n 2, 1), (99, .if_icmp .ge 31, 3)]
theorem e30_96 : am_dec am_M30 q30_96 = true := by decide +kernel
theorem b30_96 {d : Nat} {Q : Option Value ⊕ Nat → am_Mem → Prop} {μ : am_Mem} {r0 : Nat} {x1 x2 x3 x4 x5 x6 x7 : Int32}
    (k1 : x2 ≤ x7 → Wp d 30 (130, [some (.ref r0), some (.int x1), some (.int x2), some (.int x3), some (.int x4), some (.int x5), some (.int x6), some (.int x7)], [], μ) Q) (k2 : ¬ (x2 ≤ x7) → Wp d 30 (102, [some (.ref r0), some (.int x1), some (.int x2), some (.int x3), some (.int x4), some (.int x5), some (.int x6), some (.int x7)], [], μ) Q) :
    Wp d 30 (96, [some (.ref r0), some (.int x1), some (.int x2), some (.int x3), some (.int x4), some (.int x5), some (.int x6), some (.int x7)], [], μ) Q := wp_blk rfl e30_96 (And.intro k1 k2)
def q30_102 : List (Nat × Instr × Nat) := [(102, .aload_n 0, 1), (103, .getfield 15, 3), (106, .iconst 4, 1), (107, .iload 6, 2), (109, .imul, 1), (110, .iload 7, 2), (112, .iadd, 1), (113, .iaload, 1), (114, .aload_n 0, 1), (115, .getfield 37, 3), (118, .iload 7, 2), (120, .iaload, 1), (121, .if_icmp .ne 9, 3)]
theorem e30_102 : am_dec am_M30 q30_102 = true := by decide +kernel
theorem b30_102 {d : Nat} {Q : Option Value ⊕ Nat → am_Mem → Prop} {μ : am_Mem} {r0 : Nat} {x1 x2 x3 x4 x5 x6 x7 : Int32}
    (h1 : am_kd μ r0 = (1, 1))
    (h2 : ¬ am_F μ r0 1 = 15)
    (h3 : (am_kd μ (am_F μ r0 1)).1 = 2 ∨ (am_kd μ (am_F μ r0 1)).1 = 8)
    (h4 : ¬ ((((Int32.ofInt 4) * x6) + x7) < 0 ∨ (am_kd μ (am_F μ r0 1)).2 ≤ (((Int32.ofInt 4) * x6) + x7).toNatClampNeg))
    (h5 : am_kd μ r0 = (1, 1))
    (h6 : ¬ am_F μ r0 8 = 15)
    (h7 : (am_kd μ (am_F μ r0 8)).1 = 2 ∨ (am_kd μ (am_F μ r0 8)).1 = 8)
    (h8 : ¬ (x7 < 0 ∨ (am_kd μ (am_F μ r0 8)).2 ≤ x7.toNatClampNeg))
    (k1 : ¬ (am_A μ (am_F μ r0 1) (((Int32.ofInt 4) * x6) + x7).toNatClampNeg) = (am_A μ (am_F μ r0 8) x7.toNatClampNeg) → Wp d 30 (130, [some (.ref r0), some (.int x1), some (.int x2), some (.int x3), some (.int x4), some (.int x5), some (.int x6), some (.int x7)], [], μ) Q) (k2 : ¬ (¬ (am_A μ (am_F μ r0 1) (((Int32.ofInt 4) * x6) + x7).toNatClampNeg) = (am_A μ (am_F μ r0 8) x7.toNatClampNeg)) → Wp d 30 (124, [some (.ref r0), some (.int x1), some (.int x2), some (.int x3), some (.int x4), some (.int x5), some (.int x6), some (.int x7)], [], μ) Q) :
    Wp d 30 (102, [some (.ref r0), some (.int x1), some (.int x2), some (.int x3), some (.int x4), some (.int x5), some (.int x6), some (.int x7)], [], μ) Q := wp_blk rfl e30_102 (And.intro h1 (And.intro h2 (And.intro h3 (And.intro h4 (And.intro h5 (And.intro h6 (And.intro h7 (And.intro h8 (And.intro k1 k2)))))))))
def q30_124 : List (Nat × Instr × Nat) := [(124, .iinc 7 1, 3), (127, .goto (-31), 3)]
theorem e30_124 : am_dec am_M30 q30_124 = true := by decide +kernel
theorem b30_124 {d : Nat} {Q : Option Value ⊕ Nat → am_Mem → Prop} {μ : am_Mem} {r0 : Nat} {x1 x2 x3 x4 x5 x6 x7 : Int32}
    (k : Wp d 30 (96, [some (.ref r0), some (.int x1), some (.int x2), some (.int x3), some (.int x4), some (.int x5), some (.int x6), some (.int (x7 + Int32.ofInt 1))], [], μ) Q) :
    Wp d 30 (124, [some (.ref r0), some (.int x1), some (.int x2), some (.int x3), some (.int x4), some (.int x5), some (.int x6), some (.int x7)], [], μ) Q := wp_blk rfl e30_124 k
def q30_130 : List (Nat × Instr × Nat) := [(130, .iload 7, 2), (132, .iload_n 2, 1), (133, .if_icmp .ne 6, 3)]
theorem e30_130 : am_dec am_M30 q30_130 = true := by decide +kernel
theorem b30_130 {d : Nat} {Q : Option Value ⊕ Nat → am_Mem → Prop} {μ : am_Mem} {r0 : Nat} {x1 x2 x3 x4 x5 x6 x7 : Int32}
    (k1 : ¬ x7 = x2 → Wp d 30 (139, [some (.ref r0), some (.int x1), some (.int x2), some (.int x3), some (.int x4), some (.int x5), some (.int x6), some (.int x7)], [], μ) Q) (k2 : ¬ (¬ x7 = x2) → Wp d 30 (136, [some (.ref r0), some (.int x1), some (.int x2), some (.int x3), some (.int x4), some (.int x5), some (.int x6), some (.int x7)], [], μ) Q) :
    Wp d 30 (130, [some (.ref r0), some (.int x1), some (.int x2), some (.int x3), some (.int x4), some (.int x5), some (.int x6), some (.int x7)], [], μ) Q := wp_blk rfl e30_130 (And.intro k1 k2)
def q30_136 : List (Nat × Instr × Nat) := [(136, .iload 4, 2)]
theorem e30_136 : am_dec am_M30 q30_136 = true := by decide +kernel
theorem e30_136_r : am_dec am_M30 [(138, .ireturn, 1)] = true := by decide +kernel
theorem b30_136 {d : Nat} {Q : Option Value ⊕ Nat → am_Mem → Prop} {μ : am_Mem} {r0 : Nat} {x1 x2 x3 x4 x5 x6 x7 : Int32}
    (k : Q (.inl (some (.int x4))) μ) :
    Wp d 30 (136, [some (.ref r0), some (.int x1), some (.int x2), some (.int x3), some (.int x4), some (.int x5), some (.int x6), some (.int x7)], [], μ) Q := wp_blk rfl e30_136 (wp_ri (ty := .int) rfl e30_136_r rfl ⟨rfl, rfl⟩ k)
def q30_139 : List (Nat × Instr × Nat) := [(139, .iload 4, 2), (141, .iconst 1, 1), (142, .iadd, 1), (143, .sipush 4095, 3), (146, .iand, 1), (147, .istore 4, 2), (149, .iinc 5 1, 3), (152, .goto (-99), 3)]
theorem e30_139 : am_dec am_M30 q30_139 = true := by decide +kernel
theorem b30_139 {d : Nat} {Q : Option Value ⊕ Nat → am_Mem → Prop} {μ : am_Mem} {r0 : Nat} {x1 x2 x3 x4 x5 x6 : Int32} {o7 : Option Value}
    (k : Wp d 30 (53, [some (.ref r0), some (.int x1), some (.int x2), some (.int x3), some (.int ((x4 + (Int32.ofInt 1)) &&& ((Int16.ofInt 4095).toInt32))), some (.int (x5 + Int32.ofInt 1)), some (.int x6), o7], [], μ) Q) :
    Wp d 30 (139, [some (.ref r0), some (.int x1), some (.int x2), some (.int x3), some (.int x4), some (.int x5), some (.int x6), o7], [], μ) Q := wp_blk rfl e30_139 k
def q30_155 : List (Nat × Instr × Nat) := [(155, .iload 4, 2)]
theorem e30_155 : am_dec am_M30 q30_155 = true := by decide +kernel
theorem e30_155_r : am_dec am_M30 [(157, .ireturn, 1)] = true := by decide +kernel
theorem b30_155 {d : Nat} {Q : Option Value ⊕ Nat → am_Mem → Prop} {μ : am_Mem} {r0 : Nat} {x1 x2 x3 x4 x5 : Int32} {o6 o7 : Option Value}
    (k : Q (.inl (some (.int x4))) μ) :
    Wp d 30 (155, [some (.ref r0), some (.int x1), some (.int x2), some (.int x3), some (.int x4), some (.int x5), o6, o7], [], μ) Q := wp_blk rfl e30_155 (wp_ri (ty := .int) rfl e30_155_r rfl ⟨rfl, rfl⟩ k)
/-! RuleSheets$Facts.add(II)V -/
def q31_0 : List (Nat × Instr × Nat) := [(0, .aload_n 0, 1), (1, .iload_n 1, 1), (2, .iload_n 2, 1)]
theorem e31_0 : am_dec am_M31 q31_0 = true := by decide +kernel
theorem e31_0_c : am_dc1 am_M31 3 (.invokevirtual 42) 3 = true := by decide +kernel
theorem b31_0 {d : Nat} {Q : Option Value ⊕ Nat → am_Mem → Prop} {μ : am_Mem} {r0 : Nat} {x1 x2 : Int32} {P : Int32 → am_Mem → Prop} {X : Nat → am_Mem → Prop}
    (hk : am_kd μ r0 = (1, 1))
    (hc : Wp d 30 (0, [some (.ref r0), some (.int x1), some (.int x2), none, none, none, none, none], [], μ) (pI P X)) (hr : ∀ x μ', P x μ' → Wp (d + 1) 31 (6, [some (.ref r0), some (.int x1), some (.int x2), none, none], [.int x], (μ')) Q)
    (hx : ∀ x μ', X x μ' → Q (.inr x) μ') :
    Wp (d + 1) 31 (0, [some (.ref r0), some (.int x1), some (.int x2), none, none], [], μ) Q := wp_blk rfl e31_0 (wp_cv (as := [.int x1, .int x2]) rfl e31_0_c rfl rfl rfl rfl rfl hk hc (fun v μ' hv => by obtain ⟨x, rfl, hp⟩ := pI_r hv; exact hr x μ' hp) hx)
def q31_6 : List (Nat × Instr × Nat) := [(6, .istore_n 3, 1), (7, .aload_n 0, 1), (8, .getfield 24, 3), (11, .iload_n 3, 1), (12, .iaload, 1), (13, .ifCond .eq 4, 3)]
theorem e31_6 : am_dec am_M31 q31_6 = true := by decide +kernel
theorem b31_6 {d : Nat} {Q : Option Value ⊕ Nat → am_Mem → Prop} {μ : am_Mem} {r0 : Nat} {x1 x2 s0 : Int32}
    (h1 : am_kd μ r0 = (1, 1))
    (h2 : ¬ am_F μ r0 4 = 15)
    (h3 : (am_kd μ (am_F μ r0 4)).1 = 2 ∨ (am_kd μ (am_F μ r0 4)).1 = 8)
    (h4 : ¬ (s0 < 0 ∨ (am_kd μ (am_F μ r0 4)).2 ≤ s0.toNatClampNeg))
    (k1 : (am_A μ (am_F μ r0 4) s0.toNatClampNeg) = 0 → Wp d 31 (17, [some (.ref r0), some (.int x1), some (.int x2), some (.int s0), none], [], μ) Q) (k2 : ¬ ((am_A μ (am_F μ r0 4) s0.toNatClampNeg) = 0) → Wp d 31 (16, [some (.ref r0), some (.int x1), some (.int x2), some (.int s0), none], [], μ) Q) :
    Wp d 31 (6, [some (.ref r0), some (.int x1), some (.int x2), none, none], [.int s0], μ) Q := wp_blk rfl e31_6 (And.intro h1 (And.intro h2 (And.intro h3 (And.intro h4 (And.intro k1 k2)))))
theorem e31_16_r : am_dec am_M31 [(16, .return_, 1)] = true := by decide +kernel
theorem b31_16 {d : Nat} {Q : Option Value ⊕ Nat → am_Mem → Prop} {μ : am_Mem} {r0 : Nat} {x1 x2 x3 : Int32}
    (k : Q (.inl none) μ) :
    Wp d 31 (16, [some (.ref r0), some (.int x1), some (.int x2), some (.int x3), none], [], μ) Q := (wp_rv rfl e31_16_r rfl k)
def q31_17 : List (Nat × Instr × Nat) := [(17, .aload_n 0, 1), (18, .getfield 33, 3), (21, .sipush 1000, 3), (24, .if_icmp .lt 13, 3)]
theorem e31_17 : am_dec am_M31 q31_17 = true := by decide +kernel
theorem b31_17 {d : Nat} {Q : Option Value ⊕ Nat → am_Mem → Prop} {μ : am_Mem} {r0 : Nat} {x1 x2 x3 : Int32}
    (h1 : am_kd μ r0 = (1, 1))
    (k1 : (am_A μ r0 7) < ((Int16.ofInt 1000).toInt32) → Wp d 31 (37, [some (.ref r0), some (.int x1), some (.int x2), some (.int x3), none], [], μ) Q) (k2 : ¬ ((am_A μ r0 7) < ((Int16.ofInt 1000).toInt32)) → Wp d 31 (27, [some (.ref r0), some (.int x1), some (.int x2), some (.int x3), none], [], μ) Q) :
    Wp d 31 (17, [some (.ref r0), some (.int x1), some (.int x2), some (.int x3), none], [], μ) Q := wp_blk rfl e31_17 (And.intro h1 (And.intro k1 k2))
theorem e31_27_t : am_dc1 am_M31 27 (.new 46) 3 = true ∧ am_throw GG 1 31 27 (.new 46) = some 3 := by decide +kernel
theorem b31_27 {d : Nat} {Q : Option Value ⊕ Nat → am_Mem → Prop} {μ : am_Mem} {r0 : Nat} {x1 x2 x3 : Int32}
    (k : Q (.inr 3) (am_nX μ)) :
    Wp d 31 (27, [some (.ref r0), some (.int x1), some (.int x2), some (.int x3), none], [], μ) Q := (wp_throw rfl e31_27_t.1 ⟨_, rfl⟩ rfl e31_27_t.2 rfl k)
def q31_37 : List (Nat × Instr × Nat) := [(37, .aload_n 0, 1), (38, .getfield 9, 3), (41, .aload_n 0, 1), (42, .getfield 33, 3), (45, .iload_n 1, 1), (46, .iastore, 1), (47, .iconst 0, 1), (48, .istore 4, 2)]
theorem e31_37 : am_dec am_M31 q31_37 = true := by decide +kernel
theorem b31_37 {d : Nat} {Q : Option Value ⊕ Nat → am_Mem → Prop} {μ : am_Mem} {r0 : Nat} {x1 x2 x3 : Int32}
    (h1 : am_kd μ r0 = (1, 1))
    (h2 : ¬ am_F μ r0 0 = 15)
    (h3 : am_kd μ r0 = (1, 1))
    (h4 : (am_kd μ (am_F μ r0 0)).1 = 2)
    (h5 : ¬ ((am_A μ r0 7) < 0 ∨ (am_kd μ (am_F μ r0 0)).2 ≤ (am_A μ r0 7).toNatClampNeg))
    (k : Wp d 31 (50, [some (.ref r0), some (.int x1), some (.int x2), some (.int x3), some (.int (Int32.ofInt 0))], [], (am_pA μ (am_F μ r0 0) (am_A μ r0 7).toNatClampNeg x1)) Q) :
    Wp d 31 (37, [some (.ref r0), some (.int x1), some (.int x2), some (.int x3), none], [], μ) Q := wp_blk rfl e31_37 (And.intro h1 (And.intro h2 (And.intro h3 (And.intro h4 (And.intro h5 k)))))
def q31_50 : List (Nat × Instr × Nat) := [(50, .iload 4, 2), (52, .iload_n 2, 1), (53, .if_icmp .ge 30, 3)]
theorem e31_50 : am_dec am_M31 q31_50 = true := by decide +kernel
theorem b31_50 {d : Nat} {Q : Option Value ⊕ Nat → am_Mem → Prop} {μ : am_Mem} {r0 : Nat} {x1 x2 x3 x4 : Int32}
    (k1 : x2 ≤ x4 → Wp d 31 (83, [some (.ref r0), some (.int x1), some (.int x2), some (.int x3), some (.int x4)], [], μ) Q) (k2 : ¬ (x2 ≤ x4) → Wp d 31 (56, [some (.ref r0), some (.int x1), some (.int x2), some (.int x3), some (.int x4)], [], μ) Q) :
    Wp d 31 (50, [some (.ref r0), some (.int x1), some (.int x2), some (.int x3), some (.int x4)], [], μ) Q := wp_blk rfl e31_50 (And.intro k1 k2)
def q31_56 : List (Nat × Instr × Nat) := [(56, .aload_n 0, 1), (57, .getfield 15, 3), (60, .iconst 4, 1), (61, .aload_n 0, 1), (62, .getfield 33, 3), (65, .imul, 1), (66, .iload 4, 2), (68, .iadd, 1), (69, .aload_n 0, 1), (70, .getfield 37, 3), (73, .iload 4, 2), (75, .iaload, 1), (76, .iastore, 1), (77, .iinc 4 1, 3), (80, .goto (-30), 3)]
theorem e31_56 : am_dec am_M31 q31_56 = true := by decide +kernel
theorem b31_56 {d : Nat} {Q : Option Value ⊕ Nat → am_Mem → Prop} {μ : am_Mem} {r0 : Nat} {x1 x2 x3 x4 : Int32}
    (h1 : am_kd μ r0 = (1, 1))
    (h2 : ¬ am_F μ r0 1 = 15)
    (h3 : am_kd μ r0 = (1, 1))
    (h4 : am_kd μ r0 = (1, 1))
    (h5 : ¬ am_F μ r0 8 = 15)
    (h6 : (am_kd μ (am_F μ r0 8)).1 = 2 ∨ (am_kd μ (am_F μ r0 8)).1 = 8)
    (h7 : ¬ (x4 < 0 ∨ (am_kd μ (am_F μ r0 8)).2 ≤ x4.toNatClampNeg))
    (h8 : (am_kd μ (am_F μ r0 1)).1 = 2)
    (h9 : ¬ ((((Int32.ofInt 4) * (am_A μ r0 7)) + x4) < 0 ∨ (am_kd μ (am_F μ r0 1)).2 ≤ (((Int32.ofInt 4) * (am_A μ r0 7)) + x4).toNatClampNeg))
    (k : Wp d 31 (50, [some (.ref r0), some (.int x1), some (.int x2), some (.int x3), some (.int (x4 + Int32.ofInt 1))], [], (am_pA μ (am_F μ r0 1) (((Int32.ofInt 4) * (am_A μ r0 7)) + x4).toNatClampNeg (am_A μ (am_F μ r0 8) x4.toNatClampNeg))) Q) :
    Wp d 31 (56, [some (.ref r0), some (.int x1), some (.int x2), some (.int x3), some (.int x4)], [], μ) Q := wp_blk rfl e31_56 (And.intro h1 (And.intro h2 (And.intro h3 (And.intro h4 (And.intro h5 (And.intro h6 (And.intro h7 (And.intro h8 (And.intro h9 k)))))))))
def q31_83 : List (Nat × Instr × Nat) := [(83, .aload_n 0, 1), (84, .getfield 18, 3), (87, .aload_n 0, 1), (88, .getfield 33, 3), (91, .aload_n 0, 1), (92, .getfield 30, 3), (95, .iload_n 1, 1), (96, .iaload, 1), (97, .ifCond .ne 7, 3)]
theorem e31_83 : am_dec am_M31 q31_83 = true := by decide +kernel
theorem b31_83 {d : Nat} {Q : Option Value ⊕ Nat → am_Mem → Prop} {μ : am_Mem} {r0 : Nat} {x1 x2 x3 x4 : Int32}
    (h1 : am_kd μ r0 = (1, 1))
    (h2 : ¬ am_F μ r0 2 = 15)
    (h3 : am_kd μ r0 = (1, 1))
    (h4 : am_kd μ r0 = (1, 1))
    (h5 : ¬ am_F μ r0 6 = 15)
    (h6 : (am_kd μ (am_F μ r0 6)).1 = 2 ∨ (am_kd μ (am_F μ r0 6)).1 = 8)
    (h7 : ¬ (x1 < 0 ∨ (am_kd μ (am_F μ r0 6)).2 ≤ x1.toNatClampNeg))
    (k1 : ¬ (am_A μ (am_F μ r0 6) x1.toNatClampNeg) = 0 → Wp d 31 (104, [some (.ref r0), some (.int x1), some (.int x2), some (.int x3), some (.int x4)], [.int (am_A μ r0 7), .ref (am_F μ r0 2)], μ) Q) (k2 : ¬ (¬ (am_A μ (am_F μ r0 6) x1.toNatClampNeg) = 0) → Wp d 31 (100, [some (.ref r0), some (.int x1), some (.int x2), some (.int x3), some (.int x4)], [.int (am_A μ r0 7), .ref (am_F μ r0 2)], μ) Q) :
    Wp d 31 (83, [some (.ref r0), some (.int x1), some (.int x2), some (.int x3), some (.int x4)], [], μ) Q := wp_blk rfl e31_83 (And.intro h1 (And.intro h2 (And.intro h3 (And.intro h4 (And.intro h5 (And.intro h6 (And.intro h7 (And.intro k1 k2))))))))
def q31_100 : List (Nat × Instr × Nat) := [(100, .iconst (-1), 1), (101, .goto 9, 3)]
theorem e31_100 : am_dec am_M31 q31_100 = true := by decide +kernel
theorem b31_100 {d : Nat} {Q : Option Value ⊕ Nat → am_Mem → Prop} {μ : am_Mem} {r0 r90 : Nat} {x1 x2 x3 x4 s1 : Int32}
    (k : Wp d 31 (110, [some (.ref r0), some (.int x1), some (.int x2), some (.int x3), some (.int x4)], [.int (Int32.ofInt (-1)), .int s1, .ref r90], μ) Q) :
    Wp d 31 (100, [some (.ref r0), some (.int x1), some (.int x2), some (.int x3), some (.int x4)], [.int s1, .ref r90], μ) Q := wp_blk rfl e31_100 k
def q31_104 : List (Nat × Instr × Nat) := [(104, .aload_n 0, 1), (105, .getfield 27, 3), (108, .iload_n 1, 1), (109, .iaload, 1)]
theorem e31_104 : am_dec am_M31 q31_104 = true := by decide +kernel
theorem b31_104 {d : Nat} {Q : Option Value ⊕ Nat → am_Mem → Prop} {μ : am_Mem} {r0 r90 : Nat} {x1 x2 x3 x4 s1 : Int32}
    (h1 : am_kd μ r0 = (1, 1))
    (h2 : ¬ am_F μ r0 5 = 15)
    (h3 : (am_kd μ (am_F μ r0 5)).1 = 2 ∨ (am_kd μ (am_F μ r0 5)).1 = 8)
    (h4 : ¬ (x1 < 0 ∨ (am_kd μ (am_F μ r0 5)).2 ≤ x1.toNatClampNeg))
    (k : Wp d 31 (110, [some (.ref r0), some (.int x1), some (.int x2), some (.int x3), some (.int x4)], [.int (am_A μ (am_F μ r0 5) x1.toNatClampNeg), .int s1, .ref r90], μ) Q) :
    Wp d 31 (104, [some (.ref r0), some (.int x1), some (.int x2), some (.int x3), some (.int x4)], [.int s1, .ref r90], μ) Q := wp_blk rfl e31_104 (And.intro h1 (And.intro h2 (And.intro h3 (And.intro h4 k))))
def q31_110 : List (Nat × Instr × Nat) := [(110, .iastore, 1), (111, .aload_n 0, 1), (112, .getfield 27, 3), (115, .iload_n 1, 1), (116, .aload_n 0, 1), (117, .getfield 33, 3), (120, .iastore, 1)]
theorem e31_110 : am_dec am_M31 q31_110 = true := by decide +kernel
theorem b31_110 {d : Nat} {Q : Option Value ⊕ Nat → am_Mem → Prop} {μ : am_Mem} {r0 r90 : Nat} {x1 x2 x3 x4 s1 s2 : Int32}
    (h1 : (am_kd μ r90).1 = 2)
    (h2 : ¬ (s1 < 0 ∨ (am_kd μ r90).2 ≤ s1.toNatClampNeg))
    (h3 : am_kd (am_pA μ r90 s1.toNatClampNeg s2) r0 = (1, 1))
    (h4 : ¬ am_F (am_pA μ r90 s1.toNatClampNeg s2) r0 5 = 15)
    (h5 : am_kd (am_pA μ r90 s1.toNatClampNeg s2) r0 = (1, 1))
    (h6 : (am_kd (am_pA μ r90 s1.toNatClampNeg s2) (am_F (am_pA μ r90 s1.toNatClampNeg s2) r0 5)).1 = 2)
    (h7 : ¬ (x1 < 0 ∨ (am_kd (am_pA μ r90 s1.toNatClampNeg s2) (am_F (am_pA μ r90 s1.toNatClampNeg s2) r0 5)).2 ≤ x1.toNatClampNeg))
    (k : Wp d 31 (121, [some (.ref r0), some (.int x1), some (.int x2), some (.int x3), some (.int x4)], [], (am_pA (am_pA μ r90 s1.toNatClampNeg s2) (am_F (am_pA μ r90 s1.toNatClampNeg s2) r0 5) x1.toNatClampNeg (am_A (am_pA μ r90 s1.toNatClampNeg s2) r0 7))) Q) :
    Wp d 31 (110, [some (.ref r0), some (.int x1), some (.int x2), some (.int x3), some (.int x4)], [.int s2, .int s1, .ref r90], μ) Q := wp_blk rfl e31_110 (And.intro h1 (And.intro h2 (And.intro h3 (And.intro h4 (And.intro h5 (And.intro h6 (And.intro h7 k)))))))
def q31_121 : List (Nat × Instr × Nat) := [(121, .aload_n 0, 1), (122, .getfield 30, 3), (125, .iload_n 1, 1), (126, .dup2, 1), (127, .iaload, 1), (128, .iconst 1, 1), (129, .iadd, 1), (130, .iastore, 1), (131, .aload_n 0, 1), (132, .getfield 21, 3), (135, .aload_n 0, 1), (136, .getfield 33, 3), (139, .iload_n 3, 1), (140, .iastore, 1)]
theorem e31_121 : am_dec am_M31 q31_121 = true := by decide +kernel
theorem b31_121 {d : Nat} {Q : Option Value ⊕ Nat → am_Mem → Prop} {μ : am_Mem} {r0 : Nat} {x1 x2 x3 x4 : Int32}
    (h1 : am_kd μ r0 = (1, 1))
    (h2 : ¬ am_F μ r0 6 = 15)
    (h3 : (am_kd μ (am_F μ r0 6)).1 = 2 ∨ (am_kd μ (am_F μ r0 6)).1 = 8)
    (h4 : ¬ (x1 < 0 ∨ (am_kd μ (am_F μ r0 6)).2 ≤ x1.toNatClampNeg))
    (h5 : (am_kd μ (am_F μ r0 6)).1 = 2)
    (h6 : ¬ (x1 < 0 ∨ (am_kd μ (am_F μ r0 6)).2 ≤ x1.toNatClampNeg))
    (h7 : am_kd (am_pA μ (am_F μ r0 6) x1.toNatClampNeg ((am_A μ (am_F μ r0 6) x1.toNatClampNeg) + (Int32.ofInt 1))) r0 = (1, 1))
    (h8 : ¬ am_F (am_pA μ (am_F μ r0 6) x1.toNatClampNeg ((am_A μ (am_F μ r0 6) x1.toNatClampNeg) + (Int32.ofInt 1))) r0 3 = 15)
    (h9 : am_kd (am_pA μ (am_F μ r0 6) x1.toNatClampNeg ((am_A μ (am_F μ r0 6) x1.toNatClampNeg) + (Int32.ofInt 1))) r0 = (1, 1))
    (h10 : (am_kd (am_pA μ (am_F μ r0 6) x1.toNatClampNeg ((am_A μ (am_F μ r0 6) x1.toNatClampNeg) + (Int32.ofInt 1))) (am_F (am_pA μ (am_F μ r0 6) x1.toNatClampNeg ((am_A μ (am_F μ r0 6) x1.toNatClampNeg) + (Int32.ofInt 1))) r0 3)).1 = 2)
    (h11 : ¬ ((am_A (am_pA μ (am_F μ r0 6) x1.toNatClampNeg ((am_A μ (am_F μ r0 6) x1.toNatClampNeg) + (Int32.ofInt 1))) r0 7) < 0 ∨ (am_kd (am_pA μ (am_F μ r0 6) x1.toNatClampNeg ((am_A μ (am_F μ r0 6) x1.toNatClampNeg) + (Int32.ofInt 1))) (am_F (am_pA μ (am_F μ r0 6) x1.toNatClampNeg ((am_A μ (am_F μ r0 6) x1.toNatClampNeg) + (Int32.ofInt 1))) r0 3)).2 ≤ (am_A (am_pA μ (am_F μ r0 6) x1.toNatClampNeg ((am_A μ (am_F μ r0 6) x1.toNatClampNeg) + (Int32.ofInt 1))) r0 7).toNatClampNeg))
    (k : Wp d 31 (141, [some (.ref r0), some (.int x1), some (.int x2), some (.int x3), some (.int x4)], [], (am_pA (am_pA μ (am_F μ r0 6) x1.toNatClampNeg ((am_A μ (am_F μ r0 6) x1.toNatClampNeg) + (Int32.ofInt 1))) (am_F (am_pA μ (am_F μ r0 6) x1.toNatClampNeg ((am_A μ (am_F μ r0 6) x1.toNatClampNeg) + (Int32.ofInt 1))) r0 3) (am_A (am_pA μ (am_F μ r0 6) x1.toNatClampNeg ((am_A μ (am_F μ r0 6) x1.toNatClampNeg) + (Int32.ofInt 1))) r0 7).toNatClampNeg x3)) Q) :
    Wp d 31 (121, [some (.ref r0), some (.int x1), some (.int x2), some (.int x3), some (.int x4)], [], μ) Q := wp_blk rfl e31_121 (And.intro h1 (And.intro h2 (And.intro h3 (And.intro h4 (And.intro h5 (And.intro h6 (And.intro h7 (And.intro h8 (And.intro h9 (And.intro h10 (And.intro h11 k)))))))))))
def q31_141 : List (Nat × Instr × Nat) := [(141, .aload_n 0, 1), (142, .dup, 1), (143, .getfield 33, 3), (146, .iconst 1, 1), (147, .iadd, 1), (148, .putfield 33, 3), (151, .aload_n 0, 1), (152, .getfield 24, 3), (155, .iload_n 3, 1), (156, .aload_n 0, 1), (157, .getfield 33, 3), (160, .iastore, 1)]
theorem e31_141 : am_dec am_M31 q31_141 = true := by decide +kernel
theorem b31_141 {d : Nat} {Q : Option Value ⊕ Nat → am_Mem → Prop} {μ : am_Mem} {r0 : Nat} {x1 x2 x3 x4 : Int32}
    (h1 : am_kd μ r0 = (1, 1))
    (h2 : am_kd μ r0 = (1, 1))
    (h3 : am_kd (am_pA μ r0 7 ((am_A μ r0 7) + (Int32.ofInt 1))) r0 = (1, 1))
    (h4 : ¬ am_F (am_pA μ r0 7 ((am_A μ r0 7) + (Int32.ofInt 1))) r0 4 = 15)
    (h5 : am_kd (am_pA μ r0 7 ((am_A μ r0 7) + (Int32.ofInt 1))) r0 = (1, 1))
    (h6 : (am_kd (am_pA μ r0 7 ((am_A μ r0 7) + (Int32.ofInt 1))) (am_F (am_pA μ r0 7 ((am_A μ r0 7) + (Int32.ofInt 1))) r0 4)).1 = 2)
    (h7 : ¬ (x3 < 0 ∨ (am_kd (am_pA μ r0 7 ((am_A μ r0 7) + (Int32.ofInt 1))) (am_F (am_pA μ r0 7 ((am_A μ r0 7) + (Int32.ofInt 1))) r0 4)).2 ≤ x3.toNatClampNeg))
    (k : Wp d 31 (161, [some (.ref r0), some (.int x1), some (.int x2), some (.int x3), some (.int x4)], [], (am_pA (am_pA μ r0 7 ((am_A μ r0 7) + (Int32.ofInt 1))) (am_F (am_pA μ r0 7 ((am_A μ r0 7) + (Int32.ofInt 1))) r0 4) x3.toNatClampNeg (am_A (am_pA μ r0 7 ((am_A μ r0 7) + (Int32.ofInt 1))) r0 7))) Q) :
    Wp d 31 (141, [some (.ref r0), some (.int x1), some (.int x2), some (.int x3), some (.int x4)], [], μ) Q := wp_blk rfl e31_141 (And.intro h1 (And.intro h2 (And.intro ⟨rfl, rfl⟩ (And.intro h3 (And.intro h4 (And.intro h5 (And.intro h6 (And.intro h7 k))))))))
theorem e31_161_r : am_dec am_M31 [(161, .return_, 1)] = true := by decide +kernel
theorem b31_161 {d : Nat} {Q : Option Value ⊕ Nat → am_Mem → Prop} {μ : am_Mem} {r0 : Nat} {x1 x2 x3 x4 : Int32}
    (k : Q (.inl none) μ) :
    Wp d 31 (161, [some (.ref r0), some (.int x1), some (.int x2), some (.int x3), some (.int x4)], [], μ) Q := (wp_rv rfl e31_161_r rfl k)
