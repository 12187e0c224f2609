/-! ===== printed: the blocks of View ===== -/
/-! RuleSheets$View.<init>()V -/
def q109_0 : List (Nat × Instr × Nat) := [(0, .aload_n 0, 1), (1, .invokespecial 3, 3), (4, .aload_n 0, 1), (5, .sipush 1000, 3), (8, .newarray .int, 2), (10, .putfield 9, 3)]
theorem e109_0 : am_dec am_M109 q109_0 = true := by decide +kernel
theorem b109_0 {d : Nat} {Q : Option Value ⊕ Nat → am_Mem → Prop} {μ : am_Mem} {r0 : Nat}
    (h1 : am_kd (am_nA μ 2 ((Int16.ofInt 1000).toInt32).toNatClampNeg) r0 = (1, 10))
    (h2 : ¬ (am_n μ) = 15)
    (k : Wp d 109 (13, [some (.ref r0)], [], (am_pR (am_nA μ 2 ((Int16.ofInt 1000).toInt32).toNatClampNeg) r0 0 (am_n μ))) Q) :
    Wp d 109 (0, [some (.ref r0)], [], μ) Q := wp_blk rfl e109_0 (And.intro (by decide) (And.intro h1 (And.intro h2 k)))
def q109_13 : List (Nat × Instr × Nat) := [(13, .aload_n 0, 1), (14, .iconst 5, 1), (15, .newarray .int, 2), (17, .putfield 15, 3)]
theorem e109_13 : am_dec am_M109 q109_13 = true := by decide +kernel
theorem b109_13 {d : Nat} {Q : Option Value ⊕ Nat → am_Mem → Prop} {μ : am_Mem} {r0 : Nat}
    (h1 : am_kd (am_nA μ 2 (Int32.ofInt 5).toNatClampNeg) r0 = (1, 10))
    (h2 : ¬ (am_n μ) = 15)
    (k : Wp d 109 (20, [some (.ref r0)], [], (am_pR (am_nA μ 2 (Int32.ofInt 5).toNatClampNeg) r0 1 (am_n μ))) Q) :
    Wp d 109 (13, [some (.ref r0)], [], μ) Q := wp_blk rfl e109_13 (And.intro (by decide) (And.intro h1 (And.intro h2 k)))
def q109_20 : List (Nat × Instr × Nat) := [(20, .aload_n 0, 1), (21, .iconst 4, 1), (22, .newarray .int, 2), (24, .putfield 18, 3)]
theorem e109_20 : am_dec am_M109 q109_20 = true := by decide +kernel
theorem b109_20 {d : Nat} {Q : Option Value ⊕ Nat → am_Mem → Prop} {μ : am_Mem} {r0 : Nat}
    (h1 : am_kd (am_nA μ 2 (Int32.ofInt 4).toNatClampNeg) r0 = (1, 10))
    (h2 : ¬ (am_n μ) = 15)
    (k : Wp d 109 (27, [some (.ref r0)], [], (am_pR (am_nA μ 2 (Int32.ofInt 4).toNatClampNeg) r0 2 (am_n μ))) Q) :
    Wp d 109 (20, [some (.ref r0)], [], μ) Q := wp_blk rfl e109_20 (And.intro (by decide) (And.intro h1 (And.intro h2 k)))
def q109_27 : List (Nat × Instr × Nat) := [(27, .aload_n 0, 1), (28, .iconst 0, 1), (29, .putfield 21, 3), (32, .aload_n 0, 1), (33, .iconst 0, 1), (34, .putfield 25, 3), (37, .aload_n 0, 1), (38, .iconst 4, 1), (39, .newarray .int, 2)]
theorem e109_27 : am_dec am_M109 q109_27 = true := by decide +kernel
theorem b109_27 {d : Nat} {Q : Option Value ⊕ Nat → am_Mem → Prop} {μ : am_Mem} {r0 : Nat}
    (h1 : am_kd μ r0 = (1, 10))
    (h2 : am_kd (am_pA μ r0 3 (Int32.ofInt 0)) r0 = (1, 10))
    (k : Wp d 109 (41, [some (.ref r0)], [.ref (am_n (am_pA (am_pA μ r0 3 (Int32.ofInt 0)) r0 4 (Int32.ofInt 0))), .ref r0], (am_nA (am_pA (am_pA μ r0 3 (Int32.ofInt 0)) r0 4 (Int32.ofInt 0)) 2 (Int32.ofInt 4).toNatClampNeg)) Q) :
    Wp d 109 (27, [some (.ref r0)], [], μ) Q := wp_blk rfl e109_27 (And.intro h1 (And.intro (by decide) (And.intro h2 (And.intro ⟨rfl, rfl⟩ (And.intro (by decide) k)))))
def q109_41 : List (Nat × Instr × Nat) := [(41, .putfield 29, 3)]
theorem e109_41 : am_dec am_M109 q109_41 = true := by decide +kernel
theorem e109_41_r : am_dec am_M109 [(44, .return_, 1)] = true := by decide +kernel
theorem b109_41 {d : Nat} {Q : Option Value ⊕ Nat → am_Mem → Prop} {μ : am_Mem} {r0 r90 r91 : Nat}
    (h1 : am_kd μ r90 = (1, 10))
    (h2 : ¬ r91 = 15)
    (k : Q (.inl none) (am_pR μ r90 5 r91)) :
    Wp d 109 (41, [some (.ref r0)], [.ref r91, .ref r90], μ) Q := wp_blk rfl e109_41 (And.intro h1 (And.intro h2 (wp_rv rfl e109_41_r rfl k)))
/-! RuleSheets$View.gather(LRuleSheets$Model;)V -/
def q110_0 : List (Nat × Instr × Nat) := [(0, .aload_n 0, 1), (1, .aload_n 1, 1), (2, .getfield 32, 3), (5, .putfield 25, 3), (8, .aload_n 0, 1), (9, .aload_n 1, 1), (10, .getfield 37, 3), (13, .getfield 41, 3), (16, .bipush 7, 2), (18, .iaload, 1), (19, .ifCond .le 7, 3)]
theorem e110_0 : am_dec am_M110 q110_0 = true := by decide +kernel
theorem b110_0 {d : Nat} {Q : Option Value ⊕ Nat → am_Mem → Prop} {μ : am_Mem} {r0 r1 : Nat}
    (h1 : am_kd μ r1 = (1, 2))
    (h2 : am_kd μ r0 = (1, 10))
    (h3 : am_kd (am_pA μ r0 4 (am_A μ r1 4)) r1 = (1, 2))
    (h4 : ¬ am_F (am_pA μ r0 4 (am_A μ r1 4)) r1 1 = 15)
    (h5 : am_kd (am_pA μ r0 4 (am_A μ r1 4)) (am_F (am_pA μ r0 4 (am_A μ r1 4)) r1 1) = (1, 1))
    (h6 : ¬ am_F (am_pA μ r0 4 (am_A μ r1 4)) (am_F (am_pA μ r0 4 (am_A μ r1 4)) r1 1) 6 = 15)
    (h7 : (am_kd (am_pA μ r0 4 (am_A μ r1 4)) (am_F (am_pA μ r0 4 (am_A μ r1 4)) (am_F (am_pA μ r0 4 (am_A μ r1 4)) r1 1) 6)).1 = 2 ∨ (am_kd (am_pA μ r0 4 (am_A μ r1 4)) (am_F (am_pA μ r0 4 (am_A μ r1 4)) (am_F (am_pA μ r0 4 (am_A μ r1 4)) r1 1) 6)).1 = 8)
    (h8 : ¬ (((Int8.ofInt 7).toInt32) < 0 ∨ (am_kd (am_pA μ r0 4 (am_A μ r1 4)) (am_F (am_pA μ r0 4 (am_A μ r1 4)) (am_F (am_pA μ r0 4 (am_A μ r1 4)) r1 1) 6)).2 ≤ ((Int8.ofInt 7).toInt32).toNatClampNeg))
    (k1 : (am_A (am_pA μ r0 4 (am_A μ r1 4)) (am_F (am_pA μ r0 4 (am_A μ r1 4)) (am_F (am_pA μ r0 4 (am_A μ r1 4)) r1 1) 6) ((Int8.ofInt 7).toInt32).toNatClampNeg) ≤ 0 → Wp d 110 (26, [some (.ref r0), some (.ref r1), none], [.ref r0], (am_pA μ r0 4 (am_A μ r1 4))) Q) (k2 : ¬ ((am_A (am_pA μ r0 4 (am_A μ r1 4)) (am_F (am_pA μ r0 4 (am_A μ r1 4)) (am_F (am_pA μ r0 4 (am_A μ r1 4)) r1 1) 6) ((Int8.ofInt 7).toInt32).toNatClampNeg) ≤ 0) → Wp d 110 (22, [some (.ref r0), some (.ref r1), none], [.ref r0], (am_pA μ r0 4 (am_A μ r1 4))) Q) :
    Wp d 110 (0, [some (.ref r0), some (.ref r1), none], [], μ) Q := wp_blk rfl e110_0 (And.intro h1 (And.intro h2 (And.intro ⟨rfl, rfl⟩ (And.intro h3 (And.intro h4 (And.intro h5 (And.intro h6 (And.intro h7 (And.intro h8 (And.intro k1 k2))))))))))
def q110_22 : List (Nat × Instr × Nat) := [(22, .iconst 1, 1), (23, .goto 4, 3)]
theorem e110_22 : am_dec am_M110 q110_22 = true := by decide +kernel
theorem b110_22 {d : Nat} {Q : Option Value ⊕ Nat → am_Mem → Prop} {μ : am_Mem} {r0 r1 r90 : Nat}
    (k : Wp d 110 (27, [some (.ref r0), some (.ref r1), none], [.int (Int32.ofInt 1), .ref r90], μ) Q) :
    Wp d 110 (22, [some (.ref r0), some (.ref r1), none], [.ref r90], μ) Q := wp_blk rfl e110_22 k
def q110_26 : List (Nat × Instr × Nat) := [(26, .iconst 0, 1)]
theorem e110_26 : am_dec am_M110 q110_26 = true := by decide +kernel
theorem b110_26 {d : Nat} {Q : Option Value ⊕ Nat → am_Mem → Prop} {μ : am_Mem} {r0 r1 r90 : Nat}
    (k : Wp d 110 (27, [some (.ref r0), some (.ref r1), none], [.int (Int32.ofInt 0), .ref r90], μ) Q) :
    Wp d 110 (26, [some (.ref r0), some (.ref r1), none], [.ref r90], μ) Q := wp_blk rfl e110_26 k
def q110_27 : List (Nat × Instr × Nat) := [(27, .putfield 21, 3), (30, .iconst 0, 1), (31, .istore_n 2, 1)]
theorem e110_27 : am_dec am_M110 q110_27 = true := by decide +kernel
theorem b110_27 {d : Nat} {Q : Option Value ⊕ Nat → am_Mem → Prop} {μ : am_Mem} {r0 r1 r90 : Nat} {s1 : Int32}
    (h1 : am_kd μ r90 = (1, 10))
    (h2 : narrow .boolean (.int s1) = .int s1 ∧ fits .boolean (.int s1) = true)
    (k : Wp d 110 (32, [some (.ref r0), some (.ref r1), some (.int (Int32.ofInt 0))], [], (am_pA μ r90 3 s1)) Q) :
    Wp d 110 (27, [some (.ref r0), some (.ref r1), none], [.int s1, .ref r90], μ) Q := wp_blk rfl e110_27 (And.intro h1 (And.intro h2 k))
def q110_32 : List (Nat × Instr × Nat) := [(32, .iload_n 2, 1), (33, .aload_n 0, 1), (34, .getfield 25, 3), (37, .if_icmp .ge 35, 3)]
theorem e110_32 : am_dec am_M110 q110_32 = true := by decide +kernel
theorem b110_32 {d : Nat} {Q : Option Value ⊕ Nat → am_Mem → Prop} {μ : am_Mem} {r0 r1 : Nat} {x2 : Int32}
    (h1 : am_kd μ r0 = (1, 10))
    (k1 : (am_A μ r0 4) ≤ x2 → Wp d 110 (72, [some (.ref r0), some (.ref r1), some (.int x2)], [], μ) Q) (k2 : ¬ ((am_A μ r0 4) ≤ x2) → Wp d 110 (40, [some (.ref r0), some (.ref r1), some (.int x2)], [], μ) Q) :
    Wp d 110 (32, [some (.ref r0), some (.ref r1), some (.int x2)], [], μ) Q := wp_blk rfl e110_32 (And.intro h1 (And.intro k1 k2))
def q110_40 : List (Nat × Instr × Nat) := [(40, .aload_n 0, 1), (41, .getfield 15, 3), (44, .iload_n 2, 1), (45, .iconst 1, 1), (46, .iadd, 1), (47, .aload_n 0, 1), (48, .aload_n 1, 1), (49, .iload_n 2, 1)]
theorem e110_40 : am_dec am_M110 q110_40 = true := by decide +kernel
theorem e110_40_c : am_dc1 am_M110 50 (.invokevirtual 46) 3 = true := by decide +kernel
theorem b110_40 {d : Nat} {Q : Option Value ⊕ Nat → am_Mem → Prop} {μ : am_Mem} {r0 r1 : Nat} {x2 : Int32} {P : Int32 → am_Mem → Prop} {X : Nat → am_Mem → Prop}
    (h1 : am_kd μ r0 = (1, 10))
    (h2 : ¬ am_F μ r0 1 = 15)
    (hk : am_kd μ r0 = (1, 10))
    (hc : Wp d 111 (0, [some (.ref r0), some (.ref r1), some (.int x2), none, none, none, none], [], μ) (pI P X)) (hr : ∀ x μ', P x μ' → Wp (d + 1) 110 (53, [some (.ref r0), some (.ref r1), some (.int x2)], [.int x, .int (x2 + (Int32.ofInt 1)), .ref (am_F μ r0 1)], (μ')) Q)
    (hx : ∀ x μ', X x μ' → Q (.inr x) μ') :
    Wp (d + 1) 110 (40, [some (.ref r0), some (.ref r1), some (.int x2)], [], μ) Q := wp_blk rfl e110_40 (And.intro h1 (And.intro h2 (wp_cv (as := [.ref r1, .int x2]) rfl e110_40_c rfl rfl rfl rfl rfl hk hc (fun v μ' hv => by obtain ⟨x, rfl, hp⟩ := pI_r hv; exact hr x μ' hp) hx)))
def q110_53 : List (Nat × Instr × Nat) := [(53, .iastore, 1), (54, .aload_n 0, 1), (55, .getfield 18, 3), (58, .iload_n 2, 1), (59, .aload_n 0, 1), (60, .aload_n 1, 1), (61, .iload_n 2, 1)]
theorem e110_53 : am_dec am_M110 q110_53 = true := by decide +kernel
theorem e110_53_c : am_dc1 am_M110 62 (.invokevirtual 50) 3 = true := by decide +kernel
theorem b110_53 {d : Nat} {Q : Option Value ⊕ Nat → am_Mem → Prop} {μ : am_Mem} {r0 r1 r90 : Nat} {x2 s1 s2 : Int32} {P : Int32 → am_Mem → Prop} {X : Nat → am_Mem → Prop}
    (h1 : (am_kd μ r90).1 = 2)
    (h2 : ¬ (s1 < 0 ∨ (am_kd μ r90).2 ≤ s1.toNatClampNeg))
    (h3 : am_kd (am_pA μ r90 s1.toNatClampNeg s2) r0 = (1, 10))
    (h4 : ¬ am_F (am_pA μ r90 s1.toNatClampNeg s2) r0 2 = 15)
    (hk : am_kd (am_pA μ r90 s1.toNatClampNeg s2) r0 = (1, 10))
    (hc : Wp d 112 (0, [some (.ref r0), some (.ref r1), some (.int x2), none, none, none, none, none], [], (am_pA μ r90 s1.toNatClampNeg s2)) (pI P X)) (hr : ∀ x μ', P x μ' → Wp (d + 1) 110 (65, [some (.ref r0), some (.ref r1), some (.int x2)], [.int x, .int x2, .ref (am_F (am_pA μ r90 s1.toNatClampNeg s2) r0 2)], (μ')) Q)
    (hx : ∀ x μ', X x μ' → Q (.inr x) μ') :
    Wp (d + 1) 110 (53, [some (.ref r0), some (.ref r1), some (.int x2)], [.int s2, .int s1, .ref r90], μ) Q := wp_blk rfl e110_53 (And.intro h1 (And.intro h2 (And.intro h3 (And.intro h4 (wp_cv (as := [.ref r1, .int x2]) rfl e110_53_c rfl rfl rfl rfl rfl hk hc (fun v μ' hv => by obtain ⟨x, rfl, hp⟩ := pI_r hv; exact hr x μ' hp) hx)))))
def q110_65 : List (Nat × Instr × Nat) := [(65, .iastore, 1), (66, .iinc 2 1, 3), (69, .goto (-37), 3)]
theorem e110_65 : am_dec am_M110 q110_65 = true := by decide +kernel
theorem b110_65 {d : Nat} {Q : Option Value ⊕ Nat → am_Mem → Prop} {μ : am_Mem} {r0 r1 r90 : Nat} {x2 s1 s2 : Int32}
    (h1 : (am_kd μ r90).1 = 2)
    (h2 : ¬ (s1 < 0 ∨ (am_kd μ r90).2 ≤ s1.toNatClampNeg))
    (k : Wp d 110 (32, [some (.ref r0), some (.ref r1), some (.int (x2 + Int32.ofInt 1))], [], (am_pA μ r90 s1.toNatClampNeg s2)) Q) :
    Wp d 110 (65, [some (.ref r0), some (.ref r1), some (.int x2)], [.int s2, .int s1, .ref r90], μ) Q := wp_blk rfl e110_65 (And.intro h1 (And.intro h2 k))
theorem e110_72_r : am_dec am_M110 [(72, .return_, 1)] = true := by decide +kernel
theorem b110_72 {d : Nat} {Q : Option Value ⊕ Nat → am_Mem → Prop} {μ : am_Mem} {r0 r1 : Nat} {x2 : Int32}
    (k : Q (.inl none) μ) :
    Wp d 110 (72, [some (.ref r0), some (.ref r1), some (.int x2)], [], μ) Q := (wp_rv rfl e110_72_r rfl k)
/-! RuleSheets$View.gatherMoves(LRuleSheets$Model;I)I -/
def q111_0 : List (Nat × Instr × Nat) := [(0, .aload_n 1, 1), (1, .getfield 37, 3), (4, .astore_n 3, 1), (5, .aload_n 0, 1), (6, .getfield 15, 3), (9, .iload_n 2, 1), (10, .iaload, 1), (11, .istore 4, 2), (13, .aload_n 3, 1), (14, .getfield 53, 3), (17, .iconst 5, 1), (18, .iaload, 1), (19, .istore 5, 2), (21, .aload_n 3, 1), (22, .getfield 41, 3), (25, .iconst 5, 1), (26, .iaload, 1), (27, .istore 6, 2)]
theorem e111_0 : am_dec am_M111 q111_0 = true := by decide +kernel
theorem b111_0 {d : Nat} {Q : Option Value ⊕ Nat → am_Mem → Prop} {μ : am_Mem} {r0 r1 : Nat} {x2 : Int32}
    (h1 : am_kd μ r1 = (1, 2))
    (h2 : ¬ am_F μ r1 1 = 15)
    (h3 : am_kd μ r0 = (1, 10))
    (h4 : ¬ am_F μ r0 1 = 15)
    (h5 : (am_kd μ (am_F μ r0 1)).1 = 2 ∨ (am_kd μ (am_F μ r0 1)).1 = 8)
    (h6 : ¬ (x2 < 0 ∨ (am_kd μ (am_F μ r0 1)).2 ≤ x2.toNatClampNeg))
    (h7 : am_kd μ (am_F μ r1 1) = (1, 1))
    (h8 : ¬ am_F μ (am_F μ r1 1) 5 = 15)
    (h9 : (am_kd μ (am_F μ (am_F μ r1 1) 5)).1 = 2 ∨ (am_kd μ (am_F μ (am_F μ r1 1) 5)).1 = 8)
    (h10 : ¬ ((Int32.ofInt 5) < 0 ∨ (am_kd μ (am_F μ (am_F μ r1 1) 5)).2 ≤ (Int32.ofInt 5).toNatClampNeg))
    (h11 : am_kd μ (am_F μ r1 1) = (1, 1))
    (h12 : ¬ am_F μ (am_F μ r1 1) 6 = 15)
    (h13 : (am_kd μ (am_F μ (am_F μ r1 1) 6)).1 = 2 ∨ (am_kd μ (am_F μ (am_F μ r1 1) 6)).1 = 8)
    (h14 : ¬ ((Int32.ofInt 5) < 0 ∨ (am_kd μ (am_F μ (am_F μ r1 1) 6)).2 ≤ (Int32.ofInt 5).toNatClampNeg))
    (k : Wp d 111 (29, [some (.ref r0), some (.ref r1), some (.int x2), some (.ref (am_F μ r1 1)), some (.int (am_A μ (am_F μ r0 1) x2.toNatClampNeg)), some (.int (am_A μ (am_F μ (am_F μ r1 1) 5) (Int32.ofInt 5).toNatClampNeg)), some (.int (am_A μ (am_F μ (am_F μ r1 1) 6) (Int32.ofInt 5).toNatClampNeg))], [], μ) Q) :
    Wp d 111 (0, [some (.ref r0), some (.ref r1), some (.int x2), none, none, none, none], [], μ) Q := wp_blk rfl e111_0 (And.intro h1 (And.intro h2 (And.intro h3 (And.intro h4 (And.intro h5 (And.intro h6 (And.intro h7 (And.intro h8 (And.intro h9 (And.intro h10 (And.intro h11 (And.intro h12 (And.intro h13 (And.intro h14 k))))))))))))))
def q111_29 : List (Nat × Instr × Nat) := [(29, .iload 6, 2), (31, .ifCond .le 69, 3)]
theorem e111_29 : am_dec am_M111 q111_29 = true := by decide +kernel
theorem b111_29 {d : Nat} {Q : Option Value ⊕ Nat → am_Mem → Prop} {μ : am_Mem} {r0 r1 r3 : Nat} {x2 x4 x5 x6 : Int32}
    (k1 : x6 ≤ 0 → Wp d 111 (100, [some (.ref r0), some (.ref r1), some (.int x2), some (.ref r3), some (.int x4), some (.int x5), some (.int x6)], [], μ) Q) (k2 : ¬ (x6 ≤ 0) → Wp d 111 (34, [some (.ref r0), some (.ref r1), some (.int x2), some (.ref r3), some (.int x4), some (.int x5), some (.int x6)], [], μ) Q) :
    Wp d 111 (29, [some (.ref r0), some (.ref r1), some (.int x2), some (.ref r3), some (.int x4), some (.int x5), some (.int x6)], [], μ) Q := wp_blk rfl e111_29 (And.intro k1 k2)
def q111_34 : List (Nat × Instr × Nat) := [(34, .aload_n 3, 1), (35, .getfield 56, 3), (38, .iconst 4, 1), (39, .iload 5, 2), (41, .imul, 1), (42, .iaload, 1), (43, .aload_n 1, 1), (44, .getfield 59, 3), (47, .iload_n 2, 1), (48, .iaload, 1), (49, .if_icmp .ne 36, 3)]
theorem e111_34 : am_dec am_M111 q111_34 = true := by decide +kernel
theorem b111_34 {d : Nat} {Q : Option Value ⊕ Nat → am_Mem → Prop} {μ : am_Mem} {r0 r1 r3 : Nat} {x2 x4 x5 x6 : Int32}
    (h1 : am_kd μ r3 = (1, 1))
    (h2 : ¬ am_F μ r3 1 = 15)
    (h3 : (am_kd μ (am_F μ r3 1)).1 = 2 ∨ (am_kd μ (am_F μ r3 1)).1 = 8)
    (h4 : ¬ (((Int32.ofInt 4) * x5) < 0 ∨ (am_kd μ (am_F μ r3 1)).2 ≤ ((Int32.ofInt 4) * x5).toNatClampNeg))
    (h5 : am_kd μ r1 = (1, 2))
    (h6 : ¬ am_F μ r1 3 = 15)
    (h7 : (am_kd μ (am_F μ r1 3)).1 = 2 ∨ (am_kd μ (am_F μ r1 3)).1 = 8)
    (h8 : ¬ (x2 < 0 ∨ (am_kd μ (am_F μ r1 3)).2 ≤ x2.toNatClampNeg))
    (k1 : ¬ (am_A μ (am_F μ r3 1) ((Int32.ofInt 4) * x5).toNatClampNeg) = (am_A μ (am_F μ r1 3) x2.toNatClampNeg) → Wp d 111 (85, [some (.ref r0), some (.ref r1), some (.int x2), some (.ref r3), some (.int x4), some (.int x5), some (.int x6)], [], μ) Q) (k2 : ¬ (¬ (am_A μ (am_F μ r3 1) ((Int32.ofInt 4) * x5).toNatClampNeg) = (am_A μ (am_F μ r1 3) x2.toNatClampNeg)) → Wp d 111 (52, [some (.ref r0), some (.ref r1), some (.int x2), some (.ref r3), some (.int x4), some (.int x5), some (.int x6)], [], μ) Q) :
    Wp d 111 (34, [some (.ref r0), some (.ref r1), some (.int x2), some (.ref r3), some (.int x4), some (.int x5), some (.int x6)], [], μ) Q := wp_blk rfl e111_34 (And.intro h1 (And.intro h2 (And.intro h3 (And.intro h4 (And.intro h5 (And.intro h6 (And.intro h7 (And.intro h8 (And.intro k1 k2)))))))))
def q111_52 : List (Nat × Instr × Nat) := [(52, .aload_n 1, 1), (53, .getfield 61, 3), (56, .aload_n 0, 1), (57, .getfield 9, 3), (60, .aload_n 0, 1), (61, .getfield 15, 3), (64, .iload_n 2, 1), (65, .iaload, 1), (66, .iload 4, 2), (68, .aload_n 3, 1), (69, .getfield 56, 3), (72, .iconst 4, 1), (73, .iload 5, 2), (75, .imul, 1), (76, .iconst 1, 1), (77, .iadd, 1), (78, .iaload, 1)]
theorem e111_52 : am_dec am_M111 q111_52 = true := by decide +kernel
theorem e111_52_c : am_dc1 am_M111 79 (.invokevirtual 65) 3 = true := by decide +kernel
theorem b111_52 {d : Nat} {Q : Option Value ⊕ Nat → am_Mem → Prop} {μ : am_Mem} {r0 r1 r3 : Nat} {x2 x4 x5 x6 : Int32} {P : am_Mem → Prop} {X : Nat → am_Mem → Prop}
    (h1 : am_kd μ r1 = (1, 2))
    (h2 : ¬ am_F μ r1 0 = 15)
    (h3 : am_kd μ r0 = (1, 10))
    (h4 : ¬ am_F μ r0 0 = 15)
    (h5 : am_kd μ r0 = (1, 10))
    (h6 : ¬ am_F μ r0 1 = 15)
    (h7 : (am_kd μ (am_F μ r0 1)).1 = 2 ∨ (am_kd μ (am_F μ r0 1)).1 = 8)
    (h8 : ¬ (x2 < 0 ∨ (am_kd μ (am_F μ r0 1)).2 ≤ x2.toNatClampNeg))
    (h9 : am_kd μ r3 = (1, 1))
    (h10 : ¬ am_F μ r3 1 = 15)
    (h11 : (am_kd μ (am_F μ r3 1)).1 = 2 ∨ (am_kd μ (am_F μ r3 1)).1 = 8)
    (h12 : ¬ ((((Int32.ofInt 4) * x5) + (Int32.ofInt 1)) < 0 ∨ (am_kd μ (am_F μ r3 1)).2 ≤ (((Int32.ofInt 4) * x5) + (Int32.ofInt 1)).toNatClampNeg))
    (hk : am_kd μ (am_F μ r1 0) = (1, 8))
    (hc : Wp d 97 (0, [some (.ref (am_F μ r1 0)), some (.ref (am_F μ r0 0)), some (.int (am_A μ (am_F μ r0 1) x2.toNatClampNeg)), some (.int x4), some (.int (am_A μ (am_F μ r3 1) (((Int32.ofInt 4) * x5) + (Int32.ofInt 1)).toNatClampNeg)), none, none, none, none], [], μ) (pV P X)) (hr : ∀ μ', P μ' → Wp (d + 1) 111 (82, [some (.ref r0), some (.ref r1), some (.int x2), some (.ref r3), some (.int x4), some (.int x5), some (.int x6)], [], (μ')) Q)
    (hx : ∀ x μ', X x μ' → Q (.inr x) μ') :
    Wp (d + 1) 111 (52, [some (.ref r0), some (.ref r1), some (.int x2), some (.ref r3), some (.int x4), some (.int x5), some (.int x6)], [], μ) Q := wp_blk rfl e111_52 (And.intro h1 (And.intro h2 (And.intro h3 (And.intro h4 (And.intro h5 (And.intro h6 (And.intro h7 (And.intro h8 (And.intro h9 (And.intro h10 (And.intro h11 (And.intro h12 (wp_cv (as := [.ref (am_F μ r0 0), .int (am_A μ (am_F μ r0 1) x2.toNatClampNeg), .int x4, .int (am_A μ (am_F μ r3 1) (((Int32.ofInt 4) * x5) + (Int32.ofInt 1)).toNatClampNeg)]) rfl e111_52_c rfl rfl rfl rfl rfl hk hc (fun v μ' hv => by obtain ⟨rfl, hp⟩ := pV_r hv; exact hr μ' hp) hx)))))))))))))
def q111_82 : List (Nat × Instr × Nat) := [(82, .iinc 4 1, 3)]
theorem e111_82 : am_dec am_M111 q111_82 = true := by decide +kernel
theorem b111_82 {d : Nat} {Q : Option Value ⊕ Nat → am_Mem → Prop} {μ : am_Mem} {r0 r1 r3 : Nat} {x2 x4 x5 x6 : Int32}
    (k : Wp d 111 (85, [some (.ref r0), some (.ref r1), some (.int x2), some (.ref r3), some (.int (x4 + Int32.ofInt 1)), some (.int x5), some (.int x6)], [], μ) Q) :
    Wp d 111 (82, [some (.ref r0), some (.ref r1), some (.int x2), some (.ref r3), some (.int x4), some (.int x5), some (.int x6)], [], μ) Q := wp_blk rfl e111_82 k
def q111_85 : List (Nat × Instr × Nat) := [(85, .aload_n 3, 1), (86, .getfield 71, 3), (89, .iload 5, 2), (91, .iaload, 1), (92, .istore 5, 2), (94, .iinc 6 (-1), 3), (97, .goto (-68), 3)]
theorem e111_85 : am_dec am_M111 q111_85 = true := by decide +kernel
theorem b111_85 {d : Nat} {Q : Option Value ⊕ Nat → am_Mem → Prop} {μ : am_Mem} {r0 r1 r3 : Nat} {x2 x4 x5 x6 : Int32}
    (h1 : am_kd μ r3 = (1, 1))
    (h2 : ¬ am_F μ r3 2 = 15)
    (h3 : (am_kd μ (am_F μ r3 2)).1 = 2 ∨ (am_kd μ (am_F μ r3 2)).1 = 8)
    (h4 : ¬ (x5 < 0 ∨ (am_kd μ (am_F μ r3 2)).2 ≤ x5.toNatClampNeg))
    (k : Wp d 111 (29, [some (.ref r0), some (.ref r1), some (.int x2), some (.ref r3), some (.int x4), some (.int (am_A μ (am_F μ r3 2) x5.toNatClampNeg)), some (.int (x6 + Int32.ofInt (-1)))], [], μ) Q) :
    Wp d 111 (85, [some (.ref r0), some (.ref r1), some (.int x2), some (.ref r3), some (.int x4), some (.int x5), some (.int x6)], [], μ) Q := wp_blk rfl e111_85 (And.intro h1 (And.intro h2 (And.intro h3 (And.intro h4 k))))
def q111_100 : List (Nat × Instr × Nat) := [(100, .iload 4, 2)]
theorem e111_100 : am_dec am_M111 q111_100 = true := by decide +kernel
theorem e111_100_r : am_dec am_M111 [(102, .ireturn, 1)] = true := by decide +kernel
theorem b111_100 {d : Nat} {Q : Option Value ⊕ Nat → am_Mem → Prop} {μ : am_Mem} {r0 r1 r3 : Nat} {x2 x4 x5 x6 : Int32}
    (k : Q (.inl (some (.int x4))) μ) :
    Wp d 111 (100, [some (.ref r0), some (.ref r1), some (.int x2), some (.ref r3), some (.int x4), some (.int x5), some (.int x6)], [], μ) Q := wp_blk rfl e111_100 (wp_ri (ty := .int) rfl e111_100_r rfl ⟨rfl, rfl⟩ k)
/-! RuleSheets$View.findGoal(LRuleSheets$Model;I)I -/
def q112_0 : List (Nat × Instr × Nat) := [(0, .aload_n 1, 1), (1, .getfield 37, 3), (4, .astore_n 3, 1), (5, .iconst (-1), 1), (6, .istore 4, 2), (8, .aload_n 3, 1), (9, .getfield 53, 3), (12, .bipush 6, 2), (14, .iaload, 1), (15, .istore 5, 2), (17, .aload_n 3, 1), (18, .getfield 41, 3), (21, .bipush 6, 2), (23, .iaload, 1), (24, .istore 6, 2)]
theorem e112_0 : am_dec am_M112 q112_0 = true := by decide +kernel
theorem b112_0 {d : Nat} {Q : Option Value ⊕ Nat → am_Mem → Prop} {μ : am_Mem} {r0 r1 : Nat} {x2 : Int32}
    (h1 : am_kd μ r1 = (1, 2))
    (h2 : ¬ am_F μ r1 1 = 15)
    (h3 : am_kd μ (am_F μ r1 1) = (1, 1))
    (h4 : ¬ am_F μ (am_F μ r1 1) 5 = 15)
    (h5 : (am_kd μ (am_F μ (am_F μ r1 1) 5)).1 = 2 ∨ (am_kd μ (am_F μ (am_F μ r1 1) 5)).1 = 8)
    (h6 : ¬ (((Int8.ofInt 6).toInt32) < 0 ∨ (am_kd μ (am_F μ (am_F μ r1 1) 5)).2 ≤ ((Int8.ofInt 6).toInt32).toNatClampNeg))
    (h7 : am_kd μ (am_F μ r1 1) = (1, 1))
    (h8 : ¬ am_F μ (am_F μ r1 1) 6 = 15)
    (h9 : (am_kd μ (am_F μ (am_F μ r1 1) 6)).1 = 2 ∨ (am_kd μ (am_F μ (am_F μ r1 1) 6)).1 = 8)
    (h10 : ¬ (((Int8.ofInt 6).toInt32) < 0 ∨ (am_kd μ (am_F μ (am_F μ r1 1) 6)).2 ≤ ((Int8.ofInt 6).toInt32).toNatClampNeg))
    (k : Wp d 112 (26, [some (.ref r0), some (.ref r1), some (.int x2), some (.ref (am_F μ r1 1)), some (.int (Int32.ofInt (-1))), some (.int (am_A μ (am_F μ (am_F μ r1 1) 5) ((Int8.ofInt 6).toInt32).toNatClampNeg)), some (.int (am_A μ (am_F μ (am_F μ r1 1) 6) ((Int8.ofInt 6).toInt32).toNatClampNeg)), none], [], μ) Q) :
    Wp d 112 (0, [some (.ref r0), some (.ref r1), some (.int x2), none, none, none, none, none], [], μ) Q := wp_blk rfl e112_0 (And.intro h1 (And.intro h2 (And.intro h3 (And.intro h4 (And.intro h5 (And.intro h6 (And.intro h7 (And.intro h8 (And.intro h9 (And.intro h10 k))))))))))
def q112_26 : List (Nat × Instr × Nat) := [(26, .iload 6, 2), (28, .ifCond .le 84, 3)]
theorem e112_26 : am_dec am_M112 q112_26 = true := by decide +kernel
theorem b112_26 {d : Nat} {Q : Option Value ⊕ Nat → am_Mem → Prop} {μ : am_Mem} {r0 r1 r3 : Nat} {x2 x4 x5 x6 : Int32} {o7 : Option Value}
    (k1 : x6 ≤ 0 → Wp d 112 (112, [some (.ref r0), some (.ref r1), some (.int x2), some (.ref r3), some (.int x4), some (.int x5), some (.int x6), o7], [], μ) Q) (k2 : ¬ (x6 ≤ 0) → Wp d 112 (31, [some (.ref r0), some (.ref r1), some (.int x2), some (.ref r3), some (.int x4), some (.int x5), some (.int x6), o7], [], μ) Q) :
    Wp d 112 (26, [some (.ref r0), some (.ref r1), some (.int x2), some (.ref r3), some (.int x4), some (.int x5), some (.int x6), o7], [], μ) Q := wp_blk rfl e112_26 (And.intro k1 k2)
def q112_31 : List (Nat × Instr × Nat) := [(31, .aload_n 3, 1), (32, .getfield 56, 3), (35, .iconst 4, 1), (36, .iload 5, 2), (38, .imul, 1), (39, .iaload, 1), (40, .aload_n 1, 1), (41, .getfield 59, 3), (44, .iload_n 2, 1), (45, .iaload, 1), (46, .if_icmp .ne 51, 3)]
theorem e112_31 : am_dec am_M112 q112_31 = true := by decide +kernel
theorem b112_31 {d : Nat} {Q : Option Value ⊕ Nat → am_Mem → Prop} {μ : am_Mem} {r0 r1 r3 : Nat} {x2 x4 x5 x6 : Int32} {o7 : Option Value}
    (h1 : am_kd μ r3 = (1, 1))
    (h2 : ¬ am_F μ r3 1 = 15)
    (h3 : (am_kd μ (am_F μ r3 1)).1 = 2 ∨ (am_kd μ (am_F μ r3 1)).1 = 8)
    (h4 : ¬ (((Int32.ofInt 4) * x5) < 0 ∨ (am_kd μ (am_F μ r3 1)).2 ≤ ((Int32.ofInt 4) * x5).toNatClampNeg))
    (h5 : am_kd μ r1 = (1, 2))
    (h6 : ¬ am_F μ r1 3 = 15)
    (h7 : (am_kd μ (am_F μ r1 3)).1 = 2 ∨ (am_kd μ (am_F μ r1 3)).1 = 8)
    (h8 : ¬ (x2 < 0 ∨ (am_kd μ (am_F μ r1 3)).2 ≤ x2.toNatClampNeg))
    (k1 : ¬ (am_A μ (am_F μ r3 1) ((Int32.ofInt 4) * x5).toNatClampNeg) = (am_A μ (am_F μ r1 3) x2.toNatClampNeg) → Wp d 112 (97, [some (.ref r0), some (.ref r1), some (.int x2), some (.ref r3), some (.int x4), some (.int x5), some (.int x6), o7], [], μ) Q) (k2 : ¬ (¬ (am_A μ (am_F μ r3 1) ((Int32.ofInt 4) * x5).toNatClampNeg) = (am_A μ (am_F μ r1 3) x2.toNatClampNeg)) → Wp d 112 (49, [some (.ref r0), some (.ref r1), some (.int x2), some (.ref r3), some (.int x4), some (.int x5), some (.int x6), o7], [], μ) Q) :
    Wp d 112 (31, [some (.ref r0), some (.ref r1), some (.int x2), some (.ref r3), some (.int x4), some (.int x5), some (.int x6), o7], [], μ) Q := wp_blk rfl e112_31 (And.intro h1 (And.intro h2 (And.intro h3 (And.intro h4 (And.intro h5 (And.intro h6 (And.intro h7 (And.intro h8 (And.intro k1 k2)))))))))
def q112_49 : List (Nat × Instr × Nat) := [(49, .aload_n 1, 1), (50, .getfield 61, 3), (53, .aload_n 3, 1), (54, .getfield 56, 3), (57, .iconst 4, 1), (58, .iload 5, 2), (60, .imul, 1), (61, .iconst 1, 1), (62, .iadd, 1), (63, .iaload, 1)]
theorem e112_49 : am_dec am_M112 q112_49 = true := by decide +kernel
theorem e112_49_c : am_dc1 am_M112 64 (.invokevirtual 74) 3 = true := by decide +kernel
theorem b112_49 {d : Nat} {Q : Option Value ⊕ Nat → am_Mem → Prop} {μ : am_Mem} {r0 r1 r3 : Nat} {x2 x4 x5 x6 : Int32} {o7 : Option Value} {P : Int32 → am_Mem → Prop} {X : Nat → am_Mem → Prop}
    (h1 : am_kd μ r1 = (1, 2))
    (h2 : ¬ am_F μ r1 0 = 15)
    (h3 : am_kd μ r3 = (1, 1))
    (h4 : ¬ am_F μ r3 1 = 15)
    (h5 : (am_kd μ (am_F μ r3 1)).1 = 2 ∨ (am_kd μ (am_F μ r3 1)).1 = 8)
    (h6 : ¬ ((((Int32.ofInt 4) * x5) + (Int32.ofInt 1)) < 0 ∨ (am_kd μ (am_F μ r3 1)).2 ≤ (((Int32.ofInt 4) * x5) + (Int32.ofInt 1)).toNatClampNeg))
    (hk : am_kd μ (am_F μ r1 0) = (1, 8))
    (hc : Wp d 99 (0, [some (.ref (am_F μ r1 0)), some (.int (am_A μ (am_F μ r3 1) (((Int32.ofInt 4) * x5) + (Int32.ofInt 1)).toNatClampNeg)), none, none, none, none], [], μ) (pI P X)) (hr : ∀ x μ', P x μ' → Wp (d + 1) 112 (67, [some (.ref r0), some (.ref r1), some (.int x2), some (.ref r3), some (.int x4), some (.int x5), some (.int x6), o7], [.int x], (μ')) Q)
    (hx : ∀ x μ', X x μ' → Q (.inr x) μ') :
    Wp (d + 1) 112 (49, [some (.ref r0), some (.ref r1), some (.int x2), some (.ref r3), some (.int x4), some (.int x5), some (.int x6), o7], [], μ) Q := wp_blk rfl e112_49 (And.intro h1 (And.intro h2 (And.intro h3 (And.intro h4 (And.intro h5 (And.intro h6 (wp_cv (as := [.int (am_A μ (am_F μ r3 1) (((Int32.ofInt 4) * x5) + (Int32.ofInt 1)).toNatClampNeg)]) rfl e112_49_c rfl rfl rfl rfl rfl hk hc (fun v μ' hv => by obtain ⟨x, rfl, hp⟩ := pI_r hv; exact hr x μ' hp) hx)))))))
def q112_67 : List (Nat × Instr × Nat) := [(67, .istore 7, 2), (69, .iload 7, 2), (71, .iconst (-1), 1), (72, .if_icmp .eq 25, 3)]
theorem e112_67 : am_dec am_M112 q112_67 = true := by decide +kernel
theorem b112_67 {d : Nat} {Q : Option Value ⊕ Nat → am_Mem → Prop} {μ : am_Mem} {r0 r1 r3 : Nat} {x2 x4 x5 x6 s0 : Int32} {o7 : Option Value}
    (k1 : s0 = (Int32.ofInt (-1)) → Wp d 112 (97, [some (.ref r0), some (.ref r1), some (.int x2), some (.ref r3), some (.int x4), some (.int x5), some (.int x6), some (.int s0)], [], μ) Q) (k2 : ¬ (s0 = (Int32.ofInt (-1))) → Wp d 112 (75, [some (.ref r0), some (.ref r1), some (.int x2), some (.ref r3), some (.int x4), some (.int x5), some (.int x6), some (.int s0)], [], μ) Q) :
    Wp d 112 (67, [some (.ref r0), some (.ref r1), some (.int x2), some (.ref r3), some (.int x4), some (.int x5), some (.int x6), o7], [.int s0], μ) Q := wp_blk rfl e112_67 (And.intro k1 k2)
def q112_75 : List (Nat × Instr × Nat) := [(75, .iload 4, 2), (77, .iconst (-1), 1), (78, .if_icmp .eq 10, 3)]
theorem e112_75 : am_dec am_M112 q112_75 = true := by decide +kernel
theorem b112_75 {d : Nat} {Q : Option Value ⊕ Nat → am_Mem → Prop} {μ : am_Mem} {r0 r1 r3 : Nat} {x2 x4 x5 x6 x7 : Int32}
    (k1 : x4 = (Int32.ofInt (-1)) → Wp d 112 (88, [some (.ref r0), some (.ref r1), some (.int x2), some (.ref r3), some (.int x4), some (.int x5), some (.int x6), some (.int x7)], [], μ) Q) (k2 : ¬ (x4 = (Int32.ofInt (-1))) → Wp d 112 (81, [some (.ref r0), some (.ref r1), some (.int x2), some (.ref r3), some (.int x4), some (.int x5), some (.int x6), some (.int x7)], [], μ) Q) :
    Wp d 112 (75, [some (.ref r0), some (.ref r1), some (.int x2), some (.ref r3), some (.int x4), some (.int x5), some (.int x6), some (.int x7)], [], μ) Q := wp_blk rfl e112_75 (And.intro k1 k2)
def q112_81 : List (Nat × Instr × Nat) := [(81, .iload 4, 2), (83, .iload 7, 2), (85, .if_icmp .ne 8, 3)]
theorem e112_81 : am_dec am_M112 q112_81 = true := by decide +kernel
theorem b112_81 {d : Nat} {Q : Option Value ⊕ Nat → am_Mem → Prop} {μ : am_Mem} {r0 r1 r3 : Nat} {x2 x4 x5 x6 x7 : Int32}
    (k1 : ¬ x4 = x7 → Wp d 112 (93, [some (.ref r0), some (.ref r1), some (.int x2), some (.ref r3), some (.int x4), some (.int x5), some (.int x6), some (.int x7)], [], μ) Q) (k2 : ¬ (¬ x4 = x7) → Wp d 112 (88, [some (.ref r0), some (.ref r1), some (.int x2), some (.ref r3), some (.int x4), some (.int x5), some (.int x6), some (.int x7)], [], μ) Q) :
    Wp d 112 (81, [some (.ref r0), some (.ref r1), some (.int x2), some (.ref r3), some (.int x4), some (.int x5), some (.int x6), some (.int x7)], [], μ) Q := wp_blk rfl e112_81 (And.intro k1 k2)
def q112_88 : List (Nat × Instr × Nat) := [(88, .iload 7, 2), (90, .goto 5, 3)]
theorem e112_88 : am_dec am_M112 q112_88 = true := by decide +kernel
theorem b112_88 {d : Nat} {Q : Option Value ⊕ Nat → am_Mem → Prop} {μ : am_Mem} {r0 r1 r3 : Nat} {x2 x4 x5 x6 x7 : Int32}
    (k : Wp d 112 (95, [some (.ref r0), some (.ref r1), some (.int x2), some (.ref r3), some (.int x4), some (.int x5), some (.int x6), some (.int x7)], [.int x7], μ) Q) :
    Wp d 112 (88, [some (.ref r0), some (.ref r1), some (.int x2), some (.ref r3), some (.int x4), some (.int x5), some (.int x6), some (.int x7)], [], μ) Q := wp_blk rfl e112_88 k
def q112_93 : List (Nat × Instr × Nat) := [(93, .bipush (-2), 2)]
theorem e112_93 : am_dec am_M112 q112_93 = true := by decide +kernel
theorem b112_93 {d : Nat} {Q : Option Value ⊕ Nat → am_Mem → Prop} {μ : am_Mem} {r0 r1 r3 : Nat} {x2 x4 x5 x6 x7 : Int32}
    (k : Wp d 112 (95, [some (.ref r0), some (.ref r1), some (.int x2), some (.ref r3), some (.int x4), some (.int x5), some (.int x6), some (.int x7)], [.int ((Int8.ofInt (-2)).toInt32)], μ) Q) :
    Wp d 112 (93, [some (.ref r0), some (.ref r1), some (.int x2), some (.ref r3), some (.int x4), some (.int x5), some (.int x6), some (.int x7)], [], μ) Q := wp_blk rfl e112_93 k
def q112_95 : List (Nat × Instr × Nat) := [(95, .istore 4, 2)]
theorem e112_95 : am_dec am_M112 q112_95 = true := by decide +kernel
theorem b112_95 {d : Nat} {Q : Option Value ⊕ Nat → am_Mem → Prop} {μ : am_Mem} {r0 r1 r3 : Nat} {x2 x4 x5 x6 x7 s0 : Int32}
    (k : Wp d 112 (97, [some (.ref r0), some (.ref r1), some (.int x2), some (.ref r3), some (.int s0), some (.int x5), some (.int x6), some (.int x7)], [], μ) Q) :
    Wp d 112 (95, [some (.ref r0), some (.ref r1), some (.int x2), some (.ref r3), some (.int x4), some (.int x5), some (.int x6), some (.int x7)], [.int s0], μ) Q := wp_blk rfl e112_95 k
def q112_97 : List (Nat × Instr × Nat) := [(97, .aload_n 3, 1), (98, .getfield 71, 3), (101, .iload 5, 2), (103, .iaload, 1), (104, .istore 5, 2), (106, .iinc 6 (-1), 3), (109, .goto (-83), 3)]
theorem e112_97 : am_dec am_M112 q112_97 = true := by decide +kernel
theorem b112_97 {d : Nat} {Q : Option Value ⊕ Nat → am_Mem → Prop} {μ : am_Mem} {r0 r1 r3 : Nat} {x2 x4 x5 x6 : Int32} {o7 : Option Value}
    (h1 : am_kd μ r3 = (1, 1))
    (h2 : ¬ am_F μ r3 2 = 15)
    (h3 : (am_kd μ (am_F μ r3 2)).1 = 2 ∨ (am_kd μ (am_F μ r3 2)).1 = 8)
    (h4 : ¬ (x5 < 0 ∨ (am_kd μ (am_F μ r3 2)).2 ≤ x5.toNatClampNeg))
    (k : Wp d 112 (26, [some (.ref r0), some (.ref r1), some (.int x2), some (.ref r3), some (.int x4), some (.int (am_A μ (am_F μ r3 2) x5.toNatClampNeg)), some (.int (x6 + Int32.ofInt (-1))), o7], [], μ) Q) :
    Wp d 112 (97, [some (.ref r0), some (.ref r1), some (.int x2), some (.ref r3), some (.int x4), some (.int x5), some (.int x6), o7], [], μ) Q := wp_blk rfl e112_97 (And.intro h1 (And.intro h2 (And.intro h3 (And.intro h4 k))))
def q112_112 : List (Nat × Instr × Nat) := [(112, .iload 4, 2)]
theorem e112_112 : am_dec am_M112 q112_112 = true := by decide +kernel
theorem e112_112_r : am_dec am_M112 [(114, .ireturn, 1)] = true := by decide +kernel
theorem b112_112 {d : Nat} {Q : Option Value ⊕ Nat → am_Mem → Prop} {μ : am_Mem} {r0 r1 r3 : Nat} {x2 x4 x5 x6 : Int32} {o7 : Option Value}
    (k : Q (.inl (some (.int x4))) μ) :
    Wp d 112 (112, [some (.ref r0), some (.ref r1), some (.int x2), some (.ref r3), some (.int x4), some (.int x5), some (.int x6), o7], [], μ) Q := wp_blk rfl e112_112 (wp_ri (ty := .int) rfl e112_112_r rfl ⟨rfl, rfl⟩ k)
/-! RuleSheets$View.total()I -/
def q113_0 : List (Nat × Instr × Nat) := [(0, .aload_n 0, 1), (1, .getfield 25, 3), (4, .ifCond .ne 7, 3)]
theorem e113_0 : am_dec am_M113 q113_0 = true := by decide +kernel
theorem b113_0 {d : Nat} {Q : Option Value ⊕ Nat → am_Mem → Prop} {μ : am_Mem} {r0 : Nat}
    (h1 : am_kd μ r0 = (1, 10))
    (k1 : ¬ (am_A μ r0 4) = 0 → Wp d 113 (11, [some (.ref r0)], [], μ) Q) (k2 : ¬ (¬ (am_A μ r0 4) = 0) → Wp d 113 (7, [some (.ref r0)], [], μ) Q) :
    Wp d 113 (0, [some (.ref r0)], [], μ) Q := wp_blk rfl e113_0 (And.intro h1 (And.intro k1 k2))
def q113_7 : List (Nat × Instr × Nat) := [(7, .iconst 0, 1), (8, .goto 12, 3)]
theorem e113_7 : am_dec am_M113 q113_7 = true := by decide +kernel
theorem b113_7 {d : Nat} {Q : Option Value ⊕ Nat → am_Mem → Prop} {μ : am_Mem} {r0 : Nat}
    (k : Wp d 113 (20, [some (.ref r0)], [.int (Int32.ofInt 0)], μ) Q) :
    Wp d 113 (7, [some (.ref r0)], [], μ) Q := wp_blk rfl e113_7 k
def q113_11 : List (Nat × Instr × Nat) := [(11, .aload_n 0, 1), (12, .getfield 15, 3), (15, .aload_n 0, 1), (16, .getfield 25, 3), (19, .iaload, 1)]
theorem e113_11 : am_dec am_M113 q113_11 = true := by decide +kernel
theorem b113_11 {d : Nat} {Q : Option Value ⊕ Nat → am_Mem → Prop} {μ : am_Mem} {r0 : Nat}
    (h1 : am_kd μ r0 = (1, 10))
    (h2 : ¬ am_F μ r0 1 = 15)
    (h3 : am_kd μ r0 = (1, 10))
    (h4 : (am_kd μ (am_F μ r0 1)).1 = 2 ∨ (am_kd μ (am_F μ r0 1)).1 = 8)
    (h5 : ¬ ((am_A μ r0 4) < 0 ∨ (am_kd μ (am_F μ r0 1)).2 ≤ (am_A μ r0 4).toNatClampNeg))
    (k : Wp d 113 (20, [some (.ref r0)], [.int (am_A μ (am_F μ r0 1) (am_A μ r0 4).toNatClampNeg)], μ) Q) :
    Wp d 113 (11, [some (.ref r0)], [], μ) Q := wp_blk rfl e113_11 (And.intro h1 (And.intro h2 (And.intro h3 (And.intro h4 (And.intro h5 k)))))
theorem e113_20_r : am_dec am_M113 [(20, .ireturn, 1)] = true := by decide +kernel
theorem b113_20 {d : Nat} {Q : Option Value ⊕ Nat → am_Mem → Prop} {μ : am_Mem} {r0 : Nat} {s0 : Int32}
    (k : Q (.inl (some (.int s0))) μ) :
    Wp d 113 (20, [some (.ref r0)], [.int s0], μ) Q := (wp_ri (ty := .int) rfl e113_20_r rfl ⟨rfl, rfl⟩ k)
/-! RuleSheets$View.many(I)I -/
def q114_0 : List (Nat × Instr × Nat) := [(0, .aload_n 0, 1), (1, .getfield 15, 3), (4, .iload_n 1, 1), (5, .iconst 1, 1), (6, .iadd, 1), (7, .iaload, 1), (8, .aload_n 0, 1), (9, .getfield 15, 3), (12, .iload_n 1, 1), (13, .iaload, 1), (14, .isub, 1)]
theorem e114_0 : am_dec am_M114 q114_0 = true := by decide +kernel
theorem e114_0_r : am_dec am_M114 [(15, .ireturn, 1)] = true := by decide +kernel
theorem b114_0 {d : Nat} {Q : Option Value ⊕ Nat → am_Mem → Prop} {μ : am_Mem} {r0 : Nat} {x1 : Int32}
    (h1 : am_kd μ r0 = (1, 10))
    (h2 : ¬ am_F μ r0 1 = 15)
    (h3 : (am_kd μ (am_F μ r0 1)).1 = 2 ∨ (am_kd μ (am_F μ r0 1)).1 = 8)
    (h4 : ¬ ((x1 + (Int32.ofInt 1)) < 0 ∨ (am_kd μ (am_F μ r0 1)).2 ≤ (x1 + (Int32.ofInt 1)).toNatClampNeg))
    (h5 : am_kd μ r0 = (1, 10))
    (h6 : ¬ am_F μ r0 1 = 15)
    (h7 : (am_kd μ (am_F μ r0 1)).1 = 2 ∨ (am_kd μ (am_F μ r0 1)).1 = 8)
    (h8 : ¬ (x1 < 0 ∨ (am_kd μ (am_F μ r0 1)).2 ≤ x1.toNatClampNeg))
    (k : Q (.inl (some (.int ((am_A μ (am_F μ r0 1) (x1 + (Int32.ofInt 1)).toNatClampNeg) - (am_A μ (am_F μ r0 1) x1.toNatClampNeg))))) μ) :
    Wp d 114 (0, [some (.ref r0), some (.int x1)], [], μ) Q := wp_blk rfl e114_0 (And.intro h1 (And.intro h2 (And.intro h3 (And.intro h4 (And.intro h5 (And.intro h6 (And.intro h7 (And.intro h8 (wp_ri (ty := .int) rfl e114_0_r rfl ⟨rfl, rfl⟩ k)))))))))
/-! RuleSheets$View.joint()J -/
def q115_0 : List (Nat × Instr × Nat) := [(0, .aload_n 0, 1), (1, .getfield 25, 3), (4, .ifCond .ne 7, 3)]
theorem e115_0 : am_dec am_M115 q115_0 = true := by decide +kernel
theorem b115_0 {d : Nat} {Q : Option Value ⊕ Nat → am_Mem → Prop} {μ : am_Mem} {r0 : Nat}
    (h1 : am_kd μ r0 = (1, 10))
    (k1 : ¬ (am_A μ r0 4) = 0 → Wp d 115 (11, [some (.ref r0), none, none, none], [], μ) Q) (k2 : ¬ (¬ (am_A μ r0 4) = 0) → Wp d 115 (7, [some (.ref r0), none, none, none], [], μ) Q) :
    Wp d 115 (0, [some (.ref r0), none, none, none], [], μ) Q := wp_blk rfl e115_0 (And.intro h1 (And.intro k1 k2))
def q115_7 : List (Nat × Instr × Nat) := [(7, .lconst 0, 1), (8, .goto 4, 3)]
theorem e115_7 : am_dec am_M115 q115_7 = true := by decide +kernel
theorem b115_7 {d : Nat} {Q : Option Value ⊕ Nat → am_Mem → Prop} {μ : am_Mem} {r0 : Nat}
    (k : Wp d 115 (12, [some (.ref r0), none, none, none], [.long (Int64.ofNat 0)], μ) Q) :
    Wp d 115 (7, [some (.ref r0), none, none, none], [], μ) Q := wp_blk rfl e115_7 k
def q115_11 : List (Nat × Instr × Nat) := [(11, .lconst 1, 1)]
theorem e115_11 : am_dec am_M115 q115_11 = true := by decide +kernel
theorem b115_11 {d : Nat} {Q : Option Value ⊕ Nat → am_Mem → Prop} {μ : am_Mem} {r0 : Nat}
    (k : Wp d 115 (12, [some (.ref r0), none, none, none], [.long (Int64.ofNat 1)], μ) Q) :
    Wp d 115 (11, [some (.ref r0), none, none, none], [], μ) Q := wp_blk rfl e115_11 k
def q115_12 : List (Nat × Instr × Nat) := [(12, .lstore_n 1, 1), (13, .iconst 0, 1), (14, .istore_n 3, 1)]
theorem e115_12 : am_dec am_M115 q115_12 = true := by decide +kernel
theorem b115_12 {d : Nat} {Q : Option Value ⊕ Nat → am_Mem → Prop} {μ : am_Mem} {r0 : Nat} {y90 : Int64}
    (k : Wp d 115 (15, [some (.ref r0), some (.long y90), none, some (.int (Int32.ofInt 0))], [], μ) Q) :
    Wp d 115 (12, [some (.ref r0), none, none, none], [.long y90], μ) Q := wp_blk rfl e115_12 k
def q115_15 : List (Nat × Instr × Nat) := [(15, .iload_n 3, 1), (16, .aload_n 0, 1), (17, .getfield 25, 3), (20, .if_icmp .ge 18, 3)]
theorem e115_15 : am_dec am_M115 q115_15 = true := by decide +kernel
theorem b115_15 {d : Nat} {Q : Option Value ⊕ Nat → am_Mem → Prop} {μ : am_Mem} {r0 : Nat} {y1 : Int64} {x3 : Int32}
    (h1 : am_kd μ r0 = (1, 10))
    (k1 : (am_A μ r0 4) ≤ x3 → Wp d 115 (38, [some (.ref r0), some (.long y1), none, some (.int x3)], [], μ) Q) (k2 : ¬ ((am_A μ r0 4) ≤ x3) → Wp d 115 (23, [some (.ref r0), some (.long y1), none, some (.int x3)], [], μ) Q) :
    Wp d 115 (15, [some (.ref r0), some (.long y1), none, some (.int x3)], [], μ) Q := wp_blk rfl e115_15 (And.intro h1 (And.intro k1 k2))
def q115_23 : List (Nat × Instr × Nat) := [(23, .lload_n 1, 1), (24, .aload_n 0, 1), (25, .iload_n 3, 1)]
theorem e115_23 : am_dec am_M115 q115_23 = true := by decide +kernel
theorem e115_23_c : am_dc1 am_M115 26 (.invokevirtual 78) 3 = true := by decide +kernel
theorem b115_23 {d : Nat} {Q : Option Value ⊕ Nat → am_Mem → Prop} {μ : am_Mem} {r0 : Nat} {y1 : Int64} {x3 : Int32} {P : Int32 → am_Mem → Prop} {X : Nat → am_Mem → Prop}
    (hk : am_kd μ r0 = (1, 10))
    (hc : Wp d 114 (0, [some (.ref r0), some (.int x3)], [], μ) (pI P X)) (hr : ∀ x μ', P x μ' → Wp (d + 1) 115 (29, [some (.ref r0), some (.long y1), none, some (.int x3)], [.int x, .long y1], (μ')) Q)
    (hx : ∀ x μ', X x μ' → Q (.inr x) μ') :
    Wp (d + 1) 115 (23, [some (.ref r0), some (.long y1), none, some (.int x3)], [], μ) Q := wp_blk rfl e115_23 (wp_cv (as := [.int x3]) rfl e115_23_c rfl rfl rfl rfl rfl hk hc (fun v μ' hv => by obtain ⟨x, rfl, hp⟩ := pI_r hv; exact hr x μ' hp) hx)
def q115_29 : List (Nat × Instr × Nat) := [(29, .i2l, 1), (30, .lmul, 1), (31, .lstore_n 1, 1), (32, .iinc 3 1, 3), (35, .goto (-20), 3)]
theorem e115_29 : am_dec am_M115 q115_29 = true := by decide +kernel
theorem b115_29 {d : Nat} {Q : Option Value ⊕ Nat → am_Mem → Prop} {μ : am_Mem} {r0 : Nat} {y1 y90 : Int64} {x3 s1 : Int32}
    (k : Wp d 115 (15, [some (.ref r0), some (.long (y90 * s1.toInt64)), none, some (.int (x3 + Int32.ofInt 1))], [], μ) Q) :
    Wp d 115 (29, [some (.ref r0), some (.long y1), none, some (.int x3)], [.int s1, .long y90], μ) Q := wp_blk rfl e115_29 k
def q115_38 : List (Nat × Instr × Nat) := [(38, .lload_n 1, 1)]
theorem e115_38 : am_dec am_M115 q115_38 = true := by decide +kernel
theorem e115_38_r : am_dec am_M115 [(39, .lreturn, 1)] = true := by decide +kernel
theorem b115_38 {d : Nat} {Q : Option Value ⊕ Nat → am_Mem → Prop} {μ : am_Mem} {r0 : Nat} {y1 : Int64} {x3 : Int32}
    (k : Q (.inl (some (.long y1))) μ) :
    Wp d 115 (38, [some (.ref r0), some (.long y1), none, some (.int x3)], [], μ) Q := wp_blk rfl e115_38 (wp_rl rfl e115_38_r rfl k)
/-! RuleSheets$View.choose(I)V -/
def q116_0 : List (Nat × Instr × Nat) := [(0, .iload_n 1, 1), (1, .istore_n 2, 1), (2, .aload_n 0, 1), (3, .getfield 25, 3), (6, .iconst 1, 1), (7, .isub, 1), (8, .istore_n 3, 1)]
theorem e116_0 : am_dec am_M116 q116_0 = true := by decide +kernel
theorem b116_0 {d : Nat} {Q : Option Value ⊕ Nat → am_Mem → Prop} {μ : am_Mem} {r0 : Nat} {x1 : Int32}
    (h1 : am_kd μ r0 = (1, 10))
    (k : Wp d 116 (9, [some (.ref r0), some (.int x1), some (.int x1), some (.int ((am_A μ r0 4) - (Int32.ofInt 1))), none], [], μ) Q) :
    Wp d 116 (0, [some (.ref r0), some (.int x1), none, none, none], [], μ) Q := wp_blk rfl e116_0 (And.intro h1 k)
def q116_9 : List (Nat × Instr × Nat) := [(9, .iload_n 3, 1), (10, .ifCond .lt 41, 3)]
theorem e116_9 : am_dec am_M116 q116_9 = true := by decide +kernel
theorem b116_9 {d : Nat} {Q : Option Value ⊕ Nat → am_Mem → Prop} {μ : am_Mem} {r0 : Nat} {x1 x2 x3 : Int32} {o4 : Option Value}
    (k1 : x3 < 0 → Wp d 116 (51, [some (.ref r0), some (.int x1), some (.int x2), some (.int x3), o4], [], μ) Q) (k2 : ¬ (x3 < 0) → Wp d 116 (13, [some (.ref r0), some (.int x1), some (.int x2), some (.int x3), o4], [], μ) Q) :
    Wp d 116 (9, [some (.ref r0), some (.int x1), some (.int x2), some (.int x3), o4], [], μ) Q := wp_blk rfl e116_9 (And.intro k1 k2)
def q116_13 : List (Nat × Instr × Nat) := [(13, .aload_n 0, 1), (14, .iload_n 3, 1)]
theorem e116_13 : am_dec am_M116 q116_13 = true := by decide +kernel
theorem e116_13_c : am_dc1 am_M116 15 (.invokevirtual 78) 3 = true := by decide +kernel
theorem b116_13 {d : Nat} {Q : Option Value ⊕ Nat → am_Mem → Prop} {μ : am_Mem} {r0 : Nat} {x1 x2 x3 : Int32} {o4 : Option Value} {P : Int32 → am_Mem → Prop} {X : Nat → am_Mem → Prop}
    (hk : am_kd μ r0 = (1, 10))
    (hc : Wp d 114 (0, [some (.ref r0), some (.int x3)], [], μ) (pI P X)) (hr : ∀ x μ', P x μ' → Wp (d + 1) 116 (18, [some (.ref r0), some (.int x1), some (.int x2), some (.int x3), o4], [.int x], (μ')) Q)
    (hx : ∀ x μ', X x μ' → Q (.inr x) μ') :
    Wp (d + 1) 116 (13, [some (.ref r0), some (.int x1), some (.int x2), some (.int x3), o4], [], μ) Q := wp_blk rfl e116_13 (wp_cv (as := [.int x3]) rfl e116_13_c rfl rfl rfl rfl rfl hk hc (fun v μ' hv => by obtain ⟨x, rfl, hp⟩ := pI_r hv; exact hr x μ' hp) hx)
def q116_18 : List (Nat × Instr × Nat) := [(18, .istore 4, 2), (20, .iload 4, 2), (22, .ifCond .le 23, 3)]
theorem e116_18 : am_dec am_M116 q116_18 = true := by decide +kernel
theorem b116_18 {d : Nat} {Q : Option Value ⊕ Nat → am_Mem → Prop} {μ : am_Mem} {r0 : Nat} {x1 x2 x3 s0 : Int32} {o4 : Option Value}
    (k1 : s0 ≤ 0 → Wp d 116 (45, [some (.ref r0), some (.int x1), some (.int x2), some (.int x3), some (.int s0)], [], μ) Q) (k2 : ¬ (s0 ≤ 0) → Wp d 116 (25, [some (.ref r0), some (.int x1), some (.int x2), some (.int x3), some (.int s0)], [], μ) Q) :
    Wp d 116 (18, [some (.ref r0), some (.int x1), some (.int x2), some (.int x3), o4], [.int s0], μ) Q := wp_blk rfl e116_18 (And.intro k1 k2)
def q116_25 : List (Nat × Instr × Nat) := [(25, .aload_n 0, 1), (26, .getfield 29, 3), (29, .iload_n 3, 1), (30, .aload_n 0, 1), (31, .iload_n 3, 1), (32, .iload_n 2, 1), (33, .iload 4, 2), (35, .irem, 1)]
theorem e116_25 : am_dec am_M116 q116_25 = true := by decide +kernel
theorem e116_25_c : am_dc1 am_M116 36 (.invokevirtual 80) 3 = true := by decide +kernel
theorem b116_25 {d : Nat} {Q : Option Value ⊕ Nat → am_Mem → Prop} {μ : am_Mem} {r0 : Nat} {x1 x2 x3 x4 : Int32} {P : Int32 → am_Mem → Prop} {X : Nat → am_Mem → Prop}
    (h1 : am_kd μ r0 = (1, 10))
    (h2 : ¬ am_F μ r0 5 = 15)
    (h3 : ¬ x4 = 0)
    (hk : am_kd μ r0 = (1, 10))
    (hc : Wp d 117 (0, [some (.ref r0), some (.int x3), some (.int (x2 - x2 / x4 * x4))], [], μ) (pI P X)) (hr : ∀ x μ', P x μ' → Wp (d + 1) 116 (39, [some (.ref r0), some (.int x1), some (.int x2), some (.int x3), some (.int x4)], [.int x, .int x3, .ref (am_F μ r0 5)], (μ')) Q)
    (hx : ∀ x μ', X x μ' → Q (.inr x) μ') :
    Wp (d + 1) 116 (25, [some (.ref r0), some (.int x1), some (.int x2), some (.int x3), some (.int x4)], [], μ) Q := wp_blk rfl e116_25 (And.intro h1 (And.intro h2 (And.intro h3 (wp_cv (as := [.int x3, .int (x2 - x2 / x4 * x4)]) rfl e116_25_c rfl rfl rfl rfl rfl hk hc (fun v μ' hv => by obtain ⟨x, rfl, hp⟩ := pI_r hv; exact hr x μ' hp) hx))))
def q116_39 : List (Nat × Instr × Nat) := [(39, .iastore, 1), (40, .iload_n 2, 1), (41, .iload 4, 2), (43, .idiv, 1), (44, .istore_n 2, 1)]
theorem e116_39 : am_dec am_M116 q116_39 = true := by decide +kernel
theorem b116_39 {d : Nat} {Q : Option Value ⊕ Nat → am_Mem → Prop} {μ : am_Mem} {r0 r90 : Nat} {x1 x2 x3 x4 s1 s2 : Int32}
    (h1 : (am_kd μ r90).1 = 2)
    (h2 : ¬ (s1 < 0 ∨ (am_kd μ r90).2 ≤ s1.toNatClampNeg))
    (h3 : ¬ x4 = 0)
    (k : Wp d 116 (45, [some (.ref r0), some (.int x1), some (.int (x2 / x4)), some (.int x3), some (.int x4)], [], (am_pA μ r90 s1.toNatClampNeg s2)) Q) :
    Wp d 116 (39, [some (.ref r0), some (.int x1), some (.int x2), some (.int x3), some (.int x4)], [.int s2, .int s1, .ref r90], μ) Q := wp_blk rfl e116_39 (And.intro h1 (And.intro h2 (And.intro h3 k)))
def q116_45 : List (Nat × Instr × Nat) := [(45, .iinc 3 (-1), 3), (48, .goto (-39), 3)]
theorem e116_45 : am_dec am_M116 q116_45 = true := by decide +kernel
theorem b116_45 {d : Nat} {Q : Option Value ⊕ Nat → am_Mem → Prop} {μ : am_Mem} {r0 : Nat} {x1 x2 x3 x4 : Int32}
    (k : Wp d 116 (9, [some (.ref r0), some (.int x1), some (.int x2), some (.int (x3 + Int32.ofInt (-1))), some (.int x4)], [], μ) Q) :
    Wp d 116 (45, [some (.ref r0), some (.int x1), some (.int x2), some (.int x3), some (.int x4)], [], μ) Q := wp_blk rfl e116_45 k
theorem e116_51_r : am_dec am_M116 [(51, .return_, 1)] = true := by decide +kernel
theorem b116_51 {d : Nat} {Q : Option Value ⊕ Nat → am_Mem → Prop} {μ : am_Mem} {r0 : Nat} {x1 x2 x3 : Int32} {o4 : Option Value}
    (k : Q (.inl none) μ) :
    Wp d 116 (51, [some (.ref r0), some (.int x1), some (.int x2), some (.int x3), o4], [], μ) Q := (wp_rv rfl e116_51_r rfl k)
/-! RuleSheets$View.move(II)I -/
def q117_0 : List (Nat × Instr × Nat) := [(0, .aload_n 0, 1), (1, .getfield 9, 3), (4, .aload_n 0, 1), (5, .getfield 15, 3), (8, .iload_n 1, 1), (9, .iaload, 1), (10, .iload_n 2, 1), (11, .iadd, 1), (12, .iaload, 1)]
theorem e117_0 : am_dec am_M117 q117_0 = true := by decide +kernel
theorem e117_0_r : am_dec am_M117 [(13, .ireturn, 1)] = true := by decide +kernel
theorem b117_0 {d : Nat} {Q : Option Value ⊕ Nat → am_Mem → Prop} {μ : am_Mem} {r0 : Nat} {x1 x2 : Int32}
    (h1 : am_kd μ r0 = (1, 10))
    (h2 : ¬ am_F μ r0 0 = 15)
    (h3 : am_kd μ r0 = (1, 10))
    (h4 : ¬ am_F μ r0 1 = 15)
    (h5 : (am_kd μ (am_F μ r0 1)).1 = 2 ∨ (am_kd μ (am_F μ r0 1)).1 = 8)
    (h6 : ¬ (x1 < 0 ∨ (am_kd μ (am_F μ r0 1)).2 ≤ x1.toNatClampNeg))
    (h7 : (am_kd μ (am_F μ r0 0)).1 = 2 ∨ (am_kd μ (am_F μ r0 0)).1 = 8)
    (h8 : ¬ (((am_A μ (am_F μ r0 1) x1.toNatClampNeg) + x2) < 0 ∨ (am_kd μ (am_F μ r0 0)).2 ≤ ((am_A μ (am_F μ r0 1) x1.toNatClampNeg) + x2).toNatClampNeg))
    (k : Q (.inl (some (.int (am_A μ (am_F μ r0 0) ((am_A μ (am_F μ r0 1) x1.toNatClampNeg) + x2).toNatClampNeg)))) μ) :
    Wp d 117 (0, [some (.ref r0), some (.int x1), some (.int x2)], [], μ) Q := wp_blk rfl e117_0 (And.intro h1 (And.intro h2 (And.intro h3 (And.intro h4 (And.intro h5 (And.intro h6 (And.intro h7 (And.intro h8 (wp_ri (ty := .int) rfl e117_0_r rfl ⟨rfl, rfl⟩ k)))))))))
