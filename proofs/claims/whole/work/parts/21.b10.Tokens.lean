/-! ===== printed: the blocks of Tokens ===== -/
/-! RuleSheets$Tokens.<init>([C)V -/
def q103_0 : List (Nat × Instr × Nat) := [(0, .aload_n 0, 1), (1, .invokespecial 3, 3), (4, .aload_n 0, 1), (5, .sipush 2001, 3), (8, .newarray .int, 2), (10, .putfield 9, 3)]
theorem e103_0 : am_dec am_M103 q103_0 = true := by decide +kernel
theorem b103_0 {d : Nat} {Q : Option Value ⊕ Nat → am_Mem → Prop} {μ : am_Mem} {r0 r1 : Nat}
    (h1 : am_kd (am_nA μ 2 ((Int16.ofInt 2001).toInt32).toNatClampNeg) r0 = (1, 9))
    (h2 : ¬ (am_n μ) = 15)
    (k : Wp d 103 (13, [some (.ref r0), some (.ref r1)], [], (am_pR (am_nA μ 2 ((Int16.ofInt 2001).toInt32).toNatClampNeg) r0 0 (am_n μ))) Q) :
    Wp d 103 (0, [some (.ref r0), some (.ref r1)], [], μ) Q := wp_blk rfl e103_0 (And.intro (by decide) (And.intro h1 (And.intro h2 k)))
def q103_13 : List (Nat × Instr × Nat) := [(13, .aload_n 0, 1), (14, .sipush 2001, 3), (17, .newarray .int, 2), (19, .putfield 15, 3)]
theorem e103_13 : am_dec am_M103 q103_13 = true := by decide +kernel
theorem b103_13 {d : Nat} {Q : Option Value ⊕ Nat → am_Mem → Prop} {μ : am_Mem} {r0 r1 : Nat}
    (h1 : am_kd (am_nA μ 2 ((Int16.ofInt 2001).toInt32).toNatClampNeg) r0 = (1, 9))
    (h2 : ¬ (am_n μ) = 15)
    (k : Wp d 103 (22, [some (.ref r0), some (.ref r1)], [], (am_pR (am_nA μ 2 ((Int16.ofInt 2001).toInt32).toNatClampNeg) r0 1 (am_n μ))) Q) :
    Wp d 103 (13, [some (.ref r0), some (.ref r1)], [], μ) Q := wp_blk rfl e103_13 (And.intro (by decide) (And.intro h1 (And.intro h2 k)))
def q103_22 : List (Nat × Instr × Nat) := [(22, .aload_n 0, 1), (23, .sipush 2001, 3), (26, .newarray .int, 2), (28, .putfield 18, 3)]
theorem e103_22 : am_dec am_M103 q103_22 = true := by decide +kernel
theorem b103_22 {d : Nat} {Q : Option Value ⊕ Nat → am_Mem → Prop} {μ : am_Mem} {r0 r1 : Nat}
    (h1 : am_kd (am_nA μ 2 ((Int16.ofInt 2001).toInt32).toNatClampNeg) r0 = (1, 9))
    (h2 : ¬ (am_n μ) = 15)
    (k : Wp d 103 (31, [some (.ref r0), some (.ref r1)], [], (am_pR (am_nA μ 2 ((Int16.ofInt 2001).toInt32).toNatClampNeg) r0 2 (am_n μ))) Q) :
    Wp d 103 (22, [some (.ref r0), some (.ref r1)], [], μ) Q := wp_blk rfl e103_22 (And.intro (by decide) (And.intro h1 (And.intro h2 k)))
def q103_31 : List (Nat × Instr × Nat) := [(31, .aload_n 0, 1), (32, .iconst 0, 1), (33, .putfield 21, 3), (36, .aload_n 0, 1), (37, .iconst 0, 1), (38, .putfield 25, 3), (41, .aload_n 0, 1), (42, .aload_n 1, 1), (43, .putfield 28, 3)]
theorem e103_31 : am_dec am_M103 q103_31 = true := by decide +kernel
theorem b103_31 {d : Nat} {Q : Option Value ⊕ Nat → am_Mem → Prop} {μ : am_Mem} {r0 r1 : Nat}
    (h1 : am_kd μ r0 = (1, 9))
    (h2 : am_kd (am_pA μ r0 3 (Int32.ofInt 0)) r0 = (1, 9))
    (h3 : am_kd (am_pA (am_pA μ r0 3 (Int32.ofInt 0)) r0 5 (Int32.ofInt 0)) r0 = (1, 9))
    (h4 : ¬ r1 = 15)
    (k : Wp d 103 (46, [some (.ref r0), some (.ref r1)], [], (am_pR (am_pA (am_pA μ r0 3 (Int32.ofInt 0)) r0 5 (Int32.ofInt 0)) r0 4 r1)) Q) :
    Wp d 103 (31, [some (.ref r0), some (.ref r1)], [], μ) Q := wp_blk rfl e103_31 (And.intro h1 (And.intro ⟨rfl, rfl⟩ (And.intro h2 (And.intro ⟨rfl, rfl⟩ (And.intro h3 (And.intro h4 k))))))
theorem e103_46_r : am_dec am_M103 [(46, .return_, 1)] = true := by decide +kernel
theorem b103_46 {d : Nat} {Q : Option Value ⊕ Nat → am_Mem → Prop} {μ : am_Mem} {r0 r1 : Nat}
    (k : Q (.inl none) μ) :
    Wp d 103 (46, [some (.ref r0), some (.ref r1)], [], μ) Q := (wp_rv rfl e103_46_r rfl k)
/-! RuleSheets$Tokens.split(ILRuleSheets$Names;)V -/
def q104_0 : List (Nat × Instr × Nat) := [(0, .aload_n 0, 1), (1, .iload_n 1, 1), (2, .putfield 25, 3), (5, .aload_n 0, 1), (6, .iconst 0, 1), (7, .putfield 21, 3), (10, .aload_n 0, 1), (11, .iconst 0, 1)]
theorem e104_0 : am_dec am_M104 q104_0 = true := by decide +kernel
theorem e104_0_c : am_dc1 am_M104 12 (.invokevirtual 32) 3 = true := by decide +kernel
theorem b104_0 {d : Nat} {Q : Option Value ⊕ Nat → am_Mem → Prop} {μ : am_Mem} {r0 r2 : Nat} {x1 : Int32} {P : Int32 → am_Mem → Prop} {X : Nat → am_Mem → Prop}
    (h1 : am_kd μ r0 = (1, 9))
    (h2 : am_kd (am_pA μ r0 5 x1) r0 = (1, 9))
    (hk : am_kd (am_pA (am_pA μ r0 5 x1) r0 3 (Int32.ofInt 0)) r0 = (1, 9))
    (hc : Wp d 105 (0, [some (.ref r0), some (.int (Int32.ofInt 0)), none, none, none], [], (am_pA (am_pA μ r0 5 x1) r0 3 (Int32.ofInt 0))) (pI P X)) (hr : ∀ x μ', P x μ' → Wp (d + 1) 104 (15, [some (.ref r0), some (.int x1), some (.ref r2), none, none, none], [.int x], (μ')) Q)
    (hx : ∀ x μ', X x μ' → Q (.inr x) μ') :
    Wp (d + 1) 104 (0, [some (.ref r0), some (.int x1), some (.ref r2), none, none, none], [], μ) Q := wp_blk rfl e104_0 (And.intro h1 (And.intro ⟨rfl, rfl⟩ (And.intro h2 (And.intro ⟨rfl, rfl⟩ (wp_cv (as := [.int (Int32.ofInt 0)]) rfl e104_0_c rfl rfl rfl rfl rfl hk hc (fun v μ' hv => by obtain ⟨x, rfl, hp⟩ := pI_r hv; exact hr x μ' hp) hx)))))
def q104_15 : List (Nat × Instr × Nat) := [(15, .istore_n 3, 1), (16, .iconst 0, 1), (17, .istore 4, 2)]
theorem e104_15 : am_dec am_M104 q104_15 = true := by decide +kernel
theorem b104_15 {d : Nat} {Q : Option Value ⊕ Nat → am_Mem → Prop} {μ : am_Mem} {r0 r2 : Nat} {x1 s0 : Int32}
    (k : Wp d 104 (19, [some (.ref r0), some (.int x1), some (.ref r2), some (.int s0), some (.int (Int32.ofInt 0)), none], [], μ) Q) :
    Wp d 104 (15, [some (.ref r0), some (.int x1), some (.ref r2), none, none, none], [.int s0], μ) Q := wp_blk rfl e104_15 k
def q104_19 : List (Nat × Instr × Nat) := [(19, .iload 4, 2), (21, .iload_n 1, 1), (22, .if_icmp .ge 43, 3)]
theorem e104_19 : am_dec am_M104 q104_19 = true := by decide +kernel
theorem b104_19 {d : Nat} {Q : Option Value ⊕ Nat → am_Mem → Prop} {μ : am_Mem} {r0 r2 : Nat} {x1 x3 x4 : Int32} {o5 : Option Value}
    (k1 : x1 ≤ x4 → Wp d 104 (65, [some (.ref r0), some (.int x1), some (.ref r2), some (.int x3), some (.int x4), o5], [], μ) Q) (k2 : ¬ (x1 ≤ x4) → Wp d 104 (25, [some (.ref r0), some (.int x1), some (.ref r2), some (.int x3), some (.int x4), o5], [], μ) Q) :
    Wp d 104 (19, [some (.ref r0), some (.int x1), some (.ref r2), some (.int x3), some (.int x4), o5], [], μ) Q := wp_blk rfl e104_19 (And.intro k1 k2)
def q104_25 : List (Nat × Instr × Nat) := [(25, .iload_n 3, 1), (26, .iload_n 1, 1), (27, .if_icmp .ge 38, 3)]
theorem e104_25 : am_dec am_M104 q104_25 = true := by decide +kernel
theorem b104_25 {d : Nat} {Q : Option Value ⊕ Nat → am_Mem → Prop} {μ : am_Mem} {r0 r2 : Nat} {x1 x3 x4 : Int32} {o5 : Option Value}
    (k1 : x1 ≤ x3 → Wp d 104 (65, [some (.ref r0), some (.int x1), some (.ref r2), some (.int x3), some (.int x4), o5], [], μ) Q) (k2 : ¬ (x1 ≤ x3) → Wp d 104 (30, [some (.ref r0), some (.int x1), some (.ref r2), some (.int x3), some (.int x4), o5], [], μ) Q) :
    Wp d 104 (25, [some (.ref r0), some (.int x1), some (.ref r2), some (.int x3), some (.int x4), o5], [], μ) Q := wp_blk rfl e104_25 (And.intro k1 k2)
def q104_30 : List (Nat × Instr × Nat) := [(30, .aload_n 0, 1), (31, .iload_n 3, 1), (32, .aload_n 2, 1)]
theorem e104_30 : am_dec am_M104 q104_30 = true := by decide +kernel
theorem e104_30_c : am_dc1 am_M104 33 (.invokevirtual 36) 3 = true := by decide +kernel
theorem b104_30 {d : Nat} {Q : Option Value ⊕ Nat → am_Mem → Prop} {μ : am_Mem} {r0 r2 : Nat} {x1 x3 x4 : Int32} {o5 : Option Value} {P : Int32 → am_Mem → Prop} {X : Nat → am_Mem → Prop}
    (hk : am_kd μ r0 = (1, 9))
    (hc : Wp d 106 (0, [some (.ref r0), some (.int x3), some (.ref r2), none, none, none], [], μ) (pI P X)) (hr : ∀ x μ', P x μ' → Wp (d + 1) 104 (36, [some (.ref r0), some (.int x1), some (.ref r2), some (.int x3), some (.int x4), o5], [.int x], (μ')) Q)
    (hx : ∀ x μ', X x μ' → Q (.inr x) μ') :
    Wp (d + 1) 104 (30, [some (.ref r0), some (.int x1), some (.ref r2), some (.int x3), some (.int x4), o5], [], μ) Q := wp_blk rfl e104_30 (wp_cv (as := [.int x3, .ref r2]) rfl e104_30_c rfl rfl rfl rfl rfl hk hc (fun v μ' hv => by obtain ⟨x, rfl, hp⟩ := pI_r hv; exact hr x μ' hp) hx)
def q104_36 : List (Nat × Instr × Nat) := [(36, .istore 5, 2), (38, .iload 5, 2), (40, .iconst (-1), 1), (41, .if_icmp .ne 11, 3)]
theorem e104_36 : am_dec am_M104 q104_36 = true := by decide +kernel
theorem b104_36 {d : Nat} {Q : Option Value ⊕ Nat → am_Mem → Prop} {μ : am_Mem} {r0 r2 : Nat} {x1 x3 x4 s0 : Int32} {o5 : Option Value}
    (k1 : ¬ s0 = (Int32.ofInt (-1)) → Wp d 104 (52, [some (.ref r0), some (.int x1), some (.ref r2), some (.int x3), some (.int x4), some (.int s0)], [], μ) Q) (k2 : ¬ (¬ s0 = (Int32.ofInt (-1))) → Wp d 104 (44, [some (.ref r0), some (.int x1), some (.ref r2), some (.int x3), some (.int x4), some (.int s0)], [], μ) Q) :
    Wp d 104 (36, [some (.ref r0), some (.int x1), some (.ref r2), some (.int x3), some (.int x4), o5], [.int s0], μ) Q := wp_blk rfl e104_36 (And.intro k1 k2)
def q104_44 : List (Nat × Instr × Nat) := [(44, .aload_n 0, 1), (45, .bipush 6, 2), (47, .iload_n 3, 1)]
theorem e104_44 : am_dec am_M104 q104_44 = true := by decide +kernel
theorem e104_44_c : am_dc1 am_M104 48 (.invokevirtual 40) 3 = true := by decide +kernel
theorem b104_44 {d : Nat} {Q : Option Value ⊕ Nat → am_Mem → Prop} {μ : am_Mem} {r0 r2 : Nat} {x1 x3 x4 x5 : Int32} {P : am_Mem → Prop} {X : Nat → am_Mem → Prop}
    (hk : am_kd μ r0 = (1, 9))
    (hc : Wp d 107 (0, [some (.ref r0), some (.int ((Int8.ofInt 6).toInt32)), some (.int x3)], [], μ) (pV P X)) (hr : ∀ μ', P μ' → Wp (d + 1) 104 (51, [some (.ref r0), some (.int x1), some (.ref r2), some (.int x3), some (.int x4), some (.int x5)], [], (μ')) Q)
    (hx : ∀ x μ', X x μ' → Q (.inr x) μ') :
    Wp (d + 1) 104 (44, [some (.ref r0), some (.int x1), some (.ref r2), some (.int x3), some (.int x4), some (.int x5)], [], μ) Q := wp_blk rfl e104_44 (wp_cv (as := [.int ((Int8.ofInt 6).toInt32), .int x3]) rfl e104_44_c rfl rfl rfl rfl rfl hk hc (fun v μ' hv => by obtain ⟨rfl, hp⟩ := pV_r hv; exact hr μ' hp) hx)
theorem e104_51_r : am_dec am_M104 [(51, .return_, 1)] = true := by decide +kernel
theorem b104_51 {d : Nat} {Q : Option Value ⊕ Nat → am_Mem → Prop} {μ : am_Mem} {r0 r2 : Nat} {x1 x3 x4 x5 : Int32}
    (k : Q (.inl none) μ) :
    Wp d 104 (51, [some (.ref r0), some (.int x1), some (.ref r2), some (.int x3), some (.int x4), some (.int x5)], [], μ) Q := (wp_rv rfl e104_51_r rfl k)
def q104_52 : List (Nat × Instr × Nat) := [(52, .aload_n 0, 1), (53, .iload 5, 2)]
theorem e104_52 : am_dec am_M104 q104_52 = true := by decide +kernel
theorem e104_52_c : am_dc1 am_M104 55 (.invokevirtual 32) 3 = true := by decide +kernel
theorem b104_52 {d : Nat} {Q : Option Value ⊕ Nat → am_Mem → Prop} {μ : am_Mem} {r0 r2 : Nat} {x1 x3 x4 x5 : Int32} {P : Int32 → am_Mem → Prop} {X : Nat → am_Mem → Prop}
    (hk : am_kd μ r0 = (1, 9))
    (hc : Wp d 105 (0, [some (.ref r0), some (.int x5), none, none, none], [], μ) (pI P X)) (hr : ∀ x μ', P x μ' → Wp (d + 1) 104 (58, [some (.ref r0), some (.int x1), some (.ref r2), some (.int x3), some (.int x4), some (.int x5)], [.int x], (μ')) Q)
    (hx : ∀ x μ', X x μ' → Q (.inr x) μ') :
    Wp (d + 1) 104 (52, [some (.ref r0), some (.int x1), some (.ref r2), some (.int x3), some (.int x4), some (.int x5)], [], μ) Q := wp_blk rfl e104_52 (wp_cv (as := [.int x5]) rfl e104_52_c rfl rfl rfl rfl rfl hk hc (fun v μ' hv => by obtain ⟨x, rfl, hp⟩ := pI_r hv; exact hr x μ' hp) hx)
def q104_58 : List (Nat × Instr × Nat) := [(58, .istore_n 3, 1), (59, .iinc 4 1, 3), (62, .goto (-43), 3)]
theorem e104_58 : am_dec am_M104 q104_58 = true := by decide +kernel
theorem b104_58 {d : Nat} {Q : Option Value ⊕ Nat → am_Mem → Prop} {μ : am_Mem} {r0 r2 : Nat} {x1 x3 x4 x5 s0 : Int32}
    (k : Wp d 104 (19, [some (.ref r0), some (.int x1), some (.ref r2), some (.int s0), some (.int (x4 + Int32.ofInt 1)), some (.int x5)], [], μ) Q) :
    Wp d 104 (58, [some (.ref r0), some (.int x1), some (.ref r2), some (.int x3), some (.int x4), some (.int x5)], [.int s0], μ) Q := wp_blk rfl e104_58 k
def q104_65 : List (Nat × Instr × Nat) := [(65, .aload_n 0, 1), (66, .iconst 5, 1), (67, .iload_n 1, 1)]
theorem e104_65 : am_dec am_M104 q104_65 = true := by decide +kernel
theorem e104_65_c : am_dc1 am_M104 68 (.invokevirtual 40) 3 = true := by decide +kernel
theorem b104_65 {d : Nat} {Q : Option Value ⊕ Nat → am_Mem → Prop} {μ : am_Mem} {r0 r2 : Nat} {x1 x3 x4 : Int32} {o5 : Option Value} {P : am_Mem → Prop} {X : Nat → am_Mem → Prop}
    (hk : am_kd μ r0 = (1, 9))
    (hc : Wp d 107 (0, [some (.ref r0), some (.int (Int32.ofInt 5)), some (.int x1)], [], μ) (pV P X)) (hr : ∀ μ', P μ' → Wp (d + 1) 104 (71, [some (.ref r0), some (.int x1), some (.ref r2), some (.int x3), some (.int x4), o5], [], (μ')) Q)
    (hx : ∀ x μ', X x μ' → Q (.inr x) μ') :
    Wp (d + 1) 104 (65, [some (.ref r0), some (.int x1), some (.ref r2), some (.int x3), some (.int x4), o5], [], μ) Q := wp_blk rfl e104_65 (wp_cv (as := [.int (Int32.ofInt 5), .int x1]) rfl e104_65_c rfl rfl rfl rfl rfl hk hc (fun v μ' hv => by obtain ⟨rfl, hp⟩ := pV_r hv; exact hr μ' hp) hx)
theorem e104_71_r : am_dec am_M104 [(71, .return_, 1)] = true := by decide +kernel
theorem b104_71 {d : Nat} {Q : Option Value ⊕ Nat → am_Mem → Prop} {μ : am_Mem} {r0 r2 : Nat} {x1 x3 x4 : Int32} {o5 : Option Value}
    (k : Q (.inl none) μ) :
    Wp d 104 (71, [some (.ref r0), some (.int x1), some (.ref r2), some (.int x3), some (.int x4), o5], [], μ) Q := (wp_rv rfl e104_71_r rfl k)
/-! RuleSheets$Tokens.skip(I)I -/
def q105_0 : List (Nat × Instr × Nat) := [(0, .iconst 0, 1), (1, .istore_n 2, 1), (2, .iload_n 1, 1), (3, .istore_n 3, 1)]
theorem e105_0 : am_dec am_M105 q105_0 = true := by decide +kernel
theorem b105_0 {d : Nat} {Q : Option Value ⊕ Nat → am_Mem → Prop} {μ : am_Mem} {r0 : Nat} {x1 : Int32}
    (k : Wp d 105 (4, [some (.ref r0), some (.int x1), some (.int (Int32.ofInt 0)), some (.int x1), none], [], μ) Q) :
    Wp d 105 (0, [some (.ref r0), some (.int x1), none, none, none], [], μ) Q := wp_blk rfl e105_0 k
def q105_4 : List (Nat × Instr × Nat) := [(4, .iload_n 3, 1), (5, .aload_n 0, 1), (6, .getfield 25, 3), (9, .if_icmp .ge 54, 3)]
theorem e105_4 : am_dec am_M105 q105_4 = true := by decide +kernel
theorem b105_4 {d : Nat} {Q : Option Value ⊕ Nat → am_Mem → Prop} {μ : am_Mem} {r0 : Nat} {x1 x2 x3 : Int32} {o4 : Option Value}
    (h1 : am_kd μ r0 = (1, 9))
    (k1 : (am_A μ r0 5) ≤ x3 → Wp d 105 (63, [some (.ref r0), some (.int x1), some (.int x2), some (.int x3), o4], [], μ) Q) (k2 : ¬ ((am_A μ r0 5) ≤ x3) → Wp d 105 (12, [some (.ref r0), some (.int x1), some (.int x2), some (.int x3), o4], [], μ) Q) :
    Wp d 105 (4, [some (.ref r0), some (.int x1), some (.int x2), some (.int x3), o4], [], μ) Q := wp_blk rfl e105_4 (And.intro h1 (And.intro k1 k2))
def q105_12 : List (Nat × Instr × Nat) := [(12, .aload_n 0, 1), (13, .getfield 28, 3), (16, .iload_n 3, 1), (17, .caload, 1), (18, .istore 4, 2), (20, .iload 4, 2), (22, .bipush 10, 2), (24, .if_icmp .ne 8, 3)]
theorem e105_12 : am_dec am_M105 q105_12 = true := by decide +kernel
theorem b105_12 {d : Nat} {Q : Option Value ⊕ Nat → am_Mem → Prop} {μ : am_Mem} {r0 : Nat} {x1 x2 x3 : Int32} {o4 : Option Value}
    (h1 : am_kd μ r0 = (1, 9))
    (h2 : ¬ am_F μ r0 4 = 15)
    (h3 : (am_kd μ (am_F μ r0 4)).1 = 5)
    (h4 : ¬ (x3 < 0 ∨ (am_kd μ (am_F μ r0 4)).2 ≤ x3.toNatClampNeg))
    (k1 : ¬ (am_A μ (am_F μ r0 4) x3.toNatClampNeg) = ((Int8.ofInt 10).toInt32) → Wp d 105 (32, [some (.ref r0), some (.int x1), some (.int x2), some (.int x3), some (.int (am_A μ (am_F μ r0 4) x3.toNatClampNeg))], [], μ) Q) (k2 : ¬ (¬ (am_A μ (am_F μ r0 4) x3.toNatClampNeg) = ((Int8.ofInt 10).toInt32)) → Wp d 105 (27, [some (.ref r0), some (.int x1), some (.int x2), some (.int x3), some (.int (am_A μ (am_F μ r0 4) x3.toNatClampNeg))], [], μ) Q) :
    Wp d 105 (12, [some (.ref r0), some (.int x1), some (.int x2), some (.int x3), o4], [], μ) Q := wp_blk rfl e105_12 (And.intro h1 (And.intro h2 (And.intro h3 (And.intro h4 (And.intro k1 k2)))))
def q105_27 : List (Nat × Instr × Nat) := [(27, .iconst 0, 1), (28, .istore_n 2, 1), (29, .goto 28, 3)]
theorem e105_27 : am_dec am_M105 q105_27 = true := by decide +kernel
theorem b105_27 {d : Nat} {Q : Option Value ⊕ Nat → am_Mem → Prop} {μ : am_Mem} {r0 : Nat} {x1 x2 x3 x4 : Int32}
    (k : Wp d 105 (57, [some (.ref r0), some (.int x1), some (.int (Int32.ofInt 0)), some (.int x3), some (.int x4)], [], μ) Q) :
    Wp d 105 (27, [some (.ref r0), some (.int x1), some (.int x2), some (.int x3), some (.int x4)], [], μ) Q := wp_blk rfl e105_27 k
def q105_32 : List (Nat × Instr × Nat) := [(32, .iload 4, 2), (34, .bipush 59, 2), (36, .if_icmp .ne 8, 3)]
theorem e105_32 : am_dec am_M105 q105_32 = true := by decide +kernel
theorem b105_32 {d : Nat} {Q : Option Value ⊕ Nat → am_Mem → Prop} {μ : am_Mem} {r0 : Nat} {x1 x2 x3 x4 : Int32}
    (k1 : ¬ x4 = ((Int8.ofInt 59).toInt32) → Wp d 105 (44, [some (.ref r0), some (.int x1), some (.int x2), some (.int x3), some (.int x4)], [], μ) Q) (k2 : ¬ (¬ x4 = ((Int8.ofInt 59).toInt32)) → Wp d 105 (39, [some (.ref r0), some (.int x1), some (.int x2), some (.int x3), some (.int x4)], [], μ) Q) :
    Wp d 105 (32, [some (.ref r0), some (.int x1), some (.int x2), some (.int x3), some (.int x4)], [], μ) Q := wp_blk rfl e105_32 (And.intro k1 k2)
def q105_39 : List (Nat × Instr × Nat) := [(39, .iconst 1, 1), (40, .istore_n 2, 1), (41, .goto 16, 3)]
theorem e105_39 : am_dec am_M105 q105_39 = true := by decide +kernel
theorem b105_39 {d : Nat} {Q : Option Value ⊕ Nat → am_Mem → Prop} {μ : am_Mem} {r0 : Nat} {x1 x2 x3 x4 : Int32}
    (k : Wp d 105 (57, [some (.ref r0), some (.int x1), some (.int (Int32.ofInt 1)), some (.int x3), some (.int x4)], [], μ) Q) :
    Wp d 105 (39, [some (.ref r0), some (.int x1), some (.int x2), some (.int x3), some (.int x4)], [], μ) Q := wp_blk rfl e105_39 k
def q105_44 : List (Nat × Instr × Nat) := [(44, .iload_n 2, 1), (45, .ifCond .ne 12, 3)]
theorem e105_44 : am_dec am_M105 q105_44 = true := by decide +kernel
theorem b105_44 {d : Nat} {Q : Option Value ⊕ Nat → am_Mem → Prop} {μ : am_Mem} {r0 : Nat} {x1 x2 x3 x4 : Int32}
    (k1 : ¬ x2 = 0 → Wp d 105 (57, [some (.ref r0), some (.int x1), some (.int x2), some (.int x3), some (.int x4)], [], μ) Q) (k2 : ¬ (¬ x2 = 0) → Wp d 105 (48, [some (.ref r0), some (.int x1), some (.int x2), some (.int x3), some (.int x4)], [], μ) Q) :
    Wp d 105 (44, [some (.ref r0), some (.int x1), some (.int x2), some (.int x3), some (.int x4)], [], μ) Q := wp_blk rfl e105_44 (And.intro k1 k2)
def q105_48 : List (Nat × Instr × Nat) := [(48, .iload 4, 2), (50, .bipush 32, 2), (52, .if_icmp .eq 5, 3)]
theorem e105_48 : am_dec am_M105 q105_48 = true := by decide +kernel
theorem b105_48 {d : Nat} {Q : Option Value ⊕ Nat → am_Mem → Prop} {μ : am_Mem} {r0 : Nat} {x1 x2 x3 x4 : Int32}
    (k1 : x4 = ((Int8.ofInt 32).toInt32) → Wp d 105 (57, [some (.ref r0), some (.int x1), some (.int x2), some (.int x3), some (.int x4)], [], μ) Q) (k2 : ¬ (x4 = ((Int8.ofInt 32).toInt32)) → Wp d 105 (55, [some (.ref r0), some (.int x1), some (.int x2), some (.int x3), some (.int x4)], [], μ) Q) :
    Wp d 105 (48, [some (.ref r0), some (.int x1), some (.int x2), some (.int x3), some (.int x4)], [], μ) Q := wp_blk rfl e105_48 (And.intro k1 k2)
def q105_55 : List (Nat × Instr × Nat) := [(55, .iload_n 3, 1)]
theorem e105_55 : am_dec am_M105 q105_55 = true := by decide +kernel
theorem e105_55_r : am_dec am_M105 [(56, .ireturn, 1)] = true := by decide +kernel
theorem b105_55 {d : Nat} {Q : Option Value ⊕ Nat → am_Mem → Prop} {μ : am_Mem} {r0 : Nat} {x1 x2 x3 x4 : Int32}
    (k : Q (.inl (some (.int x3))) μ) :
    Wp d 105 (55, [some (.ref r0), some (.int x1), some (.int x2), some (.int x3), some (.int x4)], [], μ) Q := wp_blk rfl e105_55 (wp_ri (ty := .int) rfl e105_55_r rfl ⟨rfl, rfl⟩ k)
def q105_57 : List (Nat × Instr × Nat) := [(57, .iinc 3 1, 3), (60, .goto (-56), 3)]
theorem e105_57 : am_dec am_M105 q105_57 = true := by decide +kernel
theorem b105_57 {d : Nat} {Q : Option Value ⊕ Nat → am_Mem → Prop} {μ : am_Mem} {r0 : Nat} {x1 x2 x3 x4 : Int32}
    (k : Wp d 105 (4, [some (.ref r0), some (.int x1), some (.int x2), some (.int (x3 + Int32.ofInt 1)), some (.int x4)], [], μ) Q) :
    Wp d 105 (57, [some (.ref r0), some (.int x1), some (.int x2), some (.int x3), some (.int x4)], [], μ) Q := wp_blk rfl e105_57 k
def q105_63 : List (Nat × Instr × Nat) := [(63, .aload_n 0, 1), (64, .getfield 25, 3)]
theorem e105_63 : am_dec am_M105 q105_63 = true := by decide +kernel
theorem e105_63_r : am_dec am_M105 [(67, .ireturn, 1)] = true := by decide +kernel
theorem b105_63 {d : Nat} {Q : Option Value ⊕ Nat → am_Mem → Prop} {μ : am_Mem} {r0 : Nat} {x1 x2 x3 : Int32} {o4 : Option Value}
    (h1 : am_kd μ r0 = (1, 9))
    (k : Q (.inl (some (.int (am_A μ r0 5)))) μ) :
    Wp d 105 (63, [some (.ref r0), some (.int x1), some (.int x2), some (.int x3), o4], [], μ) Q := wp_blk rfl e105_63 (And.intro h1 (wp_ri (ty := .int) rfl e105_63_r rfl ⟨rfl, rfl⟩ k))
/-! RuleSheets$Tokens.take(ILRuleSheets$Names;)I -/
def q106_0 : List (Nat × Instr × Nat) := [(0, .aload_n 0, 1), (1, .getfield 28, 3), (4, .iload_n 1, 1), (5, .caload, 1), (6, .istore_n 3, 1), (7, .iload_n 3, 1), (8, .bipush 40, 2), (10, .if_icmp .eq 9, 3)]
theorem e106_0 : am_dec am_M106 q106_0 = true := by decide +kernel
theorem b106_0 {d : Nat} {Q : Option Value ⊕ Nat → am_Mem → Prop} {μ : am_Mem} {r0 r2 : Nat} {x1 : Int32}
    (h1 : am_kd μ r0 = (1, 9))
    (h2 : ¬ am_F μ r0 4 = 15)
    (h3 : (am_kd μ (am_F μ r0 4)).1 = 5)
    (h4 : ¬ (x1 < 0 ∨ (am_kd μ (am_F μ r0 4)).2 ≤ x1.toNatClampNeg))
    (k1 : (am_A μ (am_F μ r0 4) x1.toNatClampNeg) = ((Int8.ofInt 40).toInt32) → Wp d 106 (19, [some (.ref r0), some (.int x1), some (.ref r2), some (.int (am_A μ (am_F μ r0 4) x1.toNatClampNeg)), none, none], [], μ) Q) (k2 : ¬ ((am_A μ (am_F μ r0 4) x1.toNatClampNeg) = ((Int8.ofInt 40).toInt32)) → Wp d 106 (13, [some (.ref r0), some (.int x1), some (.ref r2), some (.int (am_A μ (am_F μ r0 4) x1.toNatClampNeg)), none, none], [], μ) Q) :
    Wp d 106 (0, [some (.ref r0), some (.int x1), some (.ref r2), none, none, none], [], μ) Q := wp_blk rfl e106_0 (And.intro h1 (And.intro h2 (And.intro h3 (And.intro h4 (And.intro k1 k2)))))
def q106_13 : List (Nat × Instr × Nat) := [(13, .iload_n 3, 1), (14, .bipush 41, 2), (16, .if_icmp .ne 23, 3)]
theorem e106_13 : am_dec am_M106 q106_13 = true := by decide +kernel
theorem b106_13 {d : Nat} {Q : Option Value ⊕ Nat → am_Mem → Prop} {μ : am_Mem} {r0 r2 : Nat} {x1 x3 : Int32}
    (k1 : ¬ x3 = ((Int8.ofInt 41).toInt32) → Wp d 106 (39, [some (.ref r0), some (.int x1), some (.ref r2), some (.int x3), none, none], [], μ) Q) (k2 : ¬ (¬ x3 = ((Int8.ofInt 41).toInt32)) → Wp d 106 (19, [some (.ref r0), some (.int x1), some (.ref r2), some (.int x3), none, none], [], μ) Q) :
    Wp d 106 (13, [some (.ref r0), some (.int x1), some (.ref r2), some (.int x3), none, none], [], μ) Q := wp_blk rfl e106_13 (And.intro k1 k2)
def q106_19 : List (Nat × Instr × Nat) := [(19, .aload_n 0, 1), (20, .iload_n 3, 1), (21, .bipush 40, 2), (23, .if_icmp .ne 7, 3)]
theorem e106_19 : am_dec am_M106 q106_19 = true := by decide +kernel
theorem b106_19 {d : Nat} {Q : Option Value ⊕ Nat → am_Mem → Prop} {μ : am_Mem} {r0 r2 : Nat} {x1 x3 : Int32}
    (k1 : ¬ x3 = ((Int8.ofInt 40).toInt32) → Wp d 106 (30, [some (.ref r0), some (.int x1), some (.ref r2), some (.int x3), none, none], [.ref r0], μ) Q) (k2 : ¬ (¬ x3 = ((Int8.ofInt 40).toInt32)) → Wp d 106 (26, [some (.ref r0), some (.int x1), some (.ref r2), some (.int x3), none, none], [.ref r0], μ) Q) :
    Wp d 106 (19, [some (.ref r0), some (.int x1), some (.ref r2), some (.int x3), none, none], [], μ) Q := wp_blk rfl e106_19 (And.intro k1 k2)
def q106_26 : List (Nat × Instr × Nat) := [(26, .iconst 0, 1), (27, .goto 4, 3)]
theorem e106_26 : am_dec am_M106 q106_26 = true := by decide +kernel
theorem b106_26 {d : Nat} {Q : Option Value ⊕ Nat → am_Mem → Prop} {μ : am_Mem} {r0 r2 r90 : Nat} {x1 x3 : Int32}
    (k : Wp d 106 (31, [some (.ref r0), some (.int x1), some (.ref r2), some (.int x3), none, none], [.int (Int32.ofInt 0), .ref r90], μ) Q) :
    Wp d 106 (26, [some (.ref r0), some (.int x1), some (.ref r2), some (.int x3), none, none], [.ref r90], μ) Q := wp_blk rfl e106_26 k
def q106_30 : List (Nat × Instr × Nat) := [(30, .iconst 1, 1)]
theorem e106_30 : am_dec am_M106 q106_30 = true := by decide +kernel
theorem b106_30 {d : Nat} {Q : Option Value ⊕ Nat → am_Mem → Prop} {μ : am_Mem} {r0 r2 r90 : Nat} {x1 x3 : Int32}
    (k : Wp d 106 (31, [some (.ref r0), some (.int x1), some (.ref r2), some (.int x3), none, none], [.int (Int32.ofInt 1), .ref r90], μ) Q) :
    Wp d 106 (30, [some (.ref r0), some (.int x1), some (.ref r2), some (.int x3), none, none], [.ref r90], μ) Q := wp_blk rfl e106_30 k
def q106_31 : List (Nat × Instr × Nat) := [(31, .iload_n 1, 1)]
theorem e106_31 : am_dec am_M106 q106_31 = true := by decide +kernel
theorem e106_31_c : am_dc1 am_M106 32 (.invokevirtual 40) 3 = true := by decide +kernel
theorem b106_31 {d : Nat} {Q : Option Value ⊕ Nat → am_Mem → Prop} {μ : am_Mem} {r0 r2 r90 : Nat} {x1 x3 s1 : Int32} {P : am_Mem → Prop} {X : Nat → am_Mem → Prop}
    (hk : am_kd μ r90 = (1, 9))
    (hc : Wp d 107 (0, [some (.ref r90), some (.int s1), some (.int x1)], [], μ) (pV P X)) (hr : ∀ μ', P μ' → Wp (d + 1) 106 (35, [some (.ref r0), some (.int x1), some (.ref r2), some (.int x3), none, none], [], (μ')) Q)
    (hx : ∀ x μ', X x μ' → Q (.inr x) μ') :
    Wp (d + 1) 106 (31, [some (.ref r0), some (.int x1), some (.ref r2), some (.int x3), none, none], [.int s1, .ref r90], μ) Q := wp_blk rfl e106_31 (wp_cv (as := [.int s1, .int x1]) rfl e106_31_c rfl rfl rfl rfl rfl hk hc (fun v μ' hv => by obtain ⟨rfl, hp⟩ := pV_r hv; exact hr μ' hp) hx)
def q106_35 : List (Nat × Instr × Nat) := [(35, .iload_n 1, 1), (36, .iconst 1, 1), (37, .iadd, 1)]
theorem e106_35 : am_dec am_M106 q106_35 = true := by decide +kernel
theorem e106_35_r : am_dec am_M106 [(38, .ireturn, 1)] = true := by decide +kernel
theorem b106_35 {d : Nat} {Q : Option Value ⊕ Nat → am_Mem → Prop} {μ : am_Mem} {r0 r2 : Nat} {x1 x3 : Int32}
    (k : Q (.inl (some (.int (x1 + (Int32.ofInt 1))))) μ) :
    Wp d 106 (35, [some (.ref r0), some (.int x1), some (.ref r2), some (.int x3), none, none], [], μ) Q := wp_blk rfl e106_35 (wp_ri (ty := .int) rfl e106_35_r rfl ⟨rfl, rfl⟩ k)
def q106_39 : List (Nat × Instr × Nat) := [(39, .iload_n 3, 1), (40, .bipush 60, 2), (42, .if_icmp .ne 38, 3)]
theorem e106_39 : am_dec am_M106 q106_39 = true := by decide +kernel
theorem b106_39 {d : Nat} {Q : Option Value ⊕ Nat → am_Mem → Prop} {μ : am_Mem} {r0 r2 : Nat} {x1 x3 : Int32}
    (k1 : ¬ x3 = ((Int8.ofInt 60).toInt32) → Wp d 106 (80, [some (.ref r0), some (.int x1), some (.ref r2), some (.int x3), none, none], [], μ) Q) (k2 : ¬ (¬ x3 = ((Int8.ofInt 60).toInt32)) → Wp d 106 (45, [some (.ref r0), some (.int x1), some (.ref r2), some (.int x3), none, none], [], μ) Q) :
    Wp d 106 (39, [some (.ref r0), some (.int x1), some (.ref r2), some (.int x3), none, none], [], μ) Q := wp_blk rfl e106_39 (And.intro k1 k2)
def q106_45 : List (Nat × Instr × Nat) := [(45, .iload_n 1, 1), (46, .iconst 1, 1), (47, .iadd, 1), (48, .aload_n 0, 1), (49, .getfield 25, 3), (52, .if_icmp .ge 16, 3)]
theorem e106_45 : am_dec am_M106 q106_45 = true := by decide +kernel
theorem b106_45 {d : Nat} {Q : Option Value ⊕ Nat → am_Mem → Prop} {μ : am_Mem} {r0 r2 : Nat} {x1 x3 : Int32}
    (h1 : am_kd μ r0 = (1, 9))
    (k1 : (am_A μ r0 5) ≤ (x1 + (Int32.ofInt 1)) → Wp d 106 (68, [some (.ref r0), some (.int x1), some (.ref r2), some (.int x3), none, none], [], μ) Q) (k2 : ¬ ((am_A μ r0 5) ≤ (x1 + (Int32.ofInt 1))) → Wp d 106 (55, [some (.ref r0), some (.int x1), some (.ref r2), some (.int x3), none, none], [], μ) Q) :
    Wp d 106 (45, [some (.ref r0), some (.int x1), some (.ref r2), some (.int x3), none, none], [], μ) Q := wp_blk rfl e106_45 (And.intro h1 (And.intro k1 k2))
def q106_55 : List (Nat × Instr × Nat) := [(55, .aload_n 0, 1), (56, .getfield 28, 3), (59, .iload_n 1, 1), (60, .iconst 1, 1), (61, .iadd, 1), (62, .caload, 1), (63, .bipush 61, 2), (65, .if_icmp .eq 5, 3)]
theorem e106_55 : am_dec am_M106 q106_55 = true := by decide +kernel
theorem b106_55 {d : Nat} {Q : Option Value ⊕ Nat → am_Mem → Prop} {μ : am_Mem} {r0 r2 : Nat} {x1 x3 : Int32}
    (h1 : am_kd μ r0 = (1, 9))
    (h2 : ¬ am_F μ r0 4 = 15)
    (h3 : (am_kd μ (am_F μ r0 4)).1 = 5)
    (h4 : ¬ ((x1 + (Int32.ofInt 1)) < 0 ∨ (am_kd μ (am_F μ r0 4)).2 ≤ (x1 + (Int32.ofInt 1)).toNatClampNeg))
    (k1 : (am_A μ (am_F μ r0 4) (x1 + (Int32.ofInt 1)).toNatClampNeg) = ((Int8.ofInt 61).toInt32) → Wp d 106 (70, [some (.ref r0), some (.int x1), some (.ref r2), some (.int x3), none, none], [], μ) Q) (k2 : ¬ ((am_A μ (am_F μ r0 4) (x1 + (Int32.ofInt 1)).toNatClampNeg) = ((Int8.ofInt 61).toInt32)) → Wp d 106 (68, [some (.ref r0), some (.int x1), some (.ref r2), some (.int x3), none, none], [], μ) Q) :
    Wp d 106 (55, [some (.ref r0), some (.int x1), some (.ref r2), some (.int x3), none, none], [], μ) Q := wp_blk rfl e106_55 (And.intro h1 (And.intro h2 (And.intro h3 (And.intro h4 (And.intro k1 k2)))))
def q106_68 : List (Nat × Instr × Nat) := [(68, .iconst (-1), 1)]
theorem e106_68 : am_dec am_M106 q106_68 = true := by decide +kernel
theorem e106_68_r : am_dec am_M106 [(69, .ireturn, 1)] = true := by decide +kernel
theorem b106_68 {d : Nat} {Q : Option Value ⊕ Nat → am_Mem → Prop} {μ : am_Mem} {r0 r2 : Nat} {x1 x3 : Int32}
    (k : Q (.inl (some (.int (Int32.ofInt (-1))))) μ) :
    Wp d 106 (68, [some (.ref r0), some (.int x1), some (.ref r2), some (.int x3), none, none], [], μ) Q := wp_blk rfl e106_68 (wp_ri (ty := .int) rfl e106_68_r rfl ⟨rfl, rfl⟩ k)
def q106_70 : List (Nat × Instr × Nat) := [(70, .aload_n 0, 1), (71, .iconst 2, 1), (72, .iload_n 1, 1)]
theorem e106_70 : am_dec am_M106 q106_70 = true := by decide +kernel
theorem e106_70_c : am_dc1 am_M106 73 (.invokevirtual 40) 3 = true := by decide +kernel
theorem b106_70 {d : Nat} {Q : Option Value ⊕ Nat → am_Mem → Prop} {μ : am_Mem} {r0 r2 : Nat} {x1 x3 : Int32} {P : am_Mem → Prop} {X : Nat → am_Mem → Prop}
    (hk : am_kd μ r0 = (1, 9))
    (hc : Wp d 107 (0, [some (.ref r0), some (.int (Int32.ofInt 2)), some (.int x1)], [], μ) (pV P X)) (hr : ∀ μ', P μ' → Wp (d + 1) 106 (76, [some (.ref r0), some (.int x1), some (.ref r2), some (.int x3), none, none], [], (μ')) Q)
    (hx : ∀ x μ', X x μ' → Q (.inr x) μ') :
    Wp (d + 1) 106 (70, [some (.ref r0), some (.int x1), some (.ref r2), some (.int x3), none, none], [], μ) Q := wp_blk rfl e106_70 (wp_cv (as := [.int (Int32.ofInt 2), .int x1]) rfl e106_70_c rfl rfl rfl rfl rfl hk hc (fun v μ' hv => by obtain ⟨rfl, hp⟩ := pV_r hv; exact hr μ' hp) hx)
def q106_76 : List (Nat × Instr × Nat) := [(76, .iload_n 1, 1), (77, .iconst 2, 1), (78, .iadd, 1)]
theorem e106_76 : am_dec am_M106 q106_76 = true := by decide +kernel
theorem e106_76_r : am_dec am_M106 [(79, .ireturn, 1)] = true := by decide +kernel
theorem b106_76 {d : Nat} {Q : Option Value ⊕ Nat → am_Mem → Prop} {μ : am_Mem} {r0 r2 : Nat} {x1 x3 : Int32}
    (k : Q (.inl (some (.int (x1 + (Int32.ofInt 2))))) μ) :
    Wp d 106 (76, [some (.ref r0), some (.int x1), some (.ref r2), some (.int x3), none, none], [], μ) Q := wp_blk rfl e106_76 (wp_ri (ty := .int) rfl e106_76_r rfl ⟨rfl, rfl⟩ k)
def q106_80 : List (Nat × Instr × Nat) := [(80, .iload_n 3, 1), (81, .bipush 63, 2), (83, .if_icmp .ne 9, 3)]
theorem e106_80 : am_dec am_M106 q106_80 = true := by decide +kernel
theorem b106_80 {d : Nat} {Q : Option Value ⊕ Nat → am_Mem → Prop} {μ : am_Mem} {r0 r2 : Nat} {x1 x3 : Int32}
    (k1 : ¬ x3 = ((Int8.ofInt 63).toInt32) → Wp d 106 (92, [some (.ref r0), some (.int x1), some (.ref r2), some (.int x3), none, none], [], μ) Q) (k2 : ¬ (¬ x3 = ((Int8.ofInt 63).toInt32)) → Wp d 106 (86, [some (.ref r0), some (.int x1), some (.ref r2), some (.int x3), none, none], [], μ) Q) :
    Wp d 106 (80, [some (.ref r0), some (.int x1), some (.ref r2), some (.int x3), none, none], [], μ) Q := wp_blk rfl e106_80 (And.intro k1 k2)
def q106_86 : List (Nat × Instr × Nat) := [(86, .iload_n 1, 1), (87, .iconst 1, 1), (88, .iadd, 1), (89, .goto 4, 3)]
theorem e106_86 : am_dec am_M106 q106_86 = true := by decide +kernel
theorem b106_86 {d : Nat} {Q : Option Value ⊕ Nat → am_Mem → Prop} {μ : am_Mem} {r0 r2 : Nat} {x1 x3 : Int32}
    (k : Wp d 106 (93, [some (.ref r0), some (.int x1), some (.ref r2), some (.int x3), none, none], [.int (x1 + (Int32.ofInt 1))], μ) Q) :
    Wp d 106 (86, [some (.ref r0), some (.int x1), some (.ref r2), some (.int x3), none, none], [], μ) Q := wp_blk rfl e106_86 k
def q106_92 : List (Nat × Instr × Nat) := [(92, .iload_n 1, 1)]
theorem e106_92 : am_dec am_M106 q106_92 = true := by decide +kernel
theorem b106_92 {d : Nat} {Q : Option Value ⊕ Nat → am_Mem → Prop} {μ : am_Mem} {r0 r2 : Nat} {x1 x3 : Int32}
    (k : Wp d 106 (93, [some (.ref r0), some (.int x1), some (.ref r2), some (.int x3), none, none], [.int x1], μ) Q) :
    Wp d 106 (92, [some (.ref r0), some (.int x1), some (.ref r2), some (.int x3), none, none], [], μ) Q := wp_blk rfl e106_92 k
def q106_93 : List (Nat × Instr × Nat) := [(93, .istore 4, 2), (95, .aload_n 0, 1), (96, .iload 4, 2)]
theorem e106_93 : am_dec am_M106 q106_93 = true := by decide +kernel
theorem e106_93_c : am_dc1 am_M106 98 (.invokevirtual 44) 3 = true := by decide +kernel
theorem b106_93 {d : Nat} {Q : Option Value ⊕ Nat → am_Mem → Prop} {μ : am_Mem} {r0 r2 : Nat} {x1 x3 s0 : Int32} {P : Int32 → am_Mem → Prop} {X : Nat → am_Mem → Prop}
    (hk : am_kd μ r0 = (1, 9))
    (hc : Wp d 108 (0, [some (.ref r0), some (.int s0), none, none, none, none], [], μ) (pI P X)) (hr : ∀ x μ', P x μ' → Wp (d + 1) 106 (101, [some (.ref r0), some (.int x1), some (.ref r2), some (.int x3), some (.int s0), none], [.int x], (μ')) Q)
    (hx : ∀ x μ', X x μ' → Q (.inr x) μ') :
    Wp (d + 1) 106 (93, [some (.ref r0), some (.int x1), some (.ref r2), some (.int x3), none, none], [.int s0], μ) Q := wp_blk rfl e106_93 (wp_cv (as := [.int s0]) rfl e106_93_c rfl rfl rfl rfl rfl hk hc (fun v μ' hv => by obtain ⟨x, rfl, hp⟩ := pI_r hv; exact hr x μ' hp) hx)
def q106_101 : List (Nat × Instr × Nat) := [(101, .istore 5, 2), (103, .iload 5, 2), (105, .iload 4, 2), (107, .if_icmp .eq 13, 3)]
theorem e106_101 : am_dec am_M106 q106_101 = true := by decide +kernel
theorem b106_101 {d : Nat} {Q : Option Value ⊕ Nat → am_Mem → Prop} {μ : am_Mem} {r0 r2 : Nat} {x1 x3 x4 s0 : Int32}
    (k1 : s0 = x4 → Wp d 106 (120, [some (.ref r0), some (.int x1), some (.ref r2), some (.int x3), some (.int x4), some (.int s0)], [], μ) Q) (k2 : ¬ (s0 = x4) → Wp d 106 (110, [some (.ref r0), some (.int x1), some (.ref r2), some (.int x3), some (.int x4), some (.int s0)], [], μ) Q) :
    Wp d 106 (101, [some (.ref r0), some (.int x1), some (.ref r2), some (.int x3), some (.int x4), none], [.int s0], μ) Q := wp_blk rfl e106_101 (And.intro k1 k2)
def q106_110 : List (Nat × Instr × Nat) := [(110, .iload 5, 2), (112, .iload 4, 2), (114, .isub, 1), (115, .bipush 16, 2), (117, .if_icmp .le 5, 3)]
theorem e106_110 : am_dec am_M106 q106_110 = true := by decide +kernel
theorem b106_110 {d : Nat} {Q : Option Value ⊕ Nat → am_Mem → Prop} {μ : am_Mem} {r0 r2 : Nat} {x1 x3 x4 x5 : Int32}
    (k1 : (x5 - x4) ≤ ((Int8.ofInt 16).toInt32) → Wp d 106 (122, [some (.ref r0), some (.int x1), some (.ref r2), some (.int x3), some (.int x4), some (.int x5)], [], μ) Q) (k2 : ¬ ((x5 - x4) ≤ ((Int8.ofInt 16).toInt32)) → Wp d 106 (120, [some (.ref r0), some (.int x1), some (.ref r2), some (.int x3), some (.int x4), some (.int x5)], [], μ) Q) :
    Wp d 106 (110, [some (.ref r0), some (.int x1), some (.ref r2), some (.int x3), some (.int x4), some (.int x5)], [], μ) Q := wp_blk rfl e106_110 (And.intro k1 k2)
def q106_120 : List (Nat × Instr × Nat) := [(120, .iconst (-1), 1)]
theorem e106_120 : am_dec am_M106 q106_120 = true := by decide +kernel
theorem e106_120_r : am_dec am_M106 [(121, .ireturn, 1)] = true := by decide +kernel
theorem b106_120 {d : Nat} {Q : Option Value ⊕ Nat → am_Mem → Prop} {μ : am_Mem} {r0 r2 : Nat} {x1 x3 x4 x5 : Int32}
    (k : Q (.inl (some (.int (Int32.ofInt (-1))))) μ) :
    Wp d 106 (120, [some (.ref r0), some (.int x1), some (.ref r2), some (.int x3), some (.int x4), some (.int x5)], [], μ) Q := wp_blk rfl e106_120 (wp_ri (ty := .int) rfl e106_120_r rfl ⟨rfl, rfl⟩ k)
def q106_122 : List (Nat × Instr × Nat) := [(122, .aload_n 0, 1), (123, .getfield 18, 3), (126, .aload_n 0, 1), (127, .getfield 21, 3), (130, .aload_n 2, 1), (131, .aload_n 0, 1), (132, .getfield 28, 3), (135, .iload 4, 2), (137, .iload 5, 2), (139, .iload 4, 2), (141, .isub, 1)]
theorem e106_122 : am_dec am_M106 q106_122 = true := by decide +kernel
theorem e106_122_c : am_dc1 am_M106 142 (.invokevirtual 47) 3 = true := by decide +kernel
theorem b106_122 {d : Nat} {Q : Option Value ⊕ Nat → am_Mem → Prop} {μ : am_Mem} {r0 r2 : Nat} {x1 x3 x4 x5 : Int32} {P : Int32 → am_Mem → Prop} {X : Nat → am_Mem → Prop}
    (h1 : am_kd μ r0 = (1, 9))
    (h2 : ¬ am_F μ r0 2 = 15)
    (h3 : am_kd μ r0 = (1, 9))
    (h4 : am_kd μ r0 = (1, 9))
    (h5 : ¬ am_F μ r0 4 = 15)
    (hk : am_kd μ r2 = (1, 3))
    (hc : Wp d 49 (0, [some (.ref r2), some (.ref (am_F μ r0 4)), some (.int x4), some (.int (x5 - x4)), none, none, none, none], [], μ) (pI P X)) (hr : ∀ x μ', P x μ' → Wp (d + 1) 106 (145, [some (.ref r0), some (.int x1), some (.ref r2), some (.int x3), some (.int x4), some (.int x5)], [.int x, .int (am_A μ r0 3), .ref (am_F μ r0 2)], (μ')) Q)
    (hx : ∀ x μ', X x μ' → Q (.inr x) μ') :
    Wp (d + 1) 106 (122, [some (.ref r0), some (.int x1), some (.ref r2), some (.int x3), some (.int x4), some (.int x5)], [], μ) Q := wp_blk rfl e106_122 (And.intro h1 (And.intro h2 (And.intro h3 (And.intro h4 (And.intro h5 (wp_cv (as := [.ref (am_F μ r0 4), .int x4, .int (x5 - x4)]) rfl e106_122_c rfl rfl rfl rfl rfl hk hc (fun v μ' hv => by obtain ⟨x, rfl, hp⟩ := pI_r hv; exact hr x μ' hp) hx))))))
def q106_145 : List (Nat × Instr × Nat) := [(145, .iastore, 1), (146, .aload_n 0, 1), (147, .iload_n 3, 1), (148, .bipush 63, 2), (150, .if_icmp .ne 7, 3)]
theorem e106_145 : am_dec am_M106 q106_145 = true := by decide +kernel
theorem b106_145 {d : Nat} {Q : Option Value ⊕ Nat → am_Mem → Prop} {μ : am_Mem} {r0 r2 r90 : Nat} {x1 x3 x4 x5 s1 s2 : Int32}
    (h1 : (am_kd μ r90).1 = 2)
    (h2 : ¬ (s1 < 0 ∨ (am_kd μ r90).2 ≤ s1.toNatClampNeg))
    (k1 : ¬ x3 = ((Int8.ofInt 63).toInt32) → Wp d 106 (157, [some (.ref r0), some (.int x1), some (.ref r2), some (.int x3), some (.int x4), some (.int x5)], [.ref r0], (am_pA μ r90 s1.toNatClampNeg s2)) Q) (k2 : ¬ (¬ x3 = ((Int8.ofInt 63).toInt32)) → Wp d 106 (153, [some (.ref r0), some (.int x1), some (.ref r2), some (.int x3), some (.int x4), some (.int x5)], [.ref r0], (am_pA μ r90 s1.toNatClampNeg s2)) Q) :
    Wp d 106 (145, [some (.ref r0), some (.int x1), some (.ref r2), some (.int x3), some (.int x4), some (.int x5)], [.int s2, .int s1, .ref r90], μ) Q := wp_blk rfl e106_145 (And.intro h1 (And.intro h2 (And.intro k1 k2)))
def q106_153 : List (Nat × Instr × Nat) := [(153, .iconst 4, 1), (154, .goto 4, 3)]
theorem e106_153 : am_dec am_M106 q106_153 = true := by decide +kernel
theorem b106_153 {d : Nat} {Q : Option Value ⊕ Nat → am_Mem → Prop} {μ : am_Mem} {r0 r2 r90 : Nat} {x1 x3 x4 x5 : Int32}
    (k : Wp d 106 (158, [some (.ref r0), some (.int x1), some (.ref r2), some (.int x3), some (.int x4), some (.int x5)], [.int (Int32.ofInt 4), .ref r90], μ) Q) :
    Wp d 106 (153, [some (.ref r0), some (.int x1), some (.ref r2), some (.int x3), some (.int x4), some (.int x5)], [.ref r90], μ) Q := wp_blk rfl e106_153 k
def q106_157 : List (Nat × Instr × Nat) := [(157, .iconst 3, 1)]
theorem e106_157 : am_dec am_M106 q106_157 = true := by decide +kernel
theorem b106_157 {d : Nat} {Q : Option Value ⊕ Nat → am_Mem → Prop} {μ : am_Mem} {r0 r2 r90 : Nat} {x1 x3 x4 x5 : Int32}
    (k : Wp d 106 (158, [some (.ref r0), some (.int x1), some (.ref r2), some (.int x3), some (.int x4), some (.int x5)], [.int (Int32.ofInt 3), .ref r90], μ) Q) :
    Wp d 106 (157, [some (.ref r0), some (.int x1), some (.ref r2), some (.int x3), some (.int x4), some (.int x5)], [.ref r90], μ) Q := wp_blk rfl e106_157 k
def q106_158 : List (Nat × Instr × Nat) := [(158, .iload_n 1, 1)]
theorem e106_158 : am_dec am_M106 q106_158 = true := by decide +kernel
theorem e106_158_c : am_dc1 am_M106 159 (.invokevirtual 40) 3 = true := by decide +kernel
theorem b106_158 {d : Nat} {Q : Option Value ⊕ Nat → am_Mem → Prop} {μ : am_Mem} {r0 r2 r90 : Nat} {x1 x3 x4 x5 s1 : Int32} {P : am_Mem → Prop} {X : Nat → am_Mem → Prop}
    (hk : am_kd μ r90 = (1, 9))
    (hc : Wp d 107 (0, [some (.ref r90), some (.int s1), some (.int x1)], [], μ) (pV P X)) (hr : ∀ μ', P μ' → Wp (d + 1) 106 (162, [some (.ref r0), some (.int x1), some (.ref r2), some (.int x3), some (.int x4), some (.int x5)], [], (μ')) Q)
    (hx : ∀ x μ', X x μ' → Q (.inr x) μ') :
    Wp (d + 1) 106 (158, [some (.ref r0), some (.int x1), some (.ref r2), some (.int x3), some (.int x4), some (.int x5)], [.int s1, .ref r90], μ) Q := wp_blk rfl e106_158 (wp_cv (as := [.int s1, .int x1]) rfl e106_158_c rfl rfl rfl rfl rfl hk hc (fun v μ' hv => by obtain ⟨rfl, hp⟩ := pV_r hv; exact hr μ' hp) hx)
def q106_162 : List (Nat × Instr × Nat) := [(162, .iload 5, 2)]
theorem e106_162 : am_dec am_M106 q106_162 = true := by decide +kernel
theorem e106_162_r : am_dec am_M106 [(164, .ireturn, 1)] = true := by decide +kernel
theorem b106_162 {d : Nat} {Q : Option Value ⊕ Nat → am_Mem → Prop} {μ : am_Mem} {r0 r2 : Nat} {x1 x3 x4 x5 : Int32}
    (k : Q (.inl (some (.int x5))) μ) :
    Wp d 106 (162, [some (.ref r0), some (.int x1), some (.ref r2), some (.int x3), some (.int x4), some (.int x5)], [], μ) Q := wp_blk rfl e106_162 (wp_ri (ty := .int) rfl e106_162_r rfl ⟨rfl, rfl⟩ k)
/-! RuleSheets$Tokens.append(II)V -/
def q107_0 : List (Nat × Instr × Nat) := [(0, .aload_n 0, 1), (1, .getfield 9, 3), (4, .aload_n 0, 1), (5, .getfield 21, 3), (8, .iload_n 1, 1), (9, .iastore, 1), (10, .aload_n 0, 1), (11, .getfield 15, 3), (14, .aload_n 0, 1), (15, .getfield 21, 3), (18, .iload_n 2, 1), (19, .iastore, 1)]
theorem e107_0 : am_dec am_M107 q107_0 = true := by decide +kernel
theorem b107_0 {d : Nat} {Q : Option Value ⊕ Nat → am_Mem → Prop} {μ : am_Mem} {r0 : Nat} {x1 x2 : Int32}
    (h1 : am_kd μ r0 = (1, 9))
    (h2 : ¬ am_F μ r0 0 = 15)
    (h3 : am_kd μ r0 = (1, 9))
    (h4 : (am_kd μ (am_F μ r0 0)).1 = 2)
    (h5 : ¬ ((am_A μ r0 3) < 0 ∨ (am_kd μ (am_F μ r0 0)).2 ≤ (am_A μ r0 3).toNatClampNeg))
    (h6 : am_kd (am_pA μ (am_F μ r0 0) (am_A μ r0 3).toNatClampNeg x1) r0 = (1, 9))
    (h7 : ¬ am_F (am_pA μ (am_F μ r0 0) (am_A μ r0 3).toNatClampNeg x1) r0 1 = 15)
    (h8 : am_kd (am_pA μ (am_F μ r0 0) (am_A μ r0 3).toNatClampNeg x1) r0 = (1, 9))
    (h9 : (am_kd (am_pA μ (am_F μ r0 0) (am_A μ r0 3).toNatClampNeg x1) (am_F (am_pA μ (am_F μ r0 0) (am_A μ r0 3).toNatClampNeg x1) r0 1)).1 = 2)
    (h10 : ¬ ((am_A (am_pA μ (am_F μ r0 0) (am_A μ r0 3).toNatClampNeg x1) r0 3) < 0 ∨ (am_kd (am_pA μ (am_F μ r0 0) (am_A μ r0 3).toNatClampNeg x1) (am_F (am_pA μ (am_F μ r0 0) (am_A μ r0 3).toNatClampNeg x1) r0 1)).2 ≤ (am_A (am_pA μ (am_F μ r0 0) (am_A μ r0 3).toNatClampNeg x1) r0 3).toNatClampNeg))
    (k : Wp d 107 (20, [some (.ref r0), some (.int x1), some (.int x2)], [], (am_pA (am_pA μ (am_F μ r0 0) (am_A μ r0 3).toNatClampNeg x1) (am_F (am_pA μ (am_F μ r0 0) (am_A μ r0 3).toNatClampNeg x1) r0 1) (am_A (am_pA μ (am_F μ r0 0) (am_A μ r0 3).toNatClampNeg x1) r0 3).toNatClampNeg x2)) Q) :
    Wp d 107 (0, [some (.ref r0), some (.int x1), some (.int x2)], [], μ) Q := wp_blk rfl e107_0 (And.intro h1 (And.intro h2 (And.intro h3 (And.intro h4 (And.intro h5 (And.intro h6 (And.intro h7 (And.intro h8 (And.intro h9 (And.intro h10 k))))))))))
def q107_20 : List (Nat × Instr × Nat) := [(20, .aload_n 0, 1), (21, .dup, 1), (22, .getfield 21, 3), (25, .iconst 1, 1), (26, .iadd, 1), (27, .putfield 21, 3)]
theorem e107_20 : am_dec am_M107 q107_20 = true := by decide +kernel
theorem e107_20_r : am_dec am_M107 [(30, .return_, 1)] = true := by decide +kernel
theorem b107_20 {d : Nat} {Q : Option Value ⊕ Nat → am_Mem → Prop} {μ : am_Mem} {r0 : Nat} {x1 x2 : Int32}
    (h1 : am_kd μ r0 = (1, 9))
    (h2 : am_kd μ r0 = (1, 9))
    (k : Q (.inl none) (am_pA μ r0 3 ((am_A μ r0 3) + (Int32.ofInt 1)))) :
    Wp d 107 (20, [some (.ref r0), some (.int x1), some (.int x2)], [], μ) Q := wp_blk rfl e107_20 (And.intro h1 (And.intro h2 (And.intro ⟨rfl, rfl⟩ (wp_rv rfl e107_20_r rfl k))))
/-! RuleSheets$Tokens.behindName(I)I -/
def q108_0 : List (Nat × Instr × Nat) := [(0, .iload_n 1, 1), (1, .istore_n 2, 1)]
theorem e108_0 : am_dec am_M108 q108_0 = true := by decide +kernel
theorem b108_0 {d : Nat} {Q : Option Value ⊕ Nat → am_Mem → Prop} {μ : am_Mem} {r0 : Nat} {x1 : Int32}
    (k : Wp d 108 (2, [some (.ref r0), some (.int x1), some (.int x1), none, none, none], [], μ) Q) :
    Wp d 108 (0, [some (.ref r0), some (.int x1), none, none, none, none], [], μ) Q := wp_blk rfl e108_0 k
def q108_2 : List (Nat × Instr × Nat) := [(2, .iload_n 2, 1), (3, .aload_n 0, 1), (4, .getfield 25, 3), (7, .if_icmp .ge 72, 3)]
theorem e108_2 : am_dec am_M108 q108_2 = true := by decide +kernel
theorem b108_2 {d : Nat} {Q : Option Value ⊕ Nat → am_Mem → Prop} {μ : am_Mem} {r0 : Nat} {x1 x2 : Int32} {o3 o4 o5 : Option Value}
    (h1 : am_kd μ r0 = (1, 9))
    (k1 : (am_A μ r0 5) ≤ x2 → Wp d 108 (79, [some (.ref r0), some (.int x1), some (.int x2), o3, o4, o5], [], μ) Q) (k2 : ¬ ((am_A μ r0 5) ≤ x2) → Wp d 108 (10, [some (.ref r0), some (.int x1), some (.int x2), o3, o4, o5], [], μ) Q) :
    Wp d 108 (2, [some (.ref r0), some (.int x1), some (.int x2), o3, o4, o5], [], μ) Q := wp_blk rfl e108_2 (And.intro h1 (And.intro k1 k2))
def q108_10 : List (Nat × Instr × Nat) := [(10, .aload_n 0, 1), (11, .getfield 28, 3), (14, .iload_n 2, 1), (15, .caload, 1), (16, .istore_n 3, 1), (17, .iload_n 3, 1), (18, .bipush 97, 2), (20, .if_icmp .lt 13, 3)]
theorem e108_10 : am_dec am_M108 q108_10 = true := by decide +kernel
theorem b108_10 {d : Nat} {Q : Option Value ⊕ Nat → am_Mem → Prop} {μ : am_Mem} {r0 : Nat} {x1 x2 : Int32} {o3 o4 o5 : Option Value}
    (h1 : am_kd μ r0 = (1, 9))
    (h2 : ¬ am_F μ r0 4 = 15)
    (h3 : (am_kd μ (am_F μ r0 4)).1 = 5)
    (h4 : ¬ (x2 < 0 ∨ (am_kd μ (am_F μ r0 4)).2 ≤ x2.toNatClampNeg))
    (k1 : (am_A μ (am_F μ r0 4) x2.toNatClampNeg) < ((Int8.ofInt 97).toInt32) → Wp d 108 (33, [some (.ref r0), some (.int x1), some (.int x2), some (.int (am_A μ (am_F μ r0 4) x2.toNatClampNeg)), o4, o5], [], μ) Q) (k2 : ¬ ((am_A μ (am_F μ r0 4) x2.toNatClampNeg) < ((Int8.ofInt 97).toInt32)) → Wp d 108 (23, [some (.ref r0), some (.int x1), some (.int x2), some (.int (am_A μ (am_F μ r0 4) x2.toNatClampNeg)), o4, o5], [], μ) Q) :
    Wp d 108 (10, [some (.ref r0), some (.int x1), some (.int x2), o3, o4, o5], [], μ) Q := wp_blk rfl e108_10 (And.intro h1 (And.intro h2 (And.intro h3 (And.intro h4 (And.intro k1 k2)))))
def q108_23 : List (Nat × Instr × Nat) := [(23, .iload_n 3, 1), (24, .bipush 122, 2), (26, .if_icmp .gt 7, 3)]
theorem e108_23 : am_dec am_M108 q108_23 = true := by decide +kernel
theorem b108_23 {d : Nat} {Q : Option Value ⊕ Nat → am_Mem → Prop} {μ : am_Mem} {r0 : Nat} {x1 x2 x3 : Int32} {o4 o5 : Option Value}
    (k1 : ((Int8.ofInt 122).toInt32) < x3 → Wp d 108 (33, [some (.ref r0), some (.int x1), some (.int x2), some (.int x3), o4, o5], [], μ) Q) (k2 : ¬ (((Int8.ofInt 122).toInt32) < x3) → Wp d 108 (29, [some (.ref r0), some (.int x1), some (.int x2), some (.int x3), o4, o5], [], μ) Q) :
    Wp d 108 (23, [some (.ref r0), some (.int x1), some (.int x2), some (.int x3), o4, o5], [], μ) Q := wp_blk rfl e108_23 (And.intro k1 k2)
def q108_29 : List (Nat × Instr × Nat) := [(29, .iconst 1, 1), (30, .goto 4, 3)]
theorem e108_29 : am_dec am_M108 q108_29 = true := by decide +kernel
theorem b108_29 {d : Nat} {Q : Option Value ⊕ Nat → am_Mem → Prop} {μ : am_Mem} {r0 : Nat} {x1 x2 x3 : Int32} {o4 o5 : Option Value}
    (k : Wp d 108 (34, [some (.ref r0), some (.int x1), some (.int x2), some (.int x3), o4, o5], [.int (Int32.ofInt 1)], μ) Q) :
    Wp d 108 (29, [some (.ref r0), some (.int x1), some (.int x2), some (.int x3), o4, o5], [], μ) Q := wp_blk rfl e108_29 k
def q108_33 : List (Nat × Instr × Nat) := [(33, .iconst 0, 1)]
theorem e108_33 : am_dec am_M108 q108_33 = true := by decide +kernel
theorem b108_33 {d : Nat} {Q : Option Value ⊕ Nat → am_Mem → Prop} {μ : am_Mem} {r0 : Nat} {x1 x2 x3 : Int32} {o4 o5 : Option Value}
    (k : Wp d 108 (34, [some (.ref r0), some (.int x1), some (.int x2), some (.int x3), o4, o5], [.int (Int32.ofInt 0)], μ) Q) :
    Wp d 108 (33, [some (.ref r0), some (.int x1), some (.int x2), some (.int x3), o4, o5], [], μ) Q := wp_blk rfl e108_33 k
def q108_34 : List (Nat × Instr × Nat) := [(34, .istore 4, 2), (36, .iload_n 3, 1), (37, .bipush 48, 2), (39, .if_icmp .lt 13, 3)]
theorem e108_34 : am_dec am_M108 q108_34 = true := by decide +kernel
theorem b108_34 {d : Nat} {Q : Option Value ⊕ Nat → am_Mem → Prop} {μ : am_Mem} {r0 : Nat} {x1 x2 x3 s0 : Int32} {o4 o5 : Option Value}
    (k1 : x3 < ((Int8.ofInt 48).toInt32) → Wp d 108 (52, [some (.ref r0), some (.int x1), some (.int x2), some (.int x3), some (.int s0), o5], [], μ) Q) (k2 : ¬ (x3 < ((Int8.ofInt 48).toInt32)) → Wp d 108 (42, [some (.ref r0), some (.int x1), some (.int x2), some (.int x3), some (.int s0), o5], [], μ) Q) :
    Wp d 108 (34, [some (.ref r0), some (.int x1), some (.int x2), some (.int x3), o4, o5], [.int s0], μ) Q := wp_blk rfl e108_34 (And.intro k1 k2)
def q108_42 : List (Nat × Instr × Nat) := [(42, .iload_n 3, 1), (43, .bipush 57, 2), (45, .if_icmp .gt 7, 3)]
theorem e108_42 : am_dec am_M108 q108_42 = true := by decide +kernel
theorem b108_42 {d : Nat} {Q : Option Value ⊕ Nat → am_Mem → Prop} {μ : am_Mem} {r0 : Nat} {x1 x2 x3 x4 : Int32} {o5 : Option Value}
    (k1 : ((Int8.ofInt 57).toInt32) < x3 → Wp d 108 (52, [some (.ref r0), some (.int x1), some (.int x2), some (.int x3), some (.int x4), o5], [], μ) Q) (k2 : ¬ (((Int8.ofInt 57).toInt32) < x3) → Wp d 108 (48, [some (.ref r0), some (.int x1), some (.int x2), some (.int x3), some (.int x4), o5], [], μ) Q) :
    Wp d 108 (42, [some (.ref r0), some (.int x1), some (.int x2), some (.int x3), some (.int x4), o5], [], μ) Q := wp_blk rfl e108_42 (And.intro k1 k2)
def q108_48 : List (Nat × Instr × Nat) := [(48, .iconst 1, 1), (49, .goto 4, 3)]
theorem e108_48 : am_dec am_M108 q108_48 = true := by decide +kernel
theorem b108_48 {d : Nat} {Q : Option Value ⊕ Nat → am_Mem → Prop} {μ : am_Mem} {r0 : Nat} {x1 x2 x3 x4 : Int32} {o5 : Option Value}
    (k : Wp d 108 (53, [some (.ref r0), some (.int x1), some (.int x2), some (.int x3), some (.int x4), o5], [.int (Int32.ofInt 1)], μ) Q) :
    Wp d 108 (48, [some (.ref r0), some (.int x1), some (.int x2), some (.int x3), some (.int x4), o5], [], μ) Q := wp_blk rfl e108_48 k
def q108_52 : List (Nat × Instr × Nat) := [(52, .iconst 0, 1)]
theorem e108_52 : am_dec am_M108 q108_52 = true := by decide +kernel
theorem b108_52 {d : Nat} {Q : Option Value ⊕ Nat → am_Mem → Prop} {μ : am_Mem} {r0 : Nat} {x1 x2 x3 x4 : Int32} {o5 : Option Value}
    (k : Wp d 108 (53, [some (.ref r0), some (.int x1), some (.int x2), some (.int x3), some (.int x4), o5], [.int (Int32.ofInt 0)], μ) Q) :
    Wp d 108 (52, [some (.ref r0), some (.int x1), some (.int x2), some (.int x3), some (.int x4), o5], [], μ) Q := wp_blk rfl e108_52 k
def q108_53 : List (Nat × Instr × Nat) := [(53, .istore 5, 2), (55, .iload 4, 2), (57, .ifCond .ne 16, 3)]
theorem e108_53 : am_dec am_M108 q108_53 = true := by decide +kernel
theorem b108_53 {d : Nat} {Q : Option Value ⊕ Nat → am_Mem → Prop} {μ : am_Mem} {r0 : Nat} {x1 x2 x3 x4 s0 : Int32} {o5 : Option Value}
    (k1 : ¬ x4 = 0 → Wp d 108 (73, [some (.ref r0), some (.int x1), some (.int x2), some (.int x3), some (.int x4), some (.int s0)], [], μ) Q) (k2 : ¬ (¬ x4 = 0) → Wp d 108 (60, [some (.ref r0), some (.int x1), some (.int x2), some (.int x3), some (.int x4), some (.int s0)], [], μ) Q) :
    Wp d 108 (53, [some (.ref r0), some (.int x1), some (.int x2), some (.int x3), some (.int x4), o5], [.int s0], μ) Q := wp_blk rfl e108_53 (And.intro k1 k2)
def q108_60 : List (Nat × Instr × Nat) := [(60, .iload 5, 2), (62, .ifCond .ne 11, 3)]
theorem e108_60 : am_dec am_M108 q108_60 = true := by decide +kernel
theorem b108_60 {d : Nat} {Q : Option Value ⊕ Nat → am_Mem → Prop} {μ : am_Mem} {r0 : Nat} {x1 x2 x3 x4 x5 : Int32}
    (k1 : ¬ x5 = 0 → Wp d 108 (73, [some (.ref r0), some (.int x1), some (.int x2), some (.int x3), some (.int x4), some (.int x5)], [], μ) Q) (k2 : ¬ (¬ x5 = 0) → Wp d 108 (65, [some (.ref r0), some (.int x1), some (.int x2), some (.int x3), some (.int x4), some (.int x5)], [], μ) Q) :
    Wp d 108 (60, [some (.ref r0), some (.int x1), some (.int x2), some (.int x3), some (.int x4), some (.int x5)], [], μ) Q := wp_blk rfl e108_60 (And.intro k1 k2)
def q108_65 : List (Nat × Instr × Nat) := [(65, .iload_n 3, 1), (66, .bipush 95, 2), (68, .if_icmp .eq 5, 3)]
theorem e108_65 : am_dec am_M108 q108_65 = true := by decide +kernel
theorem b108_65 {d : Nat} {Q : Option Value ⊕ Nat → am_Mem → Prop} {μ : am_Mem} {r0 : Nat} {x1 x2 x3 x4 x5 : Int32}
    (k1 : x3 = ((Int8.ofInt 95).toInt32) → Wp d 108 (73, [some (.ref r0), some (.int x1), some (.int x2), some (.int x3), some (.int x4), some (.int x5)], [], μ) Q) (k2 : ¬ (x3 = ((Int8.ofInt 95).toInt32)) → Wp d 108 (71, [some (.ref r0), some (.int x1), some (.int x2), some (.int x3), some (.int x4), some (.int x5)], [], μ) Q) :
    Wp d 108 (65, [some (.ref r0), some (.int x1), some (.int x2), some (.int x3), some (.int x4), some (.int x5)], [], μ) Q := wp_blk rfl e108_65 (And.intro k1 k2)
def q108_71 : List (Nat × Instr × Nat) := [(71, .iload_n 2, 1)]
theorem e108_71 : am_dec am_M108 q108_71 = true := by decide +kernel
theorem e108_71_r : am_dec am_M108 [(72, .ireturn, 1)] = true := by decide +kernel
theorem b108_71 {d : Nat} {Q : Option Value ⊕ Nat → am_Mem → Prop} {μ : am_Mem} {r0 : Nat} {x1 x2 x3 x4 x5 : Int32}
    (k : Q (.inl (some (.int x2))) μ) :
    Wp d 108 (71, [some (.ref r0), some (.int x1), some (.int x2), some (.int x3), some (.int x4), some (.int x5)], [], μ) Q := wp_blk rfl e108_71 (wp_ri (ty := .int) rfl e108_71_r rfl ⟨rfl, rfl⟩ k)
def q108_73 : List (Nat × Instr × Nat) := [(73, .iinc 2 1, 3), (76, .goto (-74), 3)]
theorem e108_73 : am_dec am_M108 q108_73 = true := by decide +kernel
theorem b108_73 {d : Nat} {Q : Option Value ⊕ Nat → am_Mem → Prop} {μ : am_Mem} {r0 : Nat} {x1 x2 x3 x4 x5 : Int32}
    (k : Wp d 108 (2, [some (.ref r0), some (.int x1), some (.int (x2 + Int32.ofInt 1)), some (.int x3), some (.int x4), some (.int x5)], [], μ) Q) :
    Wp d 108 (73, [some (.ref r0), some (.int x1), some (.int x2), some (.int x3), some (.int x4), some (.int x5)], [], μ) Q := wp_blk rfl e108_73 k
def q108_79 : List (Nat × Instr × Nat) := [(79, .aload_n 0, 1), (80, .getfield 25, 3)]
theorem e108_79 : am_dec am_M108 q108_79 = true := by decide +kernel
theorem e108_79_r : am_dec am_M108 [(83, .ireturn, 1)] = true := by decide +kernel
theorem b108_79 {d : Nat} {Q : Option Value ⊕ Nat → am_Mem → Prop} {μ : am_Mem} {r0 : Nat} {x1 x2 : Int32} {o3 o4 o5 : Option Value}
    (h1 : am_kd μ r0 = (1, 9))
    (k : Q (.inl (some (.int (am_A μ r0 5)))) μ) :
    Wp d 108 (79, [some (.ref r0), some (.int x1), some (.int x2), o3, o4, o5], [], μ) Q := wp_blk rfl e108_79 (And.intro h1 (wp_ri (ty := .int) rfl e108_79_r rfl ⟨rfl, rfl⟩ k))
