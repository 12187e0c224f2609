/-! ===== printed: the blocks of Parser ===== -/
/-! RuleSheets$Parser.<init>(LRuleSheets$Tokens;LRuleSheets$Sheet;)V -/
def q54_0 : List (Nat × Instr × Nat) := [(0, .aload_n 0, 1), (1, .invokespecial 3, 3), (4, .aload_n 0, 1), (5, .iconst 0, 1), (6, .putfield 9, 3), (9, .aload_n 0, 1), (10, .bipush 8, 2), (12, .newarray .int, 2), (14, .putfield 15, 3)]
theorem e54_0 : am_dec am_M54 q54_0 = true := by decide +kernel
theorem b54_0 {d : Nat} {Q : Option Value ⊕ Nat → am_Mem → Prop} {μ : am_Mem} {r0 r1 r2 : Nat}
    (h1 : am_kd μ r0 = (1, 4))
    (h2 : am_kd (am_nA (am_pA μ r0 2 (Int32.ofInt 0)) 2 ((Int8.ofInt 8).toInt32).toNatClampNeg) r0 = (1, 4))
    (h3 : ¬ (am_n (am_pA μ r0 2 (Int32.ofInt 0))) = 15)
    (k : Wp d 54 (17, [some (.ref r0), some (.ref r1), some (.ref r2)], [], (am_pR (am_nA (am_pA μ r0 2 (Int32.ofInt 0)) 2 ((Int8.ofInt 8).toInt32).toNatClampNeg) r0 3 (am_n (am_pA μ r0 2 (Int32.ofInt 0))))) Q) :
    Wp d 54 (0, [some (.ref r0), some (.ref r1), some (.ref r2)], [], μ) Q := wp_blk rfl e54_0 (And.intro h1 (And.intro ⟨rfl, rfl⟩ (And.intro (by decide) (And.intro h2 (And.intro h3 k)))))
def q54_17 : List (Nat × Instr × Nat) := [(17, .aload_n 0, 1), (18, .iconst 0, 1), (19, .putfield 19, 3), (22, .aload_n 0, 1), (23, .bipush 44, 2), (25, .newarray .int, 2), (27, .putfield 22, 3)]
theorem e54_17 : am_dec am_M54 q54_17 = true := by decide +kernel
theorem b54_17 {d : Nat} {Q : Option Value ⊕ Nat → am_Mem → Prop} {μ : am_Mem} {r0 r1 r2 : Nat}
    (h1 : am_kd μ r0 = (1, 4))
    (h2 : am_kd (am_nA (am_pA μ r0 4 (Int32.ofInt 0)) 2 ((Int8.ofInt 44).toInt32).toNatClampNeg) r0 = (1, 4))
    (h3 : ¬ (am_n (am_pA μ r0 4 (Int32.ofInt 0))) = 15)
    (k : Wp d 54 (30, [some (.ref r0), some (.ref r1), some (.ref r2)], [], (am_pR (am_nA (am_pA μ r0 4 (Int32.ofInt 0)) 2 ((Int8.ofInt 44).toInt32).toNatClampNeg) r0 5 (am_n (am_pA μ r0 4 (Int32.ofInt 0))))) Q) :
    Wp d 54 (17, [some (.ref r0), some (.ref r1), some (.ref r2)], [], μ) Q := wp_blk rfl e54_17 (And.intro h1 (And.intro ⟨rfl, rfl⟩ (And.intro (by decide) (And.intro h2 (And.intro h3 k)))))
def q54_30 : List (Nat × Instr × Nat) := [(30, .aload_n 0, 1), (31, .aload_n 1, 1), (32, .putfield 25, 3), (35, .aload_n 0, 1), (36, .aload_n 2, 1), (37, .putfield 29, 3)]
theorem e54_30 : am_dec am_M54 q54_30 = true := by decide +kernel
theorem e54_30_r : am_dec am_M54 [(40, .return_, 1)] = true := by decide +kernel
theorem b54_30 {d : Nat} {Q : Option Value ⊕ Nat → am_Mem → Prop} {μ : am_Mem} {r0 r1 r2 : Nat}
    (h1 : am_kd μ r0 = (1, 4))
    (h2 : ¬ r1 = 15)
    (h3 : am_kd (am_pR μ r0 0 r1) r0 = (1, 4))
    (h4 : ¬ r2 = 15)
    (k : Q (.inl none) (am_pR (am_pR μ r0 0 r1) r0 1 r2)) :
    Wp d 54 (30, [some (.ref r0), some (.ref r1), some (.ref r2)], [], μ) Q := wp_blk rfl e54_30 (And.intro h1 (And.intro h2 (And.intro h3 (And.intro h4 (wp_rv rfl e54_30_r rfl k)))))
/-! RuleSheets$Parser.parse(LRuleSheets$Sheet;)I -/
def q55_0 : List (Nat × Instr × Nat) := [(0, .aload_n 0, 1), (1, .aload_n 1, 1), (2, .putfield 29, 3), (5, .aload_n 0, 1), (6, .iconst 0, 1), (7, .putfield 9, 3), (10, .iconst 0, 1), (11, .istore_n 2, 1)]
theorem e55_0 : am_dec am_M55 q55_0 = true := by decide +kernel
theorem b55_0 {d : Nat} {Q : Option Value ⊕ Nat → am_Mem → Prop} {μ : am_Mem} {r0 r1 : Nat}
    (h1 : am_kd μ r0 = (1, 4))
    (h2 : ¬ r1 = 15)
    (h3 : am_kd (am_pR μ r0 1 r1) r0 = (1, 4))
    (k : Wp d 55 (12, [some (.ref r0), some (.ref r1), some (.int (Int32.ofInt 0))], [], (am_pA (am_pR μ r0 1 r1) r0 2 (Int32.ofInt 0))) Q) :
    Wp d 55 (0, [some (.ref r0), some (.ref r1), none], [], μ) Q := wp_blk rfl e55_0 (And.intro h1 (And.intro h2 (And.intro h3 (And.intro ⟨rfl, rfl⟩ k))))
def q55_12 : List (Nat × Instr × Nat) := [(12, .iload_n 2, 1), (13, .bipush 60, 2), (15, .if_icmp .ge 50, 3)]
theorem e55_12 : am_dec am_M55 q55_12 = true := by decide +kernel
theorem b55_12 {d : Nat} {Q : Option Value ⊕ Nat → am_Mem → Prop} {μ : am_Mem} {r0 r1 : Nat} {x2 : Int32}
    (k1 : ((Int8.ofInt 60).toInt32) ≤ x2 → Wp d 55 (65, [some (.ref r0), some (.ref r1), some (.int x2)], [], μ) Q) (k2 : ¬ (((Int8.ofInt 60).toInt32) ≤ x2) → Wp d 55 (18, [some (.ref r0), some (.ref r1), some (.int x2)], [], μ) Q) :
    Wp d 55 (12, [some (.ref r0), some (.ref r1), some (.int x2)], [], μ) Q := wp_blk rfl e55_12 (And.intro k1 k2)
def q55_18 : List (Nat × Instr × Nat) := [(18, .aload_n 0, 1), (19, .iload_n 2, 1)]
theorem e55_18 : am_dec am_M55 q55_18 = true := by decide +kernel
theorem e55_18_c : am_dc1 am_M55 20 (.invokevirtual 33) 3 = true := by decide +kernel
theorem b55_18 {d : Nat} {Q : Option Value ⊕ Nat → am_Mem → Prop} {μ : am_Mem} {r0 r1 : Nat} {x2 : Int32} {P : Int32 → am_Mem → Prop} {X : Nat → am_Mem → Prop}
    (hk : am_kd μ r0 = (1, 4))
    (hc : Wp d 56 (0, [some (.ref r0), some (.int x2), none], [], μ) (pI P X)) (hr : ∀ x μ', P x μ' → Wp (d + 1) 55 (23, [some (.ref r0), some (.ref r1), some (.int x2)], [.int x], (μ')) Q)
    (hx : ∀ x μ', X x μ' → Q (.inr x) μ') :
    Wp (d + 1) 55 (18, [some (.ref r0), some (.ref r1), some (.int x2)], [], μ) Q := wp_blk rfl e55_18 (wp_cv (as := [.int x2]) rfl e55_18_c rfl rfl rfl rfl rfl hk hc (fun v μ' hv => by obtain ⟨x, rfl, hp⟩ := pI_r hv; exact hr x μ' hp) hx)
def q55_23 : List (Nat × Instr × Nat) := [(23, .ifCond .ne 16, 3)]
theorem e55_23 : am_dec am_M55 q55_23 = true := by decide +kernel
theorem b55_23 {d : Nat} {Q : Option Value ⊕ Nat → am_Mem → Prop} {μ : am_Mem} {r0 r1 : Nat} {x2 s0 : Int32}
    (k1 : ¬ s0 = 0 → Wp d 55 (39, [some (.ref r0), some (.ref r1), some (.int x2)], [], μ) Q) (k2 : ¬ (¬ s0 = 0) → Wp d 55 (26, [some (.ref r0), some (.ref r1), some (.int x2)], [], μ) Q) :
    Wp d 55 (23, [some (.ref r0), some (.ref r1), some (.int x2)], [.int s0], μ) Q := wp_blk rfl e55_23 (And.intro k1 k2)
def q55_26 : List (Nat × Instr × Nat) := [(26, .aload_n 0, 1), (27, .getfield 25, 3), (30, .getfield 37, 3), (33, .aload_n 0, 1), (34, .getfield 9, 3), (37, .iaload, 1)]
theorem e55_26 : am_dec am_M55 q55_26 = true := by decide +kernel
theorem e55_26_r : am_dec am_M55 [(38, .ireturn, 1)] = true := by decide +kernel
theorem b55_26 {d : Nat} {Q : Option Value ⊕ Nat → am_Mem → Prop} {μ : am_Mem} {r0 r1 : Nat} {x2 : Int32}
    (h1 : am_kd μ r0 = (1, 4))
    (h2 : ¬ am_F μ r0 0 = 15)
    (h3 : am_kd μ (am_F μ r0 0) = (1, 9))
    (h4 : ¬ am_F μ (am_F μ r0 0) 1 = 15)
    (h5 : am_kd μ r0 = (1, 4))
    (h6 : (am_kd μ (am_F μ (am_F μ r0 0) 1)).1 = 2 ∨ (am_kd μ (am_F μ (am_F μ r0 0) 1)).1 = 8)
    (h7 : ¬ ((am_A μ r0 2) < 0 ∨ (am_kd μ (am_F μ (am_F μ r0 0) 1)).2 ≤ (am_A μ r0 2).toNatClampNeg))
    (k : Q (.inl (some (.int (am_A μ (am_F μ (am_F μ r0 0) 1) (am_A μ r0 2).toNatClampNeg)))) μ) :
    Wp d 55 (26, [some (.ref r0), some (.ref r1), some (.int x2)], [], μ) Q := wp_blk rfl e55_26 (And.intro h1 (And.intro h2 (And.intro h3 (And.intro h4 (And.intro h5 (And.intro h6 (And.intro h7 (wp_ri (ty := .int) rfl e55_26_r rfl ⟨rfl, rfl⟩ k))))))))
def q55_39 : List (Nat × Instr × Nat) := [(39, .aload_n 0, 1), (40, .getfield 29, 3), (43, .iload_n 2, 1), (44, .iconst 1, 1), (45, .iadd, 1), (46, .putfield 42, 3), (49, .aload_n 0, 1)]
theorem e55_39 : am_dec am_M55 q55_39 = true := by decide +kernel
theorem e55_39_c : am_dc1 am_M55 50 (.invokevirtual 47) 3 = true := by decide +kernel
theorem b55_39 {d : Nat} {Q : Option Value ⊕ Nat → am_Mem → Prop} {μ : am_Mem} {r0 r1 : Nat} {x2 : Int32} {P : Int32 → am_Mem → Prop} {X : Nat → am_Mem → Prop}
    (h1 : am_kd μ r0 = (1, 4))
    (h2 : ¬ am_F μ r0 1 = 15)
    (h3 : am_kd μ (am_F μ r0 1) = (1, 5))
    (hk : am_kd (am_pA μ (am_F μ r0 1) 13 (x2 + (Int32.ofInt 1))) r0 = (1, 4))
    (hc : Wp d 57 (0, [some (.ref r0)], [], (am_pA μ (am_F μ r0 1) 13 (x2 + (Int32.ofInt 1)))) (pI P X)) (hr : ∀ x μ', P x μ' → Wp (d + 1) 55 (53, [some (.ref r0), some (.ref r1), some (.int x2)], [.int x], (μ')) Q)
    (hx : ∀ x μ', X x μ' → Q (.inr x) μ') :
    Wp (d + 1) 55 (39, [some (.ref r0), some (.ref r1), some (.int x2)], [], μ) Q := wp_blk rfl e55_39 (And.intro h1 (And.intro h2 (And.intro h3 (And.intro ⟨rfl, rfl⟩ (wp_cv (as := []) rfl e55_39_c rfl rfl rfl rfl rfl hk hc (fun v μ' hv => by obtain ⟨x, rfl, hp⟩ := pI_r hv; exact hr x μ' hp) hx)))))
def q55_53 : List (Nat × Instr × Nat) := [(53, .iconst 5, 1), (54, .if_icmp .ne 5, 3)]
theorem e55_53 : am_dec am_M55 q55_53 = true := by decide +kernel
theorem b55_53 {d : Nat} {Q : Option Value ⊕ Nat → am_Mem → Prop} {μ : am_Mem} {r0 r1 : Nat} {x2 s0 : Int32}
    (k1 : ¬ s0 = (Int32.ofInt 5) → Wp d 55 (59, [some (.ref r0), some (.ref r1), some (.int x2)], [], μ) Q) (k2 : ¬ (¬ s0 = (Int32.ofInt 5)) → Wp d 55 (57, [some (.ref r0), some (.ref r1), some (.int x2)], [], μ) Q) :
    Wp d 55 (53, [some (.ref r0), some (.ref r1), some (.int x2)], [.int s0], μ) Q := wp_blk rfl e55_53 (And.intro k1 k2)
def q55_57 : List (Nat × Instr × Nat) := [(57, .iconst (-1), 1)]
theorem e55_57 : am_dec am_M55 q55_57 = true := by decide +kernel
theorem e55_57_r : am_dec am_M55 [(58, .ireturn, 1)] = true := by decide +kernel
theorem b55_57 {d : Nat} {Q : Option Value ⊕ Nat → am_Mem → Prop} {μ : am_Mem} {r0 r1 : Nat} {x2 : Int32}
    (k : Q (.inl (some (.int (Int32.ofInt (-1))))) μ) :
    Wp d 55 (57, [some (.ref r0), some (.ref r1), some (.int x2)], [], μ) Q := wp_blk rfl e55_57 (wp_ri (ty := .int) rfl e55_57_r rfl ⟨rfl, rfl⟩ k)
def q55_59 : List (Nat × Instr × Nat) := [(59, .iinc 2 1, 3), (62, .goto (-50), 3)]
theorem e55_59 : am_dec am_M55 q55_59 = true := by decide +kernel
theorem b55_59 {d : Nat} {Q : Option Value ⊕ Nat → am_Mem → Prop} {μ : am_Mem} {r0 r1 : Nat} {x2 : Int32}
    (k : Wp d 55 (12, [some (.ref r0), some (.ref r1), some (.int (x2 + Int32.ofInt 1))], [], μ) Q) :
    Wp d 55 (59, [some (.ref r0), some (.ref r1), some (.int x2)], [], μ) Q := wp_blk rfl e55_59 k
def q55_65 : List (Nat × Instr × Nat) := [(65, .aload_n 0, 1), (66, .getfield 25, 3), (69, .getfield 37, 3), (72, .aload_n 0, 1), (73, .getfield 9, 3), (76, .iaload, 1)]
theorem e55_65 : am_dec am_M55 q55_65 = true := by decide +kernel
theorem e55_65_r : am_dec am_M55 [(77, .ireturn, 1)] = true := by decide +kernel
theorem b55_65 {d : Nat} {Q : Option Value ⊕ Nat → am_Mem → Prop} {μ : am_Mem} {r0 r1 : Nat} {x2 : Int32}
    (h1 : am_kd μ r0 = (1, 4))
    (h2 : ¬ am_F μ r0 0 = 15)
    (h3 : am_kd μ (am_F μ r0 0) = (1, 9))
    (h4 : ¬ am_F μ (am_F μ r0 0) 1 = 15)
    (h5 : am_kd μ r0 = (1, 4))
    (h6 : (am_kd μ (am_F μ (am_F μ r0 0) 1)).1 = 2 ∨ (am_kd μ (am_F μ (am_F μ r0 0) 1)).1 = 8)
    (h7 : ¬ ((am_A μ r0 2) < 0 ∨ (am_kd μ (am_F μ (am_F μ r0 0) 1)).2 ≤ (am_A μ r0 2).toNatClampNeg))
    (k : Q (.inl (some (.int (am_A μ (am_F μ (am_F μ r0 0) 1) (am_A μ r0 2).toNatClampNeg)))) μ) :
    Wp d 55 (65, [some (.ref r0), some (.ref r1), some (.int x2)], [], μ) Q := wp_blk rfl e55_65 (And.intro h1 (And.intro h2 (And.intro h3 (And.intro h4 (And.intro h5 (And.intro h6 (And.intro h7 (wp_ri (ty := .int) rfl e55_65_r rfl ⟨rfl, rfl⟩ k))))))))
/-! RuleSheets$Parser.takeRule(I)Z -/
def q56_0 : List (Nat × Instr × Nat) := [(0, .aload_n 0, 1), (1, .iconst 0, 1), (2, .putfield 19, 3), (5, .aload_n 0, 1), (6, .getfield 29, 3), (9, .getfield 53, 3), (12, .iload_n 1, 1), (13, .iconst 0, 1), (14, .iastore, 1)]
theorem e56_0 : am_dec am_M56 q56_0 = true := by decide +kernel
theorem b56_0 {d : Nat} {Q : Option Value ⊕ Nat → am_Mem → Prop} {μ : am_Mem} {r0 : Nat} {x1 : Int32}
    (h1 : am_kd μ r0 = (1, 4))
    (h2 : am_kd (am_pA μ r0 4 (Int32.ofInt 0)) r0 = (1, 4))
    (h3 : ¬ am_F (am_pA μ r0 4 (Int32.ofInt 0)) r0 1 = 15)
    (h4 : am_kd (am_pA μ r0 4 (Int32.ofInt 0)) (am_F (am_pA μ r0 4 (Int32.ofInt 0)) r0 1) = (1, 5))
    (h5 : ¬ am_F (am_pA μ r0 4 (Int32.ofInt 0)) (am_F (am_pA μ r0 4 (Int32.ofInt 0)) r0 1) 9 = 15)
    (h6 : (am_kd (am_pA μ r0 4 (Int32.ofInt 0)) (am_F (am_pA μ r0 4 (Int32.ofInt 0)) (am_F (am_pA μ r0 4 (Int32.ofInt 0)) r0 1) 9)).1 = 2)
    (h7 : ¬ (x1 < 0 ∨ (am_kd (am_pA μ r0 4 (Int32.ofInt 0)) (am_F (am_pA μ r0 4 (Int32.ofInt 0)) (am_F (am_pA μ r0 4 (Int32.ofInt 0)) r0 1) 9)).2 ≤ x1.toNatClampNeg))
    (k : Wp d 56 (15, [some (.ref r0), some (.int x1), none], [], (am_pA (am_pA μ r0 4 (Int32.ofInt 0)) (am_F (am_pA μ r0 4 (Int32.ofInt 0)) (am_F (am_pA μ r0 4 (Int32.ofInt 0)) r0 1) 9) x1.toNatClampNeg (Int32.ofInt 0))) Q) :
    Wp d 56 (0, [some (.ref r0), some (.int x1), none], [], μ) Q := wp_blk rfl e56_0 (And.intro h1 (And.intro ⟨rfl, rfl⟩ (And.intro h2 (And.intro h3 (And.intro h4 (And.intro h5 (And.intro h6 (And.intro h7 k))))))))
def q56_15 : List (Nat × Instr × Nat) := [(15, .aload_n 0, 1), (16, .getfield 29, 3), (19, .getfield 56, 3), (22, .iload_n 1, 1), (23, .iconst 0, 1), (24, .iastore, 1), (25, .aload_n 0, 1)]
theorem e56_15 : am_dec am_M56 q56_15 = true := by decide +kernel
theorem e56_15_c : am_dc1 am_M56 26 (.invokevirtual 47) 3 = true := by decide +kernel
theorem b56_15 {d : Nat} {Q : Option Value ⊕ Nat → am_Mem → Prop} {μ : am_Mem} {r0 : Nat} {x1 : Int32} {P : Int32 → am_Mem → Prop} {X : Nat → am_Mem → Prop}
    (h1 : am_kd μ r0 = (1, 4))
    (h2 : ¬ am_F μ r0 1 = 15)
    (h3 : am_kd μ (am_F μ r0 1) = (1, 5))
    (h4 : ¬ am_F μ (am_F μ r0 1) 12 = 15)
    (h5 : (am_kd μ (am_F μ (am_F μ r0 1) 12)).1 = 2)
    (h6 : ¬ (x1 < 0 ∨ (am_kd μ (am_F μ (am_F μ r0 1) 12)).2 ≤ x1.toNatClampNeg))
    (hk : am_kd (am_pA μ (am_F μ (am_F μ r0 1) 12) x1.toNatClampNeg (Int32.ofInt 0)) r0 = (1, 4))
    (hc : Wp d 57 (0, [some (.ref r0)], [], (am_pA μ (am_F μ (am_F μ r0 1) 12) x1.toNatClampNeg (Int32.ofInt 0))) (pI P X)) (hr : ∀ x μ', P x μ' → Wp (d + 1) 56 (29, [some (.ref r0), some (.int x1), none], [.int x], (μ')) Q)
    (hx : ∀ x μ', X x μ' → Q (.inr x) μ') :
    Wp (d + 1) 56 (15, [some (.ref r0), some (.int x1), none], [], μ) Q := wp_blk rfl e56_15 (And.intro h1 (And.intro h2 (And.intro h3 (And.intro h4 (And.intro h5 (And.intro h6 (wp_cv (as := []) rfl e56_15_c rfl rfl rfl rfl rfl hk hc (fun v μ' hv => by obtain ⟨x, rfl, hp⟩ := pI_r hv; exact hr x μ' hp) hx)))))))
def q56_29 : List (Nat × Instr × Nat) := [(29, .ifCond .ne 25, 3)]
theorem e56_29 : am_dec am_M56 q56_29 = true := by decide +kernel
theorem b56_29 {d : Nat} {Q : Option Value ⊕ Nat → am_Mem → Prop} {μ : am_Mem} {r0 : Nat} {x1 s0 : Int32}
    (k1 : ¬ s0 = 0 → Wp d 56 (54, [some (.ref r0), some (.int x1), none], [], μ) Q) (k2 : ¬ (¬ s0 = 0) → Wp d 56 (32, [some (.ref r0), some (.int x1), none], [], μ) Q) :
    Wp d 56 (29, [some (.ref r0), some (.int x1), none], [.int s0], μ) Q := wp_blk rfl e56_29 (And.intro k1 k2)
def q56_32 : List (Nat × Instr × Nat) := [(32, .aload_n 0, 1), (33, .getfield 25, 3), (36, .getfield 51, 3), (39, .aload_n 0, 1), (40, .getfield 9, 3), (43, .iconst 1, 1), (44, .iadd, 1), (45, .iaload, 1), (46, .iconst 2, 1), (47, .if_icmp .ne 7, 3)]
theorem e56_32 : am_dec am_M56 q56_32 = true := by decide +kernel
theorem b56_32 {d : Nat} {Q : Option Value ⊕ Nat → am_Mem → Prop} {μ : am_Mem} {r0 : Nat} {x1 : Int32}
    (h1 : am_kd μ r0 = (1, 4))
    (h2 : ¬ am_F μ r0 0 = 15)
    (h3 : am_kd μ (am_F μ r0 0) = (1, 9))
    (h4 : ¬ am_F μ (am_F μ r0 0) 0 = 15)
    (h5 : am_kd μ r0 = (1, 4))
    (h6 : (am_kd μ (am_F μ (am_F μ r0 0) 0)).1 = 2 ∨ (am_kd μ (am_F μ (am_F μ r0 0) 0)).1 = 8)
    (h7 : ¬ (((am_A μ r0 2) + (Int32.ofInt 1)) < 0 ∨ (am_kd μ (am_F μ (am_F μ r0 0) 0)).2 ≤ ((am_A μ r0 2) + (Int32.ofInt 1)).toNatClampNeg))
    (k1 : ¬ (am_A μ (am_F μ (am_F μ r0 0) 0) ((am_A μ r0 2) + (Int32.ofInt 1)).toNatClampNeg) = (Int32.ofInt 2) → Wp d 56 (54, [some (.ref r0), some (.int x1), none], [], μ) Q) (k2 : ¬ (¬ (am_A μ (am_F μ (am_F μ r0 0) 0) ((am_A μ r0 2) + (Int32.ofInt 1)).toNatClampNeg) = (Int32.ofInt 2)) → Wp d 56 (50, [some (.ref r0), some (.int x1), none], [], μ) Q) :
    Wp d 56 (32, [some (.ref r0), some (.int x1), none], [], μ) Q := wp_blk rfl e56_32 (And.intro h1 (And.intro h2 (And.intro h3 (And.intro h4 (And.intro h5 (And.intro h6 (And.intro h7 (And.intro k1 k2))))))))
def q56_50 : List (Nat × Instr × Nat) := [(50, .iconst 1, 1), (51, .goto 4, 3)]
theorem e56_50 : am_dec am_M56 q56_50 = true := by decide +kernel
theorem b56_50 {d : Nat} {Q : Option Value ⊕ Nat → am_Mem → Prop} {μ : am_Mem} {r0 : Nat} {x1 : Int32}
    (k : Wp d 56 (55, [some (.ref r0), some (.int x1), none], [.int (Int32.ofInt 1)], μ) Q) :
    Wp d 56 (50, [some (.ref r0), some (.int x1), none], [], μ) Q := wp_blk rfl e56_50 k
def q56_54 : List (Nat × Instr × Nat) := [(54, .iconst 0, 1)]
theorem e56_54 : am_dec am_M56 q56_54 = true := by decide +kernel
theorem b56_54 {d : Nat} {Q : Option Value ⊕ Nat → am_Mem → Prop} {μ : am_Mem} {r0 : Nat} {x1 : Int32}
    (k : Wp d 56 (55, [some (.ref r0), some (.int x1), none], [.int (Int32.ofInt 0)], μ) Q) :
    Wp d 56 (54, [some (.ref r0), some (.int x1), none], [], μ) Q := wp_blk rfl e56_54 k
def q56_55 : List (Nat × Instr × Nat) := [(55, .istore_n 2, 1), (56, .iload_n 2, 1), (57, .ifCond .eq 13, 3)]
theorem e56_55 : am_dec am_M56 q56_55 = true := by decide +kernel
theorem b56_55 {d : Nat} {Q : Option Value ⊕ Nat → am_Mem → Prop} {μ : am_Mem} {r0 : Nat} {x1 s0 : Int32}
    (k1 : s0 = 0 → Wp d 56 (70, [some (.ref r0), some (.int x1), some (.int s0)], [], μ) Q) (k2 : ¬ (s0 = 0) → Wp d 56 (60, [some (.ref r0), some (.int x1), some (.int s0)], [], μ) Q) :
    Wp d 56 (55, [some (.ref r0), some (.int x1), none], [.int s0], μ) Q := wp_blk rfl e56_55 (And.intro k1 k2)
def q56_60 : List (Nat × Instr × Nat) := [(60, .aload_n 0, 1), (61, .dup, 1), (62, .getfield 9, 3), (65, .iconst 2, 1), (66, .iadd, 1), (67, .putfield 9, 3)]
theorem e56_60 : am_dec am_M56 q56_60 = true := by decide +kernel
theorem b56_60 {d : Nat} {Q : Option Value ⊕ Nat → am_Mem → Prop} {μ : am_Mem} {r0 : Nat} {x1 x2 : Int32}
    (h1 : am_kd μ r0 = (1, 4))
    (h2 : am_kd μ r0 = (1, 4))
    (k : Wp d 56 (70, [some (.ref r0), some (.int x1), some (.int x2)], [], (am_pA μ r0 2 ((am_A μ r0 2) + (Int32.ofInt 2)))) Q) :
    Wp d 56 (60, [some (.ref r0), some (.int x1), some (.int x2)], [], μ) Q := wp_blk rfl e56_60 (And.intro h1 (And.intro h2 (And.intro ⟨rfl, rfl⟩ k)))
def q56_70 : List (Nat × Instr × Nat) := [(70, .aload_n 0, 1), (71, .getfield 29, 3), (74, .getfield 59, 3), (77, .iload_n 1, 1), (78, .aload_n 0, 1), (79, .iload_n 2, 1), (80, .ifCond .eq 7, 3)]
theorem e56_70 : am_dec am_M56 q56_70 = true := by decide +kernel
theorem b56_70 {d : Nat} {Q : Option Value ⊕ Nat → am_Mem → Prop} {μ : am_Mem} {r0 : Nat} {x1 x2 : Int32}
    (h1 : am_kd μ r0 = (1, 4))
    (h2 : ¬ am_F μ r0 1 = 15)
    (h3 : am_kd μ (am_F μ r0 1) = (1, 5))
    (h4 : ¬ am_F μ (am_F μ r0 1) 7 = 15)
    (k1 : x2 = 0 → Wp d 56 (87, [some (.ref r0), some (.int x1), some (.int x2)], [.ref r0, .int x1, .ref (am_F μ (am_F μ r0 1) 7)], μ) Q) (k2 : ¬ (x2 = 0) → Wp d 56 (83, [some (.ref r0), some (.int x1), some (.int x2)], [.ref r0, .int x1, .ref (am_F μ (am_F μ r0 1) 7)], μ) Q) :
    Wp d 56 (70, [some (.ref r0), some (.int x1), some (.int x2)], [], μ) Q := wp_blk rfl e56_70 (And.intro h1 (And.intro h2 (And.intro h3 (And.intro h4 (And.intro k1 k2)))))
def q56_83 : List (Nat × Instr × Nat) := [(83, .iconst 1, 1), (84, .goto 4, 3)]
theorem e56_83 : am_dec am_M56 q56_83 = true := by decide +kernel
theorem b56_83 {d : Nat} {Q : Option Value ⊕ Nat → am_Mem → Prop} {μ : am_Mem} {r0 r90 r92 : Nat} {x1 x2 s1 : Int32}
    (k : Wp d 56 (88, [some (.ref r0), some (.int x1), some (.int x2)], [.int (Int32.ofInt 1), .ref r92, .int s1, .ref r90], μ) Q) :
    Wp d 56 (83, [some (.ref r0), some (.int x1), some (.int x2)], [.ref r92, .int s1, .ref r90], μ) Q := wp_blk rfl e56_83 k
def q56_87 : List (Nat × Instr × Nat) := [(87, .iconst 0, 1)]
theorem e56_87 : am_dec am_M56 q56_87 = true := by decide +kernel
theorem b56_87 {d : Nat} {Q : Option Value ⊕ Nat → am_Mem → Prop} {μ : am_Mem} {r0 r90 r92 : Nat} {x1 x2 s1 : Int32}
    (k : Wp d 56 (88, [some (.ref r0), some (.int x1), some (.int x2)], [.int (Int32.ofInt 0), .ref r92, .int s1, .ref r90], μ) Q) :
    Wp d 56 (87, [some (.ref r0), some (.int x1), some (.int x2)], [.ref r92, .int s1, .ref r90], μ) Q := wp_blk rfl e56_87 k
def q56_88 : List (Nat × Instr × Nat) := [(88, .iconst 1, 1)]
theorem e56_88 : am_dec am_M56 q56_88 = true := by decide +kernel
theorem e56_88_c : am_dc1 am_M56 89 (.invokevirtual 62) 3 = true := by decide +kernel
theorem b56_88 {d : Nat} {Q : Option Value ⊕ Nat → am_Mem → Prop} {μ : am_Mem} {r0 r90 r92 : Nat} {x1 x2 s1 s3 : Int32} {P : Int32 → am_Mem → Prop} {X : Nat → am_Mem → Prop}
    (hk : am_kd μ r92 = (1, 4))
    (hc : Wp d 58 (0, [some (.ref r92), some (.int s3), some (.int (Int32.ofInt 1)), none, none], [], μ) (pI P X)) (hr : ∀ x μ', P x μ' → Wp (d + 1) 56 (92, [some (.ref r0), some (.int x1), some (.int x2)], [.int x, .int s1, .ref r90], (μ')) Q)
    (hx : ∀ x μ', X x μ' → Q (.inr x) μ') :
    Wp (d + 1) 56 (88, [some (.ref r0), some (.int x1), some (.int x2)], [.int s3, .ref r92, .int s1, .ref r90], μ) Q := wp_blk rfl e56_88 (wp_cv (as := [.int s3, .int (Int32.ofInt 1)]) rfl e56_88_c rfl rfl rfl rfl rfl hk hc (fun v μ' hv => by obtain ⟨x, rfl, hp⟩ := pI_r hv; exact hr x μ' hp) hx)
def q56_92 : List (Nat × Instr × Nat) := [(92, .iastore, 1), (93, .aload_n 0, 1), (94, .getfield 29, 3), (97, .getfield 59, 3), (100, .iload_n 1, 1), (101, .iaload, 1), (102, .iconst (-1), 1), (103, .if_icmp .ne 5, 3)]
theorem e56_92 : am_dec am_M56 q56_92 = true := by decide +kernel
theorem b56_92 {d : Nat} {Q : Option Value ⊕ Nat → am_Mem → Prop} {μ : am_Mem} {r0 r90 : Nat} {x1 x2 s1 s2 : Int32}
    (h1 : (am_kd μ r90).1 = 2)
    (h2 : ¬ (s1 < 0 ∨ (am_kd μ r90).2 ≤ s1.toNatClampNeg))
    (h3 : am_kd (am_pA μ r90 s1.toNatClampNeg s2) r0 = (1, 4))
    (h4 : ¬ am_F (am_pA μ r90 s1.toNatClampNeg s2) r0 1 = 15)
    (h5 : am_kd (am_pA μ r90 s1.toNatClampNeg s2) (am_F (am_pA μ r90 s1.toNatClampNeg s2) r0 1) = (1, 5))
    (h6 : ¬ am_F (am_pA μ r90 s1.toNatClampNeg s2) (am_F (am_pA μ r90 s1.toNatClampNeg s2) r0 1) 7 = 15)
    (h7 : (am_kd (am_pA μ r90 s1.toNatClampNeg s2) (am_F (am_pA μ r90 s1.toNatClampNeg s2) (am_F (am_pA μ r90 s1.toNatClampNeg s2) r0 1) 7)).1 = 2 ∨ (am_kd (am_pA μ r90 s1.toNatClampNeg s2) (am_F (am_pA μ r90 s1.toNatClampNeg s2) (am_F (am_pA μ r90 s1.toNatClampNeg s2) r0 1) 7)).1 = 8)
    (h8 : ¬ (x1 < 0 ∨ (am_kd (am_pA μ r90 s1.toNatClampNeg s2) (am_F (am_pA μ r90 s1.toNatClampNeg s2) (am_F (am_pA μ r90 s1.toNatClampNeg s2) r0 1) 7)).2 ≤ x1.toNatClampNeg))
    (k1 : ¬ (am_A (am_pA μ r90 s1.toNatClampNeg s2) (am_F (am_pA μ r90 s1.toNatClampNeg s2) (am_F (am_pA μ r90 s1.toNatClampNeg s2) r0 1) 7) x1.toNatClampNeg) = (Int32.ofInt (-1)) → Wp d 56 (108, [some (.ref r0), some (.int x1), some (.int x2)], [], (am_pA μ r90 s1.toNatClampNeg s2)) Q) (k2 : ¬ (¬ (am_A (am_pA μ r90 s1.toNatClampNeg s2) (am_F (am_pA μ r90 s1.toNatClampNeg s2) (am_F (am_pA μ r90 s1.toNatClampNeg s2) r0 1) 7) x1.toNatClampNeg) = (Int32.ofInt (-1))) → Wp d 56 (106, [some (.ref r0), some (.int x1), some (.int x2)], [], (am_pA μ r90 s1.toNatClampNeg s2)) Q) :
    Wp d 56 (92, [some (.ref r0), some (.int x1), some (.int x2)], [.int s2, .int s1, .ref r90], μ) Q := wp_blk rfl e56_92 (And.intro h1 (And.intro h2 (And.intro h3 (And.intro h4 (And.intro h5 (And.intro h6 (And.intro h7 (And.intro h8 (And.intro k1 k2)))))))))
def q56_106 : List (Nat × Instr × Nat) := [(106, .iconst 0, 1)]
theorem e56_106 : am_dec am_M56 q56_106 = true := by decide +kernel
theorem e56_106_r : am_dec am_M56 [(107, .ireturn, 1)] = true := by decide +kernel
theorem b56_106 {d : Nat} {Q : Option Value ⊕ Nat → am_Mem → Prop} {μ : am_Mem} {r0 : Nat} {x1 x2 : Int32}
    (k : Q (.inl (some (.int (Int32.ofInt 0)))) μ) :
    Wp d 56 (106, [some (.ref r0), some (.int x1), some (.int x2)], [], μ) Q := wp_blk rfl e56_106 (wp_ri (ty := .boolean) rfl e56_106_r rfl (by decide) k)
def q56_108 : List (Nat × Instr × Nat) := [(108, .iload_n 2, 1), (109, .ifCond .eq 11, 3)]
theorem e56_108 : am_dec am_M56 q56_108 = true := by decide +kernel
theorem b56_108 {d : Nat} {Q : Option Value ⊕ Nat → am_Mem → Prop} {μ : am_Mem} {r0 : Nat} {x1 x2 : Int32}
    (k1 : x2 = 0 → Wp d 56 (120, [some (.ref r0), some (.int x1), some (.int x2)], [], μ) Q) (k2 : ¬ (x2 = 0) → Wp d 56 (112, [some (.ref r0), some (.int x1), some (.int x2)], [], μ) Q) :
    Wp d 56 (108, [some (.ref r0), some (.int x1), some (.int x2)], [], μ) Q := wp_blk rfl e56_108 (And.intro k1 k2)
def q56_112 : List (Nat × Instr × Nat) := [(112, .aload_n 0, 1), (113, .iload_n 1, 1)]
theorem e56_112 : am_dec am_M56 q56_112 = true := by decide +kernel
theorem e56_112_c : am_dc1 am_M56 114 (.invokevirtual 66) 3 = true := by decide +kernel
theorem b56_112 {d : Nat} {Q : Option Value ⊕ Nat → am_Mem → Prop} {μ : am_Mem} {r0 : Nat} {x1 x2 : Int32} {P : Int32 → am_Mem → Prop} {X : Nat → am_Mem → Prop}
    (hk : am_kd μ r0 = (1, 4))
    (hc : Wp d 62 (0, [some (.ref r0), some (.int x1), none], [], μ) (pI P X)) (hr : ∀ x μ', P x μ' → Wp (d + 1) 56 (117, [some (.ref r0), some (.int x1), some (.int x2)], [.int x], (μ')) Q)
    (hx : ∀ x μ', X x μ' → Q (.inr x) μ') :
    Wp (d + 1) 56 (112, [some (.ref r0), some (.int x1), some (.int x2)], [], μ) Q := wp_blk rfl e56_112 (wp_cv (as := [.int x1]) rfl e56_112_c rfl rfl rfl rfl rfl hk hc (fun v μ' hv => by obtain ⟨x, rfl, hp⟩ := pI_r hv; exact hr x μ' hp) hx)
def q56_117 : List (Nat × Instr × Nat) := [(117, .ifCond .eq 7, 3)]
theorem e56_117 : am_dec am_M56 q56_117 = true := by decide +kernel
theorem b56_117 {d : Nat} {Q : Option Value ⊕ Nat → am_Mem → Prop} {μ : am_Mem} {r0 : Nat} {x1 x2 s0 : Int32}
    (k1 : s0 = 0 → Wp d 56 (124, [some (.ref r0), some (.int x1), some (.int x2)], [], μ) Q) (k2 : ¬ (s0 = 0) → Wp d 56 (120, [some (.ref r0), some (.int x1), some (.int x2)], [], μ) Q) :
    Wp d 56 (117, [some (.ref r0), some (.int x1), some (.int x2)], [.int s0], μ) Q := wp_blk rfl e56_117 (And.intro k1 k2)
def q56_120 : List (Nat × Instr × Nat) := [(120, .iconst 1, 1), (121, .goto 4, 3)]
theorem e56_120 : am_dec am_M56 q56_120 = true := by decide +kernel
theorem b56_120 {d : Nat} {Q : Option Value ⊕ Nat → am_Mem → Prop} {μ : am_Mem} {r0 : Nat} {x1 x2 : Int32}
    (k : Wp d 56 (125, [some (.ref r0), some (.int x1), some (.int x2)], [.int (Int32.ofInt 1)], μ) Q) :
    Wp d 56 (120, [some (.ref r0), some (.int x1), some (.int x2)], [], μ) Q := wp_blk rfl e56_120 k
def q56_124 : List (Nat × Instr × Nat) := [(124, .iconst 0, 1)]
theorem e56_124 : am_dec am_M56 q56_124 = true := by decide +kernel
theorem b56_124 {d : Nat} {Q : Option Value ⊕ Nat → am_Mem → Prop} {μ : am_Mem} {r0 : Nat} {x1 x2 : Int32}
    (k : Wp d 56 (125, [some (.ref r0), some (.int x1), some (.int x2)], [.int (Int32.ofInt 0)], μ) Q) :
    Wp d 56 (124, [some (.ref r0), some (.int x1), some (.int x2)], [], μ) Q := wp_blk rfl e56_124 k
theorem e56_125_r : am_dec am_M56 [(125, .ireturn, 1)] = true := by decide +kernel
theorem b56_125 {d : Nat} {Q : Option Value ⊕ Nat → am_Mem → Prop} {μ : am_Mem} {r0 : Nat} {x1 x2 s0 : Int32}
    (hn : narrow .boolean (.int s0) = .int s0 ∧ fits .boolean (.int s0) = true)
    (k : Q (.inl (some (.int s0))) μ) :
    Wp d 56 (125, [some (.ref r0), some (.int x1), some (.int x2)], [.int s0], μ) Q := (wp_ri (ty := .boolean) rfl e56_125_r rfl hn k)
/-! RuleSheets$Parser.kind()I -/
def q57_0 : List (Nat × Instr × Nat) := [(0, .aload_n 0, 1), (1, .getfield 25, 3), (4, .getfield 51, 3), (7, .aload_n 0, 1), (8, .getfield 9, 3), (11, .iaload, 1)]
theorem e57_0 : am_dec am_M57 q57_0 = true := by decide +kernel
theorem e57_0_r : am_dec am_M57 [(12, .ireturn, 1)] = true := by decide +kernel
theorem b57_0 {d : Nat} {Q : Option Value ⊕ Nat → am_Mem → Prop} {μ : am_Mem} {r0 : Nat}
    (h1 : am_kd μ r0 = (1, 4))
    (h2 : ¬ am_F μ r0 0 = 15)
    (h3 : am_kd μ (am_F μ r0 0) = (1, 9))
    (h4 : ¬ am_F μ (am_F μ r0 0) 0 = 15)
    (h5 : am_kd μ r0 = (1, 4))
    (h6 : (am_kd μ (am_F μ (am_F μ r0 0) 0)).1 = 2 ∨ (am_kd μ (am_F μ (am_F μ r0 0) 0)).1 = 8)
    (h7 : ¬ ((am_A μ r0 2) < 0 ∨ (am_kd μ (am_F μ (am_F μ r0 0) 0)).2 ≤ (am_A μ r0 2).toNatClampNeg))
    (k : Q (.inl (some (.int (am_A μ (am_F μ (am_F μ r0 0) 0) (am_A μ r0 2).toNatClampNeg)))) μ) :
    Wp d 57 (0, [some (.ref r0)], [], μ) Q := wp_blk rfl e57_0 (And.intro h1 (And.intro h2 (And.intro h3 (And.intro h4 (And.intro h5 (And.intro h6 (And.intro h7 (wp_ri (ty := .int) rfl e57_0_r rfl ⟨rfl, rfl⟩ k))))))))
/-! RuleSheets$Parser.takeTerm(IZ)I -/
def q58_0 : List (Nat × Instr × Nat) := [(0, .aload_n 0, 1)]
theorem e58_0 : am_dec am_M58 q58_0 = true := by decide +kernel
theorem e58_0_c : am_dc1 am_M58 1 (.invokevirtual 47) 3 = true := by decide +kernel
theorem b58_0 {d : Nat} {Q : Option Value ⊕ Nat → am_Mem → Prop} {μ : am_Mem} {r0 : Nat} {x1 x2 : Int32} {P : Int32 → am_Mem → Prop} {X : Nat → am_Mem → Prop}
    (hk : am_kd μ r0 = (1, 4))
    (hc : Wp d 57 (0, [some (.ref r0)], [], μ) (pI P X)) (hr : ∀ x μ', P x μ' → Wp (d + 1) 58 (4, [some (.ref r0), some (.int x1), some (.int x2), none, none], [.int x], (μ')) Q)
    (hx : ∀ x μ', X x μ' → Q (.inr x) μ') :
    Wp (d + 1) 58 (0, [some (.ref r0), some (.int x1), some (.int x2), none, none], [], μ) Q := wp_blk rfl e58_0 (wp_cv (as := []) rfl e58_0_c rfl rfl rfl rfl rfl hk hc (fun v μ' hv => by obtain ⟨x, rfl, hp⟩ := pI_r hv; exact hr x μ' hp) hx)
def q58_4 : List (Nat × Instr × Nat) := [(4, .iconst 4, 1), (5, .if_icmp .ne 38, 3)]
theorem e58_4 : am_dec am_M58 q58_4 = true := by decide +kernel
theorem b58_4 {d : Nat} {Q : Option Value ⊕ Nat → am_Mem → Prop} {μ : am_Mem} {r0 : Nat} {x1 x2 s0 : Int32}
    (k1 : ¬ s0 = (Int32.ofInt 4) → Wp d 58 (43, [some (.ref r0), some (.int x1), some (.int x2), none, none], [], μ) Q) (k2 : ¬ (¬ s0 = (Int32.ofInt 4)) → Wp d 58 (8, [some (.ref r0), some (.int x1), some (.int x2), none, none], [], μ) Q) :
    Wp d 58 (4, [some (.ref r0), some (.int x1), some (.int x2), none, none], [.int s0], μ) Q := wp_blk rfl e58_4 (And.intro k1 k2)
def q58_8 : List (Nat × Instr × Nat) := [(8, .iload_n 2, 1), (9, .ifCond .ne 34, 3)]
theorem e58_8 : am_dec am_M58 q58_8 = true := by decide +kernel
theorem b58_8 {d : Nat} {Q : Option Value ⊕ Nat → am_Mem → Prop} {μ : am_Mem} {r0 : Nat} {x1 x2 : Int32}
    (k1 : ¬ x2 = 0 → Wp d 58 (43, [some (.ref r0), some (.int x1), some (.int x2), none, none], [], μ) Q) (k2 : ¬ (¬ x2 = 0) → Wp d 58 (12, [some (.ref r0), some (.int x1), some (.int x2), none, none], [], μ) Q) :
    Wp d 58 (8, [some (.ref r0), some (.int x1), some (.int x2), none, none], [], μ) Q := wp_blk rfl e58_8 (And.intro k1 k2)
def q58_12 : List (Nat × Instr × Nat) := [(12, .aload_n 0, 1)]
theorem e58_12 : am_dec am_M58 q58_12 = true := by decide +kernel
theorem e58_12_c : am_dc1 am_M58 13 (.invokevirtual 90) 3 = true := by decide +kernel
theorem b58_12 {d : Nat} {Q : Option Value ⊕ Nat → am_Mem → Prop} {μ : am_Mem} {r0 : Nat} {x1 x2 : Int32} {P : Int32 → am_Mem → Prop} {X : Nat → am_Mem → Prop}
    (hk : am_kd μ r0 = (1, 4))
    (hc : Wp d 59 (0, [some (.ref r0), none, none, none], [], μ) (pI P X)) (hr : ∀ x μ', P x μ' → Wp (d + 1) 58 (16, [some (.ref r0), some (.int x1), some (.int x2), none, none], [.int x], (μ')) Q)
    (hx : ∀ x μ', X x μ' → Q (.inr x) μ') :
    Wp (d + 1) 58 (12, [some (.ref r0), some (.int x1), some (.int x2), none, none], [], μ) Q := wp_blk rfl e58_12 (wp_cv (as := []) rfl e58_12_c rfl rfl rfl rfl rfl hk hc (fun v μ' hv => by obtain ⟨x, rfl, hp⟩ := pI_r hv; exact hr x μ' hp) hx)
def q58_16 : List (Nat × Instr × Nat) := [(16, .istore_n 3, 1), (17, .iload_n 3, 1), (18, .iconst (-1), 1), (19, .if_icmp .ne 7, 3)]
theorem e58_16 : am_dec am_M58 q58_16 = true := by decide +kernel
theorem b58_16 {d : Nat} {Q : Option Value ⊕ Nat → am_Mem → Prop} {μ : am_Mem} {r0 : Nat} {x1 x2 s0 : Int32}
    (k1 : ¬ s0 = (Int32.ofInt (-1)) → Wp d 58 (26, [some (.ref r0), some (.int x1), some (.int x2), some (.int s0), none], [], μ) Q) (k2 : ¬ (¬ s0 = (Int32.ofInt (-1))) → Wp d 58 (22, [some (.ref r0), some (.int x1), some (.int x2), some (.int s0), none], [], μ) Q) :
    Wp d 58 (16, [some (.ref r0), some (.int x1), some (.int x2), none, none], [.int s0], μ) Q := wp_blk rfl e58_16 (And.intro k1 k2)
def q58_22 : List (Nat × Instr × Nat) := [(22, .iconst (-1), 1), (23, .goto 19, 3)]
theorem e58_22 : am_dec am_M58 q58_22 = true := by decide +kernel
theorem b58_22 {d : Nat} {Q : Option Value ⊕ Nat → am_Mem → Prop} {μ : am_Mem} {r0 : Nat} {x1 x2 x3 : Int32}
    (k : Wp d 58 (42, [some (.ref r0), some (.int x1), some (.int x2), some (.int x3), none], [.int (Int32.ofInt (-1))], μ) Q) :
    Wp d 58 (22, [some (.ref r0), some (.int x1), some (.int x2), some (.int x3), none], [], μ) Q := wp_blk rfl e58_22 k
def q58_26 : List (Nat × Instr × Nat) := [(26, .aload_n 0, 1), (27, .getfield 29, 3), (30, .iconst (-1), 1), (31, .iload_n 3, 1), (32, .isub, 1), (33, .iconst 0, 1), (34, .aload_n 0, 1), (35, .getfield 22, 3), (38, .iconst 0, 1)]
theorem e58_26 : am_dec am_M58 q58_26 = true := by decide +kernel
theorem e58_26_c : am_dc1 am_M58 39 (.invokevirtual 93) 3 = true := by decide +kernel
theorem b58_26 {d : Nat} {Q : Option Value ⊕ Nat → am_Mem → Prop} {μ : am_Mem} {r0 : Nat} {x1 x2 x3 : Int32} {P : Int32 → am_Mem → Prop} {X : Nat → am_Mem → Prop}
    (h1 : am_kd μ r0 = (1, 4))
    (h2 : ¬ am_F μ r0 1 = 15)
    (h3 : am_kd μ r0 = (1, 4))
    (h4 : ¬ am_F μ r0 5 = 15)
    (hk : am_kd μ (am_F μ r0 1) = (1, 5))
    (hc : Wp d 66 (0, [some (.ref (am_F μ r0 1)), some (.int ((Int32.ofInt (-1)) - x3)), some (.int (Int32.ofInt 0)), some (.ref (am_F μ r0 5)), some (.int (Int32.ofInt 0)), none, none], [], μ) (pI P X)) (hr : ∀ x μ', P x μ' → Wp (d + 1) 58 (42, [some (.ref r0), some (.int x1), some (.int x2), some (.int x3), none], [.int x], (μ')) Q)
    (hx : ∀ x μ', X x μ' → Q (.inr x) μ') :
    Wp (d + 1) 58 (26, [some (.ref r0), some (.int x1), some (.int x2), some (.int x3), none], [], μ) Q := wp_blk rfl e58_26 (And.intro h1 (And.intro h2 (And.intro h3 (And.intro h4 (wp_cv (as := [.int ((Int32.ofInt (-1)) - x3), .int (Int32.ofInt 0), .ref (am_F μ r0 5), .int (Int32.ofInt 0)]) rfl e58_26_c rfl rfl rfl rfl rfl hk hc (fun v μ' hv => by obtain ⟨x, rfl, hp⟩ := pI_r hv; exact hr x μ' hp) hx)))))
theorem e58_42_r : am_dec am_M58 [(42, .ireturn, 1)] = true := by decide +kernel
theorem b58_42 {d : Nat} {Q : Option Value ⊕ Nat → am_Mem → Prop} {μ : am_Mem} {r0 : Nat} {x1 x2 x3 s0 : Int32}
    (k : Q (.inl (some (.int s0))) μ) :
    Wp d 58 (42, [some (.ref r0), some (.int x1), some (.int x2), some (.int x3), none], [.int s0], μ) Q := (wp_ri (ty := .int) rfl e58_42_r rfl ⟨rfl, rfl⟩ k)
def q58_43 : List (Nat × Instr × Nat) := [(43, .aload_n 0, 1)]
theorem e58_43 : am_dec am_M58 q58_43 = true := by decide +kernel
theorem e58_43_c : am_dc1 am_M58 44 (.invokevirtual 47) 3 = true := by decide +kernel
theorem b58_43 {d : Nat} {Q : Option Value ⊕ Nat → am_Mem → Prop} {μ : am_Mem} {r0 : Nat} {x1 x2 : Int32} {P : Int32 → am_Mem → Prop} {X : Nat → am_Mem → Prop}
    (hk : am_kd μ r0 = (1, 4))
    (hc : Wp d 57 (0, [some (.ref r0)], [], μ) (pI P X)) (hr : ∀ x μ', P x μ' → Wp (d + 1) 58 (47, [some (.ref r0), some (.int x1), some (.int x2), none, none], [.int x], (μ')) Q)
    (hx : ∀ x μ', X x μ' → Q (.inr x) μ') :
    Wp (d + 1) 58 (43, [some (.ref r0), some (.int x1), some (.int x2), none, none], [], μ) Q := wp_blk rfl e58_43 (wp_cv (as := []) rfl e58_43_c rfl rfl rfl rfl rfl hk hc (fun v μ' hv => by obtain ⟨x, rfl, hp⟩ := pI_r hv; exact hr x μ' hp) hx)
def q58_47 : List (Nat × Instr × Nat) := [(47, .ifCond .ne 7, 3)]
theorem e58_47 : am_dec am_M58 q58_47 = true := by decide +kernel
theorem b58_47 {d : Nat} {Q : Option Value ⊕ Nat → am_Mem → Prop} {μ : am_Mem} {r0 : Nat} {x1 x2 s0 : Int32}
    (k1 : ¬ s0 = 0 → Wp d 58 (54, [some (.ref r0), some (.int x1), some (.int x2), none, none], [], μ) Q) (k2 : ¬ (¬ s0 = 0) → Wp d 58 (50, [some (.ref r0), some (.int x1), some (.int x2), none, none], [], μ) Q) :
    Wp d 58 (47, [some (.ref r0), some (.int x1), some (.int x2), none, none], [.int s0], μ) Q := wp_blk rfl e58_47 (And.intro k1 k2)
def q58_50 : List (Nat × Instr × Nat) := [(50, .iconst 1, 1), (51, .goto 4, 3)]
theorem e58_50 : am_dec am_M58 q58_50 = true := by decide +kernel
theorem b58_50 {d : Nat} {Q : Option Value ⊕ Nat → am_Mem → Prop} {μ : am_Mem} {r0 : Nat} {x1 x2 : Int32}
    (k : Wp d 58 (55, [some (.ref r0), some (.int x1), some (.int x2), none, none], [.int (Int32.ofInt 1)], μ) Q) :
    Wp d 58 (50, [some (.ref r0), some (.int x1), some (.int x2), none, none], [], μ) Q := wp_blk rfl e58_50 k
def q58_54 : List (Nat × Instr × Nat) := [(54, .iconst 0, 1)]
theorem e58_54 : am_dec am_M58 q58_54 = true := by decide +kernel
theorem b58_54 {d : Nat} {Q : Option Value ⊕ Nat → am_Mem → Prop} {μ : am_Mem} {r0 : Nat} {x1 x2 : Int32}
    (k : Wp d 58 (55, [some (.ref r0), some (.int x1), some (.int x2), none, none], [.int (Int32.ofInt 0)], μ) Q) :
    Wp d 58 (54, [some (.ref r0), some (.int x1), some (.int x2), none, none], [], μ) Q := wp_blk rfl e58_54 k
def q58_55 : List (Nat × Instr × Nat) := [(55, .istore_n 3, 1), (56, .iload_n 3, 1), (57, .ifCond .eq 21, 3)]
theorem e58_55 : am_dec am_M58 q58_55 = true := by decide +kernel
theorem b58_55 {d : Nat} {Q : Option Value ⊕ Nat → am_Mem → Prop} {μ : am_Mem} {r0 : Nat} {x1 x2 s0 : Int32}
    (k1 : s0 = 0 → Wp d 58 (78, [some (.ref r0), some (.int x1), some (.int x2), some (.int s0), none], [], μ) Q) (k2 : ¬ (s0 = 0) → Wp d 58 (60, [some (.ref r0), some (.int x1), some (.int x2), some (.int s0), none], [], μ) Q) :
    Wp d 58 (55, [some (.ref r0), some (.int x1), some (.int x2), none, none], [.int s0], μ) Q := wp_blk rfl e58_55 (And.intro k1 k2)
def q58_60 : List (Nat × Instr × Nat) := [(60, .iload_n 1, 1), (61, .bipush 10, 2), (63, .if_icmp .lt 5, 3)]
theorem e58_60 : am_dec am_M58 q58_60 = true := by decide +kernel
theorem b58_60 {d : Nat} {Q : Option Value ⊕ Nat → am_Mem → Prop} {μ : am_Mem} {r0 : Nat} {x1 x2 x3 : Int32}
    (k1 : x1 < ((Int8.ofInt 10).toInt32) → Wp d 58 (68, [some (.ref r0), some (.int x1), some (.int x2), some (.int x3), none], [], μ) Q) (k2 : ¬ (x1 < ((Int8.ofInt 10).toInt32)) → Wp d 58 (66, [some (.ref r0), some (.int x1), some (.int x2), some (.int x3), none], [], μ) Q) :
    Wp d 58 (60, [some (.ref r0), some (.int x1), some (.int x2), some (.int x3), none], [], μ) Q := wp_blk rfl e58_60 (And.intro k1 k2)
def q58_66 : List (Nat × Instr × Nat) := [(66, .iconst (-1), 1)]
theorem e58_66 : am_dec am_M58 q58_66 = true := by decide +kernel
theorem e58_66_r : am_dec am_M58 [(67, .ireturn, 1)] = true := by decide +kernel
theorem b58_66 {d : Nat} {Q : Option Value ⊕ Nat → am_Mem → Prop} {μ : am_Mem} {r0 : Nat} {x1 x2 x3 : Int32}
    (k : Q (.inl (some (.int (Int32.ofInt (-1))))) μ) :
    Wp d 58 (66, [some (.ref r0), some (.int x1), some (.int x2), some (.int x3), none], [], μ) Q := wp_blk rfl e58_66 (wp_ri (ty := .int) rfl e58_66_r rfl ⟨rfl, rfl⟩ k)
def q58_68 : List (Nat × Instr × Nat) := [(68, .aload_n 0, 1), (69, .dup, 1), (70, .getfield 9, 3), (73, .iconst 1, 1), (74, .iadd, 1), (75, .putfield 9, 3)]
theorem e58_68 : am_dec am_M58 q58_68 = true := by decide +kernel
theorem b58_68 {d : Nat} {Q : Option Value ⊕ Nat → am_Mem → Prop} {μ : am_Mem} {r0 : Nat} {x1 x2 x3 : Int32}
    (h1 : am_kd μ r0 = (1, 4))
    (h2 : am_kd μ r0 = (1, 4))
    (k : Wp d 58 (78, [some (.ref r0), some (.int x1), some (.int x2), some (.int x3), none], [], (am_pA μ r0 2 ((am_A μ r0 2) + (Int32.ofInt 1)))) Q) :
    Wp d 58 (68, [some (.ref r0), some (.int x1), some (.int x2), some (.int x3), none], [], μ) Q := wp_blk rfl e58_68 (And.intro h1 (And.intro h2 (And.intro ⟨rfl, rfl⟩ k)))
def q58_78 : List (Nat × Instr × Nat) := [(78, .aload_n 0, 1)]
theorem e58_78 : am_dec am_M58 q58_78 = true := by decide +kernel
theorem e58_78_c : am_dc1 am_M58 79 (.invokevirtual 47) 3 = true := by decide +kernel
theorem b58_78 {d : Nat} {Q : Option Value ⊕ Nat → am_Mem → Prop} {μ : am_Mem} {r0 : Nat} {x1 x2 x3 : Int32} {P : Int32 → am_Mem → Prop} {X : Nat → am_Mem → Prop}
    (hk : am_kd μ r0 = (1, 4))
    (hc : Wp d 57 (0, [some (.ref r0)], [], μ) (pI P X)) (hr : ∀ x μ', P x μ' → Wp (d + 1) 58 (82, [some (.ref r0), some (.int x1), some (.int x2), some (.int x3), none], [.int x], (μ')) Q)
    (hx : ∀ x μ', X x μ' → Q (.inr x) μ') :
    Wp (d + 1) 58 (78, [some (.ref r0), some (.int x1), some (.int x2), some (.int x3), none], [], μ) Q := wp_blk rfl e58_78 (wp_cv (as := []) rfl e58_78_c rfl rfl rfl rfl rfl hk hc (fun v μ' hv => by obtain ⟨x, rfl, hp⟩ := pI_r hv; exact hr x μ' hp) hx)
def q58_82 : List (Nat × Instr × Nat) := [(82, .iconst 3, 1), (83, .if_icmp .ne 37, 3)]
theorem e58_82 : am_dec am_M58 q58_82 = true := by decide +kernel
theorem b58_82 {d : Nat} {Q : Option Value ⊕ Nat → am_Mem → Prop} {μ : am_Mem} {r0 : Nat} {x1 x2 x3 s0 : Int32}
    (k1 : ¬ s0 = (Int32.ofInt 3) → Wp d 58 (120, [some (.ref r0), some (.int x1), some (.int x2), some (.int x3), none], [], μ) Q) (k2 : ¬ (¬ s0 = (Int32.ofInt 3)) → Wp d 58 (86, [some (.ref r0), some (.int x1), some (.int x2), some (.int x3), none], [], μ) Q) :
    Wp d 58 (82, [some (.ref r0), some (.int x1), some (.int x2), some (.int x3), none], [.int s0], μ) Q := wp_blk rfl e58_82 (And.intro k1 k2)
def q58_86 : List (Nat × Instr × Nat) := [(86, .aload_n 0, 1), (87, .getfield 25, 3), (90, .getfield 76, 3), (93, .aload_n 0, 1), (94, .getfield 9, 3), (97, .iaload, 1), (98, .bipush 8, 2), (100, .if_icmp .eq 20, 3)]
theorem e58_86 : am_dec am_M58 q58_86 = true := by decide +kernel
theorem b58_86 {d : Nat} {Q : Option Value ⊕ Nat → am_Mem → Prop} {μ : am_Mem} {r0 : Nat} {x1 x2 x3 : Int32}
    (h1 : am_kd μ r0 = (1, 4))
    (h2 : ¬ am_F μ r0 0 = 15)
    (h3 : am_kd μ (am_F μ r0 0) = (1, 9))
    (h4 : ¬ am_F μ (am_F μ r0 0) 2 = 15)
    (h5 : am_kd μ r0 = (1, 4))
    (h6 : (am_kd μ (am_F μ (am_F μ r0 0) 2)).1 = 2 ∨ (am_kd μ (am_F μ (am_F μ r0 0) 2)).1 = 8)
    (h7 : ¬ ((am_A μ r0 2) < 0 ∨ (am_kd μ (am_F μ (am_F μ r0 0) 2)).2 ≤ (am_A μ r0 2).toNatClampNeg))
    (k1 : (am_A μ (am_F μ (am_F μ r0 0) 2) (am_A μ r0 2).toNatClampNeg) = ((Int8.ofInt 8).toInt32) → Wp d 58 (120, [some (.ref r0), some (.int x1), some (.int x2), some (.int x3), none], [], μ) Q) (k2 : ¬ ((am_A μ (am_F μ (am_F μ r0 0) 2) (am_A μ r0 2).toNatClampNeg) = ((Int8.ofInt 8).toInt32)) → Wp d 58 (103, [some (.ref r0), some (.int x1), some (.int x2), some (.int x3), none], [], μ) Q) :
    Wp d 58 (86, [some (.ref r0), some (.int x1), some (.int x2), some (.int x3), none], [], μ) Q := wp_blk rfl e58_86 (And.intro h1 (And.intro h2 (And.intro h3 (And.intro h4 (And.intro h5 (And.intro h6 (And.intro h7 (And.intro k1 k2))))))))
def q58_103 : List (Nat × Instr × Nat) := [(103, .aload_n 0, 1), (104, .getfield 25, 3), (107, .getfield 76, 3), (110, .aload_n 0, 1), (111, .getfield 9, 3), (114, .iaload, 1), (115, .bipush 9, 2), (117, .if_icmp .ne 5, 3)]
theorem e58_103 : am_dec am_M58 q58_103 = true := by decide +kernel
theorem b58_103 {d : Nat} {Q : Option Value ⊕ Nat → am_Mem → Prop} {μ : am_Mem} {r0 : Nat} {x1 x2 x3 : Int32}
    (h1 : am_kd μ r0 = (1, 4))
    (h2 : ¬ am_F μ r0 0 = 15)
    (h3 : am_kd μ (am_F μ r0 0) = (1, 9))
    (h4 : ¬ am_F μ (am_F μ r0 0) 2 = 15)
    (h5 : am_kd μ r0 = (1, 4))
    (h6 : (am_kd μ (am_F μ (am_F μ r0 0) 2)).1 = 2 ∨ (am_kd μ (am_F μ (am_F μ r0 0) 2)).1 = 8)
    (h7 : ¬ ((am_A μ r0 2) < 0 ∨ (am_kd μ (am_F μ (am_F μ r0 0) 2)).2 ≤ (am_A μ r0 2).toNatClampNeg))
    (k1 : ¬ (am_A μ (am_F μ (am_F μ r0 0) 2) (am_A μ r0 2).toNatClampNeg) = ((Int8.ofInt 9).toInt32) → Wp d 58 (122, [some (.ref r0), some (.int x1), some (.int x2), some (.int x3), none], [], μ) Q) (k2 : ¬ (¬ (am_A μ (am_F μ (am_F μ r0 0) 2) (am_A μ r0 2).toNatClampNeg) = ((Int8.ofInt 9).toInt32)) → Wp d 58 (120, [some (.ref r0), some (.int x1), some (.int x2), some (.int x3), none], [], μ) Q) :
    Wp d 58 (103, [some (.ref r0), some (.int x1), some (.int x2), some (.int x3), none], [], μ) Q := wp_blk rfl e58_103 (And.intro h1 (And.intro h2 (And.intro h3 (And.intro h4 (And.intro h5 (And.intro h6 (And.intro h7 (And.intro k1 k2))))))))
def q58_120 : List (Nat × Instr × Nat) := [(120, .iconst (-1), 1)]
theorem e58_120 : am_dec am_M58 q58_120 = true := by decide +kernel
theorem e58_120_r : am_dec am_M58 [(121, .ireturn, 1)] = true := by decide +kernel
theorem b58_120 {d : Nat} {Q : Option Value ⊕ Nat → am_Mem → Prop} {μ : am_Mem} {r0 : Nat} {x1 x2 x3 : Int32}
    (k : Q (.inl (some (.int (Int32.ofInt (-1))))) μ) :
    Wp d 58 (120, [some (.ref r0), some (.int x1), some (.int x2), some (.int x3), none], [], μ) Q := wp_blk rfl e58_120 (wp_ri (ty := .int) rfl e58_120_r rfl ⟨rfl, rfl⟩ k)
def q58_122 : List (Nat × Instr × Nat) := [(122, .aload_n 0, 1), (123, .getfield 25, 3), (126, .getfield 76, 3), (129, .aload_n 0, 1), (130, .getfield 9, 3), (133, .iaload, 1), (134, .istore 4, 2), (136, .aload_n 0, 1), (137, .dup, 1), (138, .getfield 9, 3), (141, .iconst 1, 1), (142, .iadd, 1), (143, .putfield 9, 3), (146, .iload_n 3, 1), (147, .ifCond .eq 17, 3)]
theorem e58_122 : am_dec am_M58 q58_122 = true := by decide +kernel
theorem b58_122 {d : Nat} {Q : Option Value ⊕ Nat → am_Mem → Prop} {μ : am_Mem} {r0 : Nat} {x1 x2 x3 : Int32}
    (h1 : am_kd μ r0 = (1, 4))
    (h2 : ¬ am_F μ r0 0 = 15)
    (h3 : am_kd μ (am_F μ r0 0) = (1, 9))
    (h4 : ¬ am_F μ (am_F μ r0 0) 2 = 15)
    (h5 : am_kd μ r0 = (1, 4))
    (h6 : (am_kd μ (am_F μ (am_F μ r0 0) 2)).1 = 2 ∨ (am_kd μ (am_F μ (am_F μ r0 0) 2)).1 = 8)
    (h7 : ¬ ((am_A μ r0 2) < 0 ∨ (am_kd μ (am_F μ (am_F μ r0 0) 2)).2 ≤ (am_A μ r0 2).toNatClampNeg))
    (h8 : am_kd μ r0 = (1, 4))
    (h9 : am_kd μ r0 = (1, 4))
    (k1 : x3 = 0 → Wp d 58 (164, [some (.ref r0), some (.int x1), some (.int x2), some (.int x3), some (.int (am_A μ (am_F μ (am_F μ r0 0) 2) (am_A μ r0 2).toNatClampNeg))], [], (am_pA μ r0 2 ((am_A μ r0 2) + (Int32.ofInt 1)))) Q) (k2 : ¬ (x3 = 0) → Wp d 58 (150, [some (.ref r0), some (.int x1), some (.int x2), some (.int x3), some (.int (am_A μ (am_F μ (am_F μ r0 0) 2) (am_A μ r0 2).toNatClampNeg))], [], (am_pA μ r0 2 ((am_A μ r0 2) + (Int32.ofInt 1)))) Q) :
    Wp d 58 (122, [some (.ref r0), some (.int x1), some (.int x2), some (.int x3), none], [], μ) Q := wp_blk rfl e58_122 (And.intro h1 (And.intro h2 (And.intro h3 (And.intro h4 (And.intro h5 (And.intro h6 (And.intro h7 (And.intro h8 (And.intro h9 (And.intro ⟨rfl, rfl⟩ (And.intro k1 k2)))))))))))
def q58_150 : List (Nat × Instr × Nat) := [(150, .aload_n 0, 1), (151, .iload 4, 2), (153, .iload_n 1, 1), (154, .iconst 1, 1), (155, .iadd, 1), (156, .iconst 1, 1), (157, .iconst 4, 1)]
theorem e58_150 : am_dec am_M58 q58_150 = true := by decide +kernel
theorem e58_150_c : am_dc1 am_M58 158 (.invokevirtual 83) 3 = true := by decide +kernel
theorem b58_150 {d : Nat} {Q : Option Value ⊕ Nat → am_Mem → Prop} {μ : am_Mem} {r0 : Nat} {x1 x2 x3 x4 : Int32} {P : Int32 → am_Mem → Prop} {X : Nat → am_Mem → Prop}
    (hk : am_kd μ r0 = (1, 4))
    (hc : Wp d 60 (0, [some (.ref r0), some (.int x4), some (.int (x1 + (Int32.ofInt 1))), some (.int (Int32.ofInt 1)), some (.int (Int32.ofInt 4)), none, none, none], [], μ) (pI P X)) (hr : ∀ x μ', P x μ' → Wp (d + 1) 58 (161, [some (.ref r0), some (.int x1), some (.int x2), some (.int x3), some (.int x4)], [.int x], (μ')) Q)
    (hx : ∀ x μ', X x μ' → Q (.inr x) μ') :
    Wp (d + 1) 58 (150, [some (.ref r0), some (.int x1), some (.int x2), some (.int x3), some (.int x4)], [], μ) Q := wp_blk rfl e58_150 (wp_cv (as := [.int x4, .int (x1 + (Int32.ofInt 1)), .int (Int32.ofInt 1), .int (Int32.ofInt 4)]) rfl e58_150_c rfl rfl rfl rfl rfl hk hc (fun v μ' hv => by obtain ⟨x, rfl, hp⟩ := pI_r hv; exact hr x μ' hp) hx)
def q58_161 : List (Nat × Instr × Nat) := [(161, .goto 18, 3)]
theorem e58_161 : am_dec am_M58 q58_161 = true := by decide +kernel
theorem b58_161 {d : Nat} {Q : Option Value ⊕ Nat → am_Mem → Prop} {μ : am_Mem} {r0 : Nat} {x1 x2 x3 x4 s0 : Int32}
    (k : Wp d 58 (179, [some (.ref r0), some (.int x1), some (.int x2), some (.int x3), some (.int x4)], [.int s0], μ) Q) :
    Wp d 58 (161, [some (.ref r0), some (.int x1), some (.int x2), some (.int x3), some (.int x4)], [.int s0], μ) Q := wp_blk rfl e58_161 k
def q58_164 : List (Nat × Instr × Nat) := [(164, .aload_n 0, 1), (165, .getfield 29, 3), (168, .iload 4, 2), (170, .iconst 0, 1), (171, .aload_n 0, 1), (172, .getfield 22, 3), (175, .iconst 0, 1)]
theorem e58_164 : am_dec am_M58 q58_164 = true := by decide +kernel
theorem e58_164_c : am_dc1 am_M58 176 (.invokevirtual 93) 3 = true := by decide +kernel
theorem b58_164 {d : Nat} {Q : Option Value ⊕ Nat → am_Mem → Prop} {μ : am_Mem} {r0 : Nat} {x1 x2 x3 x4 : Int32} {P : Int32 → am_Mem → Prop} {X : Nat → am_Mem → Prop}
    (h1 : am_kd μ r0 = (1, 4))
    (h2 : ¬ am_F μ r0 1 = 15)
    (h3 : am_kd μ r0 = (1, 4))
    (h4 : ¬ am_F μ r0 5 = 15)
    (hk : am_kd μ (am_F μ r0 1) = (1, 5))
    (hc : Wp d 66 (0, [some (.ref (am_F μ r0 1)), some (.int x4), some (.int (Int32.ofInt 0)), some (.ref (am_F μ r0 5)), some (.int (Int32.ofInt 0)), none, none], [], μ) (pI P X)) (hr : ∀ x μ', P x μ' → Wp (d + 1) 58 (179, [some (.ref r0), some (.int x1), some (.int x2), some (.int x3), some (.int x4)], [.int x], (μ')) Q)
    (hx : ∀ x μ', X x μ' → Q (.inr x) μ') :
    Wp (d + 1) 58 (164, [some (.ref r0), some (.int x1), some (.int x2), some (.int x3), some (.int x4)], [], μ) Q := wp_blk rfl e58_164 (And.intro h1 (And.intro h2 (And.intro h3 (And.intro h4 (wp_cv (as := [.int x4, .int (Int32.ofInt 0), .ref (am_F μ r0 5), .int (Int32.ofInt 0)]) rfl e58_164_c rfl rfl rfl rfl rfl hk hc (fun v μ' hv => by obtain ⟨x, rfl, hp⟩ := pI_r hv; exact hr x μ' hp) hx)))))
theorem e58_179_r : am_dec am_M58 [(179, .ireturn, 1)] = true := by decide +kernel
theorem b58_179 {d : Nat} {Q : Option Value ⊕ Nat → am_Mem → Prop} {μ : am_Mem} {r0 : Nat} {x1 x2 x3 x4 s0 : Int32}
    (k : Q (.inl (some (.int s0))) μ) :
    Wp d 58 (179, [some (.ref r0), some (.int x1), some (.int x2), some (.int x3), some (.int x4)], [.int s0], μ) Q := (wp_ri (ty := .int) rfl e58_179_r rfl ⟨rfl, rfl⟩ k)
/-! RuleSheets$Parser.takeVariable()I -/
def q59_0 : List (Nat × Instr × Nat) := [(0, .aload_n 0, 1), (1, .getfield 25, 3), (4, .getfield 76, 3), (7, .aload_n 0, 1), (8, .getfield 9, 3), (11, .iaload, 1), (12, .istore_n 1, 1), (13, .aload_n 0, 1), (14, .getfield 19, 3), (17, .istore_n 2, 1), (18, .iconst 0, 1), (19, .istore_n 3, 1)]
theorem e59_0 : am_dec am_M59 q59_0 = true := by decide +kernel
theorem b59_0 {d : Nat} {Q : Option Value ⊕ Nat → am_Mem → Prop} {μ : am_Mem} {r0 : Nat}
    (h1 : am_kd μ r0 = (1, 4))
    (h2 : ¬ am_F μ r0 0 = 15)
    (h3 : am_kd μ (am_F μ r0 0) = (1, 9))
    (h4 : ¬ am_F μ (am_F μ r0 0) 2 = 15)
    (h5 : am_kd μ r0 = (1, 4))
    (h6 : (am_kd μ (am_F μ (am_F μ r0 0) 2)).1 = 2 ∨ (am_kd μ (am_F μ (am_F μ r0 0) 2)).1 = 8)
    (h7 : ¬ ((am_A μ r0 2) < 0 ∨ (am_kd μ (am_F μ (am_F μ r0 0) 2)).2 ≤ (am_A μ r0 2).toNatClampNeg))
    (h8 : am_kd μ r0 = (1, 4))
    (k : Wp d 59 (20, [some (.ref r0), some (.int (am_A μ (am_F μ (am_F μ r0 0) 2) (am_A μ r0 2).toNatClampNeg)), some (.int (am_A μ r0 4)), some (.int (Int32.ofInt 0))], [], μ) Q) :
    Wp d 59 (0, [some (.ref r0), none, none, none], [], μ) Q := wp_blk rfl e59_0 (And.intro h1 (And.intro h2 (And.intro h3 (And.intro h4 (And.intro h5 (And.intro h6 (And.intro h7 (And.intro h8 k))))))))
def q59_20 : List (Nat × Instr × Nat) := [(20, .iload_n 3, 1), (21, .aload_n 0, 1), (22, .getfield 19, 3), (25, .if_icmp .ge 21, 3)]
theorem e59_20 : am_dec am_M59 q59_20 = true := by decide +kernel
theorem b59_20 {d : Nat} {Q : Option Value ⊕ Nat → am_Mem → Prop} {μ : am_Mem} {r0 : Nat} {x1 x2 x3 : Int32}
    (h1 : am_kd μ r0 = (1, 4))
    (k1 : (am_A μ r0 4) ≤ x3 → Wp d 59 (46, [some (.ref r0), some (.int x1), some (.int x2), some (.int x3)], [], μ) Q) (k2 : ¬ ((am_A μ r0 4) ≤ x3) → Wp d 59 (28, [some (.ref r0), some (.int x1), some (.int x2), some (.int x3)], [], μ) Q) :
    Wp d 59 (20, [some (.ref r0), some (.int x1), some (.int x2), some (.int x3)], [], μ) Q := wp_blk rfl e59_20 (And.intro h1 (And.intro k1 k2))
def q59_28 : List (Nat × Instr × Nat) := [(28, .aload_n 0, 1), (29, .getfield 15, 3), (32, .iload_n 3, 1), (33, .iaload, 1), (34, .iload_n 1, 1), (35, .if_icmp .ne 5, 3)]
theorem e59_28 : am_dec am_M59 q59_28 = true := by decide +kernel
theorem b59_28 {d : Nat} {Q : Option Value ⊕ Nat → am_Mem → Prop} {μ : am_Mem} {r0 : Nat} {x1 x2 x3 : Int32}
    (h1 : am_kd μ r0 = (1, 4))
    (h2 : ¬ am_F μ r0 3 = 15)
    (h3 : (am_kd μ (am_F μ r0 3)).1 = 2 ∨ (am_kd μ (am_F μ r0 3)).1 = 8)
    (h4 : ¬ (x3 < 0 ∨ (am_kd μ (am_F μ r0 3)).2 ≤ x3.toNatClampNeg))
    (k1 : ¬ (am_A μ (am_F μ r0 3) x3.toNatClampNeg) = x1 → Wp d 59 (40, [some (.ref r0), some (.int x1), some (.int x2), some (.int x3)], [], μ) Q) (k2 : ¬ (¬ (am_A μ (am_F μ r0 3) x3.toNatClampNeg) = x1) → Wp d 59 (38, [some (.ref r0), some (.int x1), some (.int x2), some (.int x3)], [], μ) Q) :
    Wp d 59 (28, [some (.ref r0), some (.int x1), some (.int x2), some (.int x3)], [], μ) Q := wp_blk rfl e59_28 (And.intro h1 (And.intro h2 (And.intro h3 (And.intro h4 (And.intro k1 k2)))))
def q59_38 : List (Nat × Instr × Nat) := [(38, .iload_n 3, 1), (39, .istore_n 2, 1)]
theorem e59_38 : am_dec am_M59 q59_38 = true := by decide +kernel
theorem b59_38 {d : Nat} {Q : Option Value ⊕ Nat → am_Mem → Prop} {μ : am_Mem} {r0 : Nat} {x1 x2 x3 : Int32}
    (k : Wp d 59 (40, [some (.ref r0), some (.int x1), some (.int x3), some (.int x3)], [], μ) Q) :
    Wp d 59 (38, [some (.ref r0), some (.int x1), some (.int x2), some (.int x3)], [], μ) Q := wp_blk rfl e59_38 k
def q59_40 : List (Nat × Instr × Nat) := [(40, .iinc 3 1, 3), (43, .goto (-23), 3)]
theorem e59_40 : am_dec am_M59 q59_40 = true := by decide +kernel
theorem b59_40 {d : Nat} {Q : Option Value ⊕ Nat → am_Mem → Prop} {μ : am_Mem} {r0 : Nat} {x1 x2 x3 : Int32}
    (k : Wp d 59 (20, [some (.ref r0), some (.int x1), some (.int x2), some (.int (x3 + Int32.ofInt 1))], [], μ) Q) :
    Wp d 59 (40, [some (.ref r0), some (.int x1), some (.int x2), some (.int x3)], [], μ) Q := wp_blk rfl e59_40 k
def q59_46 : List (Nat × Instr × Nat) := [(46, .iload_n 2, 1), (47, .bipush 8, 2), (49, .if_icmp .ne 5, 3)]
theorem e59_46 : am_dec am_M59 q59_46 = true := by decide +kernel
theorem b59_46 {d : Nat} {Q : Option Value ⊕ Nat → am_Mem → Prop} {μ : am_Mem} {r0 : Nat} {x1 x2 x3 : Int32}
    (k1 : ¬ x2 = ((Int8.ofInt 8).toInt32) → Wp d 59 (54, [some (.ref r0), some (.int x1), some (.int x2), some (.int x3)], [], μ) Q) (k2 : ¬ (¬ x2 = ((Int8.ofInt 8).toInt32)) → Wp d 59 (52, [some (.ref r0), some (.int x1), some (.int x2), some (.int x3)], [], μ) Q) :
    Wp d 59 (46, [some (.ref r0), some (.int x1), some (.int x2), some (.int x3)], [], μ) Q := wp_blk rfl e59_46 (And.intro k1 k2)
def q59_52 : List (Nat × Instr × Nat) := [(52, .iconst (-1), 1)]
theorem e59_52 : am_dec am_M59 q59_52 = true := by decide +kernel
theorem e59_52_r : am_dec am_M59 [(53, .ireturn, 1)] = true := by decide +kernel
theorem b59_52 {d : Nat} {Q : Option Value ⊕ Nat → am_Mem → Prop} {μ : am_Mem} {r0 : Nat} {x1 x2 x3 : Int32}
    (k : Q (.inl (some (.int (Int32.ofInt (-1))))) μ) :
    Wp d 59 (52, [some (.ref r0), some (.int x1), some (.int x2), some (.int x3)], [], μ) Q := wp_blk rfl e59_52 (wp_ri (ty := .int) rfl e59_52_r rfl ⟨rfl, rfl⟩ k)
def q59_54 : List (Nat × Instr × Nat) := [(54, .iload_n 2, 1), (55, .aload_n 0, 1), (56, .getfield 19, 3), (59, .if_icmp .ne 20, 3)]
theorem e59_54 : am_dec am_M59 q59_54 = true := by decide +kernel
theorem b59_54 {d : Nat} {Q : Option Value ⊕ Nat → am_Mem → Prop} {μ : am_Mem} {r0 : Nat} {x1 x2 x3 : Int32}
    (h1 : am_kd μ r0 = (1, 4))
    (k1 : ¬ x2 = (am_A μ r0 4) → Wp d 59 (79, [some (.ref r0), some (.int x1), some (.int x2), some (.int x3)], [], μ) Q) (k2 : ¬ (¬ x2 = (am_A μ r0 4)) → Wp d 59 (62, [some (.ref r0), some (.int x1), some (.int x2), some (.int x3)], [], μ) Q) :
    Wp d 59 (54, [some (.ref r0), some (.int x1), some (.int x2), some (.int x3)], [], μ) Q := wp_blk rfl e59_54 (And.intro h1 (And.intro k1 k2))
def q59_62 : List (Nat × Instr × Nat) := [(62, .aload_n 0, 1), (63, .getfield 15, 3), (66, .iload_n 2, 1), (67, .iload_n 1, 1), (68, .iastore, 1), (69, .aload_n 0, 1), (70, .dup, 1), (71, .getfield 19, 3), (74, .iconst 1, 1), (75, .iadd, 1), (76, .putfield 19, 3)]
theorem e59_62 : am_dec am_M59 q59_62 = true := by decide +kernel
theorem b59_62 {d : Nat} {Q : Option Value ⊕ Nat → am_Mem → Prop} {μ : am_Mem} {r0 : Nat} {x1 x2 x3 : Int32}
    (h1 : am_kd μ r0 = (1, 4))
    (h2 : ¬ am_F μ r0 3 = 15)
    (h3 : (am_kd μ (am_F μ r0 3)).1 = 2)
    (h4 : ¬ (x2 < 0 ∨ (am_kd μ (am_F μ r0 3)).2 ≤ x2.toNatClampNeg))
    (h5 : am_kd (am_pA μ (am_F μ r0 3) x2.toNatClampNeg x1) r0 = (1, 4))
    (h6 : am_kd (am_pA μ (am_F μ r0 3) x2.toNatClampNeg x1) r0 = (1, 4))
    (k : Wp d 59 (79, [some (.ref r0), some (.int x1), some (.int x2), some (.int x3)], [], (am_pA (am_pA μ (am_F μ r0 3) x2.toNatClampNeg x1) r0 4 ((am_A (am_pA μ (am_F μ r0 3) x2.toNatClampNeg x1) r0 4) + (Int32.ofInt 1)))) Q) :
    Wp d 59 (62, [some (.ref r0), some (.int x1), some (.int x2), some (.int x3)], [], μ) Q := wp_blk rfl e59_62 (And.intro h1 (And.intro h2 (And.intro h3 (And.intro h4 (And.intro h5 (And.intro h6 (And.intro ⟨rfl, rfl⟩ k)))))))
def q59_79 : List (Nat × Instr × Nat) := [(79, .aload_n 0, 1), (80, .dup, 1), (81, .getfield 9, 3), (84, .iconst 1, 1), (85, .iadd, 1), (86, .putfield 9, 3), (89, .iload_n 2, 1)]
theorem e59_79 : am_dec am_M59 q59_79 = true := by decide +kernel
theorem e59_79_r : am_dec am_M59 [(90, .ireturn, 1)] = true := by decide +kernel
theorem b59_79 {d : Nat} {Q : Option Value ⊕ Nat → am_Mem → Prop} {μ : am_Mem} {r0 : Nat} {x1 x2 x3 : Int32}
    (h1 : am_kd μ r0 = (1, 4))
    (h2 : am_kd μ r0 = (1, 4))
    (k : Q (.inl (some (.int x2))) (am_pA μ r0 2 ((am_A μ r0 2) + (Int32.ofInt 1)))) :
    Wp d 59 (79, [some (.ref r0), some (.int x1), some (.int x2), some (.int x3)], [], μ) Q := wp_blk rfl e59_79 (And.intro h1 (And.intro h2 (And.intro ⟨rfl, rfl⟩ (wp_ri (ty := .int) rfl e59_79_r rfl ⟨rfl, rfl⟩ k))))
/-! RuleSheets$Parser.takeParts(IIII)I -/
def q60_0 : List (Nat × Instr × Nat) := [(0, .iconst 0, 1), (1, .istore 5, 2), (3, .iconst 0, 1), (4, .istore 6, 2)]
theorem e60_0 : am_dec am_M60 q60_0 = true := by decide +kernel
theorem b60_0 {d : Nat} {Q : Option Value ⊕ Nat → am_Mem → Prop} {μ : am_Mem} {r0 : Nat} {x1 x2 x3 x4 : Int32}
    (k : Wp d 60 (6, [some (.ref r0), some (.int x1), some (.int x2), some (.int x3), some (.int x4), some (.int (Int32.ofInt 0)), some (.int (Int32.ofInt 0)), none], [], μ) Q) :
    Wp d 60 (0, [some (.ref r0), some (.int x1), some (.int x2), some (.int x3), some (.int x4), none, none, none], [], μ) Q := wp_blk rfl e60_0 k
def q60_6 : List (Nat × Instr × Nat) := [(6, .iload 6, 2), (8, .iload 4, 2), (10, .if_icmp .ge 55, 3)]
theorem e60_6 : am_dec am_M60 q60_6 = true := by decide +kernel
theorem b60_6 {d : Nat} {Q : Option Value ⊕ Nat → am_Mem → Prop} {μ : am_Mem} {r0 : Nat} {x1 x2 x3 x4 x5 x6 : Int32} {o7 : Option Value}
    (k1 : x4 ≤ x6 → Wp d 60 (65, [some (.ref r0), some (.int x1), some (.int x2), some (.int x3), some (.int x4), some (.int x5), some (.int x6), o7], [], μ) Q) (k2 : ¬ (x4 ≤ x6) → Wp d 60 (13, [some (.ref r0), some (.int x1), some (.int x2), some (.int x3), some (.int x4), some (.int x5), some (.int x6), o7], [], μ) Q) :
    Wp d 60 (6, [some (.ref r0), some (.int x1), some (.int x2), some (.int x3), some (.int x4), some (.int x5), some (.int x6), o7], [], μ) Q := wp_blk rfl e60_6 (And.intro k1 k2)
def q60_13 : List (Nat × Instr × Nat) := [(13, .iload 6, 2), (15, .iload_n 3, 1), (16, .if_icmp .lt 11, 3)]
theorem e60_13 : am_dec am_M60 q60_13 = true := by decide +kernel
theorem b60_13 {d : Nat} {Q : Option Value ⊕ Nat → am_Mem → Prop} {μ : am_Mem} {r0 : Nat} {x1 x2 x3 x4 x5 x6 : Int32} {o7 : Option Value}
    (k1 : x6 < x3 → Wp d 60 (27, [some (.ref r0), some (.int x1), some (.int x2), some (.int x3), some (.int x4), some (.int x5), some (.int x6), o7], [], μ) Q) (k2 : ¬ (x6 < x3) → Wp d 60 (19, [some (.ref r0), some (.int x1), some (.int x2), some (.int x3), some (.int x4), some (.int x5), some (.int x6), o7], [], μ) Q) :
    Wp d 60 (13, [some (.ref r0), some (.int x1), some (.int x2), some (.int x3), some (.int x4), some (.int x5), some (.int x6), o7], [], μ) Q := wp_blk rfl e60_13 (And.intro k1 k2)
def q60_19 : List (Nat × Instr × Nat) := [(19, .aload_n 0, 1)]
theorem e60_19 : am_dec am_M60 q60_19 = true := by decide +kernel
theorem e60_19_c : am_dc1 am_M60 20 (.invokevirtual 47) 3 = true := by decide +kernel
theorem b60_19 {d : Nat} {Q : Option Value ⊕ Nat → am_Mem → Prop} {μ : am_Mem} {r0 : Nat} {x1 x2 x3 x4 x5 x6 : Int32} {o7 : Option Value} {P : Int32 → am_Mem → Prop} {X : Nat → am_Mem → Prop}
    (hk : am_kd μ r0 = (1, 4))
    (hc : Wp d 57 (0, [some (.ref r0)], [], μ) (pI P X)) (hr : ∀ x μ', P x μ' → Wp (d + 1) 60 (23, [some (.ref r0), some (.int x1), some (.int x2), some (.int x3), some (.int x4), some (.int x5), some (.int x6), o7], [.int x], (μ')) Q)
    (hx : ∀ x μ', X x μ' → Q (.inr x) μ') :
    Wp (d + 1) 60 (19, [some (.ref r0), some (.int x1), some (.int x2), some (.int x3), some (.int x4), some (.int x5), some (.int x6), o7], [], μ) Q := wp_blk rfl e60_19 (wp_cv (as := []) rfl e60_19_c rfl rfl rfl rfl rfl hk hc (fun v μ' hv => by obtain ⟨x, rfl, hp⟩ := pI_r hv; exact hr x μ' hp) hx)
def q60_23 : List (Nat × Instr × Nat) := [(23, .iconst 1, 1), (24, .if_icmp .eq 41, 3)]
theorem e60_23 : am_dec am_M60 q60_23 = true := by decide +kernel
theorem b60_23 {d : Nat} {Q : Option Value ⊕ Nat → am_Mem → Prop} {μ : am_Mem} {r0 : Nat} {x1 x2 x3 x4 x5 x6 s0 : Int32} {o7 : Option Value}
    (k1 : s0 = (Int32.ofInt 1) → Wp d 60 (65, [some (.ref r0), some (.int x1), some (.int x2), some (.int x3), some (.int x4), some (.int x5), some (.int x6), o7], [], μ) Q) (k2 : ¬ (s0 = (Int32.ofInt 1)) → Wp d 60 (27, [some (.ref r0), some (.int x1), some (.int x2), some (.int x3), some (.int x4), some (.int x5), some (.int x6), o7], [], μ) Q) :
    Wp d 60 (23, [some (.ref r0), some (.int x1), some (.int x2), some (.int x3), some (.int x4), some (.int x5), some (.int x6), o7], [.int s0], μ) Q := wp_blk rfl e60_23 (And.intro k1 k2)
def q60_27 : List (Nat × Instr × Nat) := [(27, .aload_n 0, 1), (28, .iload_n 2, 1), (29, .iconst 0, 1)]
theorem e60_27 : am_dec am_M60 q60_27 = true := by decide +kernel
theorem e60_27_c : am_dc1 am_M60 30 (.invokevirtual 62) 3 = true := by decide +kernel
theorem b60_27 {d : Nat} {Q : Option Value ⊕ Nat → am_Mem → Prop} {μ : am_Mem} {r0 : Nat} {x1 x2 x3 x4 x5 x6 : Int32} {o7 : Option Value} {P : Int32 → am_Mem → Prop} {X : Nat → am_Mem → Prop}
    (hk : am_kd μ r0 = (1, 4))
    (hc : Wp d 58 (0, [some (.ref r0), some (.int x2), some (.int (Int32.ofInt 0)), none, none], [], μ) (pI P X)) (hr : ∀ x μ', P x μ' → Wp (d + 1) 60 (33, [some (.ref r0), some (.int x1), some (.int x2), some (.int x3), some (.int x4), some (.int x5), some (.int x6), o7], [.int x], (μ')) Q)
    (hx : ∀ x μ', X x μ' → Q (.inr x) μ') :
    Wp (d + 1) 60 (27, [some (.ref r0), some (.int x1), some (.int x2), some (.int x3), some (.int x4), some (.int x5), some (.int x6), o7], [], μ) Q := wp_blk rfl e60_27 (wp_cv (as := [.int x2, .int (Int32.ofInt 0)]) rfl e60_27_c rfl rfl rfl rfl rfl hk hc (fun v μ' hv => by obtain ⟨x, rfl, hp⟩ := pI_r hv; exact hr x μ' hp) hx)
def q60_33 : List (Nat × Instr × Nat) := [(33, .istore 7, 2), (35, .iload 7, 2), (37, .iconst (-1), 1), (38, .if_icmp .ne 5, 3)]
theorem e60_33 : am_dec am_M60 q60_33 = true := by decide +kernel
theorem b60_33 {d : Nat} {Q : Option Value ⊕ Nat → am_Mem → Prop} {μ : am_Mem} {r0 : Nat} {x1 x2 x3 x4 x5 x6 s0 : Int32} {o7 : Option Value}
    (k1 : ¬ s0 = (Int32.ofInt (-1)) → Wp d 60 (43, [some (.ref r0), some (.int x1), some (.int x2), some (.int x3), some (.int x4), some (.int x5), some (.int x6), some (.int s0)], [], μ) Q) (k2 : ¬ (¬ s0 = (Int32.ofInt (-1))) → Wp d 60 (41, [some (.ref r0), some (.int x1), some (.int x2), some (.int x3), some (.int x4), some (.int x5), some (.int x6), some (.int s0)], [], μ) Q) :
    Wp d 60 (33, [some (.ref r0), some (.int x1), some (.int x2), some (.int x3), some (.int x4), some (.int x5), some (.int x6), o7], [.int s0], μ) Q := wp_blk rfl e60_33 (And.intro k1 k2)
def q60_41 : List (Nat × Instr × Nat) := [(41, .iconst (-1), 1)]
theorem e60_41 : am_dec am_M60 q60_41 = true := by decide +kernel
theorem e60_41_r : am_dec am_M60 [(42, .ireturn, 1)] = true := by decide +kernel
theorem b60_41 {d : Nat} {Q : Option Value ⊕ Nat → am_Mem → Prop} {μ : am_Mem} {r0 : Nat} {x1 x2 x3 x4 x5 x6 x7 : Int32}
    (k : Q (.inl (some (.int (Int32.ofInt (-1))))) μ) :
    Wp d 60 (41, [some (.ref r0), some (.int x1), some (.int x2), some (.int x3), some (.int x4), some (.int x5), some (.int x6), some (.int x7)], [], μ) Q := wp_blk rfl e60_41 (wp_ri (ty := .int) rfl e60_41_r rfl ⟨rfl, rfl⟩ k)
def q60_43 : List (Nat × Instr × Nat) := [(43, .aload_n 0, 1), (44, .getfield 22, 3), (47, .iconst 4, 1), (48, .iload_n 2, 1), (49, .imul, 1), (50, .iload 6, 2), (52, .iadd, 1), (53, .iload 7, 2), (55, .iastore, 1), (56, .iinc 5 1, 3), (59, .iinc 6 1, 3), (62, .goto (-56), 3)]
theorem e60_43 : am_dec am_M60 q60_43 = true := by decide +kernel
theorem b60_43 {d : Nat} {Q : Option Value ⊕ Nat → am_Mem → Prop} {μ : am_Mem} {r0 : Nat} {x1 x2 x3 x4 x5 x6 x7 : Int32}
    (h1 : am_kd μ r0 = (1, 4))
    (h2 : ¬ am_F μ r0 5 = 15)
    (h3 : (am_kd μ (am_F μ r0 5)).1 = 2)
    (h4 : ¬ ((((Int32.ofInt 4) * x2) + x6) < 0 ∨ (am_kd μ (am_F μ r0 5)).2 ≤ (((Int32.ofInt 4) * x2) + x6).toNatClampNeg))
    (k : Wp d 60 (6, [some (.ref r0), some (.int x1), some (.int x2), some (.int x3), some (.int x4), some (.int (x5 + Int32.ofInt 1)), some (.int (x6 + Int32.ofInt 1)), some (.int x7)], [], (am_pA μ (am_F μ r0 5) (((Int32.ofInt 4) * x2) + x6).toNatClampNeg x7)) Q) :
    Wp d 60 (43, [some (.ref r0), some (.int x1), some (.int x2), some (.int x3), some (.int x4), some (.int x5), some (.int x6), some (.int x7)], [], μ) Q := wp_blk rfl e60_43 (And.intro h1 (And.intro h2 (And.intro h3 (And.intro h4 k))))
def q60_65 : List (Nat × Instr × Nat) := [(65, .aload_n 0, 1)]
theorem e60_65 : am_dec am_M60 q60_65 = true := by decide +kernel
theorem e60_65_c : am_dc1 am_M60 66 (.invokevirtual 72) 3 = true := by decide +kernel
theorem b60_65 {d : Nat} {Q : Option Value ⊕ Nat → am_Mem → Prop} {μ : am_Mem} {r0 : Nat} {x1 x2 x3 x4 x5 x6 : Int32} {o7 : Option Value} {P : Int32 → am_Mem → Prop} {X : Nat → am_Mem → Prop}
    (hk : am_kd μ r0 = (1, 4))
    (hc : Wp d 61 (0, [some (.ref r0), none], [], μ) (pI P X)) (hr : ∀ x μ', P x μ' → Wp (d + 1) 60 (69, [some (.ref r0), some (.int x1), some (.int x2), some (.int x3), some (.int x4), some (.int x5), some (.int x6), o7], [.int x], (μ')) Q)
    (hx : ∀ x μ', X x μ' → Q (.inr x) μ') :
    Wp (d + 1) 60 (65, [some (.ref r0), some (.int x1), some (.int x2), some (.int x3), some (.int x4), some (.int x5), some (.int x6), o7], [], μ) Q := wp_blk rfl e60_65 (wp_cv (as := []) rfl e60_65_c rfl rfl rfl rfl rfl hk hc (fun v μ' hv => by obtain ⟨x, rfl, hp⟩ := pI_r hv; exact hr x μ' hp) hx)
def q60_69 : List (Nat × Instr × Nat) := [(69, .ifCond .eq 23, 3)]
theorem e60_69 : am_dec am_M60 q60_69 = true := by decide +kernel
theorem b60_69 {d : Nat} {Q : Option Value ⊕ Nat → am_Mem → Prop} {μ : am_Mem} {r0 : Nat} {x1 x2 x3 x4 x5 x6 s0 : Int32} {o7 : Option Value}
    (k1 : s0 = 0 → Wp d 60 (92, [some (.ref r0), some (.int x1), some (.int x2), some (.int x3), some (.int x4), some (.int x5), some (.int x6), o7], [], μ) Q) (k2 : ¬ (s0 = 0) → Wp d 60 (72, [some (.ref r0), some (.int x1), some (.int x2), some (.int x3), some (.int x4), some (.int x5), some (.int x6), o7], [], μ) Q) :
    Wp d 60 (69, [some (.ref r0), some (.int x1), some (.int x2), some (.int x3), some (.int x4), some (.int x5), some (.int x6), o7], [.int s0], μ) Q := wp_blk rfl e60_69 (And.intro k1 k2)
def q60_72 : List (Nat × Instr × Nat) := [(72, .aload_n 0, 1), (73, .getfield 29, 3), (76, .iload_n 1, 1), (77, .iload 5, 2), (79, .aload_n 0, 1), (80, .getfield 22, 3), (83, .iconst 4, 1), (84, .iload_n 2, 1), (85, .imul, 1)]
theorem e60_72 : am_dec am_M60 q60_72 = true := by decide +kernel
theorem e60_72_c : am_dc1 am_M60 86 (.invokevirtual 93) 3 = true := by decide +kernel
theorem b60_72 {d : Nat} {Q : Option Value ⊕ Nat → am_Mem → Prop} {μ : am_Mem} {r0 : Nat} {x1 x2 x3 x4 x5 x6 : Int32} {o7 : Option Value} {P : Int32 → am_Mem → Prop} {X : Nat → am_Mem → Prop}
    (h1 : am_kd μ r0 = (1, 4))
    (h2 : ¬ am_F μ r0 1 = 15)
    (h3 : am_kd μ r0 = (1, 4))
    (h4 : ¬ am_F μ r0 5 = 15)
    (hk : am_kd μ (am_F μ r0 1) = (1, 5))
    (hc : Wp d 66 (0, [some (.ref (am_F μ r0 1)), some (.int x1), some (.int x5), some (.ref (am_F μ r0 5)), some (.int ((Int32.ofInt 4) * x2)), none, none], [], μ) (pI P X)) (hr : ∀ x μ', P x μ' → Wp (d + 1) 60 (89, [some (.ref r0), some (.int x1), some (.int x2), some (.int x3), some (.int x4), some (.int x5), some (.int x6), o7], [.int x], (μ')) Q)
    (hx : ∀ x μ', X x μ' → Q (.inr x) μ') :
    Wp (d + 1) 60 (72, [some (.ref r0), some (.int x1), some (.int x2), some (.int x3), some (.int x4), some (.int x5), some (.int x6), o7], [], μ) Q := wp_blk rfl e60_72 (And.intro h1 (And.intro h2 (And.intro h3 (And.intro h4 (wp_cv (as := [.int x1, .int x5, .ref (am_F μ r0 5), .int ((Int32.ofInt 4) * x2)]) rfl e60_72_c rfl rfl rfl rfl rfl hk hc (fun v μ' hv => by obtain ⟨x, rfl, hp⟩ := pI_r hv; exact hr x μ' hp) hx)))))
def q60_89 : List (Nat × Instr × Nat) := [(89, .goto 4, 3)]
theorem e60_89 : am_dec am_M60 q60_89 = true := by decide +kernel
theorem b60_89 {d : Nat} {Q : Option Value ⊕ Nat → am_Mem → Prop} {μ : am_Mem} {r0 : Nat} {x1 x2 x3 x4 x5 x6 s0 : Int32} {o7 : Option Value}
    (k : Wp d 60 (93, [some (.ref r0), some (.int x1), some (.int x2), some (.int x3), some (.int x4), some (.int x5), some (.int x6), o7], [.int s0], μ) Q) :
    Wp d 60 (89, [some (.ref r0), some (.int x1), some (.int x2), some (.int x3), some (.int x4), some (.int x5), some (.int x6), o7], [.int s0], μ) Q := wp_blk rfl e60_89 k
def q60_92 : List (Nat × Instr × Nat) := [(92, .iconst (-1), 1)]
theorem e60_92 : am_dec am_M60 q60_92 = true := by decide +kernel
theorem b60_92 {d : Nat} {Q : Option Value ⊕ Nat → am_Mem → Prop} {μ : am_Mem} {r0 : Nat} {x1 x2 x3 x4 x5 x6 : Int32} {o7 : Option Value}
    (k : Wp d 60 (93, [some (.ref r0), some (.int x1), some (.int x2), some (.int x3), some (.int x4), some (.int x5), some (.int x6), o7], [.int (Int32.ofInt (-1))], μ) Q) :
    Wp d 60 (92, [some (.ref r0), some (.int x1), some (.int x2), some (.int x3), some (.int x4), some (.int x5), some (.int x6), o7], [], μ) Q := wp_blk rfl e60_92 k
theorem e60_93_r : am_dec am_M60 [(93, .ireturn, 1)] = true := by decide +kernel
theorem b60_93 {d : Nat} {Q : Option Value ⊕ Nat → am_Mem → Prop} {μ : am_Mem} {r0 : Nat} {x1 x2 x3 x4 x5 x6 s0 : Int32} {o7 : Option Value}
    (k : Q (.inl (some (.int s0))) μ) :
    Wp d 60 (93, [some (.ref r0), some (.int x1), some (.int x2), some (.int x3), some (.int x4), some (.int x5), some (.int x6), o7], [.int s0], μ) Q := (wp_ri (ty := .int) rfl e60_93_r rfl ⟨rfl, rfl⟩ k)
/-! RuleSheets$Parser.close()Z -/
def q61_0 : List (Nat × Instr × Nat) := [(0, .aload_n 0, 1), (1, .getfield 25, 3), (4, .getfield 51, 3), (7, .aload_n 0, 1), (8, .getfield 9, 3), (11, .iaload, 1), (12, .iconst 1, 1), (13, .if_icmp .ne 7, 3)]
theorem e61_0 : am_dec am_M61 q61_0 = true := by decide +kernel
theorem b61_0 {d : Nat} {Q : Option Value ⊕ Nat → am_Mem → Prop} {μ : am_Mem} {r0 : Nat}
    (h1 : am_kd μ r0 = (1, 4))
    (h2 : ¬ am_F μ r0 0 = 15)
    (h3 : am_kd μ (am_F μ r0 0) = (1, 9))
    (h4 : ¬ am_F μ (am_F μ r0 0) 0 = 15)
    (h5 : am_kd μ r0 = (1, 4))
    (h6 : (am_kd μ (am_F μ (am_F μ r0 0) 0)).1 = 2 ∨ (am_kd μ (am_F μ (am_F μ r0 0) 0)).1 = 8)
    (h7 : ¬ ((am_A μ r0 2) < 0 ∨ (am_kd μ (am_F μ (am_F μ r0 0) 0)).2 ≤ (am_A μ r0 2).toNatClampNeg))
    (k1 : ¬ (am_A μ (am_F μ (am_F μ r0 0) 0) (am_A μ r0 2).toNatClampNeg) = (Int32.ofInt 1) → Wp d 61 (20, [some (.ref r0), none], [], μ) Q) (k2 : ¬ (¬ (am_A μ (am_F μ (am_F μ r0 0) 0) (am_A μ r0 2).toNatClampNeg) = (Int32.ofInt 1)) → Wp d 61 (16, [some (.ref r0), none], [], μ) Q) :
    Wp d 61 (0, [some (.ref r0), none], [], μ) Q := wp_blk rfl e61_0 (And.intro h1 (And.intro h2 (And.intro h3 (And.intro h4 (And.intro h5 (And.intro h6 (And.intro h7 (And.intro k1 k2))))))))
def q61_16 : List (Nat × Instr × Nat) := [(16, .iconst 1, 1), (17, .goto 4, 3)]
theorem e61_16 : am_dec am_M61 q61_16 = true := by decide +kernel
theorem b61_16 {d : Nat} {Q : Option Value ⊕ Nat → am_Mem → Prop} {μ : am_Mem} {r0 : Nat}
    (k : Wp d 61 (21, [some (.ref r0), none], [.int (Int32.ofInt 1)], μ) Q) :
    Wp d 61 (16, [some (.ref r0), none], [], μ) Q := wp_blk rfl e61_16 k
def q61_20 : List (Nat × Instr × Nat) := [(20, .iconst 0, 1)]
theorem e61_20 : am_dec am_M61 q61_20 = true := by decide +kernel
theorem b61_20 {d : Nat} {Q : Option Value ⊕ Nat → am_Mem → Prop} {μ : am_Mem} {r0 : Nat}
    (k : Wp d 61 (21, [some (.ref r0), none], [.int (Int32.ofInt 0)], μ) Q) :
    Wp d 61 (20, [some (.ref r0), none], [], μ) Q := wp_blk rfl e61_20 k
def q61_21 : List (Nat × Instr × Nat) := [(21, .istore_n 1, 1), (22, .iload_n 1, 1), (23, .ifCond .eq 13, 3)]
theorem e61_21 : am_dec am_M61 q61_21 = true := by decide +kernel
theorem b61_21 {d : Nat} {Q : Option Value ⊕ Nat → am_Mem → Prop} {μ : am_Mem} {r0 : Nat} {s0 : Int32}
    (k1 : s0 = 0 → Wp d 61 (36, [some (.ref r0), some (.int s0)], [], μ) Q) (k2 : ¬ (s0 = 0) → Wp d 61 (26, [some (.ref r0), some (.int s0)], [], μ) Q) :
    Wp d 61 (21, [some (.ref r0), none], [.int s0], μ) Q := wp_blk rfl e61_21 (And.intro k1 k2)
def q61_26 : List (Nat × Instr × Nat) := [(26, .aload_n 0, 1), (27, .dup, 1), (28, .getfield 9, 3), (31, .iconst 1, 1), (32, .iadd, 1), (33, .putfield 9, 3)]
theorem e61_26 : am_dec am_M61 q61_26 = true := by decide +kernel
theorem b61_26 {d : Nat} {Q : Option Value ⊕ Nat → am_Mem → Prop} {μ : am_Mem} {r0 : Nat} {x1 : Int32}
    (h1 : am_kd μ r0 = (1, 4))
    (h2 : am_kd μ r0 = (1, 4))
    (k : Wp d 61 (36, [some (.ref r0), some (.int x1)], [], (am_pA μ r0 2 ((am_A μ r0 2) + (Int32.ofInt 1)))) Q) :
    Wp d 61 (26, [some (.ref r0), some (.int x1)], [], μ) Q := wp_blk rfl e61_26 (And.intro h1 (And.intro h2 (And.intro ⟨rfl, rfl⟩ k)))
def q61_36 : List (Nat × Instr × Nat) := [(36, .iload_n 1, 1)]
theorem e61_36 : am_dec am_M61 q61_36 = true := by decide +kernel
theorem e61_36_r : am_dec am_M61 [(37, .ireturn, 1)] = true := by decide +kernel
theorem b61_36 {d : Nat} {Q : Option Value ⊕ Nat → am_Mem → Prop} {μ : am_Mem} {r0 : Nat} {x1 : Int32}
    (hn : narrow .boolean (.int x1) = .int x1 ∧ fits .boolean (.int x1) = true)
    (k : Q (.inl (some (.int x1))) μ) :
    Wp d 61 (36, [some (.ref r0), some (.int x1)], [], μ) Q := wp_blk rfl e61_36 (wp_ri (ty := .boolean) rfl e61_36_r rfl hn k)
/-! RuleSheets$Parser.takeConditions(I)Z -/
def q62_0 : List (Nat × Instr × Nat) := [(0, .iconst 0, 1), (1, .istore_n 2, 1)]
theorem e62_0 : am_dec am_M62 q62_0 = true := by decide +kernel
theorem b62_0 {d : Nat} {Q : Option Value ⊕ Nat → am_Mem → Prop} {μ : am_Mem} {r0 : Nat} {x1 : Int32}
    (k : Wp d 62 (2, [some (.ref r0), some (.int x1), some (.int (Int32.ofInt 0))], [], μ) Q) :
    Wp d 62 (0, [some (.ref r0), some (.int x1), none], [], μ) Q := wp_blk rfl e62_0 k
def q62_2 : List (Nat × Instr × Nat) := [(2, .iload_n 2, 1), (3, .bipush 8, 2), (5, .if_icmp .ge 27, 3)]
theorem e62_2 : am_dec am_M62 q62_2 = true := by decide +kernel
theorem b62_2 {d : Nat} {Q : Option Value ⊕ Nat → am_Mem → Prop} {μ : am_Mem} {r0 : Nat} {x1 x2 : Int32}
    (k1 : ((Int8.ofInt 8).toInt32) ≤ x2 → Wp d 62 (32, [some (.ref r0), some (.int x1), some (.int x2)], [], μ) Q) (k2 : ¬ (((Int8.ofInt 8).toInt32) ≤ x2) → Wp d 62 (8, [some (.ref r0), some (.int x1), some (.int x2)], [], μ) Q) :
    Wp d 62 (2, [some (.ref r0), some (.int x1), some (.int x2)], [], μ) Q := wp_blk rfl e62_2 (And.intro k1 k2)
def q62_8 : List (Nat × Instr × Nat) := [(8, .aload_n 0, 1)]
theorem e62_8 : am_dec am_M62 q62_8 = true := by decide +kernel
theorem e62_8_c : am_dc1 am_M62 9 (.invokevirtual 47) 3 = true := by decide +kernel
theorem b62_8 {d : Nat} {Q : Option Value ⊕ Nat → am_Mem → Prop} {μ : am_Mem} {r0 : Nat} {x1 x2 : Int32} {P : Int32 → am_Mem → Prop} {X : Nat → am_Mem → Prop}
    (hk : am_kd μ r0 = (1, 4))
    (hc : Wp d 57 (0, [some (.ref r0)], [], μ) (pI P X)) (hr : ∀ x μ', P x μ' → Wp (d + 1) 62 (12, [some (.ref r0), some (.int x1), some (.int x2)], [.int x], (μ')) Q)
    (hx : ∀ x μ', X x μ' → Q (.inr x) μ') :
    Wp (d + 1) 62 (8, [some (.ref r0), some (.int x1), some (.int x2)], [], μ) Q := wp_blk rfl e62_8 (wp_cv (as := []) rfl e62_8_c rfl rfl rfl rfl rfl hk hc (fun v μ' hv => by obtain ⟨x, rfl, hp⟩ := pI_r hv; exact hr x μ' hp) hx)
def q62_12 : List (Nat × Instr × Nat) := [(12, .iconst 1, 1), (13, .if_icmp .eq 19, 3)]
theorem e62_12 : am_dec am_M62 q62_12 = true := by decide +kernel
theorem b62_12 {d : Nat} {Q : Option Value ⊕ Nat → am_Mem → Prop} {μ : am_Mem} {r0 : Nat} {x1 x2 s0 : Int32}
    (k1 : s0 = (Int32.ofInt 1) → Wp d 62 (32, [some (.ref r0), some (.int x1), some (.int x2)], [], μ) Q) (k2 : ¬ (s0 = (Int32.ofInt 1)) → Wp d 62 (16, [some (.ref r0), some (.int x1), some (.int x2)], [], μ) Q) :
    Wp d 62 (12, [some (.ref r0), some (.int x1), some (.int x2)], [.int s0], μ) Q := wp_blk rfl e62_12 (And.intro k1 k2)
def q62_16 : List (Nat × Instr × Nat) := [(16, .aload_n 0, 1), (17, .iload_n 1, 1)]
theorem e62_16 : am_dec am_M62 q62_16 = true := by decide +kernel
theorem e62_16_c : am_dc1 am_M62 18 (.invokevirtual 69) 3 = true := by decide +kernel
theorem b62_16 {d : Nat} {Q : Option Value ⊕ Nat → am_Mem → Prop} {μ : am_Mem} {r0 : Nat} {x1 x2 : Int32} {P : Int32 → am_Mem → Prop} {X : Nat → am_Mem → Prop}
    (hk : am_kd μ r0 = (1, 4))
    (hc : Wp d 63 (0, [some (.ref r0), some (.int x1), none, none], [], μ) (pI P X)) (hr : ∀ x μ', P x μ' → Wp (d + 1) 62 (21, [some (.ref r0), some (.int x1), some (.int x2)], [.int x], (μ')) Q)
    (hx : ∀ x μ', X x μ' → Q (.inr x) μ') :
    Wp (d + 1) 62 (16, [some (.ref r0), some (.int x1), some (.int x2)], [], μ) Q := wp_blk rfl e62_16 (wp_cv (as := [.int x1]) rfl e62_16_c rfl rfl rfl rfl rfl hk hc (fun v μ' hv => by obtain ⟨x, rfl, hp⟩ := pI_r hv; exact hr x μ' hp) hx)
def q62_21 : List (Nat × Instr × Nat) := [(21, .ifCond .ne 5, 3)]
theorem e62_21 : am_dec am_M62 q62_21 = true := by decide +kernel
theorem b62_21 {d : Nat} {Q : Option Value ⊕ Nat → am_Mem → Prop} {μ : am_Mem} {r0 : Nat} {x1 x2 s0 : Int32}
    (k1 : ¬ s0 = 0 → Wp d 62 (26, [some (.ref r0), some (.int x1), some (.int x2)], [], μ) Q) (k2 : ¬ (¬ s0 = 0) → Wp d 62 (24, [some (.ref r0), some (.int x1), some (.int x2)], [], μ) Q) :
    Wp d 62 (21, [some (.ref r0), some (.int x1), some (.int x2)], [.int s0], μ) Q := wp_blk rfl e62_21 (And.intro k1 k2)
def q62_24 : List (Nat × Instr × Nat) := [(24, .iconst 0, 1)]
theorem e62_24 : am_dec am_M62 q62_24 = true := by decide +kernel
theorem e62_24_r : am_dec am_M62 [(25, .ireturn, 1)] = true := by decide +kernel
theorem b62_24 {d : Nat} {Q : Option Value ⊕ Nat → am_Mem → Prop} {μ : am_Mem} {r0 : Nat} {x1 x2 : Int32}
    (k : Q (.inl (some (.int (Int32.ofInt 0)))) μ) :
    Wp d 62 (24, [some (.ref r0), some (.int x1), some (.int x2)], [], μ) Q := wp_blk rfl e62_24 (wp_ri (ty := .boolean) rfl e62_24_r rfl (by decide) k)
def q62_26 : List (Nat × Instr × Nat) := [(26, .iinc 2 1, 3), (29, .goto (-27), 3)]
theorem e62_26 : am_dec am_M62 q62_26 = true := by decide +kernel
theorem b62_26 {d : Nat} {Q : Option Value ⊕ Nat → am_Mem → Prop} {μ : am_Mem} {r0 : Nat} {x1 x2 : Int32}
    (k : Wp d 62 (2, [some (.ref r0), some (.int x1), some (.int (x2 + Int32.ofInt 1))], [], μ) Q) :
    Wp d 62 (26, [some (.ref r0), some (.int x1), some (.int x2)], [], μ) Q := wp_blk rfl e62_26 k
def q62_32 : List (Nat × Instr × Nat) := [(32, .aload_n 0, 1)]
theorem e62_32 : am_dec am_M62 q62_32 = true := by decide +kernel
theorem e62_32_c : am_dc1 am_M62 33 (.invokevirtual 72) 3 = true := by decide +kernel
theorem b62_32 {d : Nat} {Q : Option Value ⊕ Nat → am_Mem → Prop} {μ : am_Mem} {r0 : Nat} {x1 x2 : Int32} {P : Int32 → am_Mem → Prop} {X : Nat → am_Mem → Prop}
    (hk : am_kd μ r0 = (1, 4))
    (hc : Wp d 61 (0, [some (.ref r0), none], [], μ) (pI P X)) (hr : ∀ x μ', P x μ' → Wp (d + 1) 62 (36, [some (.ref r0), some (.int x1), some (.int x2)], [.int x], (μ')) Q)
    (hx : ∀ x μ', X x μ' → Q (.inr x) μ') :
    Wp (d + 1) 62 (32, [some (.ref r0), some (.int x1), some (.int x2)], [], μ) Q := wp_blk rfl e62_32 (wp_cv (as := []) rfl e62_32_c rfl rfl rfl rfl rfl hk hc (fun v μ' hv => by obtain ⟨x, rfl, hp⟩ := pI_r hv; exact hr x μ' hp) hx)
theorem e62_36_r : am_dec am_M62 [(36, .ireturn, 1)] = true := by decide +kernel
theorem b62_36 {d : Nat} {Q : Option Value ⊕ Nat → am_Mem → Prop} {μ : am_Mem} {r0 : Nat} {x1 x2 s0 : Int32}
    (hn : narrow .boolean (.int s0) = .int s0 ∧ fits .boolean (.int s0) = true)
    (k : Q (.inl (some (.int s0))) μ) :
    Wp d 62 (36, [some (.ref r0), some (.int x1), some (.int x2)], [.int s0], μ) Q := (wp_ri (ty := .boolean) rfl e62_36_r rfl hn k)
/-! RuleSheets$Parser.takeCondition(I)Z -/
def q63_0 : List (Nat × Instr × Nat) := [(0, .iconst (-1), 1), (1, .istore_n 2, 1), (2, .aload_n 0, 1)]
theorem e63_0 : am_dec am_M63 q63_0 = true := by decide +kernel
theorem e63_0_c : am_dc1 am_M63 3 (.invokevirtual 47) 3 = true := by decide +kernel
theorem b63_0 {d : Nat} {Q : Option Value ⊕ Nat → am_Mem → Prop} {μ : am_Mem} {r0 : Nat} {x1 : Int32} {P : Int32 → am_Mem → Prop} {X : Nat → am_Mem → Prop}
    (hk : am_kd μ r0 = (1, 4))
    (hc : Wp d 57 (0, [some (.ref r0)], [], μ) (pI P X)) (hr : ∀ x μ', P x μ' → Wp (d + 1) 63 (6, [some (.ref r0), some (.int x1), some (.int (Int32.ofInt (-1))), none], [.int x], (μ')) Q)
    (hx : ∀ x μ', X x μ' → Q (.inr x) μ') :
    Wp (d + 1) 63 (0, [some (.ref r0), some (.int x1), none, none], [], μ) Q := wp_blk rfl e63_0 (wp_cv (as := []) rfl e63_0_c rfl rfl rfl rfl rfl hk hc (fun v μ' hv => by obtain ⟨x, rfl, hp⟩ := pI_r hv; exact hr x μ' hp) hx)
def q63_6 : List (Nat × Instr × Nat) := [(6, .ifCond .ne 36, 3)]
theorem e63_6 : am_dec am_M63 q63_6 = true := by decide +kernel
theorem b63_6 {d : Nat} {Q : Option Value ⊕ Nat → am_Mem → Prop} {μ : am_Mem} {r0 : Nat} {x1 x2 s0 : Int32}
    (k1 : ¬ s0 = 0 → Wp d 63 (42, [some (.ref r0), some (.int x1), some (.int x2), none], [], μ) Q) (k2 : ¬ (¬ s0 = 0) → Wp d 63 (9, [some (.ref r0), some (.int x1), some (.int x2), none], [], μ) Q) :
    Wp d 63 (6, [some (.ref r0), some (.int x1), some (.int x2), none], [.int s0], μ) Q := wp_blk rfl e63_6 (And.intro k1 k2)
def q63_9 : List (Nat × Instr × Nat) := [(9, .aload_n 0, 1), (10, .getfield 25, 3), (13, .getfield 51, 3), (16, .aload_n 0, 1), (17, .getfield 9, 3), (20, .iconst 1, 1), (21, .iadd, 1), (22, .iaload, 1), (23, .iconst 3, 1), (24, .if_icmp .ne 18, 3)]
theorem e63_9 : am_dec am_M63 q63_9 = true := by decide +kernel
theorem b63_9 {d : Nat} {Q : Option Value ⊕ Nat → am_Mem → Prop} {μ : am_Mem} {r0 : Nat} {x1 x2 : Int32}
    (h1 : am_kd μ r0 = (1, 4))
    (h2 : ¬ am_F μ r0 0 = 15)
    (h3 : am_kd μ (am_F μ r0 0) = (1, 9))
    (h4 : ¬ am_F μ (am_F μ r0 0) 0 = 15)
    (h5 : am_kd μ r0 = (1, 4))
    (h6 : (am_kd μ (am_F μ (am_F μ r0 0) 0)).1 = 2 ∨ (am_kd μ (am_F μ (am_F μ r0 0) 0)).1 = 8)
    (h7 : ¬ (((am_A μ r0 2) + (Int32.ofInt 1)) < 0 ∨ (am_kd μ (am_F μ (am_F μ r0 0) 0)).2 ≤ ((am_A μ r0 2) + (Int32.ofInt 1)).toNatClampNeg))
    (k1 : ¬ (am_A μ (am_F μ (am_F μ r0 0) 0) ((am_A μ r0 2) + (Int32.ofInt 1)).toNatClampNeg) = (Int32.ofInt 3) → Wp d 63 (42, [some (.ref r0), some (.int x1), some (.int x2), none], [], μ) Q) (k2 : ¬ (¬ (am_A μ (am_F μ (am_F μ r0 0) 0) ((am_A μ r0 2) + (Int32.ofInt 1)).toNatClampNeg) = (Int32.ofInt 3)) → Wp d 63 (27, [some (.ref r0), some (.int x1), some (.int x2), none], [], μ) Q) :
    Wp d 63 (9, [some (.ref r0), some (.int x1), some (.int x2), none], [], μ) Q := wp_blk rfl e63_9 (And.intro h1 (And.intro h2 (And.intro h3 (And.intro h4 (And.intro h5 (And.intro h6 (And.intro h7 (And.intro k1 k2))))))))
def q63_27 : List (Nat × Instr × Nat) := [(27, .aload_n 0, 1), (28, .getfield 25, 3), (31, .getfield 76, 3), (34, .aload_n 0, 1), (35, .getfield 9, 3), (38, .iconst 1, 1), (39, .iadd, 1), (40, .iaload, 1), (41, .istore_n 2, 1)]
theorem e63_27 : am_dec am_M63 q63_27 = true := by decide +kernel
theorem b63_27 {d : Nat} {Q : Option Value ⊕ Nat → am_Mem → Prop} {μ : am_Mem} {r0 : Nat} {x1 x2 : Int32}
    (h1 : am_kd μ r0 = (1, 4))
    (h2 : ¬ am_F μ r0 0 = 15)
    (h3 : am_kd μ (am_F μ r0 0) = (1, 9))
    (h4 : ¬ am_F μ (am_F μ r0 0) 2 = 15)
    (h5 : am_kd μ r0 = (1, 4))
    (h6 : (am_kd μ (am_F μ (am_F μ r0 0) 2)).1 = 2 ∨ (am_kd μ (am_F μ (am_F μ r0 0) 2)).1 = 8)
    (h7 : ¬ (((am_A μ r0 2) + (Int32.ofInt 1)) < 0 ∨ (am_kd μ (am_F μ (am_F μ r0 0) 2)).2 ≤ ((am_A μ r0 2) + (Int32.ofInt 1)).toNatClampNeg))
    (k : Wp d 63 (42, [some (.ref r0), some (.int x1), some (.int (am_A μ (am_F μ (am_F μ r0 0) 2) ((am_A μ r0 2) + (Int32.ofInt 1)).toNatClampNeg)), none], [], μ) Q) :
    Wp d 63 (27, [some (.ref r0), some (.int x1), some (.int x2), none], [], μ) Q := wp_blk rfl e63_27 (And.intro h1 (And.intro h2 (And.intro h3 (And.intro h4 (And.intro h5 (And.intro h6 (And.intro h7 k)))))))
def q63_42 : List (Nat × Instr × Nat) := [(42, .iload_n 2, 1), (43, .bipush 8, 2), (45, .if_icmp .ne 41, 3)]
theorem e63_42 : am_dec am_M63 q63_42 = true := by decide +kernel
theorem b63_42 {d : Nat} {Q : Option Value ⊕ Nat → am_Mem → Prop} {μ : am_Mem} {r0 : Nat} {x1 x2 : Int32}
    (k1 : ¬ x2 = ((Int8.ofInt 8).toInt32) → Wp d 63 (86, [some (.ref r0), some (.int x1), some (.int x2), none], [], μ) Q) (k2 : ¬ (¬ x2 = ((Int8.ofInt 8).toInt32)) → Wp d 63 (48, [some (.ref r0), some (.int x1), some (.int x2), none], [], μ) Q) :
    Wp d 63 (42, [some (.ref r0), some (.int x1), some (.int x2), none], [], μ) Q := wp_blk rfl e63_42 (And.intro k1 k2)
def q63_48 : List (Nat × Instr × Nat) := [(48, .aload_n 0, 1), (49, .dup, 1), (50, .getfield 9, 3), (53, .iconst 2, 1), (54, .iadd, 1), (55, .putfield 9, 3), (58, .aload_n 0, 1), (59, .iconst 2, 1), (60, .iconst 1, 1)]
theorem e63_48 : am_dec am_M63 q63_48 = true := by decide +kernel
theorem e63_48_c : am_dc1 am_M63 61 (.invokevirtual 62) 3 = true := by decide +kernel
theorem b63_48 {d : Nat} {Q : Option Value ⊕ Nat → am_Mem → Prop} {μ : am_Mem} {r0 : Nat} {x1 x2 : Int32} {P : Int32 → am_Mem → Prop} {X : Nat → am_Mem → Prop}
    (h1 : am_kd μ r0 = (1, 4))
    (h2 : am_kd μ r0 = (1, 4))
    (hk : am_kd (am_pA μ r0 2 ((am_A μ r0 2) + (Int32.ofInt 2))) r0 = (1, 4))
    (hc : Wp d 58 (0, [some (.ref r0), some (.int (Int32.ofInt 2)), some (.int (Int32.ofInt 1)), none, none], [], (am_pA μ r0 2 ((am_A μ r0 2) + (Int32.ofInt 2)))) (pI P X)) (hr : ∀ x μ', P x μ' → Wp (d + 1) 63 (64, [some (.ref r0), some (.int x1), some (.int x2), none], [.int x], (μ')) Q)
    (hx : ∀ x μ', X x μ' → Q (.inr x) μ') :
    Wp (d + 1) 63 (48, [some (.ref r0), some (.int x1), some (.int x2), none], [], μ) Q := wp_blk rfl e63_48 (And.intro h1 (And.intro h2 (And.intro ⟨rfl, rfl⟩ (wp_cv (as := [.int (Int32.ofInt 2), .int (Int32.ofInt 1)]) rfl e63_48_c rfl rfl rfl rfl rfl hk hc (fun v μ' hv => by obtain ⟨x, rfl, hp⟩ := pI_r hv; exact hr x μ' hp) hx))))
def q63_64 : List (Nat × Instr × Nat) := [(64, .istore_n 3, 1), (65, .iload_n 3, 1), (66, .iconst (-1), 1), (67, .if_icmp .ne 5, 3)]
theorem e63_64 : am_dec am_M63 q63_64 = true := by decide +kernel
theorem b63_64 {d : Nat} {Q : Option Value ⊕ Nat → am_Mem → Prop} {μ : am_Mem} {r0 : Nat} {x1 x2 s0 : Int32}
    (k1 : ¬ s0 = (Int32.ofInt (-1)) → Wp d 63 (72, [some (.ref r0), some (.int x1), some (.int x2), some (.int s0)], [], μ) Q) (k2 : ¬ (¬ s0 = (Int32.ofInt (-1))) → Wp d 63 (70, [some (.ref r0), some (.int x1), some (.int x2), some (.int s0)], [], μ) Q) :
    Wp d 63 (64, [some (.ref r0), some (.int x1), some (.int x2), none], [.int s0], μ) Q := wp_blk rfl e63_64 (And.intro k1 k2)
def q63_70 : List (Nat × Instr × Nat) := [(70, .iconst 0, 1)]
theorem e63_70 : am_dec am_M63 q63_70 = true := by decide +kernel
theorem e63_70_r : am_dec am_M63 [(71, .ireturn, 1)] = true := by decide +kernel
theorem b63_70 {d : Nat} {Q : Option Value ⊕ Nat → am_Mem → Prop} {μ : am_Mem} {r0 : Nat} {x1 x2 x3 : Int32}
    (k : Q (.inl (some (.int (Int32.ofInt 0)))) μ) :
    Wp d 63 (70, [some (.ref r0), some (.int x1), some (.int x2), some (.int x3)], [], μ) Q := wp_blk rfl e63_70 (wp_ri (ty := .boolean) rfl e63_70_r rfl (by decide) k)
def q63_72 : List (Nat × Instr × Nat) := [(72, .aload_n 0, 1), (73, .getfield 29, 3), (76, .iload_n 1, 1), (77, .iload_n 3, 1)]
theorem e63_72 : am_dec am_M63 q63_72 = true := by decide +kernel
theorem e63_72_c : am_dc1 am_M63 78 (.invokevirtual 79) 3 = true := by decide +kernel
theorem b63_72 {d : Nat} {Q : Option Value ⊕ Nat → am_Mem → Prop} {μ : am_Mem} {r0 : Nat} {x1 x2 x3 : Int32} {P : am_Mem → Prop} {X : Nat → am_Mem → Prop}
    (h1 : am_kd μ r0 = (1, 4))
    (h2 : ¬ am_F μ r0 1 = 15)
    (hk : am_kd μ (am_F μ r0 1) = (1, 5))
    (hc : Wp d 67 (0, [some (.ref (am_F μ r0 1)), some (.int x1), some (.int x3)], [], μ) (pV P X)) (hr : ∀ μ', P μ' → Wp (d + 1) 63 (81, [some (.ref r0), some (.int x1), some (.int x2), some (.int x3)], [], (μ')) Q)
    (hx : ∀ x μ', X x μ' → Q (.inr x) μ') :
    Wp (d + 1) 63 (72, [some (.ref r0), some (.int x1), some (.int x2), some (.int x3)], [], μ) Q := wp_blk rfl e63_72 (And.intro h1 (And.intro h2 (wp_cv (as := [.int x1, .int x3]) rfl e63_72_c rfl rfl rfl rfl rfl hk hc (fun v μ' hv => by obtain ⟨rfl, hp⟩ := pV_r hv; exact hr μ' hp) hx)))
def q63_81 : List (Nat × Instr × Nat) := [(81, .aload_n 0, 1)]
theorem e63_81 : am_dec am_M63 q63_81 = true := by decide +kernel
theorem e63_81_c : am_dc1 am_M63 82 (.invokevirtual 72) 3 = true := by decide +kernel
theorem b63_81 {d : Nat} {Q : Option Value ⊕ Nat → am_Mem → Prop} {μ : am_Mem} {r0 : Nat} {x1 x2 x3 : Int32} {P : Int32 → am_Mem → Prop} {X : Nat → am_Mem → Prop}
    (hk : am_kd μ r0 = (1, 4))
    (hc : Wp d 61 (0, [some (.ref r0), none], [], μ) (pI P X)) (hr : ∀ x μ', P x μ' → Wp (d + 1) 63 (85, [some (.ref r0), some (.int x1), some (.int x2), some (.int x3)], [.int x], (μ')) Q)
    (hx : ∀ x μ', X x μ' → Q (.inr x) μ') :
    Wp (d + 1) 63 (81, [some (.ref r0), some (.int x1), some (.int x2), some (.int x3)], [], μ) Q := wp_blk rfl e63_81 (wp_cv (as := []) rfl e63_81_c rfl rfl rfl rfl rfl hk hc (fun v μ' hv => by obtain ⟨x, rfl, hp⟩ := pI_r hv; exact hr x μ' hp) hx)
theorem e63_85_r : am_dec am_M63 [(85, .ireturn, 1)] = true := by decide +kernel
theorem b63_85 {d : Nat} {Q : Option Value ⊕ Nat → am_Mem → Prop} {μ : am_Mem} {r0 : Nat} {x1 x2 x3 s0 : Int32}
    (hn : narrow .boolean (.int s0) = .int s0 ∧ fits .boolean (.int s0) = true)
    (k : Q (.inl (some (.int s0))) μ) :
    Wp d 63 (85, [some (.ref r0), some (.int x1), some (.int x2), some (.int x3)], [.int s0], μ) Q := (wp_ri (ty := .boolean) rfl e63_85_r rfl hn k)
def q63_86 : List (Nat × Instr × Nat) := [(86, .iload_n 2, 1), (87, .bipush 9, 2), (89, .if_icmp .ne 48, 3)]
theorem e63_86 : am_dec am_M63 q63_86 = true := by decide +kernel
theorem b63_86 {d : Nat} {Q : Option Value ⊕ Nat → am_Mem → Prop} {μ : am_Mem} {r0 : Nat} {x1 x2 : Int32}
    (k1 : ¬ x2 = ((Int8.ofInt 9).toInt32) → Wp d 63 (137, [some (.ref r0), some (.int x1), some (.int x2), none], [], μ) Q) (k2 : ¬ (¬ x2 = ((Int8.ofInt 9).toInt32)) → Wp d 63 (92, [some (.ref r0), some (.int x1), some (.int x2), none], [], μ) Q) :
    Wp d 63 (86, [some (.ref r0), some (.int x1), some (.int x2), none], [], μ) Q := wp_blk rfl e63_86 (And.intro k1 k2)
def q63_92 : List (Nat × Instr × Nat) := [(92, .aload_n 0, 1), (93, .dup, 1), (94, .getfield 9, 3), (97, .iconst 2, 1), (98, .iadd, 1), (99, .putfield 9, 3), (102, .aload_n 0, 1), (103, .bipush 9, 2), (105, .iconst 2, 1), (106, .iconst 2, 1), (107, .iconst 2, 1)]
theorem e63_92 : am_dec am_M63 q63_92 = true := by decide +kernel
theorem e63_92_c : am_dc1 am_M63 108 (.invokevirtual 83) 3 = true := by decide +kernel
theorem b63_92 {d : Nat} {Q : Option Value ⊕ Nat → am_Mem → Prop} {μ : am_Mem} {r0 : Nat} {x1 x2 : Int32} {P : Int32 → am_Mem → Prop} {X : Nat → am_Mem → Prop}
    (h1 : am_kd μ r0 = (1, 4))
    (h2 : am_kd μ r0 = (1, 4))
    (hk : am_kd (am_pA μ r0 2 ((am_A μ r0 2) + (Int32.ofInt 2))) r0 = (1, 4))
    (hc : Wp d 60 (0, [some (.ref r0), some (.int ((Int8.ofInt 9).toInt32)), some (.int (Int32.ofInt 2)), some (.int (Int32.ofInt 2)), some (.int (Int32.ofInt 2)), none, none, none], [], (am_pA μ r0 2 ((am_A μ r0 2) + (Int32.ofInt 2)))) (pI P X)) (hr : ∀ x μ', P x μ' → Wp (d + 1) 63 (111, [some (.ref r0), some (.int x1), some (.int x2), none], [.int x], (μ')) Q)
    (hx : ∀ x μ', X x μ' → Q (.inr x) μ') :
    Wp (d + 1) 63 (92, [some (.ref r0), some (.int x1), some (.int x2), none], [], μ) Q := wp_blk rfl e63_92 (And.intro h1 (And.intro h2 (And.intro ⟨rfl, rfl⟩ (wp_cv (as := [.int ((Int8.ofInt 9).toInt32), .int (Int32.ofInt 2), .int (Int32.ofInt 2), .int (Int32.ofInt 2)]) rfl e63_92_c rfl rfl rfl rfl rfl hk hc (fun v μ' hv => by obtain ⟨x, rfl, hp⟩ := pI_r hv; exact hr x μ' hp) hx))))
def q63_111 : List (Nat × Instr × Nat) := [(111, .istore_n 3, 1), (112, .iload_n 3, 1), (113, .iconst (-1), 1), (114, .if_icmp .eq 12, 3)]
theorem e63_111 : am_dec am_M63 q63_111 = true := by decide +kernel
theorem b63_111 {d : Nat} {Q : Option Value ⊕ Nat → am_Mem → Prop} {μ : am_Mem} {r0 : Nat} {x1 x2 s0 : Int32}
    (k1 : s0 = (Int32.ofInt (-1)) → Wp d 63 (126, [some (.ref r0), some (.int x1), some (.int x2), some (.int s0)], [], μ) Q) (k2 : ¬ (s0 = (Int32.ofInt (-1))) → Wp d 63 (117, [some (.ref r0), some (.int x1), some (.int x2), some (.int s0)], [], μ) Q) :
    Wp d 63 (111, [some (.ref r0), some (.int x1), some (.int x2), none], [.int s0], μ) Q := wp_blk rfl e63_111 (And.intro k1 k2)
def q63_117 : List (Nat × Instr × Nat) := [(117, .aload_n 0, 1), (118, .getfield 29, 3), (121, .iload_n 1, 1), (122, .iload_n 3, 1)]
theorem e63_117 : am_dec am_M63 q63_117 = true := by decide +kernel
theorem e63_117_c : am_dc1 am_M63 123 (.invokevirtual 79) 3 = true := by decide +kernel
theorem b63_117 {d : Nat} {Q : Option Value ⊕ Nat → am_Mem → Prop} {μ : am_Mem} {r0 : Nat} {x1 x2 x3 : Int32} {P : am_Mem → Prop} {X : Nat → am_Mem → Prop}
    (h1 : am_kd μ r0 = (1, 4))
    (h2 : ¬ am_F μ r0 1 = 15)
    (hk : am_kd μ (am_F μ r0 1) = (1, 5))
    (hc : Wp d 67 (0, [some (.ref (am_F μ r0 1)), some (.int x1), some (.int x3)], [], μ) (pV P X)) (hr : ∀ μ', P μ' → Wp (d + 1) 63 (126, [some (.ref r0), some (.int x1), some (.int x2), some (.int x3)], [], (μ')) Q)
    (hx : ∀ x μ', X x μ' → Q (.inr x) μ') :
    Wp (d + 1) 63 (117, [some (.ref r0), some (.int x1), some (.int x2), some (.int x3)], [], μ) Q := wp_blk rfl e63_117 (And.intro h1 (And.intro h2 (wp_cv (as := [.int x1, .int x3]) rfl e63_117_c rfl rfl rfl rfl rfl hk hc (fun v μ' hv => by obtain ⟨rfl, hp⟩ := pV_r hv; exact hr μ' hp) hx)))
def q63_126 : List (Nat × Instr × Nat) := [(126, .iload_n 3, 1), (127, .iconst (-1), 1), (128, .if_icmp .eq 7, 3)]
theorem e63_126 : am_dec am_M63 q63_126 = true := by decide +kernel
theorem b63_126 {d : Nat} {Q : Option Value ⊕ Nat → am_Mem → Prop} {μ : am_Mem} {r0 : Nat} {x1 x2 x3 : Int32}
    (k1 : x3 = (Int32.ofInt (-1)) → Wp d 63 (135, [some (.ref r0), some (.int x1), some (.int x2), some (.int x3)], [], μ) Q) (k2 : ¬ (x3 = (Int32.ofInt (-1))) → Wp d 63 (131, [some (.ref r0), some (.int x1), some (.int x2), some (.int x3)], [], μ) Q) :
    Wp d 63 (126, [some (.ref r0), some (.int x1), some (.int x2), some (.int x3)], [], μ) Q := wp_blk rfl e63_126 (And.intro k1 k2)
def q63_131 : List (Nat × Instr × Nat) := [(131, .iconst 1, 1), (132, .goto 4, 3)]
theorem e63_131 : am_dec am_M63 q63_131 = true := by decide +kernel
theorem b63_131 {d : Nat} {Q : Option Value ⊕ Nat → am_Mem → Prop} {μ : am_Mem} {r0 : Nat} {x1 x2 x3 : Int32}
    (k : Wp d 63 (136, [some (.ref r0), some (.int x1), some (.int x2), some (.int x3)], [.int (Int32.ofInt 1)], μ) Q) :
    Wp d 63 (131, [some (.ref r0), some (.int x1), some (.int x2), some (.int x3)], [], μ) Q := wp_blk rfl e63_131 k
def q63_135 : List (Nat × Instr × Nat) := [(135, .iconst 0, 1)]
theorem e63_135 : am_dec am_M63 q63_135 = true := by decide +kernel
theorem b63_135 {d : Nat} {Q : Option Value ⊕ Nat → am_Mem → Prop} {μ : am_Mem} {r0 : Nat} {x1 x2 x3 : Int32}
    (k : Wp d 63 (136, [some (.ref r0), some (.int x1), some (.int x2), some (.int x3)], [.int (Int32.ofInt 0)], μ) Q) :
    Wp d 63 (135, [some (.ref r0), some (.int x1), some (.int x2), some (.int x3)], [], μ) Q := wp_blk rfl e63_135 k
theorem e63_136_r : am_dec am_M63 [(136, .ireturn, 1)] = true := by decide +kernel
theorem b63_136 {d : Nat} {Q : Option Value ⊕ Nat → am_Mem → Prop} {μ : am_Mem} {r0 : Nat} {x1 x2 x3 s0 : Int32}
    (hn : narrow .boolean (.int s0) = .int s0 ∧ fits .boolean (.int s0) = true)
    (k : Q (.inl (some (.int s0))) μ) :
    Wp d 63 (136, [some (.ref r0), some (.int x1), some (.int x2), some (.int x3)], [.int s0], μ) Q := (wp_ri (ty := .boolean) rfl e63_136_r rfl hn k)
def q63_137 : List (Nat × Instr × Nat) := [(137, .aload_n 0, 1), (138, .iconst 1, 1), (139, .iconst 1, 1)]
theorem e63_137 : am_dec am_M63 q63_137 = true := by decide +kernel
theorem e63_137_c : am_dc1 am_M63 140 (.invokevirtual 62) 3 = true := by decide +kernel
theorem b63_137 {d : Nat} {Q : Option Value ⊕ Nat → am_Mem → Prop} {μ : am_Mem} {r0 : Nat} {x1 x2 : Int32} {P : Int32 → am_Mem → Prop} {X : Nat → am_Mem → Prop}
    (hk : am_kd μ r0 = (1, 4))
    (hc : Wp d 58 (0, [some (.ref r0), some (.int (Int32.ofInt 1)), some (.int (Int32.ofInt 1)), none, none], [], μ) (pI P X)) (hr : ∀ x μ', P x μ' → Wp (d + 1) 63 (143, [some (.ref r0), some (.int x1), some (.int x2), none], [.int x], (μ')) Q)
    (hx : ∀ x μ', X x μ' → Q (.inr x) μ') :
    Wp (d + 1) 63 (137, [some (.ref r0), some (.int x1), some (.int x2), none], [], μ) Q := wp_blk rfl e63_137 (wp_cv (as := [.int (Int32.ofInt 1), .int (Int32.ofInt 1)]) rfl e63_137_c rfl rfl rfl rfl rfl hk hc (fun v μ' hv => by obtain ⟨x, rfl, hp⟩ := pI_r hv; exact hr x μ' hp) hx)
def q63_143 : List (Nat × Instr × Nat) := [(143, .istore_n 3, 1), (144, .iload_n 3, 1), (145, .iconst (-1), 1), (146, .if_icmp .eq 12, 3)]
theorem e63_143 : am_dec am_M63 q63_143 = true := by decide +kernel
theorem b63_143 {d : Nat} {Q : Option Value ⊕ Nat → am_Mem → Prop} {μ : am_Mem} {r0 : Nat} {x1 x2 s0 : Int32}
    (k1 : s0 = (Int32.ofInt (-1)) → Wp d 63 (158, [some (.ref r0), some (.int x1), some (.int x2), some (.int s0)], [], μ) Q) (k2 : ¬ (s0 = (Int32.ofInt (-1))) → Wp d 63 (149, [some (.ref r0), some (.int x1), some (.int x2), some (.int s0)], [], μ) Q) :
    Wp d 63 (143, [some (.ref r0), some (.int x1), some (.int x2), none], [.int s0], μ) Q := wp_blk rfl e63_143 (And.intro k1 k2)
def q63_149 : List (Nat × Instr × Nat) := [(149, .aload_n 0, 1), (150, .getfield 29, 3), (153, .iload_n 1, 1), (154, .iload_n 3, 1)]
theorem e63_149 : am_dec am_M63 q63_149 = true := by decide +kernel
theorem e63_149_c : am_dc1 am_M63 155 (.invokevirtual 87) 3 = true := by decide +kernel
theorem b63_149 {d : Nat} {Q : Option Value ⊕ Nat → am_Mem → Prop} {μ : am_Mem} {r0 : Nat} {x1 x2 x3 : Int32} {P : am_Mem → Prop} {X : Nat → am_Mem → Prop}
    (h1 : am_kd μ r0 = (1, 4))
    (h2 : ¬ am_F μ r0 1 = 15)
    (hk : am_kd μ (am_F μ r0 1) = (1, 5))
    (hc : Wp d 68 (0, [some (.ref (am_F μ r0 1)), some (.int x1), some (.int x3)], [], μ) (pV P X)) (hr : ∀ μ', P μ' → Wp (d + 1) 63 (158, [some (.ref r0), some (.int x1), some (.int x2), some (.int x3)], [], (μ')) Q)
    (hx : ∀ x μ', X x μ' → Q (.inr x) μ') :
    Wp (d + 1) 63 (149, [some (.ref r0), some (.int x1), some (.int x2), some (.int x3)], [], μ) Q := wp_blk rfl e63_149 (And.intro h1 (And.intro h2 (wp_cv (as := [.int x1, .int x3]) rfl e63_149_c rfl rfl rfl rfl rfl hk hc (fun v μ' hv => by obtain ⟨rfl, hp⟩ := pV_r hv; exact hr μ' hp) hx)))
def q63_158 : List (Nat × Instr × Nat) := [(158, .iload_n 3, 1), (159, .iconst (-1), 1), (160, .if_icmp .eq 7, 3)]
theorem e63_158 : am_dec am_M63 q63_158 = true := by decide +kernel
theorem b63_158 {d : Nat} {Q : Option Value ⊕ Nat → am_Mem → Prop} {μ : am_Mem} {r0 : Nat} {x1 x2 x3 : Int32}
    (k1 : x3 = (Int32.ofInt (-1)) → Wp d 63 (167, [some (.ref r0), some (.int x1), some (.int x2), some (.int x3)], [], μ) Q) (k2 : ¬ (x3 = (Int32.ofInt (-1))) → Wp d 63 (163, [some (.ref r0), some (.int x1), some (.int x2), some (.int x3)], [], μ) Q) :
    Wp d 63 (158, [some (.ref r0), some (.int x1), some (.int x2), some (.int x3)], [], μ) Q := wp_blk rfl e63_158 (And.intro k1 k2)
def q63_163 : List (Nat × Instr × Nat) := [(163, .iconst 1, 1), (164, .goto 4, 3)]
theorem e63_163 : am_dec am_M63 q63_163 = true := by decide +kernel
theorem b63_163 {d : Nat} {Q : Option Value ⊕ Nat → am_Mem → Prop} {μ : am_Mem} {r0 : Nat} {x1 x2 x3 : Int32}
    (k : Wp d 63 (168, [some (.ref r0), some (.int x1), some (.int x2), some (.int x3)], [.int (Int32.ofInt 1)], μ) Q) :
    Wp d 63 (163, [some (.ref r0), some (.int x1), some (.int x2), some (.int x3)], [], μ) Q := wp_blk rfl e63_163 k
def q63_167 : List (Nat × Instr × Nat) := [(167, .iconst 0, 1)]
theorem e63_167 : am_dec am_M63 q63_167 = true := by decide +kernel
theorem b63_167 {d : Nat} {Q : Option Value ⊕ Nat → am_Mem → Prop} {μ : am_Mem} {r0 : Nat} {x1 x2 x3 : Int32}
    (k : Wp d 63 (168, [some (.ref r0), some (.int x1), some (.int x2), some (.int x3)], [.int (Int32.ofInt 0)], μ) Q) :
    Wp d 63 (167, [some (.ref r0), some (.int x1), some (.int x2), some (.int x3)], [], μ) Q := wp_blk rfl e63_167 k
theorem e63_168_r : am_dec am_M63 [(168, .ireturn, 1)] = true := by decide +kernel
theorem b63_168 {d : Nat} {Q : Option Value ⊕ Nat → am_Mem → Prop} {μ : am_Mem} {r0 : Nat} {x1 x2 x3 s0 : Int32}
    (hn : narrow .boolean (.int s0) = .int s0 ∧ fits .boolean (.int s0) = true)
    (k : Q (.inl (some (.int s0))) μ) :
    Wp d 63 (168, [some (.ref r0), some (.int x1), some (.int x2), some (.int x3)], [.int s0], μ) Q := (wp_ri (ty := .boolean) rfl e63_168_r rfl hn k)
