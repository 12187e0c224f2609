/-! ===== printed: the blocks of Store ===== -/
/-! RuleSheets$Store.<init>()V -/
def q82_0 : List (Nat × Instr × Nat) := [(0, .aload_n 0, 1), (1, .invokespecial 5, 3), (4, .aload_n 0, 1), (5, .sipush 9120, 3), (8, .newarray .short, 2), (10, .putfield 11, 3)]
theorem e82_0 : am_dec am_M82 q82_0 = true := by decide +kernel
theorem b82_0 {d : Nat} {Q : Option Value ⊕ Nat → am_Mem → Prop} {μ : am_Mem} {r0 : Nat}
    (h1 : am_kd (am_nA μ 7 ((Int16.ofInt 9120).toInt32).toNatClampNeg) r0 = (1, 7))
    (h2 : ¬ (am_n μ) = 15)
    (k : Wp d 82 (13, [some (.ref r0)], [], (am_pR (am_nA μ 7 ((Int16.ofInt 9120).toInt32).toNatClampNeg) r0 0 (am_n μ))) Q) :
    Wp d 82 (0, [some (.ref r0)], [], μ) Q := wp_blk rfl e82_0 (And.intro (by decide) (And.intro h1 (And.intro h2 k)))
def q82_13 : List (Nat × Instr × Nat) := [(13, .aload_n 0, 1), (14, .sipush 302, 3), (17, .newarray .int, 2), (19, .putfield 15, 3)]
theorem e82_13 : am_dec am_M82 q82_13 = true := by decide +kernel
theorem b82_13 {d : Nat} {Q : Option Value ⊕ Nat → am_Mem → Prop} {μ : am_Mem} {r0 : Nat}
    (h1 : am_kd (am_nA μ 2 ((Int16.ofInt 302).toInt32).toNatClampNeg) r0 = (1, 7))
    (h2 : ¬ (am_n μ) = 15)
    (k : Wp d 82 (22, [some (.ref r0)], [], (am_pR (am_nA μ 2 ((Int16.ofInt 302).toInt32).toNatClampNeg) r0 1 (am_n μ))) Q) :
    Wp d 82 (13, [some (.ref r0)], [], μ) Q := wp_blk rfl e82_13 (And.intro (by decide) (And.intro h1 (And.intro h2 k)))
def q82_22 : List (Nat × Instr × Nat) := [(22, .aload_n 0, 1), (23, .sipush 301, 3), (26, .newarray .int, 2), (28, .putfield 19, 3)]
theorem e82_22 : am_dec am_M82 q82_22 = true := by decide +kernel
theorem b82_22 {d : Nat} {Q : Option Value ⊕ Nat → am_Mem → Prop} {μ : am_Mem} {r0 : Nat}
    (h1 : am_kd (am_nA μ 2 ((Int16.ofInt 301).toInt32).toNatClampNeg) r0 = (1, 7))
    (h2 : ¬ (am_n μ) = 15)
    (k : Wp d 82 (31, [some (.ref r0)], [], (am_pR (am_nA μ 2 ((Int16.ofInt 301).toInt32).toNatClampNeg) r0 2 (am_n μ))) Q) :
    Wp d 82 (22, [some (.ref r0)], [], μ) Q := wp_blk rfl e82_22 (And.intro (by decide) (And.intro h1 (And.intro h2 k)))
def q82_31 : List (Nat × Instr × Nat) := [(31, .aload_n 0, 1), (32, .iconst 0, 1), (33, .putfield 22, 3), (36, .aload_n 0, 1), (37, .bipush 79, 2), (39, .newarray .int, 2), (41, .putfield 26, 3)]
theorem e82_31 : am_dec am_M82 q82_31 = true := by decide +kernel
theorem b82_31 {d : Nat} {Q : Option Value ⊕ Nat → am_Mem → Prop} {μ : am_Mem} {r0 : Nat}
    (h1 : am_kd μ r0 = (1, 7))
    (h2 : am_kd (am_nA (am_pA μ r0 3 (Int32.ofInt 0)) 2 ((Int8.ofInt 79).toInt32).toNatClampNeg) r0 = (1, 7))
    (h3 : ¬ (am_n (am_pA μ r0 3 (Int32.ofInt 0))) = 15)
    (k : Wp d 82 (44, [some (.ref r0)], [], (am_pR (am_nA (am_pA μ r0 3 (Int32.ofInt 0)) 2 ((Int8.ofInt 79).toInt32).toNatClampNeg) r0 4 (am_n (am_pA μ r0 3 (Int32.ofInt 0))))) Q) :
    Wp d 82 (31, [some (.ref r0)], [], μ) Q := wp_blk rfl e82_31 (And.intro h1 (And.intro ⟨rfl, rfl⟩ (And.intro (by decide) (And.intro h2 (And.intro h3 k)))))
def q82_44 : List (Nat × Instr × Nat) := [(44, .aload_n 0, 1), (45, .bipush 19, 2), (47, .newarray .int, 2), (49, .putfield 29, 3)]
theorem e82_44 : am_dec am_M82 q82_44 = true := by decide +kernel
theorem b82_44 {d : Nat} {Q : Option Value ⊕ Nat → am_Mem → Prop} {μ : am_Mem} {r0 : Nat}
    (h1 : am_kd (am_nA μ 2 ((Int8.ofInt 19).toInt32).toNatClampNeg) r0 = (1, 7))
    (h2 : ¬ (am_n μ) = 15)
    (k : Wp d 82 (52, [some (.ref r0)], [], (am_pR (am_nA μ 2 ((Int8.ofInt 19).toInt32).toNatClampNeg) r0 5 (am_n μ))) Q) :
    Wp d 82 (44, [some (.ref r0)], [], μ) Q := wp_blk rfl e82_44 (And.intro (by decide) (And.intro h1 (And.intro h2 k)))
theorem e82_52_r : am_dec am_M82 [(52, .return_, 1)] = true := by decide +kernel
theorem b82_52 {d : Nat} {Q : Option Value ⊕ Nat → am_Mem → Prop} {μ : am_Mem} {r0 : Nat}
    (k : Q (.inl none) μ) :
    Wp d 82 (52, [some (.ref r0)], [], μ) Q := (wp_rv rfl e82_52_r rfl k)
/-! RuleSheets$Store.intern([IILRuleSheets$Terms;)I -/
def q83_0 : List (Nat × Instr × Nat) := [(0, .aload_n 0, 1), (1, .aload_n 1, 1), (2, .iload_n 2, 1), (3, .aload_n 3, 1)]
theorem e83_0 : am_dec am_M83 q83_0 = true := by decide +kernel
theorem e83_0_c : am_dc1 am_M83 4 (.invokevirtual 32) 3 = true := by decide +kernel
theorem b83_0 {d : Nat} {Q : Option Value ⊕ Nat → am_Mem → Prop} {μ : am_Mem} {r0 r1 r3 : Nat} {x2 : Int32} {P : am_Mem → Prop} {X : Nat → am_Mem → Prop}
    (hk : am_kd μ r0 = (1, 7))
    (hc : Wp d 84 (0, [some (.ref r0), some (.ref r1), some (.int x2), some (.ref r3), none, none], [], μ) (pV P X)) (hr : ∀ μ', P μ' → Wp (d + 1) 83 (7, [some (.ref r0), some (.ref r1), some (.int x2), some (.ref r3), none], [], (μ')) Q)
    (hx : ∀ x μ', X x μ' → Q (.inr x) μ') :
    Wp (d + 1) 83 (0, [some (.ref r0), some (.ref r1), some (.int x2), some (.ref r3), none], [], μ) Q := wp_blk rfl e83_0 (wp_cv (as := [.ref r1, .int x2, .ref r3]) rfl e83_0_c rfl rfl rfl rfl rfl hk hc (fun v μ' hv => by obtain ⟨rfl, hp⟩ := pV_r hv; exact hr μ' hp) hx)
def q83_7 : List (Nat × Instr × Nat) := [(7, .iconst 0, 1), (8, .istore 4, 2)]
theorem e83_7 : am_dec am_M83 q83_7 = true := by decide +kernel
theorem b83_7 {d : Nat} {Q : Option Value ⊕ Nat → am_Mem → Prop} {μ : am_Mem} {r0 r1 r3 : Nat} {x2 : Int32}
    (k : Wp d 83 (10, [some (.ref r0), some (.ref r1), some (.int x2), some (.ref r3), some (.int (Int32.ofInt 0))], [], μ) Q) :
    Wp d 83 (7, [some (.ref r0), some (.ref r1), some (.int x2), some (.ref r3), none], [], μ) Q := wp_blk rfl e83_7 k
def q83_10 : List (Nat × Instr × Nat) := [(10, .iload 4, 2), (12, .aload_n 0, 1), (13, .getfield 22, 3), (16, .if_icmp .ge 40, 3)]
theorem e83_10 : am_dec am_M83 q83_10 = true := by decide +kernel
theorem b83_10 {d : Nat} {Q : Option Value ⊕ Nat → am_Mem → Prop} {μ : am_Mem} {r0 r1 r3 : Nat} {x2 x4 : Int32}
    (h1 : am_kd μ r0 = (1, 7))
    (k1 : (am_A μ r0 3) ≤ x4 → Wp d 83 (56, [some (.ref r0), some (.ref r1), some (.int x2), some (.ref r3), some (.int x4)], [], μ) Q) (k2 : ¬ ((am_A μ r0 3) ≤ x4) → Wp d 83 (19, [some (.ref r0), some (.ref r1), some (.int x2), some (.ref r3), some (.int x4)], [], μ) Q) :
    Wp d 83 (10, [some (.ref r0), some (.ref r1), some (.int x2), some (.ref r3), some (.int x4)], [], μ) Q := wp_blk rfl e83_10 (And.intro h1 (And.intro k1 k2))
def q83_19 : List (Nat × Instr × Nat) := [(19, .aload_n 0, 1), (20, .getfield 19, 3), (23, .iload 4, 2), (25, .iaload, 1), (26, .aload_n 0, 1), (27, .getfield 19, 3), (30, .aload_n 0, 1), (31, .getfield 22, 3), (34, .iaload, 1), (35, .if_icmp .ne 15, 3)]
theorem e83_19 : am_dec am_M83 q83_19 = true := by decide +kernel
theorem b83_19 {d : Nat} {Q : Option Value ⊕ Nat → am_Mem → Prop} {μ : am_Mem} {r0 r1 r3 : Nat} {x2 x4 : Int32}
    (h1 : am_kd μ r0 = (1, 7))
    (h2 : ¬ am_F μ r0 2 = 15)
    (h3 : (am_kd μ (am_F μ r0 2)).1 = 2 ∨ (am_kd μ (am_F μ r0 2)).1 = 8)
    (h4 : ¬ (x4 < 0 ∨ (am_kd μ (am_F μ r0 2)).2 ≤ x4.toNatClampNeg))
    (h5 : am_kd μ r0 = (1, 7))
    (h6 : ¬ am_F μ r0 2 = 15)
    (h7 : am_kd μ r0 = (1, 7))
    (h8 : (am_kd μ (am_F μ r0 2)).1 = 2 ∨ (am_kd μ (am_F μ r0 2)).1 = 8)
    (h9 : ¬ ((am_A μ r0 3) < 0 ∨ (am_kd μ (am_F μ r0 2)).2 ≤ (am_A μ r0 3).toNatClampNeg))
    (k1 : ¬ (am_A μ (am_F μ r0 2) x4.toNatClampNeg) = (am_A μ (am_F μ r0 2) (am_A μ r0 3).toNatClampNeg) → Wp d 83 (50, [some (.ref r0), some (.ref r1), some (.int x2), some (.ref r3), some (.int x4)], [], μ) Q) (k2 : ¬ (¬ (am_A μ (am_F μ r0 2) x4.toNatClampNeg) = (am_A μ (am_F μ r0 2) (am_A μ r0 3).toNatClampNeg)) → Wp d 83 (38, [some (.ref r0), some (.ref r1), some (.int x2), some (.ref r3), some (.int x4)], [], μ) Q) :
    Wp d 83 (19, [some (.ref r0), some (.ref r1), some (.int x2), some (.ref r3), some (.int x4)], [], μ) Q := wp_blk rfl e83_19 (And.intro h1 (And.intro h2 (And.intro h3 (And.intro h4 (And.intro h5 (And.intro h6 (And.intro h7 (And.intro h8 (And.intro h9 (And.intro k1 k2))))))))))
def q83_38 : List (Nat × Instr × Nat) := [(38, .aload_n 0, 1), (39, .iload 4, 2)]
theorem e83_38 : am_dec am_M83 q83_38 = true := by decide +kernel
theorem e83_38_c : am_dc1 am_M83 41 (.invokevirtual 36) 3 = true := by decide +kernel
theorem b83_38 {d : Nat} {Q : Option Value ⊕ Nat → am_Mem → Prop} {μ : am_Mem} {r0 r1 r3 : Nat} {x2 x4 : Int32} {P : Int32 → am_Mem → Prop} {X : Nat → am_Mem → Prop}
    (hk : am_kd μ r0 = (1, 7))
    (hc : Wp d 86 (0, [some (.ref r0), some (.int x4), none, none], [], μ) (pI P X)) (hr : ∀ x μ', P x μ' → Wp (d + 1) 83 (44, [some (.ref r0), some (.ref r1), some (.int x2), some (.ref r3), some (.int x4)], [.int x], (μ')) Q)
    (hx : ∀ x μ', X x μ' → Q (.inr x) μ') :
    Wp (d + 1) 83 (38, [some (.ref r0), some (.ref r1), some (.int x2), some (.ref r3), some (.int x4)], [], μ) Q := wp_blk rfl e83_38 (wp_cv (as := [.int x4]) rfl e83_38_c rfl rfl rfl rfl rfl hk hc (fun v μ' hv => by obtain ⟨x, rfl, hp⟩ := pI_r hv; exact hr x μ' hp) hx)
def q83_44 : List (Nat × Instr × Nat) := [(44, .ifCond .eq 6, 3)]
theorem e83_44 : am_dec am_M83 q83_44 = true := by decide +kernel
theorem b83_44 {d : Nat} {Q : Option Value ⊕ Nat → am_Mem → Prop} {μ : am_Mem} {r0 r1 r3 : Nat} {x2 x4 s0 : Int32}
    (k1 : s0 = 0 → Wp d 83 (50, [some (.ref r0), some (.ref r1), some (.int x2), some (.ref r3), some (.int x4)], [], μ) Q) (k2 : ¬ (s0 = 0) → Wp d 83 (47, [some (.ref r0), some (.ref r1), some (.int x2), some (.ref r3), some (.int x4)], [], μ) Q) :
    Wp d 83 (44, [some (.ref r0), some (.ref r1), some (.int x2), some (.ref r3), some (.int x4)], [.int s0], μ) Q := wp_blk rfl e83_44 (And.intro k1 k2)
def q83_47 : List (Nat × Instr × Nat) := [(47, .iload 4, 2)]
theorem e83_47 : am_dec am_M83 q83_47 = true := by decide +kernel
theorem e83_47_r : am_dec am_M83 [(49, .ireturn, 1)] = true := by decide +kernel
theorem b83_47 {d : Nat} {Q : Option Value ⊕ Nat → am_Mem → Prop} {μ : am_Mem} {r0 r1 r3 : Nat} {x2 x4 : Int32}
    (k : Q (.inl (some (.int x4))) μ) :
    Wp d 83 (47, [some (.ref r0), some (.ref r1), some (.int x2), some (.ref r3), some (.int x4)], [], μ) Q := wp_blk rfl e83_47 (wp_ri (ty := .int) rfl e83_47_r rfl ⟨rfl, rfl⟩ k)
def q83_50 : List (Nat × Instr × Nat) := [(50, .iinc 4 1, 3), (53, .goto (-43), 3)]
theorem e83_50 : am_dec am_M83 q83_50 = true := by decide +kernel
theorem b83_50 {d : Nat} {Q : Option Value ⊕ Nat → am_Mem → Prop} {μ : am_Mem} {r0 r1 r3 : Nat} {x2 x4 : Int32}
    (k : Wp d 83 (10, [some (.ref r0), some (.ref r1), some (.int x2), some (.ref r3), some (.int (x4 + Int32.ofInt 1))], [], μ) Q) :
    Wp d 83 (50, [some (.ref r0), some (.ref r1), some (.int x2), some (.ref r3), some (.int x4)], [], μ) Q := wp_blk rfl e83_50 k
def q83_56 : List (Nat × Instr × Nat) := [(56, .aload_n 0, 1), (57, .getfield 22, 3), (60, .sipush 300, 3), (63, .if_icmp .lt 13, 3)]
theorem e83_56 : am_dec am_M83 q83_56 = true := by decide +kernel
theorem b83_56 {d : Nat} {Q : Option Value ⊕ Nat → am_Mem → Prop} {μ : am_Mem} {r0 r1 r3 : Nat} {x2 x4 : Int32}
    (h1 : am_kd μ r0 = (1, 7))
    (k1 : (am_A μ r0 3) < ((Int16.ofInt 300).toInt32) → Wp d 83 (76, [some (.ref r0), some (.ref r1), some (.int x2), some (.ref r3), some (.int x4)], [], μ) Q) (k2 : ¬ ((am_A μ r0 3) < ((Int16.ofInt 300).toInt32)) → Wp d 83 (66, [some (.ref r0), some (.ref r1), some (.int x2), some (.ref r3), some (.int x4)], [], μ) Q) :
    Wp d 83 (56, [some (.ref r0), some (.ref r1), some (.int x2), some (.ref r3), some (.int x4)], [], μ) Q := wp_blk rfl e83_56 (And.intro h1 (And.intro k1 k2))
theorem e83_66_t : am_dc1 am_M83 66 (.new 40) 3 = true ∧ am_throw GG 7 83 66 (.new 40) = some 3 := by decide +kernel
theorem b83_66 {d : Nat} {Q : Option Value ⊕ Nat → am_Mem → Prop} {μ : am_Mem} {r0 r1 r3 : Nat} {x2 x4 : Int32}
    (k : Q (.inr 3) (am_nX μ)) :
    Wp d 83 (66, [some (.ref r0), some (.ref r1), some (.int x2), some (.ref r3), some (.int x4)], [], μ) Q := (wp_throw rfl e83_66_t.1 ⟨_, rfl⟩ rfl e83_66_t.2 rfl k)
def q83_76 : List (Nat × Instr × Nat) := [(76, .aload_n 0, 1), (77, .dup, 1), (78, .getfield 22, 3), (81, .iconst 1, 1), (82, .iadd, 1), (83, .putfield 22, 3), (86, .aload_n 0, 1), (87, .getfield 22, 3), (90, .iconst 1, 1), (91, .isub, 1)]
theorem e83_76 : am_dec am_M83 q83_76 = true := by decide +kernel
theorem e83_76_r : am_dec am_M83 [(92, .ireturn, 1)] = true := by decide +kernel
theorem b83_76 {d : Nat} {Q : Option Value ⊕ Nat → am_Mem → Prop} {μ : am_Mem} {r0 r1 r3 : Nat} {x2 x4 : Int32}
    (h1 : am_kd μ r0 = (1, 7))
    (h2 : am_kd μ r0 = (1, 7))
    (h3 : am_kd (am_pA μ r0 3 ((am_A μ r0 3) + (Int32.ofInt 1))) r0 = (1, 7))
    (k : Q (.inl (some (.int ((am_A (am_pA μ r0 3 ((am_A μ r0 3) + (Int32.ofInt 1))) r0 3) - (Int32.ofInt 1))))) (am_pA μ r0 3 ((am_A μ r0 3) + (Int32.ofInt 1)))) :
    Wp d 83 (76, [some (.ref r0), some (.ref r1), some (.int x2), some (.ref r3), some (.int x4)], [], μ) Q := wp_blk rfl e83_76 (And.intro h1 (And.intro h2 (And.intro ⟨rfl, rfl⟩ (And.intro h3 (wp_ri (ty := .int) rfl e83_76_r rfl ⟨rfl, rfl⟩ k)))))
/-! RuleSheets$Store.tell([IILRuleSheets$Terms;)V -/
def q84_0 : List (Nat × Instr × Nat) := [(0, .aload_n 0, 1), (1, .getfield 15, 3), (4, .aload_n 0, 1), (5, .getfield 22, 3), (8, .iaload, 1), (9, .istore 4, 2), (11, .iload 4, 2), (13, .sipush 1140, 3), (16, .iadd, 1), (17, .aload_n 0, 1), (18, .getfield 11, 3), (21, .arraylength, 1), (22, .if_icmp .le 16, 3)]
theorem e84_0 : am_dec am_M84 q84_0 = true := by decide +kernel
theorem b84_0 {d : Nat} {Q : Option Value ⊕ Nat → am_Mem → Prop} {μ : am_Mem} {r0 r1 r3 : Nat} {x2 : Int32}
    (h1 : am_kd μ r0 = (1, 7))
    (h2 : ¬ am_F μ r0 1 = 15)
    (h3 : am_kd μ r0 = (1, 7))
    (h4 : (am_kd μ (am_F μ r0 1)).1 = 2 ∨ (am_kd μ (am_F μ r0 1)).1 = 8)
    (h5 : ¬ ((am_A μ r0 3) < 0 ∨ (am_kd μ (am_F μ r0 1)).2 ≤ (am_A μ r0 3).toNatClampNeg))
    (h6 : am_kd μ r0 = (1, 7))
    (h7 : ¬ am_F μ r0 0 = 15)
    (h8 : 2 ≤ (am_kd μ (am_F μ r0 0)).1 ∧ (am_kd μ (am_F μ r0 0)).1 ≤ 10 ∧ ¬ (am_kd μ (am_F μ r0 0)).1 = 9)
    (k1 : ((am_A μ (am_F μ r0 1) (am_A μ r0 3).toNatClampNeg) + ((Int16.ofInt 1140).toInt32)) ≤ (Int32.ofNat (am_kd μ (am_F μ r0 0)).2) → Wp d 84 (38, [some (.ref r0), some (.ref r1), some (.int x2), some (.ref r3), some (.int (am_A μ (am_F μ r0 1) (am_A μ r0 3).toNatClampNeg)), none], [], μ) Q) (k2 : ¬ (((am_A μ (am_F μ r0 1) (am_A μ r0 3).toNatClampNeg) + ((Int16.ofInt 1140).toInt32)) ≤ (Int32.ofNat (am_kd μ (am_F μ r0 0)).2)) → Wp d 84 (25, [some (.ref r0), some (.ref r1), some (.int x2), some (.ref r3), some (.int (am_A μ (am_F μ r0 1) (am_A μ r0 3).toNatClampNeg)), none], [], μ) Q) :
    Wp d 84 (0, [some (.ref r0), some (.ref r1), some (.int x2), some (.ref r3), none, none], [], μ) Q := wp_blk rfl e84_0 (And.intro h1 (And.intro h2 (And.intro h3 (And.intro h4 (And.intro h5 (And.intro h6 (And.intro h7 (And.intro h8 (And.intro k1 k2)))))))))
def q84_25 : List (Nat × Instr × Nat) := [(25, .aload_n 0, 1), (26, .aload_n 0, 1), (27, .getfield 11, 3), (30, .ldc 47, 2)]
theorem e84_25 : am_dec am_M84 q84_25 = true := by decide +kernel
theorem e84_25_c : am_dc1 am_M84 32 (.invokestatic 48) 3 = true := by decide +kernel
theorem b84_25 {d : Nat} {Q : Option Value ⊕ Nat → am_Mem → Prop} {μ : am_Mem} {r0 r1 r3 : Nat} {x2 x4 : Int32} {P : Nat → am_Mem → Prop} {X : Nat → am_Mem → Prop}
    (h1 : am_kd μ r0 = (1, 7))
    (h2 : ¬ am_F μ r0 0 = 15)
    (hc : Wp d 293 (0, [some (.ref (am_F μ r0 0)), some (.int (343140 : Int32)), none], [], μ) (pR P X)) (hr : ∀ x μ', P x μ' → Wp (d + 1) 84 (35, [some (.ref r0), some (.ref r1), some (.int x2), some (.ref r3), some (.int x4), none], [.ref x, .ref r0], (μ')) Q)
    (hx : ∀ x μ', X x μ' → Q (.inr x) μ') :
    Wp (d + 1) 84 (25, [some (.ref r0), some (.ref r1), some (.int x2), some (.ref r3), some (.int x4), none], [], μ) Q := wp_blk rfl e84_25 (And.intro h1 (And.intro h2 (wp_cs (vs := [.ref (am_F μ r0 0), .int (343140 : Int32)]) rfl e84_25_c rfl rfl rfl rfl rfl hc (fun v μ' hv => by obtain ⟨x, rfl, hp⟩ := pR_r hv; exact hr x μ' hp) hx)))
def q84_35 : List (Nat × Instr × Nat) := [(35, .putfield 11, 3)]
theorem e84_35 : am_dec am_M84 q84_35 = true := by decide +kernel
theorem b84_35 {d : Nat} {Q : Option Value ⊕ Nat → am_Mem → Prop} {μ : am_Mem} {r0 r1 r3 r90 r91 : Nat} {x2 x4 : Int32}
    (h1 : am_kd μ r90 = (1, 7))
    (h2 : ¬ r91 = 15)
    (k : Wp d 84 (38, [some (.ref r0), some (.ref r1), some (.int x2), some (.ref r3), some (.int x4), none], [], (am_pR μ r90 0 r91)) Q) :
    Wp d 84 (35, [some (.ref r0), some (.ref r1), some (.int x2), some (.ref r3), some (.int x4), none], [.ref r91, .ref r90], μ) Q := wp_blk rfl e84_35 (And.intro h1 (And.intro h2 k))
def q84_38 : List (Nat × Instr × Nat) := [(38, .aload_n 0, 1), (39, .getfield 19, 3), (42, .aload_n 0, 1), (43, .getfield 22, 3), (46, .iconst 0, 1), (47, .iastore, 1), (48, .iconst 0, 1), (49, .istore 5, 2)]
theorem e84_38 : am_dec am_M84 q84_38 = true := by decide +kernel
theorem b84_38 {d : Nat} {Q : Option Value ⊕ Nat → am_Mem → Prop} {μ : am_Mem} {r0 r1 r3 : Nat} {x2 x4 : Int32}
    (h1 : am_kd μ r0 = (1, 7))
    (h2 : ¬ am_F μ r0 2 = 15)
    (h3 : am_kd μ r0 = (1, 7))
    (h4 : (am_kd μ (am_F μ r0 2)).1 = 2)
    (h5 : ¬ ((am_A μ r0 3) < 0 ∨ (am_kd μ (am_F μ r0 2)).2 ≤ (am_A μ r0 3).toNatClampNeg))
    (k : Wp d 84 (51, [some (.ref r0), some (.ref r1), some (.int x2), some (.ref r3), some (.int x4), some (.int (Int32.ofInt 0))], [], (am_pA μ (am_F μ r0 2) (am_A μ r0 3).toNatClampNeg (Int32.ofInt 0))) Q) :
    Wp d 84 (38, [some (.ref r0), some (.ref r1), some (.int x2), some (.ref r3), some (.int x4), none], [], μ) Q := wp_blk rfl e84_38 (And.intro h1 (And.intro h2 (And.intro h3 (And.intro h4 (And.intro h5 k)))))
def q84_51 : List (Nat × Instr × Nat) := [(51, .iload 5, 2), (53, .iload_n 2, 1), (54, .if_icmp .ge 43, 3)]
theorem e84_51 : am_dec am_M84 q84_51 = true := by decide +kernel
theorem b84_51 {d : Nat} {Q : Option Value ⊕ Nat → am_Mem → Prop} {μ : am_Mem} {r0 r1 r3 : Nat} {x2 x4 x5 : Int32}
    (k1 : x2 ≤ x5 → Wp d 84 (97, [some (.ref r0), some (.ref r1), some (.int x2), some (.ref r3), some (.int x4), some (.int x5)], [], μ) Q) (k2 : ¬ (x2 ≤ x5) → Wp d 84 (57, [some (.ref r0), some (.ref r1), some (.int x2), some (.ref r3), some (.int x4), some (.int x5)], [], μ) Q) :
    Wp d 84 (51, [some (.ref r0), some (.ref r1), some (.int x2), some (.ref r3), some (.int x4), some (.int x5)], [], μ) Q := wp_blk rfl e84_51 (And.intro k1 k2)
def q84_57 : List (Nat × Instr × Nat) := [(57, .aload_n 0, 1), (58, .aload_n 1, 1), (59, .iload 5, 2), (61, .iaload, 1), (62, .iload 4, 2), (64, .aload_n 3, 1)]
theorem e84_57 : am_dec am_M84 q84_57 = true := by decide +kernel
theorem e84_57_c : am_dc1 am_M84 65 (.invokevirtual 54) 3 = true := by decide +kernel
theorem b84_57 {d : Nat} {Q : Option Value ⊕ Nat → am_Mem → Prop} {μ : am_Mem} {r0 r1 r3 : Nat} {x2 x4 x5 : Int32} {P : Int32 → am_Mem → Prop} {X : Nat → am_Mem → Prop}
    (h1 : (am_kd μ r1).1 = 2 ∨ (am_kd μ r1).1 = 8)
    (h2 : ¬ (x5 < 0 ∨ (am_kd μ r1).2 ≤ x5.toNatClampNeg))
    (hk : am_kd μ r0 = (1, 7))
    (hc : Wp d 85 (0, [some (.ref r0), some (.int (am_A μ r1 x5.toNatClampNeg)), some (.int x4), some (.ref r3), none, none, none, none, none], [], μ) (pI P X)) (hr : ∀ x μ', P x μ' → Wp (d + 1) 84 (68, [some (.ref r0), some (.ref r1), some (.int x2), some (.ref r3), some (.int x4), some (.int x5)], [.int x], (μ')) Q)
    (hx : ∀ x μ', X x μ' → Q (.inr x) μ') :
    Wp (d + 1) 84 (57, [some (.ref r0), some (.ref r1), some (.int x2), some (.ref r3), some (.int x4), some (.int x5)], [], μ) Q := wp_blk rfl e84_57 (And.intro h1 (And.intro h2 (wp_cv (as := [.int (am_A μ r1 x5.toNatClampNeg), .int x4, .ref r3]) rfl e84_57_c rfl rfl rfl rfl rfl hk hc (fun v μ' hv => by obtain ⟨x, rfl, hp⟩ := pI_r hv; exact hr x μ' hp) hx)))
def q84_68 : List (Nat × Instr × Nat) := [(68, .istore 4, 2), (70, .aload_n 0, 1), (71, .getfield 19, 3), (74, .aload_n 0, 1), (75, .getfield 22, 3), (78, .dup2, 1), (79, .iaload, 1), (80, .aload_n 3, 1), (81, .getfield 58, 3), (84, .aload_n 1, 1), (85, .iload 5, 2), (87, .iaload, 1), (88, .iaload, 1), (89, .iadd, 1), (90, .iastore, 1), (91, .iinc 5 1, 3), (94, .goto (-43), 3)]
theorem e84_68 : am_dec am_M84 q84_68 = true := by decide +kernel
theorem b84_68 {d : Nat} {Q : Option Value ⊕ Nat → am_Mem → Prop} {μ : am_Mem} {r0 r1 r3 : Nat} {x2 x4 x5 s0 : Int32}
    (h1 : am_kd μ r0 = (1, 7))
    (h2 : ¬ am_F μ r0 2 = 15)
    (h3 : am_kd μ r0 = (1, 7))
    (h4 : (am_kd μ (am_F μ r0 2)).1 = 2 ∨ (am_kd μ (am_F μ r0 2)).1 = 8)
    (h5 : ¬ ((am_A μ r0 3) < 0 ∨ (am_kd μ (am_F μ r0 2)).2 ≤ (am_A μ r0 3).toNatClampNeg))
    (h6 : am_kd μ r3 = (1, 8))
    (h7 : ¬ am_F μ r3 5 = 15)
    (h8 : (am_kd μ r1).1 = 2 ∨ (am_kd μ r1).1 = 8)
    (h9 : ¬ (x5 < 0 ∨ (am_kd μ r1).2 ≤ x5.toNatClampNeg))
    (h10 : (am_kd μ (am_F μ r3 5)).1 = 2 ∨ (am_kd μ (am_F μ r3 5)).1 = 8)
    (h11 : ¬ ((am_A μ r1 x5.toNatClampNeg) < 0 ∨ (am_kd μ (am_F μ r3 5)).2 ≤ (am_A μ r1 x5.toNatClampNeg).toNatClampNeg))
    (h12 : (am_kd μ (am_F μ r0 2)).1 = 2)
    (h13 : ¬ ((am_A μ r0 3) < 0 ∨ (am_kd μ (am_F μ r0 2)).2 ≤ (am_A μ r0 3).toNatClampNeg))
    (k : Wp d 84 (51, [some (.ref r0), some (.ref r1), some (.int x2), some (.ref r3), some (.int s0), some (.int (x5 + Int32.ofInt 1))], [], (am_pA μ (am_F μ r0 2) (am_A μ r0 3).toNatClampNeg ((am_A μ (am_F μ r0 2) (am_A μ r0 3).toNatClampNeg) + (am_A μ (am_F μ r3 5) (am_A μ r1 x5.toNatClampNeg).toNatClampNeg)))) Q) :
    Wp d 84 (68, [some (.ref r0), some (.ref r1), some (.int x2), some (.ref r3), some (.int x4), some (.int x5)], [.int s0], μ) Q := wp_blk rfl e84_68 (And.intro h1 (And.intro h2 (And.intro h3 (And.intro h4 (And.intro h5 (And.intro h6 (And.intro h7 (And.intro h8 (And.intro h9 (And.intro h10 (And.intro h11 (And.intro h12 (And.intro h13 k)))))))))))))
def q84_97 : List (Nat × Instr × Nat) := [(97, .aload_n 0, 1), (98, .getfield 15, 3), (101, .aload_n 0, 1), (102, .getfield 22, 3), (105, .iconst 1, 1), (106, .iadd, 1), (107, .iload 4, 2), (109, .iastore, 1)]
theorem e84_97 : am_dec am_M84 q84_97 = true := by decide +kernel
theorem e84_97_r : am_dec am_M84 [(110, .return_, 1)] = true := by decide +kernel
theorem b84_97 {d : Nat} {Q : Option Value ⊕ Nat → am_Mem → Prop} {μ : am_Mem} {r0 r1 r3 : Nat} {x2 x4 x5 : Int32}
    (h1 : am_kd μ r0 = (1, 7))
    (h2 : ¬ am_F μ r0 1 = 15)
    (h3 : am_kd μ r0 = (1, 7))
    (h4 : (am_kd μ (am_F μ r0 1)).1 = 2)
    (h5 : ¬ (((am_A μ r0 3) + (Int32.ofInt 1)) < 0 ∨ (am_kd μ (am_F μ r0 1)).2 ≤ ((am_A μ r0 3) + (Int32.ofInt 1)).toNatClampNeg))
    (k : Q (.inl none) (am_pA μ (am_F μ r0 1) ((am_A μ r0 3) + (Int32.ofInt 1)).toNatClampNeg x4)) :
    Wp d 84 (97, [some (.ref r0), some (.ref r1), some (.int x2), some (.ref r3), some (.int x4), some (.int x5)], [], μ) Q := wp_blk rfl e84_97 (And.intro h1 (And.intro h2 (And.intro h3 (And.intro h4 (And.intro h5 (wp_rv rfl e84_97_r rfl k))))))
/-! RuleSheets$Store.tellTerm(IILRuleSheets$Terms;)I -/
def q85_0 : List (Nat × Instr × Nat) := [(0, .iload_n 2, 1), (1, .istore 4, 2), (3, .iconst 1, 1), (4, .istore 5, 2), (6, .aload_n 0, 1), (7, .getfield 29, 3), (10, .iconst 0, 1), (11, .iload_n 1, 1), (12, .iastore, 1), (13, .iconst 0, 1), (14, .istore 6, 2)]
theorem e85_0 : am_dec am_M85 q85_0 = true := by decide +kernel
theorem b85_0 {d : Nat} {Q : Option Value ⊕ Nat → am_Mem → Prop} {μ : am_Mem} {r0 r3 : Nat} {x1 x2 : Int32}
    (h1 : am_kd μ r0 = (1, 7))
    (h2 : ¬ am_F μ r0 5 = 15)
    (h3 : (am_kd μ (am_F μ r0 5)).1 = 2)
    (h4 : ¬ ((Int32.ofInt 0) < 0 ∨ (am_kd μ (am_F μ r0 5)).2 ≤ (Int32.ofInt 0).toNatClampNeg))
    (k : Wp d 85 (16, [some (.ref r0), some (.int x1), some (.int x2), some (.ref r3), some (.int x2), some (.int (Int32.ofInt 1)), some (.int (Int32.ofInt 0)), none, none], [], (am_pA μ (am_F μ r0 5) (Int32.ofInt 0).toNatClampNeg x1)) Q) :
    Wp d 85 (0, [some (.ref r0), some (.int x1), some (.int x2), some (.ref r3), none, none, none, none, none], [], μ) Q := wp_blk rfl e85_0 (And.intro h1 (And.intro h2 (And.intro h3 (And.intro h4 k))))
def q85_16 : List (Nat × Instr × Nat) := [(16, .iload 6, 2), (18, .bipush 19, 2), (20, .if_icmp .ge 99, 3)]
theorem e85_16 : am_dec am_M85 q85_16 = true := by decide +kernel
theorem b85_16 {d : Nat} {Q : Option Value ⊕ Nat → am_Mem → Prop} {μ : am_Mem} {r0 r3 : Nat} {x1 x2 x4 x5 x6 : Int32} {o7 o8 : Option Value}
    (k1 : ((Int8.ofInt 19).toInt32) ≤ x6 → Wp d 85 (119, [some (.ref r0), some (.int x1), some (.int x2), some (.ref r3), some (.int x4), some (.int x5), some (.int x6), o7, o8], [], μ) Q) (k2 : ¬ (((Int8.ofInt 19).toInt32) ≤ x6) → Wp d 85 (23, [some (.ref r0), some (.int x1), some (.int x2), some (.ref r3), some (.int x4), some (.int x5), some (.int x6), o7, o8], [], μ) Q) :
    Wp d 85 (16, [some (.ref r0), some (.int x1), some (.int x2), some (.ref r3), some (.int x4), some (.int x5), some (.int x6), o7, o8], [], μ) Q := wp_blk rfl e85_16 (And.intro k1 k2)
def q85_23 : List (Nat × Instr × Nat) := [(23, .iload 5, 2), (25, .ifCond .le 94, 3)]
theorem e85_23 : am_dec am_M85 q85_23 = true := by decide +kernel
theorem b85_23 {d : Nat} {Q : Option Value ⊕ Nat → am_Mem → Prop} {μ : am_Mem} {r0 r3 : Nat} {x1 x2 x4 x5 x6 : Int32} {o7 o8 : Option Value}
    (k1 : x5 ≤ 0 → Wp d 85 (119, [some (.ref r0), some (.int x1), some (.int x2), some (.ref r3), some (.int x4), some (.int x5), some (.int x6), o7, o8], [], μ) Q) (k2 : ¬ (x5 ≤ 0) → Wp d 85 (28, [some (.ref r0), some (.int x1), some (.int x2), some (.ref r3), some (.int x4), some (.int x5), some (.int x6), o7, o8], [], μ) Q) :
    Wp d 85 (23, [some (.ref r0), some (.int x1), some (.int x2), some (.ref r3), some (.int x4), some (.int x5), some (.int x6), o7, o8], [], μ) Q := wp_blk rfl e85_23 (And.intro k1 k2)
def q85_28 : List (Nat × Instr × Nat) := [(28, .iinc 5 (-1), 3), (31, .aload_n 0, 1), (32, .getfield 29, 3), (35, .iload 5, 2), (37, .iaload, 1), (38, .istore 7, 2), (40, .aload_n 0, 1), (41, .getfield 11, 3), (44, .iload 4, 2), (46, .bipush 8, 2), (48, .aload_n 3, 1), (49, .getfield 63, 3), (52, .iload 7, 2), (54, .iaload, 1), (55, .imul, 1), (56, .aload_n 3, 1), (57, .getfield 66, 3), (60, .iload 7, 2), (62, .iaload, 1), (63, .iadd, 1), (64, .i2s, 1), (65, .sastore, 1)]
theorem e85_28 : am_dec am_M85 q85_28 = true := by decide +kernel
theorem b85_28 {d : Nat} {Q : Option Value ⊕ Nat → am_Mem → Prop} {μ : am_Mem} {r0 r3 : Nat} {x1 x2 x4 x5 x6 : Int32} {o7 o8 : Option Value}
    (h1 : am_kd μ r0 = (1, 7))
    (h2 : ¬ am_F μ r0 5 = 15)
    (h3 : (am_kd μ (am_F μ r0 5)).1 = 2 ∨ (am_kd μ (am_F μ r0 5)).1 = 8)
    (h4 : ¬ ((x5 + Int32.ofInt (-1)) < 0 ∨ (am_kd μ (am_F μ r0 5)).2 ≤ (x5 + Int32.ofInt (-1)).toNatClampNeg))
    (h5 : am_kd μ r0 = (1, 7))
    (h6 : ¬ am_F μ r0 0 = 15)
    (h7 : am_kd μ r3 = (1, 8))
    (h8 : ¬ am_F μ r3 1 = 15)
    (h9 : (am_kd μ (am_F μ r3 1)).1 = 2 ∨ (am_kd μ (am_F μ r3 1)).1 = 8)
    (h10 : ¬ ((am_A μ (am_F μ r0 5) (x5 + Int32.ofInt (-1)).toNatClampNeg) < 0 ∨ (am_kd μ (am_F μ r3 1)).2 ≤ (am_A μ (am_F μ r0 5) (x5 + Int32.ofInt (-1)).toNatClampNeg).toNatClampNeg))
    (h11 : am_kd μ r3 = (1, 8))
    (h12 : ¬ am_F μ r3 2 = 15)
    (h13 : (am_kd μ (am_F μ r3 2)).1 = 2 ∨ (am_kd μ (am_F μ r3 2)).1 = 8)
    (h14 : ¬ ((am_A μ (am_F μ r0 5) (x5 + Int32.ofInt (-1)).toNatClampNeg) < 0 ∨ (am_kd μ (am_F μ r3 2)).2 ≤ (am_A μ (am_F μ r0 5) (x5 + Int32.ofInt (-1)).toNatClampNeg).toNatClampNeg))
    (h15 : (am_kd μ (am_F μ r0 0)).1 = 7)
    (h16 : ¬ (x4 < 0 ∨ (am_kd μ (am_F μ r0 0)).2 ≤ x4.toNatClampNeg))
    (k : Wp d 85 (66, [some (.ref r0), some (.int x1), some (.int x2), some (.ref r3), some (.int x4), some (.int (x5 + Int32.ofInt (-1))), some (.int x6), some (.int (am_A μ (am_F μ r0 5) (x5 + Int32.ofInt (-1)).toNatClampNeg)), o8], [], (am_pA μ (am_F μ r0 0) x4.toNatClampNeg ((((((Int8.ofInt 8).toInt32) * (am_A μ (am_F μ r3 1) (am_A μ (am_F μ r0 5) (x5 + Int32.ofInt (-1)).toNatClampNeg).toNatClampNeg)) + (am_A μ (am_F μ r3 2) (am_A μ (am_F μ r0 5) (x5 + Int32.ofInt (-1)).toNatClampNeg).toNatClampNeg)).toInt16.toInt32).toInt16.toInt32))) Q) :
    Wp d 85 (28, [some (.ref r0), some (.int x1), some (.int x2), some (.ref r3), some (.int x4), some (.int x5), some (.int x6), o7, o8], [], μ) Q := wp_blk rfl e85_28 (And.intro h1 (And.intro h2 (And.intro h3 (And.intro h4 (And.intro h5 (And.intro h6 (And.intro h7 (And.intro h8 (And.intro h9 (And.intro h10 (And.intro h11 (And.intro h12 (And.intro h13 (And.intro h14 (And.intro h15 (And.intro h16 k))))))))))))))))
def q85_66 : List (Nat × Instr × Nat) := [(66, .iinc 4 1, 3), (69, .aload_n 3, 1), (70, .getfield 66, 3), (73, .iload 7, 2), (75, .iaload, 1), (76, .iconst 1, 1), (77, .isub, 1), (78, .istore 8, 2)]
theorem e85_66 : am_dec am_M85 q85_66 = true := by decide +kernel
theorem b85_66 {d : Nat} {Q : Option Value ⊕ Nat → am_Mem → Prop} {μ : am_Mem} {r0 r3 : Nat} {x1 x2 x4 x5 x6 x7 : Int32} {o8 : Option Value}
    (h1 : am_kd μ r3 = (1, 8))
    (h2 : ¬ am_F μ r3 2 = 15)
    (h3 : (am_kd μ (am_F μ r3 2)).1 = 2 ∨ (am_kd μ (am_F μ r3 2)).1 = 8)
    (h4 : ¬ (x7 < 0 ∨ (am_kd μ (am_F μ r3 2)).2 ≤ x7.toNatClampNeg))
    (k : Wp d 85 (80, [some (.ref r0), some (.int x1), some (.int x2), some (.ref r3), some (.int (x4 + Int32.ofInt 1)), some (.int x5), some (.int x6), some (.int x7), some (.int ((am_A μ (am_F μ r3 2) x7.toNatClampNeg) - (Int32.ofInt 1)))], [], μ) Q) :
    Wp d 85 (66, [some (.ref r0), some (.int x1), some (.int x2), some (.ref r3), some (.int x4), some (.int x5), some (.int x6), some (.int x7), o8], [], μ) Q := wp_blk rfl e85_66 (And.intro h1 (And.intro h2 (And.intro h3 (And.intro h4 k))))
def q85_80 : List (Nat × Instr × Nat) := [(80, .iload 8, 2), (82, .ifCond .lt 31, 3)]
theorem e85_80 : am_dec am_M85 q85_80 = true := by decide +kernel
theorem b85_80 {d : Nat} {Q : Option Value ⊕ Nat → am_Mem → Prop} {μ : am_Mem} {r0 r3 : Nat} {x1 x2 x4 x5 x6 x7 x8 : Int32}
    (k1 : x8 < 0 → Wp d 85 (113, [some (.ref r0), some (.int x1), some (.int x2), some (.ref r3), some (.int x4), some (.int x5), some (.int x6), some (.int x7), some (.int x8)], [], μ) Q) (k2 : ¬ (x8 < 0) → Wp d 85 (85, [some (.ref r0), some (.int x1), some (.int x2), some (.ref r3), some (.int x4), some (.int x5), some (.int x6), some (.int x7), some (.int x8)], [], μ) Q) :
    Wp d 85 (80, [some (.ref r0), some (.int x1), some (.int x2), some (.ref r3), some (.int x4), some (.int x5), some (.int x6), some (.int x7), some (.int x8)], [], μ) Q := wp_blk rfl e85_80 (And.intro k1 k2)
def q85_85 : List (Nat × Instr × Nat) := [(85, .aload_n 0, 1), (86, .getfield 29, 3), (89, .iload 5, 2), (91, .aload_n 3, 1), (92, .getfield 69, 3), (95, .iconst 4, 1), (96, .iload 7, 2), (98, .imul, 1), (99, .iload 8, 2), (101, .iadd, 1), (102, .iaload, 1), (103, .iastore, 1), (104, .iinc 5 1, 3), (107, .iinc 8 (-1), 3), (110, .goto (-30), 3)]
theorem e85_85 : am_dec am_M85 q85_85 = true := by decide +kernel
theorem b85_85 {d : Nat} {Q : Option Value ⊕ Nat → am_Mem → Prop} {μ : am_Mem} {r0 r3 : Nat} {x1 x2 x4 x5 x6 x7 x8 : Int32}
    (h1 : am_kd μ r0 = (1, 7))
    (h2 : ¬ am_F μ r0 5 = 15)
    (h3 : am_kd μ r3 = (1, 8))
    (h4 : ¬ am_F μ r3 3 = 15)
    (h5 : (am_kd μ (am_F μ r3 3)).1 = 2 ∨ (am_kd μ (am_F μ r3 3)).1 = 8)
    (h6 : ¬ ((((Int32.ofInt 4) * x7) + x8) < 0 ∨ (am_kd μ (am_F μ r3 3)).2 ≤ (((Int32.ofInt 4) * x7) + x8).toNatClampNeg))
    (h7 : (am_kd μ (am_F μ r0 5)).1 = 2)
    (h8 : ¬ (x5 < 0 ∨ (am_kd μ (am_F μ r0 5)).2 ≤ x5.toNatClampNeg))
    (k : Wp d 85 (80, [some (.ref r0), some (.int x1), some (.int x2), some (.ref r3), some (.int x4), some (.int (x5 + Int32.ofInt 1)), some (.int x6), some (.int x7), some (.int (x8 + Int32.ofInt (-1)))], [], (am_pA μ (am_F μ r0 5) x5.toNatClampNeg (am_A μ (am_F μ r3 3) (((Int32.ofInt 4) * x7) + x8).toNatClampNeg))) Q) :
    Wp d 85 (85, [some (.ref r0), some (.int x1), some (.int x2), some (.ref r3), some (.int x4), some (.int x5), some (.int x6), some (.int x7), some (.int x8)], [], μ) Q := wp_blk rfl e85_85 (And.intro h1 (And.intro h2 (And.intro h3 (And.intro h4 (And.intro h5 (And.intro h6 (And.intro h7 (And.intro h8 k))))))))
def q85_113 : List (Nat × Instr × Nat) := [(113, .iinc 6 1, 3), (116, .goto (-100), 3)]
theorem e85_113 : am_dec am_M85 q85_113 = true := by decide +kernel
theorem b85_113 {d : Nat} {Q : Option Value ⊕ Nat → am_Mem → Prop} {μ : am_Mem} {r0 r3 : Nat} {x1 x2 x4 x5 x6 x7 x8 : Int32}
    (k : Wp d 85 (16, [some (.ref r0), some (.int x1), some (.int x2), some (.ref r3), some (.int x4), some (.int x5), some (.int (x6 + Int32.ofInt 1)), some (.int x7), some (.int x8)], [], μ) Q) :
    Wp d 85 (113, [some (.ref r0), some (.int x1), some (.int x2), some (.ref r3), some (.int x4), some (.int x5), some (.int x6), some (.int x7), some (.int x8)], [], μ) Q := wp_blk rfl e85_113 k
def q85_119 : List (Nat × Instr × Nat) := [(119, .iload 4, 2)]
theorem e85_119 : am_dec am_M85 q85_119 = true := by decide +kernel
theorem e85_119_r : am_dec am_M85 [(121, .ireturn, 1)] = true := by decide +kernel
theorem b85_119 {d : Nat} {Q : Option Value ⊕ Nat → am_Mem → Prop} {μ : am_Mem} {r0 r3 : Nat} {x1 x2 x4 x5 x6 : Int32} {o7 o8 : Option Value}
    (k : Q (.inl (some (.int x4))) μ) :
    Wp d 85 (119, [some (.ref r0), some (.int x1), some (.int x2), some (.ref r3), some (.int x4), some (.int x5), some (.int x6), o7, o8], [], μ) Q := wp_blk rfl e85_119 (wp_ri (ty := .int) rfl e85_119_r rfl ⟨rfl, rfl⟩ k)
/-! RuleSheets$Store.isLatest(I)Z -/
def q86_0 : List (Nat × Instr × Nat) := [(0, .aload_n 0, 1), (1, .getfield 15, 3), (4, .iload_n 1, 1), (5, .iconst 1, 1), (6, .iadd, 1), (7, .iaload, 1), (8, .aload_n 0, 1), (9, .getfield 15, 3), (12, .iload_n 1, 1), (13, .iaload, 1), (14, .isub, 1), (15, .istore_n 2, 1), (16, .iload_n 2, 1), (17, .aload_n 0, 1), (18, .getfield 15, 3), (21, .aload_n 0, 1), (22, .getfield 22, 3), (25, .iconst 1, 1), (26, .iadd, 1), (27, .iaload, 1), (28, .aload_n 0, 1), (29, .getfield 15, 3), (32, .aload_n 0, 1), (33, .getfield 22, 3), (36, .iaload, 1), (37, .isub, 1), (38, .if_icmp .eq 5, 3)]
theorem e86_0 : am_dec am_M86 q86_0 = true := by decide +kernel
theorem b86_0 {d : Nat} {Q : Option Value ⊕ Nat → am_Mem → Prop} {μ : am_Mem} {r0 : Nat} {x1 : Int32}
    (h1 : am_kd μ r0 = (1, 7))
    (h2 : ¬ am_F μ r0 1 = 15)
    (h3 : (am_kd μ (am_F μ r0 1)).1 = 2 ∨ (am_kd μ (am_F μ r0 1)).1 = 8)
    (h4 : ¬ ((x1 + (Int32.ofInt 1)) < 0 ∨ (am_kd μ (am_F μ r0 1)).2 ≤ (x1 + (Int32.ofInt 1)).toNatClampNeg))
    (h5 : am_kd μ r0 = (1, 7))
    (h6 : ¬ am_F μ r0 1 = 15)
    (h7 : (am_kd μ (am_F μ r0 1)).1 = 2 ∨ (am_kd μ (am_F μ r0 1)).1 = 8)
    (h8 : ¬ (x1 < 0 ∨ (am_kd μ (am_F μ r0 1)).2 ≤ x1.toNatClampNeg))
    (h9 : am_kd μ r0 = (1, 7))
    (h10 : ¬ am_F μ r0 1 = 15)
    (h11 : am_kd μ r0 = (1, 7))
    (h12 : (am_kd μ (am_F μ r0 1)).1 = 2 ∨ (am_kd μ (am_F μ r0 1)).1 = 8)
    (h13 : ¬ (((am_A μ r0 3) + (Int32.ofInt 1)) < 0 ∨ (am_kd μ (am_F μ r0 1)).2 ≤ ((am_A μ r0 3) + (Int32.ofInt 1)).toNatClampNeg))
    (h14 : am_kd μ r0 = (1, 7))
    (h15 : ¬ am_F μ r0 1 = 15)
    (h16 : am_kd μ r0 = (1, 7))
    (h17 : (am_kd μ (am_F μ r0 1)).1 = 2 ∨ (am_kd μ (am_F μ r0 1)).1 = 8)
    (h18 : ¬ ((am_A μ r0 3) < 0 ∨ (am_kd μ (am_F μ r0 1)).2 ≤ (am_A μ r0 3).toNatClampNeg))
    (k1 : ((am_A μ (am_F μ r0 1) (x1 + (Int32.ofInt 1)).toNatClampNeg) - (am_A μ (am_F μ r0 1) x1.toNatClampNeg)) = ((am_A μ (am_F μ r0 1) ((am_A μ r0 3) + (Int32.ofInt 1)).toNatClampNeg) - (am_A μ (am_F μ r0 1) (am_A μ r0 3).toNatClampNeg)) → Wp d 86 (43, [some (.ref r0), some (.int x1), some (.int ((am_A μ (am_F μ r0 1) (x1 + (Int32.ofInt 1)).toNatClampNeg) - (am_A μ (am_F μ r0 1) x1.toNatClampNeg))), none], [], μ) Q) (k2 : ¬ (((am_A μ (am_F μ r0 1) (x1 + (Int32.ofInt 1)).toNatClampNeg) - (am_A μ (am_F μ r0 1) x1.toNatClampNeg)) = ((am_A μ (am_F μ r0 1) ((am_A μ r0 3) + (Int32.ofInt 1)).toNatClampNeg) - (am_A μ (am_F μ r0 1) (am_A μ r0 3).toNatClampNeg))) → Wp d 86 (41, [some (.ref r0), some (.int x1), some (.int ((am_A μ (am_F μ r0 1) (x1 + (Int32.ofInt 1)).toNatClampNeg) - (am_A μ (am_F μ r0 1) x1.toNatClampNeg))), none], [], μ) Q) :
    Wp d 86 (0, [some (.ref r0), some (.int x1), none, none], [], μ) Q := wp_blk rfl e86_0 (And.intro h1 (And.intro h2 (And.intro h3 (And.intro h4 (And.intro h5 (And.intro h6 (And.intro h7 (And.intro h8 (And.intro h9 (And.intro h10 (And.intro h11 (And.intro h12 (And.intro h13 (And.intro h14 (And.intro h15 (And.intro h16 (And.intro h17 (And.intro h18 (And.intro k1 k2)))))))))))))))))))
def q86_41 : List (Nat × Instr × Nat) := [(41, .iconst 0, 1)]
theorem e86_41 : am_dec am_M86 q86_41 = true := by decide +kernel
theorem e86_41_r : am_dec am_M86 [(42, .ireturn, 1)] = true := by decide +kernel
theorem b86_41 {d : Nat} {Q : Option Value ⊕ Nat → am_Mem → Prop} {μ : am_Mem} {r0 : Nat} {x1 x2 : Int32}
    (k : Q (.inl (some (.int (Int32.ofInt 0)))) μ) :
    Wp d 86 (41, [some (.ref r0), some (.int x1), some (.int x2), none], [], μ) Q := wp_blk rfl e86_41 (wp_ri (ty := .boolean) rfl e86_41_r rfl (by decide) k)
def q86_43 : List (Nat × Instr × Nat) := [(43, .iconst 0, 1), (44, .istore_n 3, 1)]
theorem e86_43 : am_dec am_M86 q86_43 = true := by decide +kernel
theorem b86_43 {d : Nat} {Q : Option Value ⊕ Nat → am_Mem → Prop} {μ : am_Mem} {r0 : Nat} {x1 x2 : Int32}
    (k : Wp d 86 (45, [some (.ref r0), some (.int x1), some (.int x2), some (.int (Int32.ofInt 0))], [], μ) Q) :
    Wp d 86 (43, [some (.ref r0), some (.int x1), some (.int x2), none], [], μ) Q := wp_blk rfl e86_43 k
def q86_45 : List (Nat × Instr × Nat) := [(45, .iload_n 3, 1), (46, .iload_n 2, 1), (47, .if_icmp .ge 43, 3)]
theorem e86_45 : am_dec am_M86 q86_45 = true := by decide +kernel
theorem b86_45 {d : Nat} {Q : Option Value ⊕ Nat → am_Mem → Prop} {μ : am_Mem} {r0 : Nat} {x1 x2 x3 : Int32}
    (k1 : x2 ≤ x3 → Wp d 86 (90, [some (.ref r0), some (.int x1), some (.int x2), some (.int x3)], [], μ) Q) (k2 : ¬ (x2 ≤ x3) → Wp d 86 (50, [some (.ref r0), some (.int x1), some (.int x2), some (.int x3)], [], μ) Q) :
    Wp d 86 (45, [some (.ref r0), some (.int x1), some (.int x2), some (.int x3)], [], μ) Q := wp_blk rfl e86_45 (And.intro k1 k2)
def q86_50 : List (Nat × Instr × Nat) := [(50, .aload_n 0, 1), (51, .getfield 11, 3), (54, .aload_n 0, 1), (55, .getfield 15, 3), (58, .iload_n 1, 1), (59, .iaload, 1), (60, .iload_n 3, 1), (61, .iadd, 1), (62, .saload, 1), (63, .aload_n 0, 1), (64, .getfield 11, 3), (67, .aload_n 0, 1), (68, .getfield 15, 3), (71, .aload_n 0, 1), (72, .getfield 22, 3), (75, .iaload, 1), (76, .iload_n 3, 1), (77, .iadd, 1), (78, .saload, 1), (79, .if_icmp .eq 5, 3)]
theorem e86_50 : am_dec am_M86 q86_50 = true := by decide +kernel
theorem b86_50 {d : Nat} {Q : Option Value ⊕ Nat → am_Mem → Prop} {μ : am_Mem} {r0 : Nat} {x1 x2 x3 : Int32}
    (h1 : am_kd μ r0 = (1, 7))
    (h2 : ¬ am_F μ r0 0 = 15)
    (h3 : am_kd μ r0 = (1, 7))
    (h4 : ¬ am_F μ r0 1 = 15)
    (h5 : (am_kd μ (am_F μ r0 1)).1 = 2 ∨ (am_kd μ (am_F μ r0 1)).1 = 8)
    (h6 : ¬ (x1 < 0 ∨ (am_kd μ (am_F μ r0 1)).2 ≤ x1.toNatClampNeg))
    (h7 : (am_kd μ (am_F μ r0 0)).1 = 7)
    (h8 : ¬ (((am_A μ (am_F μ r0 1) x1.toNatClampNeg) + x3) < 0 ∨ (am_kd μ (am_F μ r0 0)).2 ≤ ((am_A μ (am_F μ r0 1) x1.toNatClampNeg) + x3).toNatClampNeg))
    (h9 : am_kd μ r0 = (1, 7))
    (h10 : ¬ am_F μ r0 0 = 15)
    (h11 : am_kd μ r0 = (1, 7))
    (h12 : ¬ am_F μ r0 1 = 15)
    (h13 : am_kd μ r0 = (1, 7))
    (h14 : (am_kd μ (am_F μ r0 1)).1 = 2 ∨ (am_kd μ (am_F μ r0 1)).1 = 8)
    (h15 : ¬ ((am_A μ r0 3) < 0 ∨ (am_kd μ (am_F μ r0 1)).2 ≤ (am_A μ r0 3).toNatClampNeg))
    (h16 : (am_kd μ (am_F μ r0 0)).1 = 7)
    (h17 : ¬ (((am_A μ (am_F μ r0 1) (am_A μ r0 3).toNatClampNeg) + x3) < 0 ∨ (am_kd μ (am_F μ r0 0)).2 ≤ ((am_A μ (am_F μ r0 1) (am_A μ r0 3).toNatClampNeg) + x3).toNatClampNeg))
    (k1 : (am_A μ (am_F μ r0 0) ((am_A μ (am_F μ r0 1) x1.toNatClampNeg) + x3).toNatClampNeg) = (am_A μ (am_F μ r0 0) ((am_A μ (am_F μ r0 1) (am_A μ r0 3).toNatClampNeg) + x3).toNatClampNeg) → Wp d 86 (84, [some (.ref r0), some (.int x1), some (.int x2), some (.int x3)], [], μ) Q) (k2 : ¬ ((am_A μ (am_F μ r0 0) ((am_A μ (am_F μ r0 1) x1.toNatClampNeg) + x3).toNatClampNeg) = (am_A μ (am_F μ r0 0) ((am_A μ (am_F μ r0 1) (am_A μ r0 3).toNatClampNeg) + x3).toNatClampNeg)) → Wp d 86 (82, [some (.ref r0), some (.int x1), some (.int x2), some (.int x3)], [], μ) Q) :
    Wp d 86 (50, [some (.ref r0), some (.int x1), some (.int x2), some (.int x3)], [], μ) Q := wp_blk rfl e86_50 (And.intro h1 (And.intro h2 (And.intro h3 (And.intro h4 (And.intro h5 (And.intro h6 (And.intro h7 (And.intro h8 (And.intro h9 (And.intro h10 (And.intro h11 (And.intro h12 (And.intro h13 (And.intro h14 (And.intro h15 (And.intro h16 (And.intro h17 (And.intro k1 k2))))))))))))))))))
def q86_82 : List (Nat × Instr × Nat) := [(82, .iconst 0, 1)]
theorem e86_82 : am_dec am_M86 q86_82 = true := by decide +kernel
theorem e86_82_r : am_dec am_M86 [(83, .ireturn, 1)] = true := by decide +kernel
theorem b86_82 {d : Nat} {Q : Option Value ⊕ Nat → am_Mem → Prop} {μ : am_Mem} {r0 : Nat} {x1 x2 x3 : Int32}
    (k : Q (.inl (some (.int (Int32.ofInt 0)))) μ) :
    Wp d 86 (82, [some (.ref r0), some (.int x1), some (.int x2), some (.int x3)], [], μ) Q := wp_blk rfl e86_82 (wp_ri (ty := .boolean) rfl e86_82_r rfl (by decide) k)
def q86_84 : List (Nat × Instr × Nat) := [(84, .iinc 3 1, 3), (87, .goto (-42), 3)]
theorem e86_84 : am_dec am_M86 q86_84 = true := by decide +kernel
theorem b86_84 {d : Nat} {Q : Option Value ⊕ Nat → am_Mem → Prop} {μ : am_Mem} {r0 : Nat} {x1 x2 x3 : Int32}
    (k : Wp d 86 (45, [some (.ref r0), some (.int x1), some (.int x2), some (.int (x3 + Int32.ofInt 1))], [], μ) Q) :
    Wp d 86 (84, [some (.ref r0), some (.int x1), some (.int x2), some (.int x3)], [], μ) Q := wp_blk rfl e86_84 k
def q86_90 : List (Nat × Instr × Nat) := [(90, .iconst 1, 1)]
theorem e86_90 : am_dec am_M86 q86_90 = true := by decide +kernel
theorem e86_90_r : am_dec am_M86 [(91, .ireturn, 1)] = true := by decide +kernel
theorem b86_90 {d : Nat} {Q : Option Value ⊕ Nat → am_Mem → Prop} {μ : am_Mem} {r0 : Nat} {x1 x2 x3 : Int32}
    (k : Q (.inl (some (.int (Int32.ofInt 1)))) μ) :
    Wp d 86 (90, [some (.ref r0), some (.int x1), some (.int x2), some (.int x3)], [], μ) Q := wp_blk rfl e86_90 (wp_ri (ty := .boolean) rfl e86_90_r rfl (by decide) k)
/-! RuleSheets$Store.load(ILRuleSheets$Terms;)I -/
def q87_0 : List (Nat × Instr × Nat) := [(0, .aload_n 2, 1), (1, .aload_n 0, 1), (2, .getfield 15, 3), (5, .iload_n 1, 1), (6, .iconst 1, 1), (7, .iadd, 1), (8, .iaload, 1), (9, .aload_n 0, 1), (10, .getfield 15, 3), (13, .iload_n 1, 1), (14, .iaload, 1), (15, .isub, 1)]
theorem e87_0 : am_dec am_M87 q87_0 = true := by decide +kernel
theorem e87_0_c : am_dc1 am_M87 16 (.invokevirtual 72) 3 = true := by decide +kernel
theorem b87_0 {d : Nat} {Q : Option Value ⊕ Nat → am_Mem → Prop} {μ : am_Mem} {r0 r2 : Nat} {x1 : Int32} {P : am_Mem → Prop} {X : Nat → am_Mem → Prop}
    (h1 : am_kd μ r0 = (1, 7))
    (h2 : ¬ am_F μ r0 1 = 15)
    (h3 : (am_kd μ (am_F μ r0 1)).1 = 2 ∨ (am_kd μ (am_F μ r0 1)).1 = 8)
    (h4 : ¬ ((x1 + (Int32.ofInt 1)) < 0 ∨ (am_kd μ (am_F μ r0 1)).2 ≤ (x1 + (Int32.ofInt 1)).toNatClampNeg))
    (h5 : am_kd μ r0 = (1, 7))
    (h6 : ¬ am_F μ r0 1 = 15)
    (h7 : (am_kd μ (am_F μ r0 1)).1 = 2 ∨ (am_kd μ (am_F μ r0 1)).1 = 8)
    (h8 : ¬ (x1 < 0 ∨ (am_kd μ (am_F μ r0 1)).2 ≤ x1.toNatClampNeg))
    (hk : am_kd μ r2 = (1, 8))
    (hc : Wp d 92 (0, [some (.ref r2), some (.int ((am_A μ (am_F μ r0 1) (x1 + (Int32.ofInt 1)).toNatClampNeg) - (am_A μ (am_F μ r0 1) x1.toNatClampNeg)))], [], μ) (pV P X)) (hr : ∀ μ', P μ' → Wp (d + 1) 87 (19, [some (.ref r0), some (.int x1), some (.ref r2), none, none, none, none], [], (μ')) Q)
    (hx : ∀ x μ', X x μ' → Q (.inr x) μ') :
    Wp (d + 1) 87 (0, [some (.ref r0), some (.int x1), some (.ref r2), none, none, none, none], [], μ) Q := wp_blk rfl e87_0 (And.intro h1 (And.intro h2 (And.intro h3 (And.intro h4 (And.intro h5 (And.intro h6 (And.intro h7 (And.intro h8 (wp_cv (as := [.int ((am_A μ (am_F μ r0 1) (x1 + (Int32.ofInt 1)).toNatClampNeg) - (am_A μ (am_F μ r0 1) x1.toNatClampNeg))]) rfl e87_0_c rfl rfl rfl rfl rfl hk hc (fun v μ' hv => by obtain ⟨rfl, hp⟩ := pV_r hv; exact hr μ' hp) hx)))))))))
def q87_19 : List (Nat × Instr × Nat) := [(19, .iconst 0, 1), (20, .istore_n 3, 1), (21, .aload_n 0, 1), (22, .getfield 15, 3), (25, .iload_n 1, 1), (26, .iconst 1, 1), (27, .iadd, 1), (28, .iaload, 1), (29, .iconst 1, 1), (30, .isub, 1), (31, .istore 4, 2)]
theorem e87_19 : am_dec am_M87 q87_19 = true := by decide +kernel
theorem b87_19 {d : Nat} {Q : Option Value ⊕ Nat → am_Mem → Prop} {μ : am_Mem} {r0 r2 : Nat} {x1 : Int32}
    (h1 : am_kd μ r0 = (1, 7))
    (h2 : ¬ am_F μ r0 1 = 15)
    (h3 : (am_kd μ (am_F μ r0 1)).1 = 2 ∨ (am_kd μ (am_F μ r0 1)).1 = 8)
    (h4 : ¬ ((x1 + (Int32.ofInt 1)) < 0 ∨ (am_kd μ (am_F μ r0 1)).2 ≤ (x1 + (Int32.ofInt 1)).toNatClampNeg))
    (k : Wp d 87 (33, [some (.ref r0), some (.int x1), some (.ref r2), some (.int (Int32.ofInt 0)), some (.int ((am_A μ (am_F μ r0 1) (x1 + (Int32.ofInt 1)).toNatClampNeg) - (Int32.ofInt 1))), none, none], [], μ) Q) :
    Wp d 87 (19, [some (.ref r0), some (.int x1), some (.ref r2), none, none, none, none], [], μ) Q := wp_blk rfl e87_19 (And.intro h1 (And.intro h2 (And.intro h3 (And.intro h4 k))))
def q87_33 : List (Nat × Instr × Nat) := [(33, .iload 4, 2), (35, .aload_n 0, 1), (36, .getfield 15, 3), (39, .iload_n 1, 1), (40, .iaload, 1), (41, .if_icmp .lt 78, 3)]
theorem e87_33 : am_dec am_M87 q87_33 = true := by decide +kernel
theorem b87_33 {d : Nat} {Q : Option Value ⊕ Nat → am_Mem → Prop} {μ : am_Mem} {r0 r2 : Nat} {x1 x3 x4 : Int32} {o5 o6 : Option Value}
    (h1 : am_kd μ r0 = (1, 7))
    (h2 : ¬ am_F μ r0 1 = 15)
    (h3 : (am_kd μ (am_F μ r0 1)).1 = 2 ∨ (am_kd μ (am_F μ r0 1)).1 = 8)
    (h4 : ¬ (x1 < 0 ∨ (am_kd μ (am_F μ r0 1)).2 ≤ x1.toNatClampNeg))
    (k1 : x4 < (am_A μ (am_F μ r0 1) x1.toNatClampNeg) → Wp d 87 (119, [some (.ref r0), some (.int x1), some (.ref r2), some (.int x3), some (.int x4), o5, o6], [], μ) Q) (k2 : ¬ (x4 < (am_A μ (am_F μ r0 1) x1.toNatClampNeg)) → Wp d 87 (44, [some (.ref r0), some (.int x1), some (.ref r2), some (.int x3), some (.int x4), o5, o6], [], μ) Q) :
    Wp d 87 (33, [some (.ref r0), some (.int x1), some (.ref r2), some (.int x3), some (.int x4), o5, o6], [], μ) Q := wp_blk rfl e87_33 (And.intro h1 (And.intro h2 (And.intro h3 (And.intro h4 (And.intro k1 k2)))))
def q87_44 : List (Nat × Instr × Nat) := [(44, .aload_n 0, 1), (45, .getfield 11, 3), (48, .iload 4, 2), (50, .saload, 1), (51, .bipush 8, 2), (53, .irem, 1), (54, .istore 5, 2), (56, .iconst 0, 1), (57, .istore 6, 2)]
theorem e87_44 : am_dec am_M87 q87_44 = true := by decide +kernel
theorem b87_44 {d : Nat} {Q : Option Value ⊕ Nat → am_Mem → Prop} {μ : am_Mem} {r0 r2 : Nat} {x1 x3 x4 : Int32} {o5 o6 : Option Value}
    (h1 : am_kd μ r0 = (1, 7))
    (h2 : ¬ am_F μ r0 0 = 15)
    (h3 : (am_kd μ (am_F μ r0 0)).1 = 7)
    (h4 : ¬ (x4 < 0 ∨ (am_kd μ (am_F μ r0 0)).2 ≤ x4.toNatClampNeg))
    (h5 : ¬ ((Int8.ofInt 8).toInt32) = 0)
    (k : Wp d 87 (59, [some (.ref r0), some (.int x1), some (.ref r2), some (.int x3), some (.int x4), some (.int ((am_A μ (am_F μ r0 0) x4.toNatClampNeg) - (am_A μ (am_F μ r0 0) x4.toNatClampNeg) / ((Int8.ofInt 8).toInt32) * ((Int8.ofInt 8).toInt32))), some (.int (Int32.ofInt 0))], [], μ) Q) :
    Wp d 87 (44, [some (.ref r0), some (.int x1), some (.ref r2), some (.int x3), some (.int x4), o5, o6], [], μ) Q := wp_blk rfl e87_44 (And.intro h1 (And.intro h2 (And.intro h3 (And.intro h4 (And.intro h5 k)))))
def q87_59 : List (Nat × Instr × Nat) := [(59, .iload 6, 2), (61, .iload 5, 2), (63, .if_icmp .ge 25, 3)]
theorem e87_59 : am_dec am_M87 q87_59 = true := by decide +kernel
theorem b87_59 {d : Nat} {Q : Option Value ⊕ Nat → am_Mem → Prop} {μ : am_Mem} {r0 r2 : Nat} {x1 x3 x4 x5 x6 : Int32}
    (k1 : x5 ≤ x6 → Wp d 87 (88, [some (.ref r0), some (.int x1), some (.ref r2), some (.int x3), some (.int x4), some (.int x5), some (.int x6)], [], μ) Q) (k2 : ¬ (x5 ≤ x6) → Wp d 87 (66, [some (.ref r0), some (.int x1), some (.ref r2), some (.int x3), some (.int x4), some (.int x5), some (.int x6)], [], μ) Q) :
    Wp d 87 (59, [some (.ref r0), some (.int x1), some (.ref r2), some (.int x3), some (.int x4), some (.int x5), some (.int x6)], [], μ) Q := wp_blk rfl e87_59 (And.intro k1 k2)
def q87_66 : List (Nat × Instr × Nat) := [(66, .iinc 3 (-1), 3), (69, .aload_n 2, 1), (70, .getfield 76, 3), (73, .iload 6, 2), (75, .aload_n 0, 1), (76, .getfield 26, 3), (79, .iload_n 3, 1), (80, .iaload, 1), (81, .iastore, 1), (82, .iinc 6 1, 3), (85, .goto (-26), 3)]
theorem e87_66 : am_dec am_M87 q87_66 = true := by decide +kernel
theorem b87_66 {d : Nat} {Q : Option Value ⊕ Nat → am_Mem → Prop} {μ : am_Mem} {r0 r2 : Nat} {x1 x3 x4 x5 x6 : Int32}
    (h1 : am_kd μ r2 = (1, 8))
    (h2 : ¬ am_F μ r2 10 = 15)
    (h3 : am_kd μ r0 = (1, 7))
    (h4 : ¬ am_F μ r0 4 = 15)
    (h5 : (am_kd μ (am_F μ r0 4)).1 = 2 ∨ (am_kd μ (am_F μ r0 4)).1 = 8)
    (h6 : ¬ ((x3 + Int32.ofInt (-1)) < 0 ∨ (am_kd μ (am_F μ r0 4)).2 ≤ (x3 + Int32.ofInt (-1)).toNatClampNeg))
    (h7 : (am_kd μ (am_F μ r2 10)).1 = 2)
    (h8 : ¬ (x6 < 0 ∨ (am_kd μ (am_F μ r2 10)).2 ≤ x6.toNatClampNeg))
    (k : Wp d 87 (59, [some (.ref r0), some (.int x1), some (.ref r2), some (.int (x3 + Int32.ofInt (-1))), some (.int x4), some (.int x5), some (.int (x6 + Int32.ofInt 1))], [], (am_pA μ (am_F μ r2 10) x6.toNatClampNeg (am_A μ (am_F μ r0 4) (x3 + Int32.ofInt (-1)).toNatClampNeg))) Q) :
    Wp d 87 (66, [some (.ref r0), some (.int x1), some (.ref r2), some (.int x3), some (.int x4), some (.int x5), some (.int x6)], [], μ) Q := wp_blk rfl e87_66 (And.intro h1 (And.intro h2 (And.intro h3 (And.intro h4 (And.intro h5 (And.intro h6 (And.intro h7 (And.intro h8 k))))))))
def q87_88 : List (Nat × Instr × Nat) := [(88, .aload_n 0, 1), (89, .getfield 26, 3), (92, .iload_n 3, 1), (93, .aload_n 2, 1), (94, .aload_n 0, 1), (95, .getfield 11, 3), (98, .iload 4, 2), (100, .saload, 1), (101, .bipush 8, 2), (103, .idiv, 1), (104, .iload 5, 2)]
theorem e87_88 : am_dec am_M87 q87_88 = true := by decide +kernel
theorem e87_88_c : am_dc1 am_M87 106 (.invokevirtual 77) 3 = true := by decide +kernel
theorem b87_88 {d : Nat} {Q : Option Value ⊕ Nat → am_Mem → Prop} {μ : am_Mem} {r0 r2 : Nat} {x1 x3 x4 x5 x6 : Int32} {P : Int32 → am_Mem → Prop} {X : Nat → am_Mem → Prop}
    (h1 : am_kd μ r0 = (1, 7))
    (h2 : ¬ am_F μ r0 4 = 15)
    (h3 : am_kd μ r0 = (1, 7))
    (h4 : ¬ am_F μ r0 0 = 15)
    (h5 : (am_kd μ (am_F μ r0 0)).1 = 7)
    (h6 : ¬ (x4 < 0 ∨ (am_kd μ (am_F μ r0 0)).2 ≤ x4.toNatClampNeg))
    (h7 : ¬ ((Int8.ofInt 8).toInt32) = 0)
    (hk : am_kd μ r2 = (1, 8))
    (hc : Wp d 91 (0, [some (.ref r2), some (.int ((am_A μ (am_F μ r0 0) x4.toNatClampNeg) / ((Int8.ofInt 8).toInt32))), some (.int x5), none, none, none, none, none], [], μ) (pI P X)) (hr : ∀ x μ', P x μ' → Wp (d + 1) 87 (109, [some (.ref r0), some (.int x1), some (.ref r2), some (.int x3), some (.int x4), some (.int x5), some (.int x6)], [.int x, .int x3, .ref (am_F μ r0 4)], (μ')) Q)
    (hx : ∀ x μ', X x μ' → Q (.inr x) μ') :
    Wp (d + 1) 87 (88, [some (.ref r0), some (.int x1), some (.ref r2), some (.int x3), some (.int x4), some (.int x5), some (.int x6)], [], μ) Q := wp_blk rfl e87_88 (And.intro h1 (And.intro h2 (And.intro h3 (And.intro h4 (And.intro h5 (And.intro h6 (And.intro h7 (wp_cv (as := [.int ((am_A μ (am_F μ r0 0) x4.toNatClampNeg) / ((Int8.ofInt 8).toInt32)), .int x5]) rfl e87_88_c rfl rfl rfl rfl rfl hk hc (fun v μ' hv => by obtain ⟨x, rfl, hp⟩ := pI_r hv; exact hr x μ' hp) hx))))))))
def q87_109 : List (Nat × Instr × Nat) := [(109, .iastore, 1), (110, .iinc 3 1, 3), (113, .iinc 4 (-1), 3), (116, .goto (-83), 3)]
theorem e87_109 : am_dec am_M87 q87_109 = true := by decide +kernel
theorem b87_109 {d : Nat} {Q : Option Value ⊕ Nat → am_Mem → Prop} {μ : am_Mem} {r0 r2 r90 : Nat} {x1 x3 x4 x5 x6 s1 s2 : Int32}
    (h1 : (am_kd μ r90).1 = 2)
    (h2 : ¬ (s1 < 0 ∨ (am_kd μ r90).2 ≤ s1.toNatClampNeg))
    (k : Wp d 87 (33, [some (.ref r0), some (.int x1), some (.ref r2), some (.int (x3 + Int32.ofInt 1)), some (.int (x4 + Int32.ofInt (-1))), some (.int x5), some (.int x6)], [], (am_pA μ r90 s1.toNatClampNeg s2)) Q) :
    Wp d 87 (109, [some (.ref r0), some (.int x1), some (.ref r2), some (.int x3), some (.int x4), some (.int x5), some (.int x6)], [.int s2, .int s1, .ref r90], μ) Q := wp_blk rfl e87_109 (And.intro h1 (And.intro h2 k))
def q87_119 : List (Nat × Instr × Nat) := [(119, .iload_n 3, 1)]
theorem e87_119 : am_dec am_M87 q87_119 = true := by decide +kernel
theorem e87_119_r : am_dec am_M87 [(120, .ireturn, 1)] = true := by decide +kernel
theorem b87_119 {d : Nat} {Q : Option Value ⊕ Nat → am_Mem → Prop} {μ : am_Mem} {r0 r2 : Nat} {x1 x3 x4 : Int32} {o5 o6 : Option Value}
    (k : Q (.inl (some (.int x3))) μ) :
    Wp d 87 (119, [some (.ref r0), some (.int x1), some (.ref r2), some (.int x3), some (.int x4), o5, o6], [], μ) Q := wp_blk rfl e87_119 (wp_ri (ty := .int) rfl e87_119_r rfl ⟨rfl, rfl⟩ k)
