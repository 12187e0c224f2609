/-! ===== printed: the blocks of Checker ===== -/
/-! RuleSheets$Checker.<init>(LRuleSheets$Sheet;)V -/
def q0_0 : List (Nat × Instr × Nat) := [(0, .aload_n 0, 1), (1, .invokespecial 3, 3), (4, .aload_n 0, 1), (5, .iconst (-1), 1), (6, .putfield 9, 3), (9, .aload_n 0, 1), (10, .sipush 1024, 3), (13, .newarray .int, 2), (15, .putfield 15, 3)]
theorem e0_0 : am_dec am_M0 q0_0 = true := by decide +kernel
theorem b0_0 {d : Nat} {Q : Option Value ⊕ Nat → am_Mem → Prop} {μ : am_Mem} {r0 r1 : Nat}
    (h1 : am_kd μ r0 = (1, 0))
    (h2 : am_kd (am_nA (am_pA μ r0 0 (Int32.ofInt (-1))) 2 ((Int16.ofInt 1024).toInt32).toNatClampNeg) r0 = (1, 0))
    (h3 : ¬ (am_n (am_pA μ r0 0 (Int32.ofInt (-1)))) = 15)
    (k : Wp d 0 (18, [some (.ref r0), some (.ref r1)], [], (am_pR (am_nA (am_pA μ r0 0 (Int32.ofInt (-1))) 2 ((Int16.ofInt 1024).toInt32).toNatClampNeg) r0 2 (am_n (am_pA μ r0 0 (Int32.ofInt (-1)))))) Q) :
    Wp d 0 (0, [some (.ref r0), some (.ref r1)], [], μ) Q := wp_blk rfl e0_0 (And.intro h1 (And.intro ⟨rfl, rfl⟩ (And.intro (by decide) (And.intro h2 (And.intro h3 k)))))
def q0_18 : List (Nat × Instr × Nat) := [(18, .aload_n 0, 1), (19, .sipush 1024, 3), (22, .newarray .int, 2), (24, .putfield 19, 3)]
theorem e0_18 : am_dec am_M0 q0_18 = true := by decide +kernel
theorem b0_18 {d : Nat} {Q : Option Value ⊕ Nat → am_Mem → Prop} {μ : am_Mem} {r0 r1 : Nat}
    (h1 : am_kd (am_nA μ 2 ((Int16.ofInt 1024).toInt32).toNatClampNeg) r0 = (1, 0))
    (h2 : ¬ (am_n μ) = 15)
    (k : Wp d 0 (27, [some (.ref r0), some (.ref r1)], [], (am_pR (am_nA μ 2 ((Int16.ofInt 1024).toInt32).toNatClampNeg) r0 3 (am_n μ))) Q) :
    Wp d 0 (18, [some (.ref r0), some (.ref r1)], [], μ) Q := wp_blk rfl e0_18 (And.intro (by decide) (And.intro h1 (And.intro h2 k)))
def q0_27 : List (Nat × Instr × Nat) := [(27, .aload_n 0, 1), (28, .iconst 0, 1), (29, .putfield 22, 3), (32, .aload_n 0, 1), (33, .bipush 62, 2), (35, .newarray .long, 2), (37, .putfield 25, 3)]
theorem e0_27 : am_dec am_M0 q0_27 = true := by decide +kernel
theorem b0_27 {d : Nat} {Q : Option Value ⊕ Nat → am_Mem → Prop} {μ : am_Mem} {r0 r1 : Nat}
    (h1 : am_kd μ r0 = (1, 0))
    (h2 : am_kd (am_nA (am_pA μ r0 4 (Int32.ofInt 0)) 6 ((Int8.ofInt 62).toInt32).toNatClampNeg) r0 = (1, 0))
    (h3 : ¬ (am_n (am_pA μ r0 4 (Int32.ofInt 0))) = 15)
    (k : Wp d 0 (40, [some (.ref r0), some (.ref r1)], [], (am_pR (am_nA (am_pA μ r0 4 (Int32.ofInt 0)) 6 ((Int8.ofInt 62).toInt32).toNatClampNeg) r0 5 (am_n (am_pA μ r0 4 (Int32.ofInt 0))))) Q) :
    Wp d 0 (27, [some (.ref r0), some (.ref r1)], [], μ) Q := wp_blk rfl e0_27 (And.intro h1 (And.intro ⟨rfl, rfl⟩ (And.intro (by decide) (And.intro h2 (And.intro h3 k)))))
def q0_40 : List (Nat × Instr × Nat) := [(40, .aload_n 0, 1), (41, .bipush 62, 2), (43, .newarray .boolean, 2), (45, .putfield 29, 3)]
theorem e0_40 : am_dec am_M0 q0_40 = true := by decide +kernel
theorem b0_40 {d : Nat} {Q : Option Value ⊕ Nat → am_Mem → Prop} {μ : am_Mem} {r0 r1 : Nat}
    (h1 : am_kd (am_nA μ 4 ((Int8.ofInt 62).toInt32).toNatClampNeg) r0 = (1, 0))
    (h2 : ¬ (am_n μ) = 15)
    (k : Wp d 0 (48, [some (.ref r0), some (.ref r1)], [], (am_pR (am_nA μ 4 ((Int8.ofInt 62).toInt32).toNatClampNeg) r0 6 (am_n μ))) Q) :
    Wp d 0 (40, [some (.ref r0), some (.ref r1)], [], μ) Q := wp_blk rfl e0_40 (And.intro (by decide) (And.intro h1 (And.intro h2 k)))
def q0_48 : List (Nat × Instr × Nat) := [(48, .aload_n 0, 1), (49, .aload_n 1, 1), (50, .putfield 33, 3)]
theorem e0_48 : am_dec am_M0 q0_48 = true := by decide +kernel
theorem e0_48_r : am_dec am_M0 [(53, .return_, 1)] = true := by decide +kernel
theorem b0_48 {d : Nat} {Q : Option Value ⊕ Nat → am_Mem → Prop} {μ : am_Mem} {r0 r1 : Nat}
    (h1 : am_kd μ r0 = (1, 0))
    (h2 : ¬ r1 = 15)
    (k : Q (.inl none) (am_pR μ r0 1 r1)) :
    Wp d 0 (48, [some (.ref r0), some (.ref r1)], [], μ) Q := wp_blk rfl e0_48 (And.intro h1 (And.intro h2 (wp_rv rfl e0_48_r rfl k)))
/-! RuleSheets$Checker.check(LRuleSheets$Sheet;)I -/
def q1_0 : List (Nat × Instr × Nat) := [(0, .aload_n 0, 1), (1, .aload_n 1, 1), (2, .putfield 33, 3), (5, .aload_n 0, 1), (6, .aload_n 0, 1)]
theorem e1_0 : am_dec am_M1 q1_0 = true := by decide +kernel
theorem e1_0_c : am_dc1 am_M1 7 (.invokevirtual 37) 3 = true := by decide +kernel
theorem b1_0 {d : Nat} {Q : Option Value ⊕ Nat → am_Mem → Prop} {μ : am_Mem} {r0 r1 : Nat} {P : Int32 → am_Mem → Prop} {X : Nat → am_Mem → Prop}
    (h1 : am_kd μ r0 = (1, 0))
    (h2 : ¬ r1 = 15)
    (hk : am_kd (am_pR μ r0 1 r1) r0 = (1, 0))
    (hc : Wp d 2 (0, [some (.ref r0), none, none, none], [], (am_pR μ r0 1 r1)) (pI P X)) (hr : ∀ x μ', P x μ' → Wp (d + 1) 1 (10, [some (.ref r0), some (.ref r1)], [.int x, .ref r0], (μ')) Q)
    (hx : ∀ x μ', X x μ' → Q (.inr x) μ') :
    Wp (d + 1) 1 (0, [some (.ref r0), some (.ref r1)], [], μ) Q := wp_blk rfl e1_0 (And.intro h1 (And.intro h2 (wp_cv (as := []) rfl e1_0_c rfl rfl rfl rfl rfl hk hc (fun v μ' hv => by obtain ⟨x, rfl, hp⟩ := pI_r hv; exact hr x μ' hp) hx)))
def q1_10 : List (Nat × Instr × Nat) := [(10, .putfield 9, 3), (13, .aload_n 0, 1), (14, .getfield 9, 3), (17, .iconst (-1), 1), (18, .if_icmp .eq 5, 3)]
theorem e1_10 : am_dec am_M1 q1_10 = true := by decide +kernel
theorem b1_10 {d : Nat} {Q : Option Value ⊕ Nat → am_Mem → Prop} {μ : am_Mem} {r0 r1 r90 : Nat} {s1 : Int32}
    (h1 : am_kd μ r90 = (1, 0))
    (h2 : am_kd (am_pA μ r90 0 s1) r0 = (1, 0))
    (k1 : (am_A (am_pA μ r90 0 s1) r0 0) = (Int32.ofInt (-1)) → Wp d 1 (23, [some (.ref r0), some (.ref r1)], [], (am_pA μ r90 0 s1)) Q) (k2 : ¬ ((am_A (am_pA μ r90 0 s1) r0 0) = (Int32.ofInt (-1))) → Wp d 1 (21, [some (.ref r0), some (.ref r1)], [], (am_pA μ r90 0 s1)) Q) :
    Wp d 1 (10, [some (.ref r0), some (.ref r1)], [.int s1, .ref r90], μ) Q := wp_blk rfl e1_10 (And.intro h1 (And.intro ⟨rfl, rfl⟩ (And.intro h2 (And.intro k1 k2))))
def q1_21 : List (Nat × Instr × Nat) := [(21, .iconst 2, 1)]
theorem e1_21 : am_dec am_M1 q1_21 = true := by decide +kernel
theorem e1_21_r : am_dec am_M1 [(22, .ireturn, 1)] = true := by decide +kernel
theorem b1_21 {d : Nat} {Q : Option Value ⊕ Nat → am_Mem → Prop} {μ : am_Mem} {r0 r1 : Nat}
    (k : Q (.inl (some (.int (Int32.ofInt 2)))) μ) :
    Wp d 1 (21, [some (.ref r0), some (.ref r1)], [], μ) Q := wp_blk rfl e1_21 (wp_ri (ty := .int) rfl e1_21_r rfl ⟨rfl, rfl⟩ k)
def q1_23 : List (Nat × Instr × Nat) := [(23, .aload_n 0, 1), (24, .aload_n 0, 1)]
theorem e1_23 : am_dec am_M1 q1_23 = true := by decide +kernel
theorem e1_23_c : am_dc1 am_M1 25 (.invokevirtual 41) 3 = true := by decide +kernel
theorem b1_23 {d : Nat} {Q : Option Value ⊕ Nat → am_Mem → Prop} {μ : am_Mem} {r0 r1 : Nat} {P : Int32 → am_Mem → Prop} {X : Nat → am_Mem → Prop}
    (hk : am_kd μ r0 = (1, 0))
    (hc : Wp d 4 (0, [some (.ref r0), none, none, none, none, none], [], μ) (pI P X)) (hr : ∀ x μ', P x μ' → Wp (d + 1) 1 (28, [some (.ref r0), some (.ref r1)], [.int x, .ref r0], (μ')) Q)
    (hx : ∀ x μ', X x μ' → Q (.inr x) μ') :
    Wp (d + 1) 1 (23, [some (.ref r0), some (.ref r1)], [], μ) Q := wp_blk rfl e1_23 (wp_cv (as := []) rfl e1_23_c rfl rfl rfl rfl rfl hk hc (fun v μ' hv => by obtain ⟨x, rfl, hp⟩ := pI_r hv; exact hr x μ' hp) hx)
def q1_28 : List (Nat × Instr × Nat) := [(28, .putfield 9, 3), (31, .aload_n 0, 1), (32, .getfield 9, 3), (35, .iconst (-1), 1), (36, .if_icmp .eq 5, 3)]
theorem e1_28 : am_dec am_M1 q1_28 = true := by decide +kernel
theorem b1_28 {d : Nat} {Q : Option Value ⊕ Nat → am_Mem → Prop} {μ : am_Mem} {r0 r1 r90 : Nat} {s1 : Int32}
    (h1 : am_kd μ r90 = (1, 0))
    (h2 : am_kd (am_pA μ r90 0 s1) r0 = (1, 0))
    (k1 : (am_A (am_pA μ r90 0 s1) r0 0) = (Int32.ofInt (-1)) → Wp d 1 (41, [some (.ref r0), some (.ref r1)], [], (am_pA μ r90 0 s1)) Q) (k2 : ¬ ((am_A (am_pA μ r90 0 s1) r0 0) = (Int32.ofInt (-1))) → Wp d 1 (39, [some (.ref r0), some (.ref r1)], [], (am_pA μ r90 0 s1)) Q) :
    Wp d 1 (28, [some (.ref r0), some (.ref r1)], [.int s1, .ref r90], μ) Q := wp_blk rfl e1_28 (And.intro h1 (And.intro ⟨rfl, rfl⟩ (And.intro h2 (And.intro k1 k2))))
def q1_39 : List (Nat × Instr × Nat) := [(39, .iconst 3, 1)]
theorem e1_39 : am_dec am_M1 q1_39 = true := by decide +kernel
theorem e1_39_r : am_dec am_M1 [(40, .ireturn, 1)] = true := by decide +kernel
theorem b1_39 {d : Nat} {Q : Option Value ⊕ Nat → am_Mem → Prop} {μ : am_Mem} {r0 r1 : Nat}
    (k : Q (.inl (some (.int (Int32.ofInt 3)))) μ) :
    Wp d 1 (39, [some (.ref r0), some (.ref r1)], [], μ) Q := wp_blk rfl e1_39 (wp_ri (ty := .int) rfl e1_39_r rfl ⟨rfl, rfl⟩ k)
def q1_41 : List (Nat × Instr × Nat) := [(41, .aload_n 0, 1)]
theorem e1_41 : am_dec am_M1 q1_41 = true := by decide +kernel
theorem e1_41_c : am_dc1 am_M1 42 (.invokevirtual 44) 3 = true := by decide +kernel
theorem b1_41 {d : Nat} {Q : Option Value ⊕ Nat → am_Mem → Prop} {μ : am_Mem} {r0 r1 : Nat} {P : am_Mem → Prop} {X : Nat → am_Mem → Prop}
    (hk : am_kd μ r0 = (1, 0))
    (hc : Wp d 9 (0, [some (.ref r0), none, none, none], [], μ) (pV P X)) (hr : ∀ μ', P μ' → Wp (d + 1) 1 (45, [some (.ref r0), some (.ref r1)], [], (μ')) Q)
    (hx : ∀ x μ', X x μ' → Q (.inr x) μ') :
    Wp (d + 1) 1 (41, [some (.ref r0), some (.ref r1)], [], μ) Q := wp_blk rfl e1_41 (wp_cv (as := []) rfl e1_41_c rfl rfl rfl rfl rfl hk hc (fun v μ' hv => by obtain ⟨rfl, hp⟩ := pV_r hv; exact hr μ' hp) hx)
def q1_45 : List (Nat × Instr × Nat) := [(45, .aload_n 0, 1), (46, .aload_n 0, 1)]
theorem e1_45 : am_dec am_M1 q1_45 = true := by decide +kernel
theorem e1_45_c : am_dc1 am_M1 47 (.invokevirtual 47) 3 = true := by decide +kernel
theorem b1_45 {d : Nat} {Q : Option Value ⊕ Nat → am_Mem → Prop} {μ : am_Mem} {r0 r1 : Nat} {P : Int32 → am_Mem → Prop} {X : Nat → am_Mem → Prop}
    (hk : am_kd μ r0 = (1, 0))
    (hc : Wp d 11 (0, [some (.ref r0)], [], μ) (pI P X)) (hr : ∀ x μ', P x μ' → Wp (d + 1) 1 (50, [some (.ref r0), some (.ref r1)], [.int x, .ref r0], (μ')) Q)
    (hx : ∀ x μ', X x μ' → Q (.inr x) μ') :
    Wp (d + 1) 1 (45, [some (.ref r0), some (.ref r1)], [], μ) Q := wp_blk rfl e1_45 (wp_cv (as := []) rfl e1_45_c rfl rfl rfl rfl rfl hk hc (fun v μ' hv => by obtain ⟨x, rfl, hp⟩ := pI_r hv; exact hr x μ' hp) hx)
def q1_50 : List (Nat × Instr × Nat) := [(50, .putfield 9, 3), (53, .aload_n 0, 1), (54, .getfield 9, 3), (57, .iconst (-1), 1), (58, .if_icmp .eq 5, 3)]
theorem e1_50 : am_dec am_M1 q1_50 = true := by decide +kernel
theorem b1_50 {d : Nat} {Q : Option Value ⊕ Nat → am_Mem → Prop} {μ : am_Mem} {r0 r1 r90 : Nat} {s1 : Int32}
    (h1 : am_kd μ r90 = (1, 0))
    (h2 : am_kd (am_pA μ r90 0 s1) r0 = (1, 0))
    (k1 : (am_A (am_pA μ r90 0 s1) r0 0) = (Int32.ofInt (-1)) → Wp d 1 (63, [some (.ref r0), some (.ref r1)], [], (am_pA μ r90 0 s1)) Q) (k2 : ¬ ((am_A (am_pA μ r90 0 s1) r0 0) = (Int32.ofInt (-1))) → Wp d 1 (61, [some (.ref r0), some (.ref r1)], [], (am_pA μ r90 0 s1)) Q) :
    Wp d 1 (50, [some (.ref r0), some (.ref r1)], [.int s1, .ref r90], μ) Q := wp_blk rfl e1_50 (And.intro h1 (And.intro ⟨rfl, rfl⟩ (And.intro h2 (And.intro k1 k2))))
def q1_61 : List (Nat × Instr × Nat) := [(61, .iconst 4, 1)]
theorem e1_61 : am_dec am_M1 q1_61 = true := by decide +kernel
theorem e1_61_r : am_dec am_M1 [(62, .ireturn, 1)] = true := by decide +kernel
theorem b1_61 {d : Nat} {Q : Option Value ⊕ Nat → am_Mem → Prop} {μ : am_Mem} {r0 r1 : Nat}
    (k : Q (.inl (some (.int (Int32.ofInt 4)))) μ) :
    Wp d 1 (61, [some (.ref r0), some (.ref r1)], [], μ) Q := wp_blk rfl e1_61 (wp_ri (ty := .int) rfl e1_61_r rfl ⟨rfl, rfl⟩ k)
def q1_63 : List (Nat × Instr × Nat) := [(63, .aload_n 0, 1), (64, .aload_n 0, 1)]
theorem e1_63 : am_dec am_M1 q1_63 = true := by decide +kernel
theorem e1_63_c : am_dc1 am_M1 65 (.invokevirtual 50) 3 = true := by decide +kernel
theorem b1_63 {d : Nat} {Q : Option Value ⊕ Nat → am_Mem → Prop} {μ : am_Mem} {r0 r1 : Nat} {P : Int32 → am_Mem → Prop} {X : Nat → am_Mem → Prop}
    (hk : am_kd μ r0 = (1, 0))
    (hc : Wp d 13 (0, [some (.ref r0), none, none, none], [], μ) (pI P X)) (hr : ∀ x μ', P x μ' → Wp (d + 1) 1 (68, [some (.ref r0), some (.ref r1)], [.int x, .ref r0], (μ')) Q)
    (hx : ∀ x μ', X x μ' → Q (.inr x) μ') :
    Wp (d + 1) 1 (63, [some (.ref r0), some (.ref r1)], [], μ) Q := wp_blk rfl e1_63 (wp_cv (as := []) rfl e1_63_c rfl rfl rfl rfl rfl hk hc (fun v μ' hv => by obtain ⟨x, rfl, hp⟩ := pI_r hv; exact hr x μ' hp) hx)
def q1_68 : List (Nat × Instr × Nat) := [(68, .putfield 9, 3), (71, .aload_n 0, 1), (72, .getfield 9, 3), (75, .iconst (-1), 1), (76, .if_icmp .eq 5, 3)]
theorem e1_68 : am_dec am_M1 q1_68 = true := by decide +kernel
theorem b1_68 {d : Nat} {Q : Option Value ⊕ Nat → am_Mem → Prop} {μ : am_Mem} {r0 r1 r90 : Nat} {s1 : Int32}
    (h1 : am_kd μ r90 = (1, 0))
    (h2 : am_kd (am_pA μ r90 0 s1) r0 = (1, 0))
    (k1 : (am_A (am_pA μ r90 0 s1) r0 0) = (Int32.ofInt (-1)) → Wp d 1 (81, [some (.ref r0), some (.ref r1)], [], (am_pA μ r90 0 s1)) Q) (k2 : ¬ ((am_A (am_pA μ r90 0 s1) r0 0) = (Int32.ofInt (-1))) → Wp d 1 (79, [some (.ref r0), some (.ref r1)], [], (am_pA μ r90 0 s1)) Q) :
    Wp d 1 (68, [some (.ref r0), some (.ref r1)], [.int s1, .ref r90], μ) Q := wp_blk rfl e1_68 (And.intro h1 (And.intro ⟨rfl, rfl⟩ (And.intro h2 (And.intro k1 k2))))
def q1_79 : List (Nat × Instr × Nat) := [(79, .iconst 5, 1)]
theorem e1_79 : am_dec am_M1 q1_79 = true := by decide +kernel
theorem e1_79_r : am_dec am_M1 [(80, .ireturn, 1)] = true := by decide +kernel
theorem b1_79 {d : Nat} {Q : Option Value ⊕ Nat → am_Mem → Prop} {μ : am_Mem} {r0 r1 : Nat}
    (k : Q (.inl (some (.int (Int32.ofInt 5)))) μ) :
    Wp d 1 (79, [some (.ref r0), some (.ref r1)], [], μ) Q := wp_blk rfl e1_79 (wp_ri (ty := .int) rfl e1_79_r rfl ⟨rfl, rfl⟩ k)
def q1_81 : List (Nat × Instr × Nat) := [(81, .aload_n 0, 1), (82, .aload_n 0, 1)]
theorem e1_81 : am_dec am_M1 q1_81 = true := by decide +kernel
theorem e1_81_c : am_dc1 am_M1 83 (.invokevirtual 53) 3 = true := by decide +kernel
theorem b1_81 {d : Nat} {Q : Option Value ⊕ Nat → am_Mem → Prop} {μ : am_Mem} {r0 r1 : Nat} {P : Int32 → am_Mem → Prop} {X : Nat → am_Mem → Prop}
    (hk : am_kd μ r0 = (1, 0))
    (hc : Wp d 14 (0, [some (.ref r0), none, none, none], [], μ) (pI P X)) (hr : ∀ x μ', P x μ' → Wp (d + 1) 1 (86, [some (.ref r0), some (.ref r1)], [.int x, .ref r0], (μ')) Q)
    (hx : ∀ x μ', X x μ' → Q (.inr x) μ') :
    Wp (d + 1) 1 (81, [some (.ref r0), some (.ref r1)], [], μ) Q := wp_blk rfl e1_81 (wp_cv (as := []) rfl e1_81_c rfl rfl rfl rfl rfl hk hc (fun v μ' hv => by obtain ⟨x, rfl, hp⟩ := pI_r hv; exact hr x μ' hp) hx)
def q1_86 : List (Nat × Instr × Nat) := [(86, .putfield 9, 3), (89, .aload_n 0, 1), (90, .getfield 9, 3), (93, .iconst (-1), 1), (94, .if_icmp .eq 6, 3)]
theorem e1_86 : am_dec am_M1 q1_86 = true := by decide +kernel
theorem b1_86 {d : Nat} {Q : Option Value ⊕ Nat → am_Mem → Prop} {μ : am_Mem} {r0 r1 r90 : Nat} {s1 : Int32}
    (h1 : am_kd μ r90 = (1, 0))
    (h2 : am_kd (am_pA μ r90 0 s1) r0 = (1, 0))
    (k1 : (am_A (am_pA μ r90 0 s1) r0 0) = (Int32.ofInt (-1)) → Wp d 1 (100, [some (.ref r0), some (.ref r1)], [], (am_pA μ r90 0 s1)) Q) (k2 : ¬ ((am_A (am_pA μ r90 0 s1) r0 0) = (Int32.ofInt (-1))) → Wp d 1 (97, [some (.ref r0), some (.ref r1)], [], (am_pA μ r90 0 s1)) Q) :
    Wp d 1 (86, [some (.ref r0), some (.ref r1)], [.int s1, .ref r90], μ) Q := wp_blk rfl e1_86 (And.intro h1 (And.intro ⟨rfl, rfl⟩ (And.intro h2 (And.intro k1 k2))))
def q1_97 : List (Nat × Instr × Nat) := [(97, .bipush 6, 2)]
theorem e1_97 : am_dec am_M1 q1_97 = true := by decide +kernel
theorem e1_97_r : am_dec am_M1 [(99, .ireturn, 1)] = true := by decide +kernel
theorem b1_97 {d : Nat} {Q : Option Value ⊕ Nat → am_Mem → Prop} {μ : am_Mem} {r0 r1 : Nat}
    (k : Q (.inl (some (.int ((Int8.ofInt 6).toInt32)))) μ) :
    Wp d 1 (97, [some (.ref r0), some (.ref r1)], [], μ) Q := wp_blk rfl e1_97 (wp_ri (ty := .int) rfl e1_97_r rfl ⟨rfl, rfl⟩ k)
def q1_100 : List (Nat × Instr × Nat) := [(100, .aload_n 0, 1), (101, .aload_n 0, 1)]
theorem e1_100 : am_dec am_M1 q1_100 = true := by decide +kernel
theorem e1_100_c : am_dc1 am_M1 102 (.invokevirtual 56) 3 = true := by decide +kernel
theorem b1_100 {d : Nat} {Q : Option Value ⊕ Nat → am_Mem → Prop} {μ : am_Mem} {r0 r1 : Nat} {P : Int32 → am_Mem → Prop} {X : Nat → am_Mem → Prop}
    (hk : am_kd μ r0 = (1, 0))
    (hc : Wp d 16 (0, [some (.ref r0), none, none], [], μ) (pI P X)) (hr : ∀ x μ', P x μ' → Wp (d + 1) 1 (105, [some (.ref r0), some (.ref r1)], [.int x, .ref r0], (μ')) Q)
    (hx : ∀ x μ', X x μ' → Q (.inr x) μ') :
    Wp (d + 1) 1 (100, [some (.ref r0), some (.ref r1)], [], μ) Q := wp_blk rfl e1_100 (wp_cv (as := []) rfl e1_100_c rfl rfl rfl rfl rfl hk hc (fun v μ' hv => by obtain ⟨x, rfl, hp⟩ := pI_r hv; exact hr x μ' hp) hx)
def q1_105 : List (Nat × Instr × Nat) := [(105, .putfield 9, 3), (108, .aload_n 0, 1), (109, .getfield 9, 3), (112, .iconst (-1), 1), (113, .if_icmp .eq 6, 3)]
theorem e1_105 : am_dec am_M1 q1_105 = true := by decide +kernel
theorem b1_105 {d : Nat} {Q : Option Value ⊕ Nat → am_Mem → Prop} {μ : am_Mem} {r0 r1 r90 : Nat} {s1 : Int32}
    (h1 : am_kd μ r90 = (1, 0))
    (h2 : am_kd (am_pA μ r90 0 s1) r0 = (1, 0))
    (k1 : (am_A (am_pA μ r90 0 s1) r0 0) = (Int32.ofInt (-1)) → Wp d 1 (119, [some (.ref r0), some (.ref r1)], [], (am_pA μ r90 0 s1)) Q) (k2 : ¬ ((am_A (am_pA μ r90 0 s1) r0 0) = (Int32.ofInt (-1))) → Wp d 1 (116, [some (.ref r0), some (.ref r1)], [], (am_pA μ r90 0 s1)) Q) :
    Wp d 1 (105, [some (.ref r0), some (.ref r1)], [.int s1, .ref r90], μ) Q := wp_blk rfl e1_105 (And.intro h1 (And.intro ⟨rfl, rfl⟩ (And.intro h2 (And.intro k1 k2))))
def q1_116 : List (Nat × Instr × Nat) := [(116, .bipush 7, 2)]
theorem e1_116 : am_dec am_M1 q1_116 = true := by decide +kernel
theorem e1_116_r : am_dec am_M1 [(118, .ireturn, 1)] = true := by decide +kernel
theorem b1_116 {d : Nat} {Q : Option Value ⊕ Nat → am_Mem → Prop} {μ : am_Mem} {r0 r1 : Nat}
    (k : Q (.inl (some (.int ((Int8.ofInt 7).toInt32)))) μ) :
    Wp d 1 (116, [some (.ref r0), some (.ref r1)], [], μ) Q := wp_blk rfl e1_116 (wp_ri (ty := .int) rfl e1_116_r rfl ⟨rfl, rfl⟩ k)
def q1_119 : List (Nat × Instr × Nat) := [(119, .aload_n 0, 1)]
theorem e1_119 : am_dec am_M1 q1_119 = true := by decide +kernel
theorem e1_119_c : am_dc1 am_M1 120 (.invokevirtual 59) 3 = true := by decide +kernel
theorem b1_119 {d : Nat} {Q : Option Value ⊕ Nat → am_Mem → Prop} {μ : am_Mem} {r0 r1 : Nat} {P : am_Mem → Prop} {X : Nat → am_Mem → Prop}
    (hk : am_kd μ r0 = (1, 0))
    (hc : Wp d 20 (0, [some (.ref r0), none, none], [], μ) (pV P X)) (hr : ∀ μ', P μ' → Wp (d + 1) 1 (123, [some (.ref r0), some (.ref r1)], [], (μ')) Q)
    (hx : ∀ x μ', X x μ' → Q (.inr x) μ') :
    Wp (d + 1) 1 (119, [some (.ref r0), some (.ref r1)], [], μ) Q := wp_blk rfl e1_119 (wp_cv (as := []) rfl e1_119_c rfl rfl rfl rfl rfl hk hc (fun v μ' hv => by obtain ⟨rfl, hp⟩ := pV_r hv; exact hr μ' hp) hx)
def q1_123 : List (Nat × Instr × Nat) := [(123, .iconst 0, 1)]
theorem e1_123 : am_dec am_M1 q1_123 = true := by decide +kernel
theorem e1_123_r : am_dec am_M1 [(124, .ireturn, 1)] = true := by decide +kernel
theorem b1_123 {d : Nat} {Q : Option Value ⊕ Nat → am_Mem → Prop} {μ : am_Mem} {r0 r1 : Nat}
    (k : Q (.inl (some (.int (Int32.ofInt 0)))) μ) :
    Wp d 1 (123, [some (.ref r0), some (.ref r1)], [], μ) Q := wp_blk rfl e1_123 (wp_ri (ty := .int) rfl e1_123_r rfl ⟨rfl, rfl⟩ k)
/-! RuleSheets$Checker.findWidth()I -/
def q2_0 : List (Nat × Instr × Nat) := [(0, .aload_n 0, 1), (1, .getfield 15, 3), (4, .iconst (-1), 1)]
theorem e2_0 : am_dec am_M2 q2_0 = true := by decide +kernel
theorem e2_0_c : am_dc1 am_M2 5 (.invokestatic 77) 3 = true := by decide +kernel
theorem b2_0 {d : Nat} {Q : Option Value ⊕ Nat → am_Mem → Prop} {μ : am_Mem} {r0 : Nat} {P : am_Mem → Prop} {X : Nat → am_Mem → Prop}
    (h1 : am_kd μ r0 = (1, 0))
    (h2 : ¬ am_F μ r0 2 = 15)
    (hc : Wp d 290 (0, [some (.ref (am_F μ r0 2)), some (.int (Int32.ofInt (-1))), none, none], [], μ) (pV P X)) (hr : ∀ μ', P μ' → Wp (d + 1) 2 (8, [some (.ref r0), none, none, none], [], (μ')) Q)
    (hx : ∀ x μ', X x μ' → Q (.inr x) μ') :
    Wp (d + 1) 2 (0, [some (.ref r0), none, none, none], [], μ) Q := wp_blk rfl e2_0 (And.intro h1 (And.intro h2 (wp_cs (vs := [.ref (am_F μ r0 2), .int (Int32.ofInt (-1))]) rfl e2_0_c rfl rfl rfl rfl rfl hc (fun v μ' hv => by obtain ⟨rfl, hp⟩ := pV_r hv; exact hr μ' hp) hx)))
def q2_8 : List (Nat × Instr × Nat) := [(8, .getstatic 83, 3), (11, .iconst 0, 1), (12, .aload_n 0, 1), (13, .getfield 15, 3), (16, .iconst 0, 1), (17, .getstatic 83, 3), (20, .arraylength, 1), (21, .invokestatic 86, 3), (24, .iconst 0, 1), (25, .istore_n 1, 1)]
theorem e2_8 : am_dec am_M2 q2_8 = true := by decide +kernel
theorem b2_8 {d : Nat} {Q : Option Value ⊕ Nat → am_Mem → Prop} {μ : am_Mem} {r0 : Nat}
    (h1 : am_kd μ r0 = (1, 0))
    (h2 : ¬ am_F μ r0 2 = 15)
    (h3 : 2 ≤ (am_kd μ 1).1 ∧ (am_kd μ 1).1 ≤ 10 ∧ ¬ (am_kd μ 1).1 = 9)
    (h4 : (((am_kd μ 1).1 = 2 ∨ (am_kd μ 1).1 = 8) ∧ (am_kd μ (am_F μ r0 2)).1 = 2) ∨ ((am_kd μ 1).1 = 7 ∧ (am_kd μ (am_F μ r0 2)).1 = 7 ∧ ∀ i, i < (Int32.ofNat (am_kd μ 1).2).toNatClampNeg → fits .short (.int (am_A μ 1 ((Int32.ofInt 0).toNatClampNeg + i))) = true))
    (h5 : ¬ (Int32.ofNat (am_kd μ 1).2) < 0 ∧ ¬ (Int32.ofInt 0) < 0 ∧ ¬ (Int32.ofInt 0) < 0)
    (h6 : (Int32.ofInt 0).toNatClampNeg + (Int32.ofNat (am_kd μ 1).2).toNatClampNeg ≤ (am_kd μ 1).2 ∧ (Int32.ofInt 0).toNatClampNeg + (Int32.ofNat (am_kd μ 1).2).toNatClampNeg ≤ (am_kd μ (am_F μ r0 2)).2)
    (k : Wp d 2 (26, [some (.ref r0), some (.int (Int32.ofInt 0)), none, none], [], (am_wA μ (am_F μ r0 2) (am_cp (am_A μ 1) (am_A μ (am_F μ r0 2)) (Int32.ofInt 0).toNatClampNeg (Int32.ofInt 0).toNatClampNeg (Int32.ofNat (am_kd μ 1).2).toNatClampNeg))) Q) :
    Wp d 2 (8, [some (.ref r0), none, none, none], [], μ) Q := wp_blk rfl e2_8 (And.intro h1 (And.intro h2 (And.intro h3 (And.intro h4 (And.intro h5 (And.intro h6 k))))))
def q2_26 : List (Nat × Instr × Nat) := [(26, .iload_n 1, 1), (27, .aload_n 0, 1), (28, .getfield 33, 3), (31, .getfield 92, 3), (34, .if_icmp .ge 123, 3)]
theorem e2_26 : am_dec am_M2 q2_26 = true := by decide +kernel
theorem b2_26 {d : Nat} {Q : Option Value ⊕ Nat → am_Mem → Prop} {μ : am_Mem} {r0 : Nat} {x1 : Int32} {o2 o3 : Option Value}
    (h1 : am_kd μ r0 = (1, 0))
    (h2 : ¬ am_F μ r0 1 = 15)
    (h3 : am_kd μ (am_F μ r0 1) = (1, 5))
    (k1 : (am_A μ (am_F μ r0 1) 13) ≤ x1 → Wp d 2 (157, [some (.ref r0), some (.int x1), o2, o3], [], μ) Q) (k2 : ¬ ((am_A μ (am_F μ r0 1) 13) ≤ x1) → Wp d 2 (37, [some (.ref r0), some (.int x1), o2, o3], [], μ) Q) :
    Wp d 2 (26, [some (.ref r0), some (.int x1), o2, o3], [], μ) Q := wp_blk rfl e2_26 (And.intro h1 (And.intro h2 (And.intro h3 (And.intro k1 k2))))
def q2_37 : List (Nat × Instr × Nat) := [(37, .aload_n 0, 1), (38, .aload_n 0, 1), (39, .getfield 33, 3), (42, .getfield 67, 3), (45, .iload_n 1, 1), (46, .iaload, 1)]
theorem e2_37 : am_dec am_M2 q2_37 = true := by decide +kernel
theorem e2_37_c : am_dc1 am_M2 47 (.invokevirtual 95) 3 = true := by decide +kernel
theorem b2_37 {d : Nat} {Q : Option Value ⊕ Nat → am_Mem → Prop} {μ : am_Mem} {r0 : Nat} {x1 : Int32} {o2 o3 : Option Value} {P : Int32 → am_Mem → Prop} {X : Nat → am_Mem → Prop}
    (h1 : am_kd μ r0 = (1, 0))
    (h2 : ¬ am_F μ r0 1 = 15)
    (h3 : am_kd μ (am_F μ r0 1) = (1, 5))
    (h4 : ¬ am_F μ (am_F μ r0 1) 7 = 15)
    (h5 : (am_kd μ (am_F μ (am_F μ r0 1) 7)).1 = 2 ∨ (am_kd μ (am_F μ (am_F μ r0 1) 7)).1 = 8)
    (h6 : ¬ (x1 < 0 ∨ (am_kd μ (am_F μ (am_F μ r0 1) 7)).2 ≤ x1.toNatClampNeg))
    (hk : am_kd μ r0 = (1, 0))
    (hc : Wp d 3 (0, [some (.ref r0), some (.int (am_A μ (am_F μ (am_F μ r0 1) 7) x1.toNatClampNeg)), none], [], μ) (pI P X)) (hr : ∀ x μ', P x μ' → Wp (d + 1) 2 (50, [some (.ref r0), some (.int x1), o2, o3], [.int x], (μ')) Q)
    (hx : ∀ x μ', X x μ' → Q (.inr x) μ') :
    Wp (d + 1) 2 (37, [some (.ref r0), some (.int x1), o2, o3], [], μ) Q := wp_blk rfl e2_37 (And.intro h1 (And.intro h2 (And.intro h3 (And.intro h4 (And.intro h5 (And.intro h6 (wp_cv (as := [.int (am_A μ (am_F μ (am_F μ r0 1) 7) x1.toNatClampNeg)]) rfl e2_37_c rfl rfl rfl rfl rfl hk hc (fun v μ' hv => by obtain ⟨x, rfl, hp⟩ := pI_r hv; exact hr x μ' hp) hx)))))))
def q2_50 : List (Nat × Instr × Nat) := [(50, .istore_n 2, 1), (51, .iconst 0, 1), (52, .istore_n 3, 1)]
theorem e2_50 : am_dec am_M2 q2_50 = true := by decide +kernel
theorem b2_50 {d : Nat} {Q : Option Value ⊕ Nat → am_Mem → Prop} {μ : am_Mem} {r0 : Nat} {x1 s0 : Int32} {o2 o3 : Option Value}
    (k : Wp d 2 (53, [some (.ref r0), some (.int x1), some (.int s0), some (.int (Int32.ofInt 0))], [], μ) Q) :
    Wp d 2 (50, [some (.ref r0), some (.int x1), o2, o3], [.int s0], μ) Q := wp_blk rfl e2_50 k
def q2_53 : List (Nat × Instr × Nat) := [(53, .iload_n 3, 1), (54, .aload_n 0, 1), (55, .getfield 33, 3), (58, .getfield 99, 3), (61, .iload_n 1, 1), (62, .iaload, 1), (63, .if_icmp .ge 35, 3)]
theorem e2_53 : am_dec am_M2 q2_53 = true := by decide +kernel
theorem b2_53 {d : Nat} {Q : Option Value ⊕ Nat → am_Mem → Prop} {μ : am_Mem} {r0 : Nat} {x1 x2 x3 : Int32}
    (h1 : am_kd μ r0 = (1, 0))
    (h2 : ¬ am_F μ r0 1 = 15)
    (h3 : am_kd μ (am_F μ r0 1) = (1, 5))
    (h4 : ¬ am_F μ (am_F μ r0 1) 9 = 15)
    (h5 : (am_kd μ (am_F μ (am_F μ r0 1) 9)).1 = 2 ∨ (am_kd μ (am_F μ (am_F μ r0 1) 9)).1 = 8)
    (h6 : ¬ (x1 < 0 ∨ (am_kd μ (am_F μ (am_F μ r0 1) 9)).2 ≤ x1.toNatClampNeg))
    (k1 : (am_A μ (am_F μ (am_F μ r0 1) 9) x1.toNatClampNeg) ≤ x3 → Wp d 2 (98, [some (.ref r0), some (.int x1), some (.int x2), some (.int x3)], [], μ) Q) (k2 : ¬ ((am_A μ (am_F μ (am_F μ r0 1) 9) x1.toNatClampNeg) ≤ x3) → Wp d 2 (66, [some (.ref r0), some (.int x1), some (.int x2), some (.int x3)], [], μ) Q) :
    Wp d 2 (53, [some (.ref r0), some (.int x1), some (.int x2), some (.int x3)], [], μ) Q := wp_blk rfl e2_53 (And.intro h1 (And.intro h2 (And.intro h3 (And.intro h4 (And.intro h5 (And.intro h6 (And.intro k1 k2)))))))
def q2_66 : List (Nat × Instr × Nat) := [(66, .iload_n 2, 1), (67, .ifCond .eq 23, 3)]
theorem e2_66 : am_dec am_M2 q2_66 = true := by decide +kernel
theorem b2_66 {d : Nat} {Q : Option Value ⊕ Nat → am_Mem → Prop} {μ : am_Mem} {r0 : Nat} {x1 x2 x3 : Int32}
    (k1 : x2 = 0 → Wp d 2 (90, [some (.ref r0), some (.int x1), some (.int x2), some (.int x3)], [], μ) Q) (k2 : ¬ (x2 = 0) → Wp d 2 (70, [some (.ref r0), some (.int x1), some (.int x2), some (.int x3)], [], μ) Q) :
    Wp d 2 (66, [some (.ref r0), some (.int x1), some (.int x2), some (.int x3)], [], μ) Q := wp_blk rfl e2_66 (And.intro k1 k2)
def q2_70 : List (Nat × Instr × Nat) := [(70, .aload_n 0, 1), (71, .aload_n 0, 1), (72, .getfield 33, 3), (75, .iload_n 1, 1), (76, .iload_n 3, 1)]
theorem e2_70 : am_dec am_M2 q2_70 = true := by decide +kernel
theorem e2_70_c : am_dc1 am_M2 77 (.invokevirtual 70) 3 = true := by decide +kernel
theorem b2_70 {d : Nat} {Q : Option Value ⊕ Nat → am_Mem → Prop} {μ : am_Mem} {r0 : Nat} {x1 x2 x3 : Int32} {P : Int32 → am_Mem → Prop} {X : Nat → am_Mem → Prop}
    (h1 : am_kd μ r0 = (1, 0))
    (h2 : ¬ am_F μ r0 1 = 15)
    (hk : am_kd μ (am_F μ r0 1) = (1, 5))
    (hc : Wp d 69 (0, [some (.ref (am_F μ r0 1)), some (.int x1), some (.int x3)], [], μ) (pI P X)) (hr : ∀ x μ', P x μ' → Wp (d + 1) 2 (80, [some (.ref r0), some (.int x1), some (.int x2), some (.int x3)], [.int x, .ref r0], (μ')) Q)
    (hx : ∀ x μ', X x μ' → Q (.inr x) μ') :
    Wp (d + 1) 2 (70, [some (.ref r0), some (.int x1), some (.int x2), some (.int x3)], [], μ) Q := wp_blk rfl e2_70 (And.intro h1 (And.intro h2 (wp_cv (as := [.int x1, .int x3]) rfl e2_70_c rfl rfl rfl rfl rfl hk hc (fun v μ' hv => by obtain ⟨x, rfl, hp⟩ := pI_r hv; exact hr x μ' hp) hx)))
theorem e2_80_c : am_dc1 am_M2 80 (.invokevirtual 95) 3 = true := by decide +kernel
theorem b2_80 {d : Nat} {Q : Option Value ⊕ Nat → am_Mem → Prop} {μ : am_Mem} {r0 r90 : Nat} {x1 x2 x3 s1 : Int32} {P : Int32 → am_Mem → Prop} {X : Nat → am_Mem → Prop}
    (hk : am_kd μ r90 = (1, 0))
    (hc : Wp d 3 (0, [some (.ref r90), some (.int s1), none], [], μ) (pI P X)) (hr : ∀ x μ', P x μ' → Wp (d + 1) 2 (83, [some (.ref r0), some (.int x1), some (.int x2), some (.int x3)], [.int x], (μ')) Q)
    (hx : ∀ x μ', X x μ' → Q (.inr x) μ') :
    Wp (d + 1) 2 (80, [some (.ref r0), some (.int x1), some (.int x2), some (.int x3)], [.int s1, .ref r90], μ) Q := (wp_cv (as := [.int s1]) rfl e2_80_c rfl rfl rfl rfl rfl hk hc (fun v μ' hv => by obtain ⟨x, rfl, hp⟩ := pI_r hv; exact hr x μ' hp) hx)
def q2_83 : List (Nat × Instr × Nat) := [(83, .ifCond .eq 7, 3)]
theorem e2_83 : am_dec am_M2 q2_83 = true := by decide +kernel
theorem b2_83 {d : Nat} {Q : Option Value ⊕ Nat → am_Mem → Prop} {μ : am_Mem} {r0 : Nat} {x1 x2 x3 s0 : Int32}
    (k1 : s0 = 0 → Wp d 2 (90, [some (.ref r0), some (.int x1), some (.int x2), some (.int x3)], [], μ) Q) (k2 : ¬ (s0 = 0) → Wp d 2 (86, [some (.ref r0), some (.int x1), some (.int x2), some (.int x3)], [], μ) Q) :
    Wp d 2 (83, [some (.ref r0), some (.int x1), some (.int x2), some (.int x3)], [.int s0], μ) Q := wp_blk rfl e2_83 (And.intro k1 k2)
def q2_86 : List (Nat × Instr × Nat) := [(86, .iconst 1, 1), (87, .goto 4, 3)]
theorem e2_86 : am_dec am_M2 q2_86 = true := by decide +kernel
theorem b2_86 {d : Nat} {Q : Option Value ⊕ Nat → am_Mem → Prop} {μ : am_Mem} {r0 : Nat} {x1 x2 x3 : Int32}
    (k : Wp d 2 (91, [some (.ref r0), some (.int x1), some (.int x2), some (.int x3)], [.int (Int32.ofInt 1)], μ) Q) :
    Wp d 2 (86, [some (.ref r0), some (.int x1), some (.int x2), some (.int x3)], [], μ) Q := wp_blk rfl e2_86 k
def q2_90 : List (Nat × Instr × Nat) := [(90, .iconst 0, 1)]
theorem e2_90 : am_dec am_M2 q2_90 = true := by decide +kernel
theorem b2_90 {d : Nat} {Q : Option Value ⊕ Nat → am_Mem → Prop} {μ : am_Mem} {r0 : Nat} {x1 x2 x3 : Int32}
    (k : Wp d 2 (91, [some (.ref r0), some (.int x1), some (.int x2), some (.int x3)], [.int (Int32.ofInt 0)], μ) Q) :
    Wp d 2 (90, [some (.ref r0), some (.int x1), some (.int x2), some (.int x3)], [], μ) Q := wp_blk rfl e2_90 k
def q2_91 : List (Nat × Instr × Nat) := [(91, .istore_n 2, 1), (92, .iinc 3 1, 3), (95, .goto (-42), 3)]
theorem e2_91 : am_dec am_M2 q2_91 = true := by decide +kernel
theorem b2_91 {d : Nat} {Q : Option Value ⊕ Nat → am_Mem → Prop} {μ : am_Mem} {r0 : Nat} {x1 x2 x3 s0 : Int32}
    (k : Wp d 2 (53, [some (.ref r0), some (.int x1), some (.int s0), some (.int (x3 + Int32.ofInt 1))], [], μ) Q) :
    Wp d 2 (91, [some (.ref r0), some (.int x1), some (.int x2), some (.int x3)], [.int s0], μ) Q := wp_blk rfl e2_91 k
def q2_98 : List (Nat × Instr × Nat) := [(98, .iconst 0, 1), (99, .istore_n 3, 1)]
theorem e2_98 : am_dec am_M2 q2_98 = true := by decide +kernel
theorem b2_98 {d : Nat} {Q : Option Value ⊕ Nat → am_Mem → Prop} {μ : am_Mem} {r0 : Nat} {x1 x2 x3 : Int32}
    (k : Wp d 2 (100, [some (.ref r0), some (.int x1), some (.int x2), some (.int (Int32.ofInt 0))], [], μ) Q) :
    Wp d 2 (98, [some (.ref r0), some (.int x1), some (.int x2), some (.int x3)], [], μ) Q := wp_blk rfl e2_98 k
def q2_100 : List (Nat × Instr × Nat) := [(100, .iload_n 3, 1), (101, .aload_n 0, 1), (102, .getfield 33, 3), (105, .getfield 102, 3), (108, .iload_n 1, 1), (109, .iaload, 1), (110, .if_icmp .ge 35, 3)]
theorem e2_100 : am_dec am_M2 q2_100 = true := by decide +kernel
theorem b2_100 {d : Nat} {Q : Option Value ⊕ Nat → am_Mem → Prop} {μ : am_Mem} {r0 : Nat} {x1 x2 x3 : Int32}
    (h1 : am_kd μ r0 = (1, 0))
    (h2 : ¬ am_F μ r0 1 = 15)
    (h3 : am_kd μ (am_F μ r0 1) = (1, 5))
    (h4 : ¬ am_F μ (am_F μ r0 1) 12 = 15)
    (h5 : (am_kd μ (am_F μ (am_F μ r0 1) 12)).1 = 2 ∨ (am_kd μ (am_F μ (am_F μ r0 1) 12)).1 = 8)
    (h6 : ¬ (x1 < 0 ∨ (am_kd μ (am_F μ (am_F μ r0 1) 12)).2 ≤ x1.toNatClampNeg))
    (k1 : (am_A μ (am_F μ (am_F μ r0 1) 12) x1.toNatClampNeg) ≤ x3 → Wp d 2 (145, [some (.ref r0), some (.int x1), some (.int x2), some (.int x3)], [], μ) Q) (k2 : ¬ ((am_A μ (am_F μ (am_F μ r0 1) 12) x1.toNatClampNeg) ≤ x3) → Wp d 2 (113, [some (.ref r0), some (.int x1), some (.int x2), some (.int x3)], [], μ) Q) :
    Wp d 2 (100, [some (.ref r0), some (.int x1), some (.int x2), some (.int x3)], [], μ) Q := wp_blk rfl e2_100 (And.intro h1 (And.intro h2 (And.intro h3 (And.intro h4 (And.intro h5 (And.intro h6 (And.intro k1 k2)))))))
def q2_113 : List (Nat × Instr × Nat) := [(113, .iload_n 2, 1), (114, .ifCond .eq 23, 3)]
theorem e2_113 : am_dec am_M2 q2_113 = true := by decide +kernel
theorem b2_113 {d : Nat} {Q : Option Value ⊕ Nat → am_Mem → Prop} {μ : am_Mem} {r0 : Nat} {x1 x2 x3 : Int32}
    (k1 : x2 = 0 → Wp d 2 (137, [some (.ref r0), some (.int x1), some (.int x2), some (.int x3)], [], μ) Q) (k2 : ¬ (x2 = 0) → Wp d 2 (117, [some (.ref r0), some (.int x1), some (.int x2), some (.int x3)], [], μ) Q) :
    Wp d 2 (113, [some (.ref r0), some (.int x1), some (.int x2), some (.int x3)], [], μ) Q := wp_blk rfl e2_113 (And.intro k1 k2)
def q2_117 : List (Nat × Instr × Nat) := [(117, .aload_n 0, 1), (118, .aload_n 0, 1), (119, .getfield 33, 3), (122, .iload_n 1, 1), (123, .iload_n 3, 1)]
theorem e2_117 : am_dec am_M2 q2_117 = true := by decide +kernel
theorem e2_117_c : am_dc1 am_M2 124 (.invokevirtual 74) 3 = true := by decide +kernel
theorem b2_117 {d : Nat} {Q : Option Value ⊕ Nat → am_Mem → Prop} {μ : am_Mem} {r0 : Nat} {x1 x2 x3 : Int32} {P : Int32 → am_Mem → Prop} {X : Nat → am_Mem → Prop}
    (h1 : am_kd μ r0 = (1, 0))
    (h2 : ¬ am_F μ r0 1 = 15)
    (hk : am_kd μ (am_F μ r0 1) = (1, 5))
    (hc : Wp d 70 (0, [some (.ref (am_F μ r0 1)), some (.int x1), some (.int x3)], [], μ) (pI P X)) (hr : ∀ x μ', P x μ' → Wp (d + 1) 2 (127, [some (.ref r0), some (.int x1), some (.int x2), some (.int x3)], [.int x, .ref r0], (μ')) Q)
    (hx : ∀ x μ', X x μ' → Q (.inr x) μ') :
    Wp (d + 1) 2 (117, [some (.ref r0), some (.int x1), some (.int x2), some (.int x3)], [], μ) Q := wp_blk rfl e2_117 (And.intro h1 (And.intro h2 (wp_cv (as := [.int x1, .int x3]) rfl e2_117_c rfl rfl rfl rfl rfl hk hc (fun v μ' hv => by obtain ⟨x, rfl, hp⟩ := pI_r hv; exact hr x μ' hp) hx)))
theorem e2_127_c : am_dc1 am_M2 127 (.invokevirtual 95) 3 = true := by decide +kernel
theorem b2_127 {d : Nat} {Q : Option Value ⊕ Nat → am_Mem → Prop} {μ : am_Mem} {r0 r90 : Nat} {x1 x2 x3 s1 : Int32} {P : Int32 → am_Mem → Prop} {X : Nat → am_Mem → Prop}
    (hk : am_kd μ r90 = (1, 0))
    (hc : Wp d 3 (0, [some (.ref r90), some (.int s1), none], [], μ) (pI P X)) (hr : ∀ x μ', P x μ' → Wp (d + 1) 2 (130, [some (.ref r0), some (.int x1), some (.int x2), some (.int x3)], [.int x], (μ')) Q)
    (hx : ∀ x μ', X x μ' → Q (.inr x) μ') :
    Wp (d + 1) 2 (127, [some (.ref r0), some (.int x1), some (.int x2), some (.int x3)], [.int s1, .ref r90], μ) Q := (wp_cv (as := [.int s1]) rfl e2_127_c rfl rfl rfl rfl rfl hk hc (fun v μ' hv => by obtain ⟨x, rfl, hp⟩ := pI_r hv; exact hr x μ' hp) hx)
def q2_130 : List (Nat × Instr × Nat) := [(130, .ifCond .eq 7, 3)]
theorem e2_130 : am_dec am_M2 q2_130 = true := by decide +kernel
theorem b2_130 {d : Nat} {Q : Option Value ⊕ Nat → am_Mem → Prop} {μ : am_Mem} {r0 : Nat} {x1 x2 x3 s0 : Int32}
    (k1 : s0 = 0 → Wp d 2 (137, [some (.ref r0), some (.int x1), some (.int x2), some (.int x3)], [], μ) Q) (k2 : ¬ (s0 = 0) → Wp d 2 (133, [some (.ref r0), some (.int x1), some (.int x2), some (.int x3)], [], μ) Q) :
    Wp d 2 (130, [some (.ref r0), some (.int x1), some (.int x2), some (.int x3)], [.int s0], μ) Q := wp_blk rfl e2_130 (And.intro k1 k2)
def q2_133 : List (Nat × Instr × Nat) := [(133, .iconst 1, 1), (134, .goto 4, 3)]
theorem e2_133 : am_dec am_M2 q2_133 = true := by decide +kernel
theorem b2_133 {d : Nat} {Q : Option Value ⊕ Nat → am_Mem → Prop} {μ : am_Mem} {r0 : Nat} {x1 x2 x3 : Int32}
    (k : Wp d 2 (138, [some (.ref r0), some (.int x1), some (.int x2), some (.int x3)], [.int (Int32.ofInt 1)], μ) Q) :
    Wp d 2 (133, [some (.ref r0), some (.int x1), some (.int x2), some (.int x3)], [], μ) Q := wp_blk rfl e2_133 k
def q2_137 : List (Nat × Instr × Nat) := [(137, .iconst 0, 1)]
theorem e2_137 : am_dec am_M2 q2_137 = true := by decide +kernel
theorem b2_137 {d : Nat} {Q : Option Value ⊕ Nat → am_Mem → Prop} {μ : am_Mem} {r0 : Nat} {x1 x2 x3 : Int32}
    (k : Wp d 2 (138, [some (.ref r0), some (.int x1), some (.int x2), some (.int x3)], [.int (Int32.ofInt 0)], μ) Q) :
    Wp d 2 (137, [some (.ref r0), some (.int x1), some (.int x2), some (.int x3)], [], μ) Q := wp_blk rfl e2_137 k
def q2_138 : List (Nat × Instr × Nat) := [(138, .istore_n 2, 1), (139, .iinc 3 1, 3), (142, .goto (-42), 3)]
theorem e2_138 : am_dec am_M2 q2_138 = true := by decide +kernel
theorem b2_138 {d : Nat} {Q : Option Value ⊕ Nat → am_Mem → Prop} {μ : am_Mem} {r0 : Nat} {x1 x2 x3 s0 : Int32}
    (k : Wp d 2 (100, [some (.ref r0), some (.int x1), some (.int s0), some (.int (x3 + Int32.ofInt 1))], [], μ) Q) :
    Wp d 2 (138, [some (.ref r0), some (.int x1), some (.int x2), some (.int x3)], [.int s0], μ) Q := wp_blk rfl e2_138 k
def q2_145 : List (Nat × Instr × Nat) := [(145, .iload_n 2, 1), (146, .ifCond .ne 5, 3)]
theorem e2_145 : am_dec am_M2 q2_145 = true := by decide +kernel
theorem b2_145 {d : Nat} {Q : Option Value ⊕ Nat → am_Mem → Prop} {μ : am_Mem} {r0 : Nat} {x1 x2 x3 : Int32}
    (k1 : ¬ x2 = 0 → Wp d 2 (151, [some (.ref r0), some (.int x1), some (.int x2), some (.int x3)], [], μ) Q) (k2 : ¬ (¬ x2 = 0) → Wp d 2 (149, [some (.ref r0), some (.int x1), some (.int x2), some (.int x3)], [], μ) Q) :
    Wp d 2 (145, [some (.ref r0), some (.int x1), some (.int x2), some (.int x3)], [], μ) Q := wp_blk rfl e2_145 (And.intro k1 k2)
def q2_149 : List (Nat × Instr × Nat) := [(149, .iload_n 1, 1)]
theorem e2_149 : am_dec am_M2 q2_149 = true := by decide +kernel
theorem e2_149_r : am_dec am_M2 [(150, .ireturn, 1)] = true := by decide +kernel
theorem b2_149 {d : Nat} {Q : Option Value ⊕ Nat → am_Mem → Prop} {μ : am_Mem} {r0 : Nat} {x1 x2 x3 : Int32}
    (k : Q (.inl (some (.int x1))) μ) :
    Wp d 2 (149, [some (.ref r0), some (.int x1), some (.int x2), some (.int x3)], [], μ) Q := wp_blk rfl e2_149 (wp_ri (ty := .int) rfl e2_149_r rfl ⟨rfl, rfl⟩ k)
def q2_151 : List (Nat × Instr × Nat) := [(151, .iinc 1 1, 3), (154, .goto (-128), 3)]
theorem e2_151 : am_dec am_M2 q2_151 = true := by decide +kernel
theorem b2_151 {d : Nat} {Q : Option Value ⊕ Nat → am_Mem → Prop} {μ : am_Mem} {r0 : Nat} {x1 x2 x3 : Int32}
    (k : Wp d 2 (26, [some (.ref r0), some (.int (x1 + Int32.ofInt 1)), some (.int x2), some (.int x3)], [], μ) Q) :
    Wp d 2 (151, [some (.ref r0), some (.int x1), some (.int x2), some (.int x3)], [], μ) Q := wp_blk rfl e2_151 k
def q2_157 : List (Nat × Instr × Nat) := [(157, .iconst (-1), 1)]
theorem e2_157 : am_dec am_M2 q2_157 = true := by decide +kernel
theorem e2_157_r : am_dec am_M2 [(158, .ireturn, 1)] = true := by decide +kernel
theorem b2_157 {d : Nat} {Q : Option Value ⊕ Nat → am_Mem → Prop} {μ : am_Mem} {r0 : Nat} {x1 : Int32} {o2 o3 : Option Value}
    (k : Q (.inl (some (.int (Int32.ofInt (-1))))) μ) :
    Wp d 2 (157, [some (.ref r0), some (.int x1), o2, o3], [], μ) Q := wp_blk rfl e2_157 (wp_ri (ty := .int) rfl e2_157_r rfl ⟨rfl, rfl⟩ k)
/-! RuleSheets$Checker.hasWidth(I)Z -/
def q3_0 : List (Nat × Instr × Nat) := [(0, .aload_n 0, 1), (1, .getfield 33, 3), (4, .getfield 62, 3), (7, .iload_n 1, 1), (8, .iaload, 1), (9, .istore_n 2, 1), (10, .iload_n 2, 1), (11, .bipush 9, 2), (13, .if_icmp .ne 5, 3)]
theorem e3_0 : am_dec am_M3 q3_0 = true := by decide +kernel
theorem b3_0 {d : Nat} {Q : Option Value ⊕ Nat → am_Mem → Prop} {μ : am_Mem} {r0 : Nat} {x1 : Int32}
    (h1 : am_kd μ r0 = (1, 0))
    (h2 : ¬ am_F μ r0 1 = 15)
    (h3 : am_kd μ (am_F μ r0 1) = (1, 5))
    (h4 : ¬ am_F μ (am_F μ r0 1) 1 = 15)
    (h5 : (am_kd μ (am_F μ (am_F μ r0 1) 1)).1 = 2 ∨ (am_kd μ (am_F μ (am_F μ r0 1) 1)).1 = 8)
    (h6 : ¬ (x1 < 0 ∨ (am_kd μ (am_F μ (am_F μ r0 1) 1)).2 ≤ x1.toNatClampNeg))
    (k1 : ¬ (am_A μ (am_F μ (am_F μ r0 1) 1) x1.toNatClampNeg) = ((Int8.ofInt 9).toInt32) → Wp d 3 (18, [some (.ref r0), some (.int x1), some (.int (am_A μ (am_F μ (am_F μ r0 1) 1) x1.toNatClampNeg))], [], μ) Q) (k2 : ¬ (¬ (am_A μ (am_F μ (am_F μ r0 1) 1) x1.toNatClampNeg) = ((Int8.ofInt 9).toInt32)) → Wp d 3 (16, [some (.ref r0), some (.int x1), some (.int (am_A μ (am_F μ (am_F μ r0 1) 1) x1.toNatClampNeg))], [], μ) Q) :
    Wp d 3 (0, [some (.ref r0), some (.int x1), none], [], μ) Q := wp_blk rfl e3_0 (And.intro h1 (And.intro h2 (And.intro h3 (And.intro h4 (And.intro h5 (And.intro h6 (And.intro k1 k2)))))))
def q3_16 : List (Nat × Instr × Nat) := [(16, .iconst 1, 1)]
theorem e3_16 : am_dec am_M3 q3_16 = true := by decide +kernel
theorem e3_16_r : am_dec am_M3 [(17, .ireturn, 1)] = true := by decide +kernel
theorem b3_16 {d : Nat} {Q : Option Value ⊕ Nat → am_Mem → Prop} {μ : am_Mem} {r0 : Nat} {x1 x2 : Int32}
    (k : Q (.inl (some (.int (Int32.ofInt 1)))) μ) :
    Wp d 3 (16, [some (.ref r0), some (.int x1), some (.int x2)], [], μ) Q := wp_blk rfl e3_16 (wp_ri (ty := .boolean) rfl e3_16_r rfl (by decide) k)
def q3_18 : List (Nat × Instr × Nat) := [(18, .aload_n 0, 1), (19, .getfield 15, 3), (22, .iload_n 2, 1), (23, .iaload, 1), (24, .iconst (-1), 1), (25, .if_icmp .ne 18, 3)]
theorem e3_18 : am_dec am_M3 q3_18 = true := by decide +kernel
theorem b3_18 {d : Nat} {Q : Option Value ⊕ Nat → am_Mem → Prop} {μ : am_Mem} {r0 : Nat} {x1 x2 : Int32}
    (h1 : am_kd μ r0 = (1, 0))
    (h2 : ¬ am_F μ r0 2 = 15)
    (h3 : (am_kd μ (am_F μ r0 2)).1 = 2 ∨ (am_kd μ (am_F μ r0 2)).1 = 8)
    (h4 : ¬ (x2 < 0 ∨ (am_kd μ (am_F μ r0 2)).2 ≤ x2.toNatClampNeg))
    (k1 : ¬ (am_A μ (am_F μ r0 2) x2.toNatClampNeg) = (Int32.ofInt (-1)) → Wp d 3 (43, [some (.ref r0), some (.int x1), some (.int x2)], [], μ) Q) (k2 : ¬ (¬ (am_A μ (am_F μ r0 2) x2.toNatClampNeg) = (Int32.ofInt (-1))) → Wp d 3 (28, [some (.ref r0), some (.int x1), some (.int x2)], [], μ) Q) :
    Wp d 3 (18, [some (.ref r0), some (.int x1), some (.int x2)], [], μ) Q := wp_blk rfl e3_18 (And.intro h1 (And.intro h2 (And.intro h3 (And.intro h4 (And.intro k1 k2)))))
def q3_28 : List (Nat × Instr × Nat) := [(28, .aload_n 0, 1), (29, .getfield 15, 3), (32, .iload_n 2, 1), (33, .aload_n 0, 1), (34, .getfield 33, 3), (37, .getfield 105, 3), (40, .iload_n 1, 1), (41, .iaload, 1), (42, .iastore, 1)]
theorem e3_28 : am_dec am_M3 q3_28 = true := by decide +kernel
theorem b3_28 {d : Nat} {Q : Option Value ⊕ Nat → am_Mem → Prop} {μ : am_Mem} {r0 : Nat} {x1 x2 : Int32}
    (h1 : am_kd μ r0 = (1, 0))
    (h2 : ¬ am_F μ r0 2 = 15)
    (h3 : am_kd μ r0 = (1, 0))
    (h4 : ¬ am_F μ r0 1 = 15)
    (h5 : am_kd μ (am_F μ r0 1) = (1, 5))
    (h6 : ¬ am_F μ (am_F μ r0 1) 2 = 15)
    (h7 : (am_kd μ (am_F μ (am_F μ r0 1) 2)).1 = 2 ∨ (am_kd μ (am_F μ (am_F μ r0 1) 2)).1 = 8)
    (h8 : ¬ (x1 < 0 ∨ (am_kd μ (am_F μ (am_F μ r0 1) 2)).2 ≤ x1.toNatClampNeg))
    (h9 : (am_kd μ (am_F μ r0 2)).1 = 2)
    (h10 : ¬ (x2 < 0 ∨ (am_kd μ (am_F μ r0 2)).2 ≤ x2.toNatClampNeg))
    (k : Wp d 3 (43, [some (.ref r0), some (.int x1), some (.int x2)], [], (am_pA μ (am_F μ r0 2) x2.toNatClampNeg (am_A μ (am_F μ (am_F μ r0 1) 2) x1.toNatClampNeg))) Q) :
    Wp d 3 (28, [some (.ref r0), some (.int x1), some (.int x2)], [], μ) Q := wp_blk rfl e3_28 (And.intro h1 (And.intro h2 (And.intro h3 (And.intro h4 (And.intro h5 (And.intro h6 (And.intro h7 (And.intro h8 (And.intro h9 (And.intro h10 k))))))))))
def q3_43 : List (Nat × Instr × Nat) := [(43, .aload_n 0, 1), (44, .getfield 15, 3), (47, .iload_n 2, 1), (48, .iaload, 1), (49, .aload_n 0, 1), (50, .getfield 33, 3), (53, .getfield 105, 3), (56, .iload_n 1, 1), (57, .iaload, 1), (58, .if_icmp .ne 7, 3)]
theorem e3_43 : am_dec am_M3 q3_43 = true := by decide +kernel
theorem b3_43 {d : Nat} {Q : Option Value ⊕ Nat → am_Mem → Prop} {μ : am_Mem} {r0 : Nat} {x1 x2 : Int32}
    (h1 : am_kd μ r0 = (1, 0))
    (h2 : ¬ am_F μ r0 2 = 15)
    (h3 : (am_kd μ (am_F μ r0 2)).1 = 2 ∨ (am_kd μ (am_F μ r0 2)).1 = 8)
    (h4 : ¬ (x2 < 0 ∨ (am_kd μ (am_F μ r0 2)).2 ≤ x2.toNatClampNeg))
    (h5 : am_kd μ r0 = (1, 0))
    (h6 : ¬ am_F μ r0 1 = 15)
    (h7 : am_kd μ (am_F μ r0 1) = (1, 5))
    (h8 : ¬ am_F μ (am_F μ r0 1) 2 = 15)
    (h9 : (am_kd μ (am_F μ (am_F μ r0 1) 2)).1 = 2 ∨ (am_kd μ (am_F μ (am_F μ r0 1) 2)).1 = 8)
    (h10 : ¬ (x1 < 0 ∨ (am_kd μ (am_F μ (am_F μ r0 1) 2)).2 ≤ x1.toNatClampNeg))
    (k1 : ¬ (am_A μ (am_F μ r0 2) x2.toNatClampNeg) = (am_A μ (am_F μ (am_F μ r0 1) 2) x1.toNatClampNeg) → Wp d 3 (65, [some (.ref r0), some (.int x1), some (.int x2)], [], μ) Q) (k2 : ¬ (¬ (am_A μ (am_F μ r0 2) x2.toNatClampNeg) = (am_A μ (am_F μ (am_F μ r0 1) 2) x1.toNatClampNeg)) → Wp d 3 (61, [some (.ref r0), some (.int x1), some (.int x2)], [], μ) Q) :
    Wp d 3 (43, [some (.ref r0), some (.int x1), some (.int x2)], [], μ) Q := wp_blk rfl e3_43 (And.intro h1 (And.intro h2 (And.intro h3 (And.intro h4 (And.intro h5 (And.intro h6 (And.intro h7 (And.intro h8 (And.intro h9 (And.intro h10 (And.intro k1 k2)))))))))))
def q3_61 : List (Nat × Instr × Nat) := [(61, .iconst 1, 1), (62, .goto 4, 3)]
theorem e3_61 : am_dec am_M3 q3_61 = true := by decide +kernel
theorem b3_61 {d : Nat} {Q : Option Value ⊕ Nat → am_Mem → Prop} {μ : am_Mem} {r0 : Nat} {x1 x2 : Int32}
    (k : Wp d 3 (66, [some (.ref r0), some (.int x1), some (.int x2)], [.int (Int32.ofInt 1)], μ) Q) :
    Wp d 3 (61, [some (.ref r0), some (.int x1), some (.int x2)], [], μ) Q := wp_blk rfl e3_61 k
def q3_65 : List (Nat × Instr × Nat) := [(65, .iconst 0, 1)]
theorem e3_65 : am_dec am_M3 q3_65 = true := by decide +kernel
theorem b3_65 {d : Nat} {Q : Option Value ⊕ Nat → am_Mem → Prop} {μ : am_Mem} {r0 : Nat} {x1 x2 : Int32}
    (k : Wp d 3 (66, [some (.ref r0), some (.int x1), some (.int x2)], [.int (Int32.ofInt 0)], μ) Q) :
    Wp d 3 (65, [some (.ref r0), some (.int x1), some (.int x2)], [], μ) Q := wp_blk rfl e3_65 k
theorem e3_66_r : am_dec am_M3 [(66, .ireturn, 1)] = true := by decide +kernel
theorem b3_66 {d : Nat} {Q : Option Value ⊕ Nat → am_Mem → Prop} {μ : am_Mem} {r0 : Nat} {x1 x2 s0 : Int32}
    (hn : narrow .boolean (.int s0) = .int s0 ∧ fits .boolean (.int s0) = true)
    (k : Q (.inl (some (.int s0))) μ) :
    Wp d 3 (66, [some (.ref r0), some (.int x1), some (.int x2)], [.int s0], μ) Q := (wp_ri (ty := .boolean) rfl e3_66_r rfl hn k)
/-! RuleSheets$Checker.findWord()I -/
def q4_0 : List (Nat × Instr × Nat) := [(0, .iconst 0, 1), (1, .istore_n 1, 1)]
theorem e4_0 : am_dec am_M4 q4_0 = true := by decide +kernel
theorem b4_0 {d : Nat} {Q : Option Value ⊕ Nat → am_Mem → Prop} {μ : am_Mem} {r0 : Nat}
    (k : Wp d 4 (2, [some (.ref r0), some (.int (Int32.ofInt 0)), none, none, none, none], [], μ) Q) :
    Wp d 4 (0, [some (.ref r0), none, none, none, none, none], [], μ) Q := wp_blk rfl e4_0 k
def q4_2 : List (Nat × Instr × Nat) := [(2, .iload_n 1, 1), (3, .aload_n 0, 1), (4, .getfield 33, 3), (7, .getfield 92, 3), (10, .if_icmp .ge 190, 3)]
theorem e4_2 : am_dec am_M4 q4_2 = true := by decide +kernel
theorem b4_2 {d : Nat} {Q : Option Value ⊕ Nat → am_Mem → Prop} {μ : am_Mem} {r0 : Nat} {x1 : Int32} {o2 o3 o4 o5 : Option Value}
    (h1 : am_kd μ r0 = (1, 0))
    (h2 : ¬ am_F μ r0 1 = 15)
    (h3 : am_kd μ (am_F μ r0 1) = (1, 5))
    (k1 : (am_A μ (am_F μ r0 1) 13) ≤ x1 → Wp d 4 (200, [some (.ref r0), some (.int x1), o2, o3, o4, o5], [], μ) Q) (k2 : ¬ ((am_A μ (am_F μ r0 1) 13) ≤ x1) → Wp d 4 (13, [some (.ref r0), some (.int x1), o2, o3, o4, o5], [], μ) Q) :
    Wp d 4 (2, [some (.ref r0), some (.int x1), o2, o3, o4, o5], [], μ) Q := wp_blk rfl e4_2 (And.intro h1 (And.intro h2 (And.intro h3 (And.intro k1 k2))))
def q4_13 : List (Nat × Instr × Nat) := [(13, .aload_n 0, 1), (14, .iload_n 1, 1)]
theorem e4_13 : am_dec am_M4 q4_13 = true := by decide +kernel
theorem e4_13_c : am_dc1 am_M4 15 (.invokevirtual 108) 3 = true := by decide +kernel
theorem b4_13 {d : Nat} {Q : Option Value ⊕ Nat → am_Mem → Prop} {μ : am_Mem} {r0 : Nat} {x1 : Int32} {o2 o3 o4 o5 : Option Value} {P : Int32 → am_Mem → Prop} {X : Nat → am_Mem → Prop}
    (hk : am_kd μ r0 = (1, 0))
    (hc : Wp d 5 (0, [some (.ref r0), some (.int x1)], [], μ) (pI P X)) (hr : ∀ x μ', P x μ' → Wp (d + 1) 4 (18, [some (.ref r0), some (.int x1), o2, o3, o4, o5], [.int x], (μ')) Q)
    (hx : ∀ x μ', X x μ' → Q (.inr x) μ') :
    Wp (d + 1) 4 (13, [some (.ref r0), some (.int x1), o2, o3, o4, o5], [], μ) Q := wp_blk rfl e4_13 (wp_cv (as := [.int x1]) rfl e4_13_c rfl rfl rfl rfl rfl hk hc (fun v μ' hv => by obtain ⟨x, rfl, hp⟩ := pI_r hv; exact hr x μ' hp) hx)
def q4_18 : List (Nat × Instr × Nat) := [(18, .istore_n 2, 1), (19, .aload_n 0, 1), (20, .getfield 33, 3), (23, .getfield 99, 3), (26, .iload_n 1, 1), (27, .iaload, 1), (28, .aload_n 0, 1), (29, .getfield 33, 3), (32, .getfield 102, 3), (35, .iload_n 1, 1), (36, .iaload, 1), (37, .iadd, 1), (38, .istore_n 3, 1), (39, .iload_n 2, 1), (40, .iconst 2, 1), (41, .if_icmp .eq 8, 3)]
theorem e4_18 : am_dec am_M4 q4_18 = true := by decide +kernel
theorem b4_18 {d : Nat} {Q : Option Value ⊕ Nat → am_Mem → Prop} {μ : am_Mem} {r0 : Nat} {x1 s0 : Int32} {o2 o3 o4 o5 : Option Value}
    (h1 : am_kd μ r0 = (1, 0))
    (h2 : ¬ am_F μ r0 1 = 15)
    (h3 : am_kd μ (am_F μ r0 1) = (1, 5))
    (h4 : ¬ am_F μ (am_F μ r0 1) 9 = 15)
    (h5 : (am_kd μ (am_F μ (am_F μ r0 1) 9)).1 = 2 ∨ (am_kd μ (am_F μ (am_F μ r0 1) 9)).1 = 8)
    (h6 : ¬ (x1 < 0 ∨ (am_kd μ (am_F μ (am_F μ r0 1) 9)).2 ≤ x1.toNatClampNeg))
    (h7 : am_kd μ r0 = (1, 0))
    (h8 : ¬ am_F μ r0 1 = 15)
    (h9 : am_kd μ (am_F μ r0 1) = (1, 5))
    (h10 : ¬ am_F μ (am_F μ r0 1) 12 = 15)
    (h11 : (am_kd μ (am_F μ (am_F μ r0 1) 12)).1 = 2 ∨ (am_kd μ (am_F μ (am_F μ r0 1) 12)).1 = 8)
    (h12 : ¬ (x1 < 0 ∨ (am_kd μ (am_F μ (am_F μ r0 1) 12)).2 ≤ x1.toNatClampNeg))
    (k1 : s0 = (Int32.ofInt 2) → Wp d 4 (49, [some (.ref r0), some (.int x1), some (.int s0), some (.int ((am_A μ (am_F μ (am_F μ r0 1) 9) x1.toNatClampNeg) + (am_A μ (am_F μ (am_F μ r0 1) 12) x1.toNatClampNeg))), o4, o5], [], μ) Q) (k2 : ¬ (s0 = (Int32.ofInt 2)) → Wp d 4 (44, [some (.ref r0), some (.int x1), some (.int s0), some (.int ((am_A μ (am_F μ (am_F μ r0 1) 9) x1.toNatClampNeg) + (am_A μ (am_F μ (am_F μ r0 1) 12) x1.toNatClampNeg))), o4, o5], [], μ) Q) :
    Wp d 4 (18, [some (.ref r0), some (.int x1), o2, o3, o4, o5], [.int s0], μ) Q := wp_blk rfl e4_18 (And.intro h1 (And.intro h2 (And.intro h3 (And.intro h4 (And.intro h5 (And.intro h6 (And.intro h7 (And.intro h8 (And.intro h9 (And.intro h10 (And.intro h11 (And.intro h12 (And.intro k1 k2)))))))))))))
def q4_44 : List (Nat × Instr × Nat) := [(44, .iload_n 2, 1), (45, .iconst 4, 1), (46, .if_icmp .ne 7, 3)]
theorem e4_44 : am_dec am_M4 q4_44 = true := by decide +kernel
theorem b4_44 {d : Nat} {Q : Option Value ⊕ Nat → am_Mem → Prop} {μ : am_Mem} {r0 : Nat} {x1 x2 x3 : Int32} {o4 o5 : Option Value}
    (k1 : ¬ x2 = (Int32.ofInt 4) → Wp d 4 (53, [some (.ref r0), some (.int x1), some (.int x2), some (.int x3), o4, o5], [], μ) Q) (k2 : ¬ (¬ x2 = (Int32.ofInt 4)) → Wp d 4 (49, [some (.ref r0), some (.int x1), some (.int x2), some (.int x3), o4, o5], [], μ) Q) :
    Wp d 4 (44, [some (.ref r0), some (.int x1), some (.int x2), some (.int x3), o4, o5], [], μ) Q := wp_blk rfl e4_44 (And.intro k1 k2)
def q4_49 : List (Nat × Instr × Nat) := [(49, .iconst 1, 1), (50, .goto 4, 3)]
theorem e4_49 : am_dec am_M4 q4_49 = true := by decide +kernel
theorem b4_49 {d : Nat} {Q : Option Value ⊕ Nat → am_Mem → Prop} {μ : am_Mem} {r0 : Nat} {x1 x2 x3 : Int32} {o4 o5 : Option Value}
    (k : Wp d 4 (54, [some (.ref r0), some (.int x1), some (.int x2), some (.int x3), o4, o5], [.int (Int32.ofInt 1)], μ) Q) :
    Wp d 4 (49, [some (.ref r0), some (.int x1), some (.int x2), some (.int x3), o4, o5], [], μ) Q := wp_blk rfl e4_49 k
def q4_53 : List (Nat × Instr × Nat) := [(53, .iconst 0, 1)]
theorem e4_53 : am_dec am_M4 q4_53 = true := by decide +kernel
theorem b4_53 {d : Nat} {Q : Option Value ⊕ Nat → am_Mem → Prop} {μ : am_Mem} {r0 : Nat} {x1 x2 x3 : Int32} {o4 o5 : Option Value}
    (k : Wp d 4 (54, [some (.ref r0), some (.int x1), some (.int x2), some (.int x3), o4, o5], [.int (Int32.ofInt 0)], μ) Q) :
    Wp d 4 (53, [some (.ref r0), some (.int x1), some (.int x2), some (.int x3), o4, o5], [], μ) Q := wp_blk rfl e4_53 k
def q4_54 : List (Nat × Instr × Nat) := [(54, .istore 4, 2), (56, .iload_n 2, 1), (57, .ifCond .ne 34, 3)]
theorem e4_54 : am_dec am_M4 q4_54 = true := by decide +kernel
theorem b4_54 {d : Nat} {Q : Option Value ⊕ Nat → am_Mem → Prop} {μ : am_Mem} {r0 : Nat} {x1 x2 x3 s0 : Int32} {o4 o5 : Option Value}
    (k1 : ¬ x2 = 0 → Wp d 4 (91, [some (.ref r0), some (.int x1), some (.int x2), some (.int x3), some (.int s0), o5], [], μ) Q) (k2 : ¬ (¬ x2 = 0) → Wp d 4 (60, [some (.ref r0), some (.int x1), some (.int x2), some (.int x3), some (.int s0), o5], [], μ) Q) :
    Wp d 4 (54, [some (.ref r0), some (.int x1), some (.int x2), some (.int x3), o4, o5], [.int s0], μ) Q := wp_blk rfl e4_54 (And.intro k1 k2)
def q4_60 : List (Nat × Instr × Nat) := [(60, .iload_n 3, 1), (61, .ifCond .gt 23, 3)]
theorem e4_60 : am_dec am_M4 q4_60 = true := by decide +kernel
theorem b4_60 {d : Nat} {Q : Option Value ⊕ Nat → am_Mem → Prop} {μ : am_Mem} {r0 : Nat} {x1 x2 x3 x4 : Int32} {o5 : Option Value}
    (k1 : 0 < x3 → Wp d 4 (84, [some (.ref r0), some (.int x1), some (.int x2), some (.int x3), some (.int x4), o5], [], μ) Q) (k2 : ¬ (0 < x3) → Wp d 4 (64, [some (.ref r0), some (.int x1), some (.int x2), some (.int x3), some (.int x4), o5], [], μ) Q) :
    Wp d 4 (60, [some (.ref r0), some (.int x1), some (.int x2), some (.int x3), some (.int x4), o5], [], μ) Q := wp_blk rfl e4_60 (And.intro k1 k2)
def q4_64 : List (Nat × Instr × Nat) := [(64, .aload_n 0, 1), (65, .getfield 33, 3), (68, .getfield 112, 3), (71, .aload_n 0, 1), (72, .getfield 33, 3), (75, .getfield 67, 3), (78, .iload_n 1, 1), (79, .iaload, 1), (80, .iaload, 1), (81, .ifCond .eq 7, 3)]
theorem e4_64 : am_dec am_M4 q4_64 = true := by decide +kernel
theorem b4_64 {d : Nat} {Q : Option Value ⊕ Nat → am_Mem → Prop} {μ : am_Mem} {r0 : Nat} {x1 x2 x3 x4 : Int32} {o5 : Option Value}
    (h1 : am_kd μ r0 = (1, 0))
    (h2 : ¬ am_F μ r0 1 = 15)
    (h3 : am_kd μ (am_F μ r0 1) = (1, 5))
    (h4 : ¬ am_F μ (am_F μ r0 1) 5 = 15)
    (h5 : am_kd μ r0 = (1, 0))
    (h6 : ¬ am_F μ r0 1 = 15)
    (h7 : am_kd μ (am_F μ r0 1) = (1, 5))
    (h8 : ¬ am_F μ (am_F μ r0 1) 7 = 15)
    (h9 : (am_kd μ (am_F μ (am_F μ r0 1) 7)).1 = 2 ∨ (am_kd μ (am_F μ (am_F μ r0 1) 7)).1 = 8)
    (h10 : ¬ (x1 < 0 ∨ (am_kd μ (am_F μ (am_F μ r0 1) 7)).2 ≤ x1.toNatClampNeg))
    (h11 : (am_kd μ (am_F μ (am_F μ r0 1) 5)).1 = 2 ∨ (am_kd μ (am_F μ (am_F μ r0 1) 5)).1 = 8)
    (h12 : ¬ ((am_A μ (am_F μ (am_F μ r0 1) 7) x1.toNatClampNeg) < 0 ∨ (am_kd μ (am_F μ (am_F μ r0 1) 5)).2 ≤ (am_A μ (am_F μ (am_F μ r0 1) 7) x1.toNatClampNeg).toNatClampNeg))
    (k1 : (am_A μ (am_F μ (am_F μ r0 1) 5) (am_A μ (am_F μ (am_F μ r0 1) 7) x1.toNatClampNeg).toNatClampNeg) = 0 → Wp d 4 (88, [some (.ref r0), some (.int x1), some (.int x2), some (.int x3), some (.int x4), o5], [], μ) Q) (k2 : ¬ ((am_A μ (am_F μ (am_F μ r0 1) 5) (am_A μ (am_F μ (am_F μ r0 1) 7) x1.toNatClampNeg).toNatClampNeg) = 0) → Wp d 4 (84, [some (.ref r0), some (.int x1), some (.int x2), some (.int x3), some (.int x4), o5], [], μ) Q) :
    Wp d 4 (64, [some (.ref r0), some (.int x1), some (.int x2), some (.int x3), some (.int x4), o5], [], μ) Q := wp_blk rfl e4_64 (And.intro h1 (And.intro h2 (And.intro h3 (And.intro h4 (And.intro h5 (And.intro h6 (And.intro h7 (And.intro h8 (And.intro h9 (And.intro h10 (And.intro h11 (And.intro h12 (And.intro k1 k2)))))))))))))
def q4_84 : List (Nat × Instr × Nat) := [(84, .iconst 1, 1), (85, .goto 4, 3)]
theorem e4_84 : am_dec am_M4 q4_84 = true := by decide +kernel
theorem b4_84 {d : Nat} {Q : Option Value ⊕ Nat → am_Mem → Prop} {μ : am_Mem} {r0 : Nat} {x1 x2 x3 x4 : Int32} {o5 : Option Value}
    (k : Wp d 4 (89, [some (.ref r0), some (.int x1), some (.int x2), some (.int x3), some (.int x4), o5], [.int (Int32.ofInt 1)], μ) Q) :
    Wp d 4 (84, [some (.ref r0), some (.int x1), some (.int x2), some (.int x3), some (.int x4), o5], [], μ) Q := wp_blk rfl e4_84 k
def q4_88 : List (Nat × Instr × Nat) := [(88, .iconst 0, 1)]
theorem e4_88 : am_dec am_M4 q4_88 = true := by decide +kernel
theorem b4_88 {d : Nat} {Q : Option Value ⊕ Nat → am_Mem → Prop} {μ : am_Mem} {r0 : Nat} {x1 x2 x3 x4 : Int32} {o5 : Option Value}
    (k : Wp d 4 (89, [some (.ref r0), some (.int x1), some (.int x2), some (.int x3), some (.int x4), o5], [.int (Int32.ofInt 0)], μ) Q) :
    Wp d 4 (88, [some (.ref r0), some (.int x1), some (.int x2), some (.int x3), some (.int x4), o5], [], μ) Q := wp_blk rfl e4_88 k
def q4_89 : List (Nat × Instr × Nat) := [(89, .istore 4, 2)]
theorem e4_89 : am_dec am_M4 q4_89 = true := by decide +kernel
theorem b4_89 {d : Nat} {Q : Option Value ⊕ Nat → am_Mem → Prop} {μ : am_Mem} {r0 : Nat} {x1 x2 x3 x4 s0 : Int32} {o5 : Option Value}
    (k : Wp d 4 (91, [some (.ref r0), some (.int x1), some (.int x2), some (.int x3), some (.int s0), o5], [], μ) Q) :
    Wp d 4 (89, [some (.ref r0), some (.int x1), some (.int x2), some (.int x3), some (.int x4), o5], [.int s0], μ) Q := wp_blk rfl e4_89 k
def q4_91 : List (Nat × Instr × Nat) := [(91, .iconst 0, 1), (92, .istore 5, 2)]
theorem e4_91 : am_dec am_M4 q4_91 = true := by decide +kernel
theorem b4_91 {d : Nat} {Q : Option Value ⊕ Nat → am_Mem → Prop} {μ : am_Mem} {r0 : Nat} {x1 x2 x3 x4 : Int32} {o5 : Option Value}
    (k : Wp d 4 (94, [some (.ref r0), some (.int x1), some (.int x2), some (.int x3), some (.int x4), some (.int (Int32.ofInt 0))], [], μ) Q) :
    Wp d 4 (91, [some (.ref r0), some (.int x1), some (.int x2), some (.int x3), some (.int x4), o5], [], μ) Q := wp_blk rfl e4_91 k
def q4_94 : List (Nat × Instr × Nat) := [(94, .iload 5, 2), (96, .aload_n 0, 1), (97, .getfield 33, 3), (100, .getfield 99, 3), (103, .iload_n 1, 1), (104, .iaload, 1), (105, .if_icmp .ge 34, 3)]
theorem e4_94 : am_dec am_M4 q4_94 = true := by decide +kernel
theorem b4_94 {d : Nat} {Q : Option Value ⊕ Nat → am_Mem → Prop} {μ : am_Mem} {r0 : Nat} {x1 x2 x3 x4 x5 : Int32}
    (h1 : am_kd μ r0 = (1, 0))
    (h2 : ¬ am_F μ r0 1 = 15)
    (h3 : am_kd μ (am_F μ r0 1) = (1, 5))
    (h4 : ¬ am_F μ (am_F μ r0 1) 9 = 15)
    (h5 : (am_kd μ (am_F μ (am_F μ r0 1) 9)).1 = 2 ∨ (am_kd μ (am_F μ (am_F μ r0 1) 9)).1 = 8)
    (h6 : ¬ (x1 < 0 ∨ (am_kd μ (am_F μ (am_F μ r0 1) 9)).2 ≤ x1.toNatClampNeg))
    (k1 : (am_A μ (am_F μ (am_F μ r0 1) 9) x1.toNatClampNeg) ≤ x5 → Wp d 4 (139, [some (.ref r0), some (.int x1), some (.int x2), some (.int x3), some (.int x4), some (.int x5)], [], μ) Q) (k2 : ¬ ((am_A μ (am_F μ (am_F μ r0 1) 9) x1.toNatClampNeg) ≤ x5) → Wp d 4 (108, [some (.ref r0), some (.int x1), some (.int x2), some (.int x3), some (.int x4), some (.int x5)], [], μ) Q) :
    Wp d 4 (94, [some (.ref r0), some (.int x1), some (.int x2), some (.int x3), some (.int x4), some (.int x5)], [], μ) Q := wp_blk rfl e4_94 (And.intro h1 (And.intro h2 (And.intro h3 (And.intro h4 (And.intro h5 (And.intro h6 (And.intro k1 k2)))))))
def q4_108 : List (Nat × Instr × Nat) := [(108, .iload 4, 2), (110, .ifCond .ne 16, 3)]
theorem e4_108 : am_dec am_M4 q4_108 = true := by decide +kernel
theorem b4_108 {d : Nat} {Q : Option Value ⊕ Nat → am_Mem → Prop} {μ : am_Mem} {r0 : Nat} {x1 x2 x3 x4 x5 : Int32}
    (k1 : ¬ x4 = 0 → Wp d 4 (126, [some (.ref r0), some (.int x1), some (.int x2), some (.int x3), some (.int x4), some (.int x5)], [], μ) Q) (k2 : ¬ (¬ x4 = 0) → Wp d 4 (113, [some (.ref r0), some (.int x1), some (.int x2), some (.int x3), some (.int x4), some (.int x5)], [], μ) Q) :
    Wp d 4 (108, [some (.ref r0), some (.int x1), some (.int x2), some (.int x3), some (.int x4), some (.int x5)], [], μ) Q := wp_blk rfl e4_108 (And.intro k1 k2)
def q4_113 : List (Nat × Instr × Nat) := [(113, .aload_n 0, 1), (114, .iload_n 1, 1), (115, .iload 5, 2)]
theorem e4_113 : am_dec am_M4 q4_113 = true := by decide +kernel
theorem e4_113_c : am_dc1 am_M4 117 (.invokevirtual 115) 3 = true := by decide +kernel
theorem b4_113 {d : Nat} {Q : Option Value ⊕ Nat → am_Mem → Prop} {μ : am_Mem} {r0 : Nat} {x1 x2 x3 x4 x5 : Int32} {P : Int32 → am_Mem → Prop} {X : Nat → am_Mem → Prop}
    (hk : am_kd μ r0 = (1, 0))
    (hc : Wp d 6 (0, [some (.ref r0), some (.int x1), some (.int x5)], [], μ) (pI P X)) (hr : ∀ x μ', P x μ' → Wp (d + 1) 4 (120, [some (.ref r0), some (.int x1), some (.int x2), some (.int x3), some (.int x4), some (.int x5)], [.int x], (μ')) Q)
    (hx : ∀ x μ', X x μ' → Q (.inr x) μ') :
    Wp (d + 1) 4 (113, [some (.ref r0), some (.int x1), some (.int x2), some (.int x3), some (.int x4), some (.int x5)], [], μ) Q := wp_blk rfl e4_113 (wp_cv (as := [.int x1, .int x5]) rfl e4_113_c rfl rfl rfl rfl rfl hk hc (fun v μ' hv => by obtain ⟨x, rfl, hp⟩ := pI_r hv; exact hr x μ' hp) hx)
theorem e4_120_c : am_dc1 am_M4 120 (.invokestatic 118) 3 = true := by decide +kernel
theorem b4_120 {d : Nat} {Q : Option Value ⊕ Nat → am_Mem → Prop} {μ : am_Mem} {r0 : Nat} {x1 x2 x3 x4 x5 s0 : Int32} {P : Int32 → am_Mem → Prop} {X : Nat → am_Mem → Prop}
    (hc : Wp d 7 (0, [some (.int s0)], [], μ) (pI P X)) (hr : ∀ x μ', P x μ' → Wp (d + 1) 4 (123, [some (.ref r0), some (.int x1), some (.int x2), some (.int x3), some (.int x4), some (.int x5)], [.int x], (μ')) Q)
    (hx : ∀ x μ', X x μ' → Q (.inr x) μ') :
    Wp (d + 1) 4 (120, [some (.ref r0), some (.int x1), some (.int x2), some (.int x3), some (.int x4), some (.int x5)], [.int s0], μ) Q := (wp_cs (vs := [.int s0]) rfl e4_120_c rfl rfl rfl rfl rfl hc (fun v μ' hv => by obtain ⟨x, rfl, hp⟩ := pI_r hv; exact hr x μ' hp) hx)
def q4_123 : List (Nat × Instr × Nat) := [(123, .ifCond .eq 7, 3)]
theorem e4_123 : am_dec am_M4 q4_123 = true := by decide +kernel
theorem b4_123 {d : Nat} {Q : Option Value ⊕ Nat → am_Mem → Prop} {μ : am_Mem} {r0 : Nat} {x1 x2 x3 x4 x5 s0 : Int32}
    (k1 : s0 = 0 → Wp d 4 (130, [some (.ref r0), some (.int x1), some (.int x2), some (.int x3), some (.int x4), some (.int x5)], [], μ) Q) (k2 : ¬ (s0 = 0) → Wp d 4 (126, [some (.ref r0), some (.int x1), some (.int x2), some (.int x3), some (.int x4), some (.int x5)], [], μ) Q) :
    Wp d 4 (123, [some (.ref r0), some (.int x1), some (.int x2), some (.int x3), some (.int x4), some (.int x5)], [.int s0], μ) Q := wp_blk rfl e4_123 (And.intro k1 k2)
def q4_126 : List (Nat × Instr × Nat) := [(126, .iconst 1, 1), (127, .goto 4, 3)]
theorem e4_126 : am_dec am_M4 q4_126 = true := by decide +kernel
theorem b4_126 {d : Nat} {Q : Option Value ⊕ Nat → am_Mem → Prop} {μ : am_Mem} {r0 : Nat} {x1 x2 x3 x4 x5 : Int32}
    (k : Wp d 4 (131, [some (.ref r0), some (.int x1), some (.int x2), some (.int x3), some (.int x4), some (.int x5)], [.int (Int32.ofInt 1)], μ) Q) :
    Wp d 4 (126, [some (.ref r0), some (.int x1), some (.int x2), some (.int x3), some (.int x4), some (.int x5)], [], μ) Q := wp_blk rfl e4_126 k
def q4_130 : List (Nat × Instr × Nat) := [(130, .iconst 0, 1)]
theorem e4_130 : am_dec am_M4 q4_130 = true := by decide +kernel
theorem b4_130 {d : Nat} {Q : Option Value ⊕ Nat → am_Mem → Prop} {μ : am_Mem} {r0 : Nat} {x1 x2 x3 x4 x5 : Int32}
    (k : Wp d 4 (131, [some (.ref r0), some (.int x1), some (.int x2), some (.int x3), some (.int x4), some (.int x5)], [.int (Int32.ofInt 0)], μ) Q) :
    Wp d 4 (130, [some (.ref r0), some (.int x1), some (.int x2), some (.int x3), some (.int x4), some (.int x5)], [], μ) Q := wp_blk rfl e4_130 k
def q4_131 : List (Nat × Instr × Nat) := [(131, .istore 4, 2), (133, .iinc 5 1, 3), (136, .goto (-42), 3)]
theorem e4_131 : am_dec am_M4 q4_131 = true := by decide +kernel
theorem b4_131 {d : Nat} {Q : Option Value ⊕ Nat → am_Mem → Prop} {μ : am_Mem} {r0 : Nat} {x1 x2 x3 x4 x5 s0 : Int32}
    (k : Wp d 4 (94, [some (.ref r0), some (.int x1), some (.int x2), some (.int x3), some (.int s0), some (.int (x5 + Int32.ofInt 1))], [], μ) Q) :
    Wp d 4 (131, [some (.ref r0), some (.int x1), some (.int x2), some (.int x3), some (.int x4), some (.int x5)], [.int s0], μ) Q := wp_blk rfl e4_131 k
def q4_139 : List (Nat × Instr × Nat) := [(139, .iconst 0, 1), (140, .istore 5, 2)]
theorem e4_139 : am_dec am_M4 q4_139 = true := by decide +kernel
theorem b4_139 {d : Nat} {Q : Option Value ⊕ Nat → am_Mem → Prop} {μ : am_Mem} {r0 : Nat} {x1 x2 x3 x4 x5 : Int32}
    (k : Wp d 4 (142, [some (.ref r0), some (.int x1), some (.int x2), some (.int x3), some (.int x4), some (.int (Int32.ofInt 0))], [], μ) Q) :
    Wp d 4 (139, [some (.ref r0), some (.int x1), some (.int x2), some (.int x3), some (.int x4), some (.int x5)], [], μ) Q := wp_blk rfl e4_139 k
def q4_142 : List (Nat × Instr × Nat) := [(142, .iload 5, 2), (144, .aload_n 0, 1), (145, .getfield 33, 3), (148, .getfield 102, 3), (151, .iload_n 1, 1), (152, .iaload, 1), (153, .if_icmp .ge 34, 3)]
theorem e4_142 : am_dec am_M4 q4_142 = true := by decide +kernel
theorem b4_142 {d : Nat} {Q : Option Value ⊕ Nat → am_Mem → Prop} {μ : am_Mem} {r0 : Nat} {x1 x2 x3 x4 x5 : Int32}
    (h1 : am_kd μ r0 = (1, 0))
    (h2 : ¬ am_F μ r0 1 = 15)
    (h3 : am_kd μ (am_F μ r0 1) = (1, 5))
    (h4 : ¬ am_F μ (am_F μ r0 1) 12 = 15)
    (h5 : (am_kd μ (am_F μ (am_F μ r0 1) 12)).1 = 2 ∨ (am_kd μ (am_F μ (am_F μ r0 1) 12)).1 = 8)
    (h6 : ¬ (x1 < 0 ∨ (am_kd μ (am_F μ (am_F μ r0 1) 12)).2 ≤ x1.toNatClampNeg))
    (k1 : (am_A μ (am_F μ (am_F μ r0 1) 12) x1.toNatClampNeg) ≤ x5 → Wp d 4 (187, [some (.ref r0), some (.int x1), some (.int x2), some (.int x3), some (.int x4), some (.int x5)], [], μ) Q) (k2 : ¬ ((am_A μ (am_F μ (am_F μ r0 1) 12) x1.toNatClampNeg) ≤ x5) → Wp d 4 (156, [some (.ref r0), some (.int x1), some (.int x2), some (.int x3), some (.int x4), some (.int x5)], [], μ) Q) :
    Wp d 4 (142, [some (.ref r0), some (.int x1), some (.int x2), some (.int x3), some (.int x4), some (.int x5)], [], μ) Q := wp_blk rfl e4_142 (And.intro h1 (And.intro h2 (And.intro h3 (And.intro h4 (And.intro h5 (And.intro h6 (And.intro k1 k2)))))))
def q4_156 : List (Nat × Instr × Nat) := [(156, .iload 4, 2), (158, .ifCond .ne 16, 3)]
theorem e4_156 : am_dec am_M4 q4_156 = true := by decide +kernel
theorem b4_156 {d : Nat} {Q : Option Value ⊕ Nat → am_Mem → Prop} {μ : am_Mem} {r0 : Nat} {x1 x2 x3 x4 x5 : Int32}
    (k1 : ¬ x4 = 0 → Wp d 4 (174, [some (.ref r0), some (.int x1), some (.int x2), some (.int x3), some (.int x4), some (.int x5)], [], μ) Q) (k2 : ¬ (¬ x4 = 0) → Wp d 4 (161, [some (.ref r0), some (.int x1), some (.int x2), some (.int x3), some (.int x4), some (.int x5)], [], μ) Q) :
    Wp d 4 (156, [some (.ref r0), some (.int x1), some (.int x2), some (.int x3), some (.int x4), some (.int x5)], [], μ) Q := wp_blk rfl e4_156 (And.intro k1 k2)
def q4_161 : List (Nat × Instr × Nat) := [(161, .aload_n 0, 1), (162, .iload_n 1, 1), (163, .iload 5, 2)]
theorem e4_161 : am_dec am_M4 q4_161 = true := by decide +kernel
theorem e4_161_c : am_dc1 am_M4 165 (.invokevirtual 121) 3 = true := by decide +kernel
theorem b4_161 {d : Nat} {Q : Option Value ⊕ Nat → am_Mem → Prop} {μ : am_Mem} {r0 : Nat} {x1 x2 x3 x4 x5 : Int32} {P : Int32 → am_Mem → Prop} {X : Nat → am_Mem → Prop}
    (hk : am_kd μ r0 = (1, 0))
    (hc : Wp d 8 (0, [some (.ref r0), some (.int x1), some (.int x5)], [], μ) (pI P X)) (hr : ∀ x μ', P x μ' → Wp (d + 1) 4 (168, [some (.ref r0), some (.int x1), some (.int x2), some (.int x3), some (.int x4), some (.int x5)], [.int x], (μ')) Q)
    (hx : ∀ x μ', X x μ' → Q (.inr x) μ') :
    Wp (d + 1) 4 (161, [some (.ref r0), some (.int x1), some (.int x2), some (.int x3), some (.int x4), some (.int x5)], [], μ) Q := wp_blk rfl e4_161 (wp_cv (as := [.int x1, .int x5]) rfl e4_161_c rfl rfl rfl rfl rfl hk hc (fun v μ' hv => by obtain ⟨x, rfl, hp⟩ := pI_r hv; exact hr x μ' hp) hx)
theorem e4_168_c : am_dc1 am_M4 168 (.invokestatic 118) 3 = true := by decide +kernel
theorem b4_168 {d : Nat} {Q : Option Value ⊕ Nat → am_Mem → Prop} {μ : am_Mem} {r0 : Nat} {x1 x2 x3 x4 x5 s0 : Int32} {P : Int32 → am_Mem → Prop} {X : Nat → am_Mem → Prop}
    (hc : Wp d 7 (0, [some (.int s0)], [], μ) (pI P X)) (hr : ∀ x μ', P x μ' → Wp (d + 1) 4 (171, [some (.ref r0), some (.int x1), some (.int x2), some (.int x3), some (.int x4), some (.int x5)], [.int x], (μ')) Q)
    (hx : ∀ x μ', X x μ' → Q (.inr x) μ') :
    Wp (d + 1) 4 (168, [some (.ref r0), some (.int x1), some (.int x2), some (.int x3), some (.int x4), some (.int x5)], [.int s0], μ) Q := (wp_cs (vs := [.int s0]) rfl e4_168_c rfl rfl rfl rfl rfl hc (fun v μ' hv => by obtain ⟨x, rfl, hp⟩ := pI_r hv; exact hr x μ' hp) hx)
def q4_171 : List (Nat × Instr × Nat) := [(171, .ifCond .eq 7, 3)]
theorem e4_171 : am_dec am_M4 q4_171 = true := by decide +kernel
theorem b4_171 {d : Nat} {Q : Option Value ⊕ Nat → am_Mem → Prop} {μ : am_Mem} {r0 : Nat} {x1 x2 x3 x4 x5 s0 : Int32}
    (k1 : s0 = 0 → Wp d 4 (178, [some (.ref r0), some (.int x1), some (.int x2), some (.int x3), some (.int x4), some (.int x5)], [], μ) Q) (k2 : ¬ (s0 = 0) → Wp d 4 (174, [some (.ref r0), some (.int x1), some (.int x2), some (.int x3), some (.int x4), some (.int x5)], [], μ) Q) :
    Wp d 4 (171, [some (.ref r0), some (.int x1), some (.int x2), some (.int x3), some (.int x4), some (.int x5)], [.int s0], μ) Q := wp_blk rfl e4_171 (And.intro k1 k2)
def q4_174 : List (Nat × Instr × Nat) := [(174, .iconst 1, 1), (175, .goto 4, 3)]
theorem e4_174 : am_dec am_M4 q4_174 = true := by decide +kernel
theorem b4_174 {d : Nat} {Q : Option Value ⊕ Nat → am_Mem → Prop} {μ : am_Mem} {r0 : Nat} {x1 x2 x3 x4 x5 : Int32}
    (k : Wp d 4 (179, [some (.ref r0), some (.int x1), some (.int x2), some (.int x3), some (.int x4), some (.int x5)], [.int (Int32.ofInt 1)], μ) Q) :
    Wp d 4 (174, [some (.ref r0), some (.int x1), some (.int x2), some (.int x3), some (.int x4), some (.int x5)], [], μ) Q := wp_blk rfl e4_174 k
def q4_178 : List (Nat × Instr × Nat) := [(178, .iconst 0, 1)]
theorem e4_178 : am_dec am_M4 q4_178 = true := by decide +kernel
theorem b4_178 {d : Nat} {Q : Option Value ⊕ Nat → am_Mem → Prop} {μ : am_Mem} {r0 : Nat} {x1 x2 x3 x4 x5 : Int32}
    (k : Wp d 4 (179, [some (.ref r0), some (.int x1), some (.int x2), some (.int x3), some (.int x4), some (.int x5)], [.int (Int32.ofInt 0)], μ) Q) :
    Wp d 4 (178, [some (.ref r0), some (.int x1), some (.int x2), some (.int x3), some (.int x4), some (.int x5)], [], μ) Q := wp_blk rfl e4_178 k
def q4_179 : List (Nat × Instr × Nat) := [(179, .istore 4, 2), (181, .iinc 5 1, 3), (184, .goto (-42), 3)]
theorem e4_179 : am_dec am_M4 q4_179 = true := by decide +kernel
theorem b4_179 {d : Nat} {Q : Option Value ⊕ Nat → am_Mem → Prop} {μ : am_Mem} {r0 : Nat} {x1 x2 x3 x4 x5 s0 : Int32}
    (k : Wp d 4 (142, [some (.ref r0), some (.int x1), some (.int x2), some (.int x3), some (.int s0), some (.int (x5 + Int32.ofInt 1))], [], μ) Q) :
    Wp d 4 (179, [some (.ref r0), some (.int x1), some (.int x2), some (.int x3), some (.int x4), some (.int x5)], [.int s0], μ) Q := wp_blk rfl e4_179 k
def q4_187 : List (Nat × Instr × Nat) := [(187, .iload 4, 2), (189, .ifCond .eq 5, 3)]
theorem e4_187 : am_dec am_M4 q4_187 = true := by decide +kernel
theorem b4_187 {d : Nat} {Q : Option Value ⊕ Nat → am_Mem → Prop} {μ : am_Mem} {r0 : Nat} {x1 x2 x3 x4 x5 : Int32}
    (k1 : x4 = 0 → Wp d 4 (194, [some (.ref r0), some (.int x1), some (.int x2), some (.int x3), some (.int x4), some (.int x5)], [], μ) Q) (k2 : ¬ (x4 = 0) → Wp d 4 (192, [some (.ref r0), some (.int x1), some (.int x2), some (.int x3), some (.int x4), some (.int x5)], [], μ) Q) :
    Wp d 4 (187, [some (.ref r0), some (.int x1), some (.int x2), some (.int x3), some (.int x4), some (.int x5)], [], μ) Q := wp_blk rfl e4_187 (And.intro k1 k2)
def q4_192 : List (Nat × Instr × Nat) := [(192, .iload_n 1, 1)]
theorem e4_192 : am_dec am_M4 q4_192 = true := by decide +kernel
theorem e4_192_r : am_dec am_M4 [(193, .ireturn, 1)] = true := by decide +kernel
theorem b4_192 {d : Nat} {Q : Option Value ⊕ Nat → am_Mem → Prop} {μ : am_Mem} {r0 : Nat} {x1 x2 x3 x4 x5 : Int32}
    (k : Q (.inl (some (.int x1))) μ) :
    Wp d 4 (192, [some (.ref r0), some (.int x1), some (.int x2), some (.int x3), some (.int x4), some (.int x5)], [], μ) Q := wp_blk rfl e4_192 (wp_ri (ty := .int) rfl e4_192_r rfl ⟨rfl, rfl⟩ k)
def q4_194 : List (Nat × Instr × Nat) := [(194, .iinc 1 1, 3), (197, .goto (-195), 3)]
theorem e4_194 : am_dec am_M4 q4_194 = true := by decide +kernel
theorem b4_194 {d : Nat} {Q : Option Value ⊕ Nat → am_Mem → Prop} {μ : am_Mem} {r0 : Nat} {x1 x2 x3 x4 x5 : Int32}
    (k : Wp d 4 (2, [some (.ref r0), some (.int (x1 + Int32.ofInt 1)), some (.int x2), some (.int x3), some (.int x4), some (.int x5)], [], μ) Q) :
    Wp d 4 (194, [some (.ref r0), some (.int x1), some (.int x2), some (.int x3), some (.int x4), some (.int x5)], [], μ) Q := wp_blk rfl e4_194 k
def q4_200 : List (Nat × Instr × Nat) := [(200, .iconst (-1), 1)]
theorem e4_200 : am_dec am_M4 q4_200 = true := by decide +kernel
theorem e4_200_r : am_dec am_M4 [(201, .ireturn, 1)] = true := by decide +kernel
theorem b4_200 {d : Nat} {Q : Option Value ⊕ Nat → am_Mem → Prop} {μ : am_Mem} {r0 : Nat} {x1 : Int32} {o2 o3 o4 o5 : Option Value}
    (k : Q (.inl (some (.int (Int32.ofInt (-1))))) μ) :
    Wp d 4 (200, [some (.ref r0), some (.int x1), o2, o3, o4, o5], [], μ) Q := wp_blk rfl e4_200 (wp_ri (ty := .int) rfl e4_200_r rfl ⟨rfl, rfl⟩ k)
/-! RuleSheets$Checker.headOf(I)I -/
def q5_0 : List (Nat × Instr × Nat) := [(0, .aload_n 0, 1), (1, .getfield 33, 3), (4, .getfield 62, 3), (7, .aload_n 0, 1), (8, .getfield 33, 3), (11, .getfield 67, 3), (14, .iload_n 1, 1), (15, .iaload, 1), (16, .iaload, 1)]
theorem e5_0 : am_dec am_M5 q5_0 = true := by decide +kernel
theorem e5_0_r : am_dec am_M5 [(17, .ireturn, 1)] = true := by decide +kernel
theorem b5_0 {d : Nat} {Q : Option Value ⊕ Nat → am_Mem → Prop} {μ : am_Mem} {r0 : Nat} {x1 : Int32}
    (h1 : am_kd μ r0 = (1, 0))
    (h2 : ¬ am_F μ r0 1 = 15)
    (h3 : am_kd μ (am_F μ r0 1) = (1, 5))
    (h4 : ¬ am_F μ (am_F μ r0 1) 1 = 15)
    (h5 : am_kd μ r0 = (1, 0))
    (h6 : ¬ am_F μ r0 1 = 15)
    (h7 : am_kd μ (am_F μ r0 1) = (1, 5))
    (h8 : ¬ am_F μ (am_F μ r0 1) 7 = 15)
    (h9 : (am_kd μ (am_F μ (am_F μ r0 1) 7)).1 = 2 ∨ (am_kd μ (am_F μ (am_F μ r0 1) 7)).1 = 8)
    (h10 : ¬ (x1 < 0 ∨ (am_kd μ (am_F μ (am_F μ r0 1) 7)).2 ≤ x1.toNatClampNeg))
    (h11 : (am_kd μ (am_F μ (am_F μ r0 1) 1)).1 = 2 ∨ (am_kd μ (am_F μ (am_F μ r0 1) 1)).1 = 8)
    (h12 : ¬ ((am_A μ (am_F μ (am_F μ r0 1) 7) x1.toNatClampNeg) < 0 ∨ (am_kd μ (am_F μ (am_F μ r0 1) 1)).2 ≤ (am_A μ (am_F μ (am_F μ r0 1) 7) x1.toNatClampNeg).toNatClampNeg))
    (k : Q (.inl (some (.int (am_A μ (am_F μ (am_F μ r0 1) 1) (am_A μ (am_F μ (am_F μ r0 1) 7) x1.toNatClampNeg).toNatClampNeg)))) μ) :
    Wp d 5 (0, [some (.ref r0), some (.int x1)], [], μ) Q := wp_blk rfl e5_0 (And.intro h1 (And.intro h2 (And.intro h3 (And.intro h4 (And.intro h5 (And.intro h6 (And.intro h7 (And.intro h8 (And.intro h9 (And.intro h10 (And.intro h11 (And.intro h12 (wp_ri (ty := .int) rfl e5_0_r rfl ⟨rfl, rfl⟩ k)))))))))))))
/-! RuleSheets$Checker.relationOf(II)I -/
def q6_0 : List (Nat × Instr × Nat) := [(0, .aload_n 0, 1), (1, .getfield 33, 3), (4, .getfield 62, 3), (7, .aload_n 0, 1), (8, .getfield 33, 3), (11, .iload_n 1, 1), (12, .iload_n 2, 1)]
theorem e6_0 : am_dec am_M6 q6_0 = true := by decide +kernel
theorem e6_0_c : am_dc1 am_M6 13 (.invokevirtual 70) 3 = true := by decide +kernel
theorem b6_0 {d : Nat} {Q : Option Value ⊕ Nat → am_Mem → Prop} {μ : am_Mem} {r0 : Nat} {x1 x2 : Int32} {P : Int32 → am_Mem → Prop} {X : Nat → am_Mem → Prop}
    (h1 : am_kd μ r0 = (1, 0))
    (h2 : ¬ am_F μ r0 1 = 15)
    (h3 : am_kd μ (am_F μ r0 1) = (1, 5))
    (h4 : ¬ am_F μ (am_F μ r0 1) 1 = 15)
    (h5 : am_kd μ r0 = (1, 0))
    (h6 : ¬ am_F μ r0 1 = 15)
    (hk : am_kd μ (am_F μ r0 1) = (1, 5))
    (hc : Wp d 69 (0, [some (.ref (am_F μ r0 1)), some (.int x1), some (.int x2)], [], μ) (pI P X)) (hr : ∀ x μ', P x μ' → Wp (d + 1) 6 (16, [some (.ref r0), some (.int x1), some (.int x2)], [.int x, .ref (am_F μ (am_F μ r0 1) 1)], (μ')) Q)
    (hx : ∀ x μ', X x μ' → Q (.inr x) μ') :
    Wp (d + 1) 6 (0, [some (.ref r0), some (.int x1), some (.int x2)], [], μ) Q := wp_blk rfl e6_0 (And.intro h1 (And.intro h2 (And.intro h3 (And.intro h4 (And.intro h5 (And.intro h6 (wp_cv (as := [.int x1, .int x2]) rfl e6_0_c rfl rfl rfl rfl rfl hk hc (fun v μ' hv => by obtain ⟨x, rfl, hp⟩ := pI_r hv; exact hr x μ' hp) hx)))))))
def q6_16 : List (Nat × Instr × Nat) := [(16, .iaload, 1)]
theorem e6_16 : am_dec am_M6 q6_16 = true := by decide +kernel
theorem e6_16_r : am_dec am_M6 [(17, .ireturn, 1)] = true := by decide +kernel
theorem b6_16 {d : Nat} {Q : Option Value ⊕ Nat → am_Mem → Prop} {μ : am_Mem} {r0 r90 : Nat} {x1 x2 s1 : Int32}
    (h1 : (am_kd μ r90).1 = 2 ∨ (am_kd μ r90).1 = 8)
    (h2 : ¬ (s1 < 0 ∨ (am_kd μ r90).2 ≤ s1.toNatClampNeg))
    (k : Q (.inl (some (.int (am_A μ r90 s1.toNatClampNeg)))) μ) :
    Wp d 6 (16, [some (.ref r0), some (.int x1), some (.int x2)], [.int s1, .ref r90], μ) Q := wp_blk rfl e6_16 (And.intro h1 (And.intro h2 (wp_ri (ty := .int) rfl e6_16_r rfl ⟨rfl, rfl⟩ k)))
/-! RuleSheets$Checker.isComing(I)Z -/
def q7_0 : List (Nat × Instr × Nat) := [(0, .iload_n 0, 1), (1, .iconst 1, 1), (2, .if_icmp .eq 8, 3)]
theorem e7_0 : am_dec am_M7 q7_0 = true := by decide +kernel
theorem b7_0 {d : Nat} {Q : Option Value ⊕ Nat → am_Mem → Prop} {μ : am_Mem} {x0 : Int32}
    (k1 : x0 = (Int32.ofInt 1) → Wp d 7 (10, [some (.int x0)], [], μ) Q) (k2 : ¬ (x0 = (Int32.ofInt 1)) → Wp d 7 (5, [some (.int x0)], [], μ) Q) :
    Wp d 7 (0, [some (.int x0)], [], μ) Q := wp_blk rfl e7_0 (And.intro k1 k2)
def q7_5 : List (Nat × Instr × Nat) := [(5, .iload_n 0, 1), (6, .iconst 3, 1), (7, .if_icmp .ne 7, 3)]
theorem e7_5 : am_dec am_M7 q7_5 = true := by decide +kernel
theorem b7_5 {d : Nat} {Q : Option Value ⊕ Nat → am_Mem → Prop} {μ : am_Mem} {x0 : Int32}
    (k1 : ¬ x0 = (Int32.ofInt 3) → Wp d 7 (14, [some (.int x0)], [], μ) Q) (k2 : ¬ (¬ x0 = (Int32.ofInt 3)) → Wp d 7 (10, [some (.int x0)], [], μ) Q) :
    Wp d 7 (5, [some (.int x0)], [], μ) Q := wp_blk rfl e7_5 (And.intro k1 k2)
def q7_10 : List (Nat × Instr × Nat) := [(10, .iconst 1, 1), (11, .goto 4, 3)]
theorem e7_10 : am_dec am_M7 q7_10 = true := by decide +kernel
theorem b7_10 {d : Nat} {Q : Option Value ⊕ Nat → am_Mem → Prop} {μ : am_Mem} {x0 : Int32}
    (k : Wp d 7 (15, [some (.int x0)], [.int (Int32.ofInt 1)], μ) Q) :
    Wp d 7 (10, [some (.int x0)], [], μ) Q := wp_blk rfl e7_10 k
def q7_14 : List (Nat × Instr × Nat) := [(14, .iconst 0, 1)]
theorem e7_14 : am_dec am_M7 q7_14 = true := by decide +kernel
theorem b7_14 {d : Nat} {Q : Option Value ⊕ Nat → am_Mem → Prop} {μ : am_Mem} {x0 : Int32}
    (k : Wp d 7 (15, [some (.int x0)], [.int (Int32.ofInt 0)], μ) Q) :
    Wp d 7 (14, [some (.int x0)], [], μ) Q := wp_blk rfl e7_14 k
theorem e7_15_r : am_dec am_M7 [(15, .ireturn, 1)] = true := by decide +kernel
theorem b7_15 {d : Nat} {Q : Option Value ⊕ Nat → am_Mem → Prop} {μ : am_Mem} {x0 s0 : Int32}
    (hn : narrow .boolean (.int s0) = .int s0 ∧ fits .boolean (.int s0) = true)
    (k : Q (.inl (some (.int s0))) μ) :
    Wp d 7 (15, [some (.int x0)], [.int s0], μ) Q := (wp_ri (ty := .boolean) rfl e7_15_r rfl hn k)
/-! RuleSheets$Checker.otherRelationOf(II)I -/
def q8_0 : List (Nat × Instr × Nat) := [(0, .aload_n 0, 1), (1, .getfield 33, 3), (4, .getfield 62, 3), (7, .aload_n 0, 1), (8, .getfield 33, 3), (11, .iload_n 1, 1), (12, .iload_n 2, 1)]
theorem e8_0 : am_dec am_M8 q8_0 = true := by decide +kernel
theorem e8_0_c : am_dc1 am_M8 13 (.invokevirtual 74) 3 = true := by decide +kernel
theorem b8_0 {d : Nat} {Q : Option Value ⊕ Nat → am_Mem → Prop} {μ : am_Mem} {r0 : Nat} {x1 x2 : Int32} {P : Int32 → am_Mem → Prop} {X : Nat → am_Mem → Prop}
    (h1 : am_kd μ r0 = (1, 0))
    (h2 : ¬ am_F μ r0 1 = 15)
    (h3 : am_kd μ (am_F μ r0 1) = (1, 5))
    (h4 : ¬ am_F μ (am_F μ r0 1) 1 = 15)
    (h5 : am_kd μ r0 = (1, 0))
    (h6 : ¬ am_F μ r0 1 = 15)
    (hk : am_kd μ (am_F μ r0 1) = (1, 5))
    (hc : Wp d 70 (0, [some (.ref (am_F μ r0 1)), some (.int x1), some (.int x2)], [], μ) (pI P X)) (hr : ∀ x μ', P x μ' → Wp (d + 1) 8 (16, [some (.ref r0), some (.int x1), some (.int x2)], [.int x, .ref (am_F μ (am_F μ r0 1) 1)], (μ')) Q)
    (hx : ∀ x μ', X x μ' → Q (.inr x) μ') :
    Wp (d + 1) 8 (0, [some (.ref r0), some (.int x1), some (.int x2)], [], μ) Q := wp_blk rfl e8_0 (And.intro h1 (And.intro h2 (And.intro h3 (And.intro h4 (And.intro h5 (And.intro h6 (wp_cv (as := [.int x1, .int x2]) rfl e8_0_c rfl rfl rfl rfl rfl hk hc (fun v μ' hv => by obtain ⟨x, rfl, hp⟩ := pI_r hv; exact hr x μ' hp) hx)))))))
def q8_16 : List (Nat × Instr × Nat) := [(16, .iaload, 1)]
theorem e8_16 : am_dec am_M8 q8_16 = true := by decide +kernel
theorem e8_16_r : am_dec am_M8 [(17, .ireturn, 1)] = true := by decide +kernel
theorem b8_16 {d : Nat} {Q : Option Value ⊕ Nat → am_Mem → Prop} {μ : am_Mem} {r0 r90 : Nat} {x1 x2 s1 : Int32}
    (h1 : (am_kd μ r90).1 = 2 ∨ (am_kd μ r90).1 = 8)
    (h2 : ¬ (s1 < 0 ∨ (am_kd μ r90).2 ≤ s1.toNatClampNeg))
    (k : Q (.inl (some (.int (am_A μ r90 s1.toNatClampNeg)))) μ) :
    Wp d 8 (16, [some (.ref r0), some (.int x1), some (.int x2)], [.int s1, .ref r90], μ) Q := wp_blk rfl e8_16 (And.intro h1 (And.intro h2 (wp_ri (ty := .int) rfl e8_16_r rfl ⟨rfl, rfl⟩ k)))
/-! RuleSheets$Checker.relate()V -/
def q9_0 : List (Nat × Instr × Nat) := [(0, .aload_n 0, 1), (1, .getfield 19, 3), (4, .iconst (-1), 1)]
theorem e9_0 : am_dec am_M9 q9_0 = true := by decide +kernel
theorem e9_0_c : am_dc1 am_M9 5 (.invokestatic 77) 3 = true := by decide +kernel
theorem b9_0 {d : Nat} {Q : Option Value ⊕ Nat → am_Mem → Prop} {μ : am_Mem} {r0 : Nat} {P : am_Mem → Prop} {X : Nat → am_Mem → Prop}
    (h1 : am_kd μ r0 = (1, 0))
    (h2 : ¬ am_F μ r0 3 = 15)
    (hc : Wp d 290 (0, [some (.ref (am_F μ r0 3)), some (.int (Int32.ofInt (-1))), none, none], [], μ) (pV P X)) (hr : ∀ μ', P μ' → Wp (d + 1) 9 (8, [some (.ref r0), none, none, none], [], (μ')) Q)
    (hx : ∀ x μ', X x μ' → Q (.inr x) μ') :
    Wp (d + 1) 9 (0, [some (.ref r0), none, none, none], [], μ) Q := wp_blk rfl e9_0 (And.intro h1 (And.intro h2 (wp_cs (vs := [.ref (am_F μ r0 3), .int (Int32.ofInt (-1))]) rfl e9_0_c rfl rfl rfl rfl rfl hc (fun v μ' hv => by obtain ⟨rfl, hp⟩ := pV_r hv; exact hr μ' hp) hx)))
def q9_8 : List (Nat × Instr × Nat) := [(8, .aload_n 0, 1), (9, .getfield 25, 3), (12, .lconst 0, 1)]
theorem e9_8 : am_dec am_M9 q9_8 = true := by decide +kernel
theorem e9_8_c : am_dc1 am_M9 13 (.invokestatic 124) 3 = true := by decide +kernel
theorem b9_8 {d : Nat} {Q : Option Value ⊕ Nat → am_Mem → Prop} {μ : am_Mem} {r0 : Nat} {P : am_Mem → Prop} {X : Nat → am_Mem → Prop}
    (h1 : am_kd μ r0 = (1, 0))
    (h2 : ¬ am_F μ r0 5 = 15)
    (hc : Wp d 291 (0, [some (.ref (am_F μ r0 5)), some (.long (Int64.ofNat 0)), none, none, none], [], μ) (pV P X)) (hr : ∀ μ', P μ' → Wp (d + 1) 9 (16, [some (.ref r0), none, none, none], [], (μ')) Q)
    (hx : ∀ x μ', X x μ' → Q (.inr x) μ') :
    Wp (d + 1) 9 (8, [some (.ref r0), none, none, none], [], μ) Q := wp_blk rfl e9_8 (And.intro h1 (And.intro h2 (wp_cs (vs := [.ref (am_F μ r0 5), .long (Int64.ofNat 0)]) rfl e9_8_c rfl rfl rfl rfl rfl hc (fun v μ' hv => by obtain ⟨rfl, hp⟩ := pV_r hv; exact hr μ' hp) hx)))
def q9_16 : List (Nat × Instr × Nat) := [(16, .aload_n 0, 1), (17, .iconst 0, 1), (18, .putfield 22, 3), (21, .iconst 0, 1), (22, .istore_n 1, 1)]
theorem e9_16 : am_dec am_M9 q9_16 = true := by decide +kernel
theorem b9_16 {d : Nat} {Q : Option Value ⊕ Nat → am_Mem → Prop} {μ : am_Mem} {r0 : Nat}
    (h1 : am_kd μ r0 = (1, 0))
    (k : Wp d 9 (23, [some (.ref r0), some (.int (Int32.ofInt 0)), none, none], [], (am_pA μ r0 4 (Int32.ofInt 0))) Q) :
    Wp d 9 (16, [some (.ref r0), none, none, none], [], μ) Q := wp_blk rfl e9_16 (And.intro h1 (And.intro ⟨rfl, rfl⟩ k))
def q9_23 : List (Nat × Instr × Nat) := [(23, .iload_n 1, 1), (24, .aload_n 0, 1), (25, .getfield 33, 3), (28, .getfield 92, 3), (31, .if_icmp .ge 47, 3)]
theorem e9_23 : am_dec am_M9 q9_23 = true := by decide +kernel
theorem b9_23 {d : Nat} {Q : Option Value ⊕ Nat → am_Mem → Prop} {μ : am_Mem} {r0 : Nat} {x1 : Int32}
    (h1 : am_kd μ r0 = (1, 0))
    (h2 : ¬ am_F μ r0 1 = 15)
    (h3 : am_kd μ (am_F μ r0 1) = (1, 5))
    (k1 : (am_A μ (am_F μ r0 1) 13) ≤ x1 → Wp d 9 (78, [some (.ref r0), some (.int x1), none, none], [], μ) Q) (k2 : ¬ ((am_A μ (am_F μ r0 1) 13) ≤ x1) → Wp d 9 (34, [some (.ref r0), some (.int x1), none, none], [], μ) Q) :
    Wp d 9 (23, [some (.ref r0), some (.int x1), none, none], [], μ) Q := wp_blk rfl e9_23 (And.intro h1 (And.intro h2 (And.intro h3 (And.intro k1 k2))))
def q9_34 : List (Nat × Instr × Nat) := [(34, .aload_n 0, 1), (35, .getfield 19, 3), (38, .aload_n 0, 1), (39, .iload_n 1, 1)]
theorem e9_34 : am_dec am_M9 q9_34 = true := by decide +kernel
theorem e9_34_c : am_dc1 am_M9 40 (.invokevirtual 108) 3 = true := by decide +kernel
theorem b9_34 {d : Nat} {Q : Option Value ⊕ Nat → am_Mem → Prop} {μ : am_Mem} {r0 : Nat} {x1 : Int32} {P : Int32 → am_Mem → Prop} {X : Nat → am_Mem → Prop}
    (h1 : am_kd μ r0 = (1, 0))
    (h2 : ¬ am_F μ r0 3 = 15)
    (hk : am_kd μ r0 = (1, 0))
    (hc : Wp d 5 (0, [some (.ref r0), some (.int x1)], [], μ) (pI P X)) (hr : ∀ x μ', P x μ' → Wp (d + 1) 9 (43, [some (.ref r0), some (.int x1), none, none], [.int x, .ref (am_F μ r0 3)], (μ')) Q)
    (hx : ∀ x μ', X x μ' → Q (.inr x) μ') :
    Wp (d + 1) 9 (34, [some (.ref r0), some (.int x1), none, none], [], μ) Q := wp_blk rfl e9_34 (And.intro h1 (And.intro h2 (wp_cv (as := [.int x1]) rfl e9_34_c rfl rfl rfl rfl rfl hk hc (fun v μ' hv => by obtain ⟨x, rfl, hp⟩ := pI_r hv; exact hr x μ' hp) hx)))
def q9_43 : List (Nat × Instr × Nat) := [(43, .iaload, 1), (44, .iconst (-1), 1), (45, .if_icmp .ne 27, 3)]
theorem e9_43 : am_dec am_M9 q9_43 = true := by decide +kernel
theorem b9_43 {d : Nat} {Q : Option Value ⊕ Nat → am_Mem → Prop} {μ : am_Mem} {r0 r90 : Nat} {x1 s1 : Int32}
    (h1 : (am_kd μ r90).1 = 2 ∨ (am_kd μ r90).1 = 8)
    (h2 : ¬ (s1 < 0 ∨ (am_kd μ r90).2 ≤ s1.toNatClampNeg))
    (k1 : ¬ (am_A μ r90 s1.toNatClampNeg) = (Int32.ofInt (-1)) → Wp d 9 (72, [some (.ref r0), some (.int x1), none, none], [], μ) Q) (k2 : ¬ (¬ (am_A μ r90 s1.toNatClampNeg) = (Int32.ofInt (-1))) → Wp d 9 (48, [some (.ref r0), some (.int x1), none, none], [], μ) Q) :
    Wp d 9 (43, [some (.ref r0), some (.int x1), none, none], [.int s1, .ref r90], μ) Q := wp_blk rfl e9_43 (And.intro h1 (And.intro h2 (And.intro k1 k2)))
def q9_48 : List (Nat × Instr × Nat) := [(48, .aload_n 0, 1), (49, .getfield 19, 3), (52, .aload_n 0, 1), (53, .iload_n 1, 1)]
theorem e9_48 : am_dec am_M9 q9_48 = true := by decide +kernel
theorem e9_48_c : am_dc1 am_M9 54 (.invokevirtual 108) 3 = true := by decide +kernel
theorem b9_48 {d : Nat} {Q : Option Value ⊕ Nat → am_Mem → Prop} {μ : am_Mem} {r0 : Nat} {x1 : Int32} {P : Int32 → am_Mem → Prop} {X : Nat → am_Mem → Prop}
    (h1 : am_kd μ r0 = (1, 0))
    (h2 : ¬ am_F μ r0 3 = 15)
    (hk : am_kd μ r0 = (1, 0))
    (hc : Wp d 5 (0, [some (.ref r0), some (.int x1)], [], μ) (pI P X)) (hr : ∀ x μ', P x μ' → Wp (d + 1) 9 (57, [some (.ref r0), some (.int x1), none, none], [.int x, .ref (am_F μ r0 3)], (μ')) Q)
    (hx : ∀ x μ', X x μ' → Q (.inr x) μ') :
    Wp (d + 1) 9 (48, [some (.ref r0), some (.int x1), none, none], [], μ) Q := wp_blk rfl e9_48 (And.intro h1 (And.intro h2 (wp_cv (as := [.int x1]) rfl e9_48_c rfl rfl rfl rfl rfl hk hc (fun v μ' hv => by obtain ⟨x, rfl, hp⟩ := pI_r hv; exact hr x μ' hp) hx)))
def q9_57 : List (Nat × Instr × Nat) := [(57, .aload_n 0, 1), (58, .getfield 22, 3), (61, .iastore, 1), (62, .aload_n 0, 1), (63, .dup, 1), (64, .getfield 22, 3), (67, .iconst 1, 1), (68, .iadd, 1), (69, .putfield 22, 3)]
theorem e9_57 : am_dec am_M9 q9_57 = true := by decide +kernel
theorem b9_57 {d : Nat} {Q : Option Value ⊕ Nat → am_Mem → Prop} {μ : am_Mem} {r0 r90 : Nat} {x1 s1 : Int32}
    (h1 : am_kd μ r0 = (1, 0))
    (h2 : (am_kd μ r90).1 = 2)
    (h3 : ¬ (s1 < 0 ∨ (am_kd μ r90).2 ≤ s1.toNatClampNeg))
    (h4 : am_kd (am_pA μ r90 s1.toNatClampNeg (am_A μ r0 4)) r0 = (1, 0))
    (h5 : am_kd (am_pA μ r90 s1.toNatClampNeg (am_A μ r0 4)) r0 = (1, 0))
    (k : Wp d 9 (72, [some (.ref r0), some (.int x1), none, none], [], (am_pA (am_pA μ r90 s1.toNatClampNeg (am_A μ r0 4)) r0 4 ((am_A (am_pA μ r90 s1.toNatClampNeg (am_A μ r0 4)) r0 4) + (Int32.ofInt 1)))) Q) :
    Wp d 9 (57, [some (.ref r0), some (.int x1), none, none], [.int s1, .ref r90], μ) Q := wp_blk rfl e9_57 (And.intro h1 (And.intro h2 (And.intro h3 (And.intro h4 (And.intro h5 (And.intro ⟨rfl, rfl⟩ k))))))
def q9_72 : List (Nat × Instr × Nat) := [(72, .iinc 1 1, 3), (75, .goto (-52), 3)]
theorem e9_72 : am_dec am_M9 q9_72 = true := by decide +kernel
theorem b9_72 {d : Nat} {Q : Option Value ⊕ Nat → am_Mem → Prop} {μ : am_Mem} {r0 : Nat} {x1 : Int32}
    (k : Wp d 9 (23, [some (.ref r0), some (.int (x1 + Int32.ofInt 1)), none, none], [], μ) Q) :
    Wp d 9 (72, [some (.ref r0), some (.int x1), none, none], [], μ) Q := wp_blk rfl e9_72 k
def q9_78 : List (Nat × Instr × Nat) := [(78, .aload_n 0, 1), (79, .getfield 19, 3), (82, .iconst 2, 1), (83, .bipush 60, 2), (85, .iastore, 1), (86, .aload_n 0, 1), (87, .getfield 19, 3), (90, .iconst 4, 1), (91, .bipush 61, 2), (93, .iastore, 1)]
theorem e9_78 : am_dec am_M9 q9_78 = true := by decide +kernel
theorem b9_78 {d : Nat} {Q : Option Value ⊕ Nat → am_Mem → Prop} {μ : am_Mem} {r0 : Nat} {x1 : Int32}
    (h1 : am_kd μ r0 = (1, 0))
    (h2 : ¬ am_F μ r0 3 = 15)
    (h3 : (am_kd μ (am_F μ r0 3)).1 = 2)
    (h4 : ¬ ((Int32.ofInt 2) < 0 ∨ (am_kd μ (am_F μ r0 3)).2 ≤ (Int32.ofInt 2).toNatClampNeg))
    (h5 : am_kd (am_pA μ (am_F μ r0 3) (Int32.ofInt 2).toNatClampNeg ((Int8.ofInt 60).toInt32)) r0 = (1, 0))
    (h6 : ¬ am_F (am_pA μ (am_F μ r0 3) (Int32.ofInt 2).toNatClampNeg ((Int8.ofInt 60).toInt32)) r0 3 = 15)
    (h7 : (am_kd (am_pA μ (am_F μ r0 3) (Int32.ofInt 2).toNatClampNeg ((Int8.ofInt 60).toInt32)) (am_F (am_pA μ (am_F μ r0 3) (Int32.ofInt 2).toNatClampNeg ((Int8.ofInt 60).toInt32)) r0 3)).1 = 2)
    (h8 : ¬ ((Int32.ofInt 4) < 0 ∨ (am_kd (am_pA μ (am_F μ r0 3) (Int32.ofInt 2).toNatClampNeg ((Int8.ofInt 60).toInt32)) (am_F (am_pA μ (am_F μ r0 3) (Int32.ofInt 2).toNatClampNeg ((Int8.ofInt 60).toInt32)) r0 3)).2 ≤ (Int32.ofInt 4).toNatClampNeg))
    (k : Wp d 9 (94, [some (.ref r0), some (.int x1), none, none], [], (am_pA (am_pA μ (am_F μ r0 3) (Int32.ofInt 2).toNatClampNeg ((Int8.ofInt 60).toInt32)) (am_F (am_pA μ (am_F μ r0 3) (Int32.ofInt 2).toNatClampNeg ((Int8.ofInt 60).toInt32)) r0 3) (Int32.ofInt 4).toNatClampNeg ((Int8.ofInt 61).toInt32))) Q) :
    Wp d 9 (78, [some (.ref r0), some (.int x1), none, none], [], μ) Q := wp_blk rfl e9_78 (And.intro h1 (And.intro h2 (And.intro h3 (And.intro h4 (And.intro h5 (And.intro h6 (And.intro h7 (And.intro h8 k))))))))
def q9_94 : List (Nat × Instr × Nat) := [(94, .iconst 0, 1), (95, .istore_n 1, 1)]
theorem e9_94 : am_dec am_M9 q9_94 = true := by decide +kernel
theorem b9_94 {d : Nat} {Q : Option Value ⊕ Nat → am_Mem → Prop} {μ : am_Mem} {r0 : Nat} {x1 : Int32}
    (k : Wp d 9 (96, [some (.ref r0), some (.int (Int32.ofInt 0)), none, none], [], μ) Q) :
    Wp d 9 (94, [some (.ref r0), some (.int x1), none, none], [], μ) Q := wp_blk rfl e9_94 k
def q9_96 : List (Nat × Instr × Nat) := [(96, .iload_n 1, 1), (97, .aload_n 0, 1), (98, .getfield 33, 3), (101, .getfield 92, 3), (104, .if_icmp .ge 100, 3)]
theorem e9_96 : am_dec am_M9 q9_96 = true := by decide +kernel
theorem b9_96 {d : Nat} {Q : Option Value ⊕ Nat → am_Mem → Prop} {μ : am_Mem} {r0 : Nat} {x1 : Int32} {o2 o3 : Option Value}
    (h1 : am_kd μ r0 = (1, 0))
    (h2 : ¬ am_F μ r0 1 = 15)
    (h3 : am_kd μ (am_F μ r0 1) = (1, 5))
    (k1 : (am_A μ (am_F μ r0 1) 13) ≤ x1 → Wp d 9 (204, [some (.ref r0), some (.int x1), o2, o3], [], μ) Q) (k2 : ¬ ((am_A μ (am_F μ r0 1) 13) ≤ x1) → Wp d 9 (107, [some (.ref r0), some (.int x1), o2, o3], [], μ) Q) :
    Wp d 9 (96, [some (.ref r0), some (.int x1), o2, o3], [], μ) Q := wp_blk rfl e9_96 (And.intro h1 (And.intro h2 (And.intro h3 (And.intro k1 k2))))
def q9_107 : List (Nat × Instr × Nat) := [(107, .aload_n 0, 1), (108, .getfield 19, 3), (111, .aload_n 0, 1), (112, .iload_n 1, 1)]
theorem e9_107 : am_dec am_M9 q9_107 = true := by decide +kernel
theorem e9_107_c : am_dc1 am_M9 113 (.invokevirtual 108) 3 = true := by decide +kernel
theorem b9_107 {d : Nat} {Q : Option Value ⊕ Nat → am_Mem → Prop} {μ : am_Mem} {r0 : Nat} {x1 : Int32} {o2 o3 : Option Value} {P : Int32 → am_Mem → Prop} {X : Nat → am_Mem → Prop}
    (h1 : am_kd μ r0 = (1, 0))
    (h2 : ¬ am_F μ r0 3 = 15)
    (hk : am_kd μ r0 = (1, 0))
    (hc : Wp d 5 (0, [some (.ref r0), some (.int x1)], [], μ) (pI P X)) (hr : ∀ x μ', P x μ' → Wp (d + 1) 9 (116, [some (.ref r0), some (.int x1), o2, o3], [.int x, .ref (am_F μ r0 3)], (μ')) Q)
    (hx : ∀ x μ', X x μ' → Q (.inr x) μ') :
    Wp (d + 1) 9 (107, [some (.ref r0), some (.int x1), o2, o3], [], μ) Q := wp_blk rfl e9_107 (And.intro h1 (And.intro h2 (wp_cv (as := [.int x1]) rfl e9_107_c rfl rfl rfl rfl rfl hk hc (fun v μ' hv => by obtain ⟨x, rfl, hp⟩ := pI_r hv; exact hr x μ' hp) hx)))
def q9_116 : List (Nat × Instr × Nat) := [(116, .iaload, 1), (117, .istore_n 2, 1), (118, .iconst 0, 1), (119, .istore_n 3, 1)]
theorem e9_116 : am_dec am_M9 q9_116 = true := by decide +kernel
theorem b9_116 {d : Nat} {Q : Option Value ⊕ Nat → am_Mem → Prop} {μ : am_Mem} {r0 r90 : Nat} {x1 s1 : Int32} {o2 o3 : Option Value}
    (h1 : (am_kd μ r90).1 = 2 ∨ (am_kd μ r90).1 = 8)
    (h2 : ¬ (s1 < 0 ∨ (am_kd μ r90).2 ≤ s1.toNatClampNeg))
    (k : Wp d 9 (120, [some (.ref r0), some (.int x1), some (.int (am_A μ r90 s1.toNatClampNeg)), some (.int (Int32.ofInt 0))], [], μ) Q) :
    Wp d 9 (116, [some (.ref r0), some (.int x1), o2, o3], [.int s1, .ref r90], μ) Q := wp_blk rfl e9_116 (And.intro h1 (And.intro h2 k))
def q9_120 : List (Nat × Instr × Nat) := [(120, .iload_n 3, 1), (121, .aload_n 0, 1), (122, .getfield 33, 3), (125, .getfield 99, 3), (128, .iload_n 1, 1), (129, .iaload, 1), (130, .if_icmp .ge 28, 3)]
theorem e9_120 : am_dec am_M9 q9_120 = true := by decide +kernel
theorem b9_120 {d : Nat} {Q : Option Value ⊕ Nat → am_Mem → Prop} {μ : am_Mem} {r0 : Nat} {x1 x2 x3 : Int32}
    (h1 : am_kd μ r0 = (1, 0))
    (h2 : ¬ am_F μ r0 1 = 15)
    (h3 : am_kd μ (am_F μ r0 1) = (1, 5))
    (h4 : ¬ am_F μ (am_F μ r0 1) 9 = 15)
    (h5 : (am_kd μ (am_F μ (am_F μ r0 1) 9)).1 = 2 ∨ (am_kd μ (am_F μ (am_F μ r0 1) 9)).1 = 8)
    (h6 : ¬ (x1 < 0 ∨ (am_kd μ (am_F μ (am_F μ r0 1) 9)).2 ≤ x1.toNatClampNeg))
    (k1 : (am_A μ (am_F μ (am_F μ r0 1) 9) x1.toNatClampNeg) ≤ x3 → Wp d 9 (158, [some (.ref r0), some (.int x1), some (.int x2), some (.int x3)], [], μ) Q) (k2 : ¬ ((am_A μ (am_F μ (am_F μ r0 1) 9) x1.toNatClampNeg) ≤ x3) → Wp d 9 (133, [some (.ref r0), some (.int x1), some (.int x2), some (.int x3)], [], μ) Q) :
    Wp d 9 (120, [some (.ref r0), some (.int x1), some (.int x2), some (.int x3)], [], μ) Q := wp_blk rfl e9_120 (And.intro h1 (And.intro h2 (And.intro h3 (And.intro h4 (And.intro h5 (And.intro h6 (And.intro k1 k2)))))))
def q9_133 : List (Nat × Instr × Nat) := [(133, .aload_n 0, 1), (134, .getfield 25, 3), (137, .iload_n 2, 1), (138, .dup2, 1), (139, .laload, 1), (140, .aload_n 0, 1), (141, .aload_n 0, 1), (142, .iload_n 1, 1), (143, .iload_n 3, 1)]
theorem e9_133 : am_dec am_M9 q9_133 = true := by decide +kernel
theorem e9_133_c : am_dc1 am_M9 144 (.invokevirtual 115) 3 = true := by decide +kernel
theorem b9_133 {d : Nat} {Q : Option Value ⊕ Nat → am_Mem → Prop} {μ : am_Mem} {r0 : Nat} {x1 x2 x3 : Int32} {P : Int32 → am_Mem → Prop} {X : Nat → am_Mem → Prop}
    (h1 : am_kd μ r0 = (1, 0))
    (h2 : ¬ am_F μ r0 5 = 15)
    (h3 : (am_kd μ (am_F μ r0 5)).1 = 6)
    (h4 : ¬ (x2 < 0 ∨ (am_kd μ (am_F μ r0 5)).2 ≤ x2.toNatClampNeg))
    (hk : am_kd μ r0 = (1, 0))
    (hc : Wp d 6 (0, [some (.ref r0), some (.int x1), some (.int x3)], [], μ) (pI P X)) (hr : ∀ x μ', P x μ' → Wp (d + 1) 9 (147, [some (.ref r0), some (.int x1), some (.int x2), some (.int x3)], [.int x, .ref r0, .long (am_L μ (am_F μ r0 5) x2.toNatClampNeg), .int x2, .ref (am_F μ r0 5)], (μ')) Q)
    (hx : ∀ x μ', X x μ' → Q (.inr x) μ') :
    Wp (d + 1) 9 (133, [some (.ref r0), some (.int x1), some (.int x2), some (.int x3)], [], μ) Q := wp_blk rfl e9_133 (And.intro h1 (And.intro h2 (And.intro h3 (And.intro h4 (wp_cv (as := [.int x1, .int x3]) rfl e9_133_c rfl rfl rfl rfl rfl hk hc (fun v μ' hv => by obtain ⟨x, rfl, hp⟩ := pI_r hv; exact hr x μ' hp) hx)))))
theorem e9_147_c : am_dc1 am_M9 147 (.invokevirtual 127) 3 = true := by decide +kernel
theorem b9_147 {d : Nat} {Q : Option Value ⊕ Nat → am_Mem → Prop} {μ : am_Mem} {r0 r90 r93 : Nat} {x1 x2 x3 s1 s4 : Int32} {y92 : Int64} {P : Int64 → am_Mem → Prop} {X : Nat → am_Mem → Prop}
    (hk : am_kd μ r93 = (1, 0))
    (hc : Wp d 10 (0, [some (.ref r93), some (.int s4)], [], μ) (pL P X)) (hr : ∀ x μ', P x μ' → Wp (d + 1) 9 (150, [some (.ref r0), some (.int x1), some (.int x2), some (.int x3)], [.long x, .long y92, .int s1, .ref r90], (μ')) Q)
    (hx : ∀ x μ', X x μ' → Q (.inr x) μ') :
    Wp (d + 1) 9 (147, [some (.ref r0), some (.int x1), some (.int x2), some (.int x3)], [.int s4, .ref r93, .long y92, .int s1, .ref r90], μ) Q := (wp_cv (as := [.int s4]) rfl e9_147_c rfl rfl rfl rfl rfl hk hc (fun v μ' hv => by obtain ⟨x, rfl, hp⟩ := pL_r hv; exact hr x μ' hp) hx)
def q9_150 : List (Nat × Instr × Nat) := [(150, .lor, 1), (151, .lastore, 1), (152, .iinc 3 1, 3), (155, .goto (-35), 3)]
theorem e9_150 : am_dec am_M9 q9_150 = true := by decide +kernel
theorem b9_150 {d : Nat} {Q : Option Value ⊕ Nat → am_Mem → Prop} {μ : am_Mem} {r0 r90 : Nat} {x1 x2 x3 s1 : Int32} {y92 y93 : Int64}
    (h1 : (am_kd μ r90).1 = 6)
    (h2 : ¬ (s1 < 0 ∨ (am_kd μ r90).2 ≤ s1.toNatClampNeg))
    (k : Wp d 9 (120, [some (.ref r0), some (.int x1), some (.int x2), some (.int (x3 + Int32.ofInt 1))], [], (am_pL μ r90 s1.toNatClampNeg (y92 ||| y93))) Q) :
    Wp d 9 (150, [some (.ref r0), some (.int x1), some (.int x2), some (.int x3)], [.long y93, .long y92, .int s1, .ref r90], μ) Q := wp_blk rfl e9_150 (And.intro h1 (And.intro h2 k))
def q9_158 : List (Nat × Instr × Nat) := [(158, .iconst 0, 1), (159, .istore_n 3, 1)]
theorem e9_158 : am_dec am_M9 q9_158 = true := by decide +kernel
theorem b9_158 {d : Nat} {Q : Option Value ⊕ Nat → am_Mem → Prop} {μ : am_Mem} {r0 : Nat} {x1 x2 x3 : Int32}
    (k : Wp d 9 (160, [some (.ref r0), some (.int x1), some (.int x2), some (.int (Int32.ofInt 0))], [], μ) Q) :
    Wp d 9 (158, [some (.ref r0), some (.int x1), some (.int x2), some (.int x3)], [], μ) Q := wp_blk rfl e9_158 k
def q9_160 : List (Nat × Instr × Nat) := [(160, .iload_n 3, 1), (161, .aload_n 0, 1), (162, .getfield 33, 3), (165, .getfield 102, 3), (168, .iload_n 1, 1), (169, .iaload, 1), (170, .if_icmp .ge 28, 3)]
theorem e9_160 : am_dec am_M9 q9_160 = true := by decide +kernel
theorem b9_160 {d : Nat} {Q : Option Value ⊕ Nat → am_Mem → Prop} {μ : am_Mem} {r0 : Nat} {x1 x2 x3 : Int32}
    (h1 : am_kd μ r0 = (1, 0))
    (h2 : ¬ am_F μ r0 1 = 15)
    (h3 : am_kd μ (am_F μ r0 1) = (1, 5))
    (h4 : ¬ am_F μ (am_F μ r0 1) 12 = 15)
    (h5 : (am_kd μ (am_F μ (am_F μ r0 1) 12)).1 = 2 ∨ (am_kd μ (am_F μ (am_F μ r0 1) 12)).1 = 8)
    (h6 : ¬ (x1 < 0 ∨ (am_kd μ (am_F μ (am_F μ r0 1) 12)).2 ≤ x1.toNatClampNeg))
    (k1 : (am_A μ (am_F μ (am_F μ r0 1) 12) x1.toNatClampNeg) ≤ x3 → Wp d 9 (198, [some (.ref r0), some (.int x1), some (.int x2), some (.int x3)], [], μ) Q) (k2 : ¬ ((am_A μ (am_F μ (am_F μ r0 1) 12) x1.toNatClampNeg) ≤ x3) → Wp d 9 (173, [some (.ref r0), some (.int x1), some (.int x2), some (.int x3)], [], μ) Q) :
    Wp d 9 (160, [some (.ref r0), some (.int x1), some (.int x2), some (.int x3)], [], μ) Q := wp_blk rfl e9_160 (And.intro h1 (And.intro h2 (And.intro h3 (And.intro h4 (And.intro h5 (And.intro h6 (And.intro k1 k2)))))))
def q9_173 : List (Nat × Instr × Nat) := [(173, .aload_n 0, 1), (174, .getfield 25, 3), (177, .iload_n 2, 1), (178, .dup2, 1), (179, .laload, 1), (180, .aload_n 0, 1), (181, .aload_n 0, 1), (182, .iload_n 1, 1), (183, .iload_n 3, 1)]
theorem e9_173 : am_dec am_M9 q9_173 = true := by decide +kernel
theorem e9_173_c : am_dc1 am_M9 184 (.invokevirtual 121) 3 = true := by decide +kernel
theorem b9_173 {d : Nat} {Q : Option Value ⊕ Nat → am_Mem → Prop} {μ : am_Mem} {r0 : Nat} {x1 x2 x3 : Int32} {P : Int32 → am_Mem → Prop} {X : Nat → am_Mem → Prop}
    (h1 : am_kd μ r0 = (1, 0))
    (h2 : ¬ am_F μ r0 5 = 15)
    (h3 : (am_kd μ (am_F μ r0 5)).1 = 6)
    (h4 : ¬ (x2 < 0 ∨ (am_kd μ (am_F μ r0 5)).2 ≤ x2.toNatClampNeg))
    (hk : am_kd μ r0 = (1, 0))
    (hc : Wp d 8 (0, [some (.ref r0), some (.int x1), some (.int x3)], [], μ) (pI P X)) (hr : ∀ x μ', P x μ' → Wp (d + 1) 9 (187, [some (.ref r0), some (.int x1), some (.int x2), some (.int x3)], [.int x, .ref r0, .long (am_L μ (am_F μ r0 5) x2.toNatClampNeg), .int x2, .ref (am_F μ r0 5)], (μ')) Q)
    (hx : ∀ x μ', X x μ' → Q (.inr x) μ') :
    Wp (d + 1) 9 (173, [some (.ref r0), some (.int x1), some (.int x2), some (.int x3)], [], μ) Q := wp_blk rfl e9_173 (And.intro h1 (And.intro h2 (And.intro h3 (And.intro h4 (wp_cv (as := [.int x1, .int x3]) rfl e9_173_c rfl rfl rfl rfl rfl hk hc (fun v μ' hv => by obtain ⟨x, rfl, hp⟩ := pI_r hv; exact hr x μ' hp) hx)))))
theorem e9_187_c : am_dc1 am_M9 187 (.invokevirtual 127) 3 = true := by decide +kernel
theorem b9_187 {d : Nat} {Q : Option Value ⊕ Nat → am_Mem → Prop} {μ : am_Mem} {r0 r90 r93 : Nat} {x1 x2 x3 s1 s4 : Int32} {y92 : Int64} {P : Int64 → am_Mem → Prop} {X : Nat → am_Mem → Prop}
    (hk : am_kd μ r93 = (1, 0))
    (hc : Wp d 10 (0, [some (.ref r93), some (.int s4)], [], μ) (pL P X)) (hr : ∀ x μ', P x μ' → Wp (d + 1) 9 (190, [some (.ref r0), some (.int x1), some (.int x2), some (.int x3)], [.long x, .long y92, .int s1, .ref r90], (μ')) Q)
    (hx : ∀ x μ', X x μ' → Q (.inr x) μ') :
    Wp (d + 1) 9 (187, [some (.ref r0), some (.int x1), some (.int x2), some (.int x3)], [.int s4, .ref r93, .long y92, .int s1, .ref r90], μ) Q := (wp_cv (as := [.int s4]) rfl e9_187_c rfl rfl rfl rfl rfl hk hc (fun v μ' hv => by obtain ⟨x, rfl, hp⟩ := pL_r hv; exact hr x μ' hp) hx)
def q9_190 : List (Nat × Instr × Nat) := [(190, .lor, 1), (191, .lastore, 1), (192, .iinc 3 1, 3), (195, .goto (-35), 3)]
theorem e9_190 : am_dec am_M9 q9_190 = true := by decide +kernel
theorem b9_190 {d : Nat} {Q : Option Value ⊕ Nat → am_Mem → Prop} {μ : am_Mem} {r0 r90 : Nat} {x1 x2 x3 s1 : Int32} {y92 y93 : Int64}
    (h1 : (am_kd μ r90).1 = 6)
    (h2 : ¬ (s1 < 0 ∨ (am_kd μ r90).2 ≤ s1.toNatClampNeg))
    (k : Wp d 9 (160, [some (.ref r0), some (.int x1), some (.int x2), some (.int (x3 + Int32.ofInt 1))], [], (am_pL μ r90 s1.toNatClampNeg (y92 ||| y93))) Q) :
    Wp d 9 (190, [some (.ref r0), some (.int x1), some (.int x2), some (.int x3)], [.long y93, .long y92, .int s1, .ref r90], μ) Q := wp_blk rfl e9_190 (And.intro h1 (And.intro h2 k))
def q9_198 : List (Nat × Instr × Nat) := [(198, .iinc 1 1, 3), (201, .goto (-105), 3)]
theorem e9_198 : am_dec am_M9 q9_198 = true := by decide +kernel
theorem b9_198 {d : Nat} {Q : Option Value ⊕ Nat → am_Mem → Prop} {μ : am_Mem} {r0 : Nat} {x1 x2 x3 : Int32}
    (k : Wp d 9 (96, [some (.ref r0), some (.int (x1 + Int32.ofInt 1)), some (.int x2), some (.int x3)], [], μ) Q) :
    Wp d 9 (198, [some (.ref r0), some (.int x1), some (.int x2), some (.int x3)], [], μ) Q := wp_blk rfl e9_198 k
def q9_204 : List (Nat × Instr × Nat) := [(204, .iconst 0, 1), (205, .istore_n 1, 1)]
theorem e9_204 : am_dec am_M9 q9_204 = true := by decide +kernel
theorem b9_204 {d : Nat} {Q : Option Value ⊕ Nat → am_Mem → Prop} {μ : am_Mem} {r0 : Nat} {x1 : Int32} {o2 o3 : Option Value}
    (k : Wp d 9 (206, [some (.ref r0), some (.int (Int32.ofInt 0)), o2, o3], [], μ) Q) :
    Wp d 9 (204, [some (.ref r0), some (.int x1), o2, o3], [], μ) Q := wp_blk rfl e9_204 k
def q9_206 : List (Nat × Instr × Nat) := [(206, .iload_n 1, 1), (207, .aload_n 0, 1), (208, .getfield 22, 3), (211, .if_icmp .ge 55, 3)]
theorem e9_206 : am_dec am_M9 q9_206 = true := by decide +kernel
theorem b9_206 {d : Nat} {Q : Option Value ⊕ Nat → am_Mem → Prop} {μ : am_Mem} {r0 : Nat} {x1 : Int32} {o2 o3 : Option Value}
    (h1 : am_kd μ r0 = (1, 0))
    (k1 : (am_A μ r0 4) ≤ x1 → Wp d 9 (266, [some (.ref r0), some (.int x1), o2, o3], [], μ) Q) (k2 : ¬ ((am_A μ r0 4) ≤ x1) → Wp d 9 (214, [some (.ref r0), some (.int x1), o2, o3], [], μ) Q) :
    Wp d 9 (206, [some (.ref r0), some (.int x1), o2, o3], [], μ) Q := wp_blk rfl e9_206 (And.intro h1 (And.intro k1 k2))
def q9_214 : List (Nat × Instr × Nat) := [(214, .iconst 0, 1), (215, .istore_n 2, 1)]
theorem e9_214 : am_dec am_M9 q9_214 = true := by decide +kernel
theorem b9_214 {d : Nat} {Q : Option Value ⊕ Nat → am_Mem → Prop} {μ : am_Mem} {r0 : Nat} {x1 : Int32} {o2 o3 : Option Value}
    (k : Wp d 9 (216, [some (.ref r0), some (.int x1), some (.int (Int32.ofInt 0)), o3], [], μ) Q) :
    Wp d 9 (214, [some (.ref r0), some (.int x1), o2, o3], [], μ) Q := wp_blk rfl e9_214 k
def q9_216 : List (Nat × Instr × Nat) := [(216, .iload_n 2, 1), (217, .aload_n 0, 1), (218, .getfield 22, 3), (221, .if_icmp .ge 39, 3)]
theorem e9_216 : am_dec am_M9 q9_216 = true := by decide +kernel
theorem b9_216 {d : Nat} {Q : Option Value ⊕ Nat → am_Mem → Prop} {μ : am_Mem} {r0 : Nat} {x1 x2 : Int32} {o3 : Option Value}
    (h1 : am_kd μ r0 = (1, 0))
    (k1 : (am_A μ r0 4) ≤ x2 → Wp d 9 (260, [some (.ref r0), some (.int x1), some (.int x2), o3], [], μ) Q) (k2 : ¬ ((am_A μ r0 4) ≤ x2) → Wp d 9 (224, [some (.ref r0), some (.int x1), some (.int x2), o3], [], μ) Q) :
    Wp d 9 (216, [some (.ref r0), some (.int x1), some (.int x2), o3], [], μ) Q := wp_blk rfl e9_216 (And.intro h1 (And.intro k1 k2))
def q9_224 : List (Nat × Instr × Nat) := [(224, .aload_n 0, 1), (225, .getfield 25, 3), (228, .iload_n 2, 1), (229, .laload, 1), (230, .iload_n 1, 1), (231, .lushr, 1), (232, .lconst 1, 1), (233, .land, 1), (234, .lconst 0, 1), (235, .lcmp, 1), (236, .ifCond .eq 18, 3)]
theorem e9_224 : am_dec am_M9 q9_224 = true := by decide +kernel
theorem b9_224 {d : Nat} {Q : Option Value ⊕ Nat → am_Mem → Prop} {μ : am_Mem} {r0 : Nat} {x1 x2 : Int32} {o3 : Option Value}
    (h1 : am_kd μ r0 = (1, 0))
    (h2 : ¬ am_F μ r0 5 = 15)
    (h3 : (am_kd μ (am_F μ r0 5)).1 = 6)
    (h4 : ¬ (x2 < 0 ∨ (am_kd μ (am_F μ r0 5)).2 ≤ x2.toNatClampNeg))
    (k1 : (lg_cmp ((((am_L μ (am_F μ r0 5) x2.toNatClampNeg).toUInt64 >>> (x1.toInt64.toUInt64 &&& Int64.toUInt64 63)).toInt64) &&& (Int64.ofNat 1)) (Int64.ofNat 0)) = 0 → Wp d 9 (254, [some (.ref r0), some (.int x1), some (.int x2), o3], [], μ) Q) (k2 : ¬ ((lg_cmp ((((am_L μ (am_F μ r0 5) x2.toNatClampNeg).toUInt64 >>> (x1.toInt64.toUInt64 &&& Int64.toUInt64 63)).toInt64) &&& (Int64.ofNat 1)) (Int64.ofNat 0)) = 0) → Wp d 9 (239, [some (.ref r0), some (.int x1), some (.int x2), o3], [], μ) Q) :
    Wp d 9 (224, [some (.ref r0), some (.int x1), some (.int x2), o3], [], μ) Q := wp_blk rfl e9_224 (And.intro h1 (And.intro h2 (And.intro h3 (And.intro h4 (And.intro k1 k2)))))
def q9_239 : List (Nat × Instr × Nat) := [(239, .aload_n 0, 1), (240, .getfield 25, 3), (243, .iload_n 2, 1), (244, .dup2, 1), (245, .laload, 1), (246, .aload_n 0, 1), (247, .getfield 25, 3), (250, .iload_n 1, 1), (251, .laload, 1), (252, .lor, 1), (253, .lastore, 1)]
theorem e9_239 : am_dec am_M9 q9_239 = true := by decide +kernel
theorem b9_239 {d : Nat} {Q : Option Value ⊕ Nat → am_Mem → Prop} {μ : am_Mem} {r0 : Nat} {x1 x2 : Int32} {o3 : Option Value}
    (h1 : am_kd μ r0 = (1, 0))
    (h2 : ¬ am_F μ r0 5 = 15)
    (h3 : (am_kd μ (am_F μ r0 5)).1 = 6)
    (h4 : ¬ (x2 < 0 ∨ (am_kd μ (am_F μ r0 5)).2 ≤ x2.toNatClampNeg))
    (h5 : am_kd μ r0 = (1, 0))
    (h6 : ¬ am_F μ r0 5 = 15)
    (h7 : (am_kd μ (am_F μ r0 5)).1 = 6)
    (h8 : ¬ (x1 < 0 ∨ (am_kd μ (am_F μ r0 5)).2 ≤ x1.toNatClampNeg))
    (h9 : (am_kd μ (am_F μ r0 5)).1 = 6)
    (h10 : ¬ (x2 < 0 ∨ (am_kd μ (am_F μ r0 5)).2 ≤ x2.toNatClampNeg))
    (k : Wp d 9 (254, [some (.ref r0), some (.int x1), some (.int x2), o3], [], (am_pL μ (am_F μ r0 5) x2.toNatClampNeg ((am_L μ (am_F μ r0 5) x2.toNatClampNeg) ||| (am_L μ (am_F μ r0 5) x1.toNatClampNeg)))) Q) :
    Wp d 9 (239, [some (.ref r0), some (.int x1), some (.int x2), o3], [], μ) Q := wp_blk rfl e9_239 (And.intro h1 (And.intro h2 (And.intro h3 (And.intro h4 (And.intro h5 (And.intro h6 (And.intro h7 (And.intro h8 (And.intro h9 (And.intro h10 k))))))))))
def q9_254 : List (Nat × Instr × Nat) := [(254, .iinc 2 1, 3), (257, .goto (-41), 3)]
theorem e9_254 : am_dec am_M9 q9_254 = true := by decide +kernel
theorem b9_254 {d : Nat} {Q : Option Value ⊕ Nat → am_Mem → Prop} {μ : am_Mem} {r0 : Nat} {x1 x2 : Int32} {o3 : Option Value}
    (k : Wp d 9 (216, [some (.ref r0), some (.int x1), some (.int (x2 + Int32.ofInt 1)), o3], [], μ) Q) :
    Wp d 9 (254, [some (.ref r0), some (.int x1), some (.int x2), o3], [], μ) Q := wp_blk rfl e9_254 k
def q9_260 : List (Nat × Instr × Nat) := [(260, .iinc 1 1, 3), (263, .goto (-57), 3)]
theorem e9_260 : am_dec am_M9 q9_260 = true := by decide +kernel
theorem b9_260 {d : Nat} {Q : Option Value ⊕ Nat → am_Mem → Prop} {μ : am_Mem} {r0 : Nat} {x1 x2 : Int32} {o3 : Option Value}
    (k : Wp d 9 (206, [some (.ref r0), some (.int (x1 + Int32.ofInt 1)), some (.int x2), o3], [], μ) Q) :
    Wp d 9 (260, [some (.ref r0), some (.int x1), some (.int x2), o3], [], μ) Q := wp_blk rfl e9_260 k
theorem e9_266_r : am_dec am_M9 [(266, .return_, 1)] = true := by decide +kernel
theorem b9_266 {d : Nat} {Q : Option Value ⊕ Nat → am_Mem → Prop} {μ : am_Mem} {r0 : Nat} {x1 : Int32} {o2 o3 : Option Value}
    (k : Q (.inl none) μ) :
    Wp d 9 (266, [some (.ref r0), some (.int x1), o2, o3], [], μ) Q := (wp_rv rfl e9_266_r rfl k)
/-! RuleSheets$Checker.maskOf(I)J -/
def q10_0 : List (Nat × Instr × Nat) := [(0, .aload_n 0, 1), (1, .getfield 19, 3), (4, .iload_n 1, 1), (5, .iaload, 1), (6, .iconst (-1), 1), (7, .if_icmp .ne 7, 3)]
theorem e10_0 : am_dec am_M10 q10_0 = true := by decide +kernel
theorem b10_0 {d : Nat} {Q : Option Value ⊕ Nat → am_Mem → Prop} {μ : am_Mem} {r0 : Nat} {x1 : Int32}
    (h1 : am_kd μ r0 = (1, 0))
    (h2 : ¬ am_F μ r0 3 = 15)
    (h3 : (am_kd μ (am_F μ r0 3)).1 = 2 ∨ (am_kd μ (am_F μ r0 3)).1 = 8)
    (h4 : ¬ (x1 < 0 ∨ (am_kd μ (am_F μ r0 3)).2 ≤ x1.toNatClampNeg))
    (k1 : ¬ (am_A μ (am_F μ r0 3) x1.toNatClampNeg) = (Int32.ofInt (-1)) → Wp d 10 (14, [some (.ref r0), some (.int x1)], [], μ) Q) (k2 : ¬ (¬ (am_A μ (am_F μ r0 3) x1.toNatClampNeg) = (Int32.ofInt (-1))) → Wp d 10 (10, [some (.ref r0), some (.int x1)], [], μ) Q) :
    Wp d 10 (0, [some (.ref r0), some (.int x1)], [], μ) Q := wp_blk rfl e10_0 (And.intro h1 (And.intro h2 (And.intro h3 (And.intro h4 (And.intro k1 k2)))))
def q10_10 : List (Nat × Instr × Nat) := [(10, .lconst 0, 1), (11, .goto 11, 3)]
theorem e10_10 : am_dec am_M10 q10_10 = true := by decide +kernel
theorem b10_10 {d : Nat} {Q : Option Value ⊕ Nat → am_Mem → Prop} {μ : am_Mem} {r0 : Nat} {x1 : Int32}
    (k : Wp d 10 (22, [some (.ref r0), some (.int x1)], [.long (Int64.ofNat 0)], μ) Q) :
    Wp d 10 (10, [some (.ref r0), some (.int x1)], [], μ) Q := wp_blk rfl e10_10 k
def q10_14 : List (Nat × Instr × Nat) := [(14, .lconst 1, 1), (15, .aload_n 0, 1), (16, .getfield 19, 3), (19, .iload_n 1, 1), (20, .iaload, 1), (21, .lshl, 1)]
theorem e10_14 : am_dec am_M10 q10_14 = true := by decide +kernel
theorem b10_14 {d : Nat} {Q : Option Value ⊕ Nat → am_Mem → Prop} {μ : am_Mem} {r0 : Nat} {x1 : Int32}
    (h1 : am_kd μ r0 = (1, 0))
    (h2 : ¬ am_F μ r0 3 = 15)
    (h3 : (am_kd μ (am_F μ r0 3)).1 = 2 ∨ (am_kd μ (am_F μ r0 3)).1 = 8)
    (h4 : ¬ (x1 < 0 ∨ (am_kd μ (am_F μ r0 3)).2 ≤ x1.toNatClampNeg))
    (k : Wp d 10 (22, [some (.ref r0), some (.int x1)], [.long ((Int64.ofNat 1) <<< ((am_A μ (am_F μ r0 3) x1.toNatClampNeg).toInt64 &&& 63))], μ) Q) :
    Wp d 10 (14, [some (.ref r0), some (.int x1)], [], μ) Q := wp_blk rfl e10_14 (And.intro h1 (And.intro h2 (And.intro h3 (And.intro h4 k))))
theorem e10_22_r : am_dec am_M10 [(22, .lreturn, 1)] = true := by decide +kernel
theorem b10_22 {d : Nat} {Q : Option Value ⊕ Nat → am_Mem → Prop} {μ : am_Mem} {r0 : Nat} {x1 : Int32} {y90 : Int64}
    (k : Q (.inl (some (.long y90))) μ) :
    Wp d 10 (22, [some (.ref r0), some (.int x1)], [.long y90], μ) Q := (wp_rl rfl e10_22_r rfl k)
/-! RuleSheets$Checker.findDependence()I -/
def q11_0 : List (Nat × Instr × Nat) := [(0, .aload_n 0, 1), (1, .iconst 1, 1), (2, .iconst 2, 1)]
theorem e11_0 : am_dec am_M11 q11_0 = true := by decide +kernel
theorem e11_0_c : am_dc1 am_M11 3 (.invokevirtual 131) 3 = true := by decide +kernel
theorem b11_0 {d : Nat} {Q : Option Value ⊕ Nat → am_Mem → Prop} {μ : am_Mem} {r0 : Nat} {P : Int32 → am_Mem → Prop} {X : Nat → am_Mem → Prop}
    (hk : am_kd μ r0 = (1, 0))
    (hc : Wp d 12 (0, [some (.ref r0), some (.int (Int32.ofInt 1)), some (.int (Int32.ofInt 2))], [], μ) (pI P X)) (hr : ∀ x μ', P x μ' → Wp (d + 1) 11 (6, [some (.ref r0)], [.int x], (μ')) Q)
    (hx : ∀ x μ', X x μ' → Q (.inr x) μ') :
    Wp (d + 1) 11 (0, [some (.ref r0)], [], μ) Q := wp_blk rfl e11_0 (wp_cv (as := [.int (Int32.ofInt 1), .int (Int32.ofInt 2)]) rfl e11_0_c rfl rfl rfl rfl rfl hk hc (fun v μ' hv => by obtain ⟨x, rfl, hp⟩ := pI_r hv; exact hr x μ' hp) hx)
def q11_6 : List (Nat × Instr × Nat) := [(6, .ifCond .ne 12, 3)]
theorem e11_6 : am_dec am_M11 q11_6 = true := by decide +kernel
theorem b11_6 {d : Nat} {Q : Option Value ⊕ Nat → am_Mem → Prop} {μ : am_Mem} {r0 : Nat} {s0 : Int32}
    (k1 : ¬ s0 = 0 → Wp d 11 (18, [some (.ref r0)], [], μ) Q) (k2 : ¬ (¬ s0 = 0) → Wp d 11 (9, [some (.ref r0)], [], μ) Q) :
    Wp d 11 (6, [some (.ref r0)], [.int s0], μ) Q := wp_blk rfl e11_6 (And.intro k1 k2)
def q11_9 : List (Nat × Instr × Nat) := [(9, .aload_n 0, 1), (10, .iconst 1, 1), (11, .iconst 4, 1)]
theorem e11_9 : am_dec am_M11 q11_9 = true := by decide +kernel
theorem e11_9_c : am_dc1 am_M11 12 (.invokevirtual 131) 3 = true := by decide +kernel
theorem b11_9 {d : Nat} {Q : Option Value ⊕ Nat → am_Mem → Prop} {μ : am_Mem} {r0 : Nat} {P : Int32 → am_Mem → Prop} {X : Nat → am_Mem → Prop}
    (hk : am_kd μ r0 = (1, 0))
    (hc : Wp d 12 (0, [some (.ref r0), some (.int (Int32.ofInt 1)), some (.int (Int32.ofInt 4))], [], μ) (pI P X)) (hr : ∀ x μ', P x μ' → Wp (d + 1) 11 (15, [some (.ref r0)], [.int x], (μ')) Q)
    (hx : ∀ x μ', X x μ' → Q (.inr x) μ') :
    Wp (d + 1) 11 (9, [some (.ref r0)], [], μ) Q := wp_blk rfl e11_9 (wp_cv (as := [.int (Int32.ofInt 1), .int (Int32.ofInt 4)]) rfl e11_9_c rfl rfl rfl rfl rfl hk hc (fun v μ' hv => by obtain ⟨x, rfl, hp⟩ := pI_r hv; exact hr x μ' hp) hx)
def q11_15 : List (Nat × Instr × Nat) := [(15, .ifCond .eq 5, 3)]
theorem e11_15 : am_dec am_M11 q11_15 = true := by decide +kernel
theorem b11_15 {d : Nat} {Q : Option Value ⊕ Nat → am_Mem → Prop} {μ : am_Mem} {r0 : Nat} {s0 : Int32}
    (k1 : s0 = 0 → Wp d 11 (20, [some (.ref r0)], [], μ) Q) (k2 : ¬ (s0 = 0) → Wp d 11 (18, [some (.ref r0)], [], μ) Q) :
    Wp d 11 (15, [some (.ref r0)], [.int s0], μ) Q := wp_blk rfl e11_15 (And.intro k1 k2)
def q11_18 : List (Nat × Instr × Nat) := [(18, .iconst 0, 1)]
theorem e11_18 : am_dec am_M11 q11_18 = true := by decide +kernel
theorem e11_18_r : am_dec am_M11 [(19, .ireturn, 1)] = true := by decide +kernel
theorem b11_18 {d : Nat} {Q : Option Value ⊕ Nat → am_Mem → Prop} {μ : am_Mem} {r0 : Nat}
    (k : Q (.inl (some (.int (Int32.ofInt 0)))) μ) :
    Wp d 11 (18, [some (.ref r0)], [], μ) Q := wp_blk rfl e11_18 (wp_ri (ty := .int) rfl e11_18_r rfl ⟨rfl, rfl⟩ k)
def q11_20 : List (Nat × Instr × Nat) := [(20, .aload_n 0, 1), (21, .iconst 5, 1), (22, .iconst 4, 1)]
theorem e11_20 : am_dec am_M11 q11_20 = true := by decide +kernel
theorem e11_20_c : am_dc1 am_M11 23 (.invokevirtual 131) 3 = true := by decide +kernel
theorem b11_20 {d : Nat} {Q : Option Value ⊕ Nat → am_Mem → Prop} {μ : am_Mem} {r0 : Nat} {P : Int32 → am_Mem → Prop} {X : Nat → am_Mem → Prop}
    (hk : am_kd μ r0 = (1, 0))
    (hc : Wp d 12 (0, [some (.ref r0), some (.int (Int32.ofInt 5)), some (.int (Int32.ofInt 4))], [], μ) (pI P X)) (hr : ∀ x μ', P x μ' → Wp (d + 1) 11 (26, [some (.ref r0)], [.int x], (μ')) Q)
    (hx : ∀ x μ', X x μ' → Q (.inr x) μ') :
    Wp (d + 1) 11 (20, [some (.ref r0)], [], μ) Q := wp_blk rfl e11_20 (wp_cv (as := [.int (Int32.ofInt 5), .int (Int32.ofInt 4)]) rfl e11_20_c rfl rfl rfl rfl rfl hk hc (fun v μ' hv => by obtain ⟨x, rfl, hp⟩ := pI_r hv; exact hr x μ' hp) hx)
def q11_26 : List (Nat × Instr × Nat) := [(26, .ifCond .eq 5, 3)]
theorem e11_26 : am_dec am_M11 q11_26 = true := by decide +kernel
theorem b11_26 {d : Nat} {Q : Option Value ⊕ Nat → am_Mem → Prop} {μ : am_Mem} {r0 : Nat} {s0 : Int32}
    (k1 : s0 = 0 → Wp d 11 (31, [some (.ref r0)], [], μ) Q) (k2 : ¬ (s0 = 0) → Wp d 11 (29, [some (.ref r0)], [], μ) Q) :
    Wp d 11 (26, [some (.ref r0)], [.int s0], μ) Q := wp_blk rfl e11_26 (And.intro k1 k2)
def q11_29 : List (Nat × Instr × Nat) := [(29, .iconst 1, 1)]
theorem e11_29 : am_dec am_M11 q11_29 = true := by decide +kernel
theorem e11_29_r : am_dec am_M11 [(30, .ireturn, 1)] = true := by decide +kernel
theorem b11_29 {d : Nat} {Q : Option Value ⊕ Nat → am_Mem → Prop} {μ : am_Mem} {r0 : Nat}
    (k : Q (.inl (some (.int (Int32.ofInt 1)))) μ) :
    Wp d 11 (29, [some (.ref r0)], [], μ) Q := wp_blk rfl e11_29 (wp_ri (ty := .int) rfl e11_29_r rfl ⟨rfl, rfl⟩ k)
def q11_31 : List (Nat × Instr × Nat) := [(31, .aload_n 0, 1), (32, .bipush 6, 2), (34, .iconst 4, 1)]
theorem e11_31 : am_dec am_M11 q11_31 = true := by decide +kernel
theorem e11_31_c : am_dc1 am_M11 35 (.invokevirtual 131) 3 = true := by decide +kernel
theorem b11_31 {d : Nat} {Q : Option Value ⊕ Nat → am_Mem → Prop} {μ : am_Mem} {r0 : Nat} {P : Int32 → am_Mem → Prop} {X : Nat → am_Mem → Prop}
    (hk : am_kd μ r0 = (1, 0))
    (hc : Wp d 12 (0, [some (.ref r0), some (.int ((Int8.ofInt 6).toInt32)), some (.int (Int32.ofInt 4))], [], μ) (pI P X)) (hr : ∀ x μ', P x μ' → Wp (d + 1) 11 (38, [some (.ref r0)], [.int x], (μ')) Q)
    (hx : ∀ x μ', X x μ' → Q (.inr x) μ') :
    Wp (d + 1) 11 (31, [some (.ref r0)], [], μ) Q := wp_blk rfl e11_31 (wp_cv (as := [.int ((Int8.ofInt 6).toInt32), .int (Int32.ofInt 4)]) rfl e11_31_c rfl rfl rfl rfl rfl hk hc (fun v μ' hv => by obtain ⟨x, rfl, hp⟩ := pI_r hv; exact hr x μ' hp) hx)
def q11_38 : List (Nat × Instr × Nat) := [(38, .ifCond .eq 5, 3)]
theorem e11_38 : am_dec am_M11 q11_38 = true := by decide +kernel
theorem b11_38 {d : Nat} {Q : Option Value ⊕ Nat → am_Mem → Prop} {μ : am_Mem} {r0 : Nat} {s0 : Int32}
    (k1 : s0 = 0 → Wp d 11 (43, [some (.ref r0)], [], μ) Q) (k2 : ¬ (s0 = 0) → Wp d 11 (41, [some (.ref r0)], [], μ) Q) :
    Wp d 11 (38, [some (.ref r0)], [.int s0], μ) Q := wp_blk rfl e11_38 (And.intro k1 k2)
def q11_41 : List (Nat × Instr × Nat) := [(41, .iconst 2, 1)]
theorem e11_41 : am_dec am_M11 q11_41 = true := by decide +kernel
theorem e11_41_r : am_dec am_M11 [(42, .ireturn, 1)] = true := by decide +kernel
theorem b11_41 {d : Nat} {Q : Option Value ⊕ Nat → am_Mem → Prop} {μ : am_Mem} {r0 : Nat}
    (k : Q (.inl (some (.int (Int32.ofInt 2)))) μ) :
    Wp d 11 (41, [some (.ref r0)], [], μ) Q := wp_blk rfl e11_41 (wp_ri (ty := .int) rfl e11_41_r rfl ⟨rfl, rfl⟩ k)
def q11_43 : List (Nat × Instr × Nat) := [(43, .aload_n 0, 1), (44, .bipush 7, 2), (46, .iconst 4, 1)]
theorem e11_43 : am_dec am_M11 q11_43 = true := by decide +kernel
theorem e11_43_c : am_dc1 am_M11 47 (.invokevirtual 131) 3 = true := by decide +kernel
theorem b11_43 {d : Nat} {Q : Option Value ⊕ Nat → am_Mem → Prop} {μ : am_Mem} {r0 : Nat} {P : Int32 → am_Mem → Prop} {X : Nat → am_Mem → Prop}
    (hk : am_kd μ r0 = (1, 0))
    (hc : Wp d 12 (0, [some (.ref r0), some (.int ((Int8.ofInt 7).toInt32)), some (.int (Int32.ofInt 4))], [], μ) (pI P X)) (hr : ∀ x μ', P x μ' → Wp (d + 1) 11 (50, [some (.ref r0)], [.int x], (μ')) Q)
    (hx : ∀ x μ', X x μ' → Q (.inr x) μ') :
    Wp (d + 1) 11 (43, [some (.ref r0)], [], μ) Q := wp_blk rfl e11_43 (wp_cv (as := [.int ((Int8.ofInt 7).toInt32), .int (Int32.ofInt 4)]) rfl e11_43_c rfl rfl rfl rfl rfl hk hc (fun v μ' hv => by obtain ⟨x, rfl, hp⟩ := pI_r hv; exact hr x μ' hp) hx)
def q11_50 : List (Nat × Instr × Nat) := [(50, .ifCond .eq 7, 3)]
theorem e11_50 : am_dec am_M11 q11_50 = true := by decide +kernel
theorem b11_50 {d : Nat} {Q : Option Value ⊕ Nat → am_Mem → Prop} {μ : am_Mem} {r0 : Nat} {s0 : Int32}
    (k1 : s0 = 0 → Wp d 11 (57, [some (.ref r0)], [], μ) Q) (k2 : ¬ (s0 = 0) → Wp d 11 (53, [some (.ref r0)], [], μ) Q) :
    Wp d 11 (50, [some (.ref r0)], [.int s0], μ) Q := wp_blk rfl e11_50 (And.intro k1 k2)
def q11_53 : List (Nat × Instr × Nat) := [(53, .iconst 3, 1), (54, .goto 4, 3)]
theorem e11_53 : am_dec am_M11 q11_53 = true := by decide +kernel
theorem b11_53 {d : Nat} {Q : Option Value ⊕ Nat → am_Mem → Prop} {μ : am_Mem} {r0 : Nat}
    (k : Wp d 11 (58, [some (.ref r0)], [.int (Int32.ofInt 3)], μ) Q) :
    Wp d 11 (53, [some (.ref r0)], [], μ) Q := wp_blk rfl e11_53 k
def q11_57 : List (Nat × Instr × Nat) := [(57, .iconst (-1), 1)]
theorem e11_57 : am_dec am_M11 q11_57 = true := by decide +kernel
theorem b11_57 {d : Nat} {Q : Option Value ⊕ Nat → am_Mem → Prop} {μ : am_Mem} {r0 : Nat}
    (k : Wp d 11 (58, [some (.ref r0)], [.int (Int32.ofInt (-1))], μ) Q) :
    Wp d 11 (57, [some (.ref r0)], [], μ) Q := wp_blk rfl e11_57 k
theorem e11_58_r : am_dec am_M11 [(58, .ireturn, 1)] = true := by decide +kernel
theorem b11_58 {d : Nat} {Q : Option Value ⊕ Nat → am_Mem → Prop} {μ : am_Mem} {r0 : Nat} {s0 : Int32}
    (k : Q (.inl (some (.int s0))) μ) :
    Wp d 11 (58, [some (.ref r0)], [.int s0], μ) Q := (wp_ri (ty := .int) rfl e11_58_r rfl ⟨rfl, rfl⟩ k)
/-! RuleSheets$Checker.depends(II)Z -/
def q12_0 : List (Nat × Instr × Nat) := [(0, .aload_n 0, 1), (1, .getfield 19, 3), (4, .iload_n 1, 1), (5, .iaload, 1), (6, .iconst (-1), 1), (7, .if_icmp .eq 13, 3)]
theorem e12_0 : am_dec am_M12 q12_0 = true := by decide +kernel
theorem b12_0 {d : Nat} {Q : Option Value ⊕ Nat → am_Mem → Prop} {μ : am_Mem} {r0 : Nat} {x1 x2 : Int32}
    (h1 : am_kd μ r0 = (1, 0))
    (h2 : ¬ am_F μ r0 3 = 15)
    (h3 : (am_kd μ (am_F μ r0 3)).1 = 2 ∨ (am_kd μ (am_F μ r0 3)).1 = 8)
    (h4 : ¬ (x1 < 0 ∨ (am_kd μ (am_F μ r0 3)).2 ≤ x1.toNatClampNeg))
    (k1 : (am_A μ (am_F μ r0 3) x1.toNatClampNeg) = (Int32.ofInt (-1)) → Wp d 12 (20, [some (.ref r0), some (.int x1), some (.int x2)], [], μ) Q) (k2 : ¬ ((am_A μ (am_F μ r0 3) x1.toNatClampNeg) = (Int32.ofInt (-1))) → Wp d 12 (10, [some (.ref r0), some (.int x1), some (.int x2)], [], μ) Q) :
    Wp d 12 (0, [some (.ref r0), some (.int x1), some (.int x2)], [], μ) Q := wp_blk rfl e12_0 (And.intro h1 (And.intro h2 (And.intro h3 (And.intro h4 (And.intro k1 k2)))))
def q12_10 : List (Nat × Instr × Nat) := [(10, .aload_n 0, 1), (11, .getfield 19, 3), (14, .iload_n 2, 1), (15, .iaload, 1), (16, .iconst (-1), 1), (17, .if_icmp .ne 5, 3)]
theorem e12_10 : am_dec am_M12 q12_10 = true := by decide +kernel
theorem b12_10 {d : Nat} {Q : Option Value ⊕ Nat → am_Mem → Prop} {μ : am_Mem} {r0 : Nat} {x1 x2 : Int32}
    (h1 : am_kd μ r0 = (1, 0))
    (h2 : ¬ am_F μ r0 3 = 15)
    (h3 : (am_kd μ (am_F μ r0 3)).1 = 2 ∨ (am_kd μ (am_F μ r0 3)).1 = 8)
    (h4 : ¬ (x2 < 0 ∨ (am_kd μ (am_F μ r0 3)).2 ≤ x2.toNatClampNeg))
    (k1 : ¬ (am_A μ (am_F μ r0 3) x2.toNatClampNeg) = (Int32.ofInt (-1)) → Wp d 12 (22, [some (.ref r0), some (.int x1), some (.int x2)], [], μ) Q) (k2 : ¬ (¬ (am_A μ (am_F μ r0 3) x2.toNatClampNeg) = (Int32.ofInt (-1))) → Wp d 12 (20, [some (.ref r0), some (.int x1), some (.int x2)], [], μ) Q) :
    Wp d 12 (10, [some (.ref r0), some (.int x1), some (.int x2)], [], μ) Q := wp_blk rfl e12_10 (And.intro h1 (And.intro h2 (And.intro h3 (And.intro h4 (And.intro k1 k2)))))
def q12_20 : List (Nat × Instr × Nat) := [(20, .iconst 0, 1)]
theorem e12_20 : am_dec am_M12 q12_20 = true := by decide +kernel
theorem e12_20_r : am_dec am_M12 [(21, .ireturn, 1)] = true := by decide +kernel
theorem b12_20 {d : Nat} {Q : Option Value ⊕ Nat → am_Mem → Prop} {μ : am_Mem} {r0 : Nat} {x1 x2 : Int32}
    (k : Q (.inl (some (.int (Int32.ofInt 0)))) μ) :
    Wp d 12 (20, [some (.ref r0), some (.int x1), some (.int x2)], [], μ) Q := wp_blk rfl e12_20 (wp_ri (ty := .boolean) rfl e12_20_r rfl (by decide) k)
def q12_22 : List (Nat × Instr × Nat) := [(22, .aload_n 0, 1), (23, .getfield 25, 3), (26, .aload_n 0, 1), (27, .getfield 19, 3), (30, .iload_n 1, 1), (31, .iaload, 1), (32, .laload, 1), (33, .aload_n 0, 1), (34, .getfield 19, 3), (37, .iload_n 2, 1), (38, .iaload, 1), (39, .lushr, 1), (40, .lconst 1, 1), (41, .land, 1), (42, .lconst 0, 1), (43, .lcmp, 1), (44, .ifCond .eq 7, 3)]
theorem e12_22 : am_dec am_M12 q12_22 = true := by decide +kernel
theorem b12_22 {d : Nat} {Q : Option Value ⊕ Nat → am_Mem → Prop} {μ : am_Mem} {r0 : Nat} {x1 x2 : Int32}
    (h1 : am_kd μ r0 = (1, 0))
    (h2 : ¬ am_F μ r0 5 = 15)
    (h3 : am_kd μ r0 = (1, 0))
    (h4 : ¬ am_F μ r0 3 = 15)
    (h5 : (am_kd μ (am_F μ r0 3)).1 = 2 ∨ (am_kd μ (am_F μ r0 3)).1 = 8)
    (h6 : ¬ (x1 < 0 ∨ (am_kd μ (am_F μ r0 3)).2 ≤ x1.toNatClampNeg))
    (h7 : (am_kd μ (am_F μ r0 5)).1 = 6)
    (h8 : ¬ ((am_A μ (am_F μ r0 3) x1.toNatClampNeg) < 0 ∨ (am_kd μ (am_F μ r0 5)).2 ≤ (am_A μ (am_F μ r0 3) x1.toNatClampNeg).toNatClampNeg))
    (h9 : am_kd μ r0 = (1, 0))
    (h10 : ¬ am_F μ r0 3 = 15)
    (h11 : (am_kd μ (am_F μ r0 3)).1 = 2 ∨ (am_kd μ (am_F μ r0 3)).1 = 8)
    (h12 : ¬ (x2 < 0 ∨ (am_kd μ (am_F μ r0 3)).2 ≤ x2.toNatClampNeg))
    (k1 : (lg_cmp ((((am_L μ (am_F μ r0 5) (am_A μ (am_F μ r0 3) x1.toNatClampNeg).toNatClampNeg).toUInt64 >>> ((am_A μ (am_F μ r0 3) x2.toNatClampNeg).toInt64.toUInt64 &&& Int64.toUInt64 63)).toInt64) &&& (Int64.ofNat 1)) (Int64.ofNat 0)) = 0 → Wp d 12 (51, [some (.ref r0), some (.int x1), some (.int x2)], [], μ) Q) (k2 : ¬ ((lg_cmp ((((am_L μ (am_F μ r0 5) (am_A μ (am_F μ r0 3) x1.toNatClampNeg).toNatClampNeg).toUInt64 >>> ((am_A μ (am_F μ r0 3) x2.toNatClampNeg).toInt64.toUInt64 &&& Int64.toUInt64 63)).toInt64) &&& (Int64.ofNat 1)) (Int64.ofNat 0)) = 0) → Wp d 12 (47, [some (.ref r0), some (.int x1), some (.int x2)], [], μ) Q) :
    Wp d 12 (22, [some (.ref r0), some (.int x1), some (.int x2)], [], μ) Q := wp_blk rfl e12_22 (And.intro h1 (And.intro h2 (And.intro h3 (And.intro h4 (And.intro h5 (And.intro h6 (And.intro h7 (And.intro h8 (And.intro h9 (And.intro h10 (And.intro h11 (And.intro h12 (And.intro k1 k2)))))))))))))
def q12_47 : List (Nat × Instr × Nat) := [(47, .iconst 1, 1), (48, .goto 4, 3)]
theorem e12_47 : am_dec am_M12 q12_47 = true := by decide +kernel
theorem b12_47 {d : Nat} {Q : Option Value ⊕ Nat → am_Mem → Prop} {μ : am_Mem} {r0 : Nat} {x1 x2 : Int32}
    (k : Wp d 12 (52, [some (.ref r0), some (.int x1), some (.int x2)], [.int (Int32.ofInt 1)], μ) Q) :
    Wp d 12 (47, [some (.ref r0), some (.int x1), some (.int x2)], [], μ) Q := wp_blk rfl e12_47 k
def q12_51 : List (Nat × Instr × Nat) := [(51, .iconst 0, 1)]
theorem e12_51 : am_dec am_M12 q12_51 = true := by decide +kernel
theorem b12_51 {d : Nat} {Q : Option Value ⊕ Nat → am_Mem → Prop} {μ : am_Mem} {r0 : Nat} {x1 x2 : Int32}
    (k : Wp d 12 (52, [some (.ref r0), some (.int x1), some (.int x2)], [.int (Int32.ofInt 0)], μ) Q) :
    Wp d 12 (51, [some (.ref r0), some (.int x1), some (.int x2)], [], μ) Q := wp_blk rfl e12_51 k
theorem e12_52_r : am_dec am_M12 [(52, .ireturn, 1)] = true := by decide +kernel
theorem b12_52 {d : Nat} {Q : Option Value ⊕ Nat → am_Mem → Prop} {μ : am_Mem} {r0 : Nat} {x1 x2 s0 : Int32}
    (hn : narrow .boolean (.int s0) = .int s0 ∧ fits .boolean (.int s0) = true)
    (k : Q (.inl (some (.int s0))) μ) :
    Wp d 12 (52, [some (.ref r0), some (.int x1), some (.int x2)], [.int s0], μ) Q := (wp_ri (ty := .boolean) rfl e12_52_r rfl hn k)
/-! RuleSheets$Checker.findUnsafe()I -/
def q13_0 : List (Nat × Instr × Nat) := [(0, .iconst 0, 1), (1, .istore_n 1, 1)]
theorem e13_0 : am_dec am_M13 q13_0 = true := by decide +kernel
theorem b13_0 {d : Nat} {Q : Option Value ⊕ Nat → am_Mem → Prop} {μ : am_Mem} {r0 : Nat}
    (k : Wp d 13 (2, [some (.ref r0), some (.int (Int32.ofInt 0)), none, none], [], μ) Q) :
    Wp d 13 (0, [some (.ref r0), none, none, none], [], μ) Q := wp_blk rfl e13_0 k
def q13_2 : List (Nat × Instr × Nat) := [(2, .iload_n 1, 1), (3, .aload_n 0, 1), (4, .getfield 33, 3), (7, .getfield 92, 3), (10, .if_icmp .ge 117, 3)]
theorem e13_2 : am_dec am_M13 q13_2 = true := by decide +kernel
theorem b13_2 {d : Nat} {Q : Option Value ⊕ Nat → am_Mem → Prop} {μ : am_Mem} {r0 : Nat} {x1 : Int32} {o2 o3 : Option Value}
    (h1 : am_kd μ r0 = (1, 0))
    (h2 : ¬ am_F μ r0 1 = 15)
    (h3 : am_kd μ (am_F μ r0 1) = (1, 5))
    (k1 : (am_A μ (am_F μ r0 1) 13) ≤ x1 → Wp d 13 (127, [some (.ref r0), some (.int x1), o2, o3], [], μ) Q) (k2 : ¬ ((am_A μ (am_F μ r0 1) 13) ≤ x1) → Wp d 13 (13, [some (.ref r0), some (.int x1), o2, o3], [], μ) Q) :
    Wp d 13 (2, [some (.ref r0), some (.int x1), o2, o3], [], μ) Q := wp_blk rfl e13_2 (And.intro h1 (And.intro h2 (And.intro h3 (And.intro k1 k2))))
def q13_13 : List (Nat × Instr × Nat) := [(13, .aload_n 0, 1), (14, .getfield 33, 3), (17, .getfield 112, 3), (20, .aload_n 0, 1), (21, .getfield 33, 3), (24, .getfield 67, 3), (27, .iload_n 1, 1), (28, .iaload, 1), (29, .iaload, 1), (30, .istore_n 2, 1), (31, .iconst 0, 1), (32, .istore_n 3, 1)]
theorem e13_13 : am_dec am_M13 q13_13 = true := by decide +kernel
theorem b13_13 {d : Nat} {Q : Option Value ⊕ Nat → am_Mem → Prop} {μ : am_Mem} {r0 : Nat} {x1 : Int32} {o2 o3 : Option Value}
    (h1 : am_kd μ r0 = (1, 0))
    (h2 : ¬ am_F μ r0 1 = 15)
    (h3 : am_kd μ (am_F μ r0 1) = (1, 5))
    (h4 : ¬ am_F μ (am_F μ r0 1) 5 = 15)
    (h5 : am_kd μ r0 = (1, 0))
    (h6 : ¬ am_F μ r0 1 = 15)
    (h7 : am_kd μ (am_F μ r0 1) = (1, 5))
    (h8 : ¬ am_F μ (am_F μ r0 1) 7 = 15)
    (h9 : (am_kd μ (am_F μ (am_F μ r0 1) 7)).1 = 2 ∨ (am_kd μ (am_F μ (am_F μ r0 1) 7)).1 = 8)
    (h10 : ¬ (x1 < 0 ∨ (am_kd μ (am_F μ (am_F μ r0 1) 7)).2 ≤ x1.toNatClampNeg))
    (h11 : (am_kd μ (am_F μ (am_F μ r0 1) 5)).1 = 2 ∨ (am_kd μ (am_F μ (am_F μ r0 1) 5)).1 = 8)
    (h12 : ¬ ((am_A μ (am_F μ (am_F μ r0 1) 7) x1.toNatClampNeg) < 0 ∨ (am_kd μ (am_F μ (am_F μ r0 1) 5)).2 ≤ (am_A μ (am_F μ (am_F μ r0 1) 7) x1.toNatClampNeg).toNatClampNeg))
    (k : Wp d 13 (33, [some (.ref r0), some (.int x1), some (.int (am_A μ (am_F μ (am_F μ r0 1) 5) (am_A μ (am_F μ (am_F μ r0 1) 7) x1.toNatClampNeg).toNatClampNeg)), some (.int (Int32.ofInt 0))], [], μ) Q) :
    Wp d 13 (13, [some (.ref r0), some (.int x1), o2, o3], [], μ) Q := wp_blk rfl e13_13 (And.intro h1 (And.intro h2 (And.intro h3 (And.intro h4 (And.intro h5 (And.intro h6 (And.intro h7 (And.intro h8 (And.intro h9 (And.intro h10 (And.intro h11 (And.intro h12 k))))))))))))
def q13_33 : List (Nat × Instr × Nat) := [(33, .iload_n 3, 1), (34, .aload_n 0, 1), (35, .getfield 33, 3), (38, .getfield 102, 3), (41, .iload_n 1, 1), (42, .iaload, 1), (43, .if_icmp .ge 29, 3)]
theorem e13_33 : am_dec am_M13 q13_33 = true := by decide +kernel
theorem b13_33 {d : Nat} {Q : Option Value ⊕ Nat → am_Mem → Prop} {μ : am_Mem} {r0 : Nat} {x1 x2 x3 : Int32}
    (h1 : am_kd μ r0 = (1, 0))
    (h2 : ¬ am_F μ r0 1 = 15)
    (h3 : am_kd μ (am_F μ r0 1) = (1, 5))
    (h4 : ¬ am_F μ (am_F μ r0 1) 12 = 15)
    (h5 : (am_kd μ (am_F μ (am_F μ r0 1) 12)).1 = 2 ∨ (am_kd μ (am_F μ (am_F μ r0 1) 12)).1 = 8)
    (h6 : ¬ (x1 < 0 ∨ (am_kd μ (am_F μ (am_F μ r0 1) 12)).2 ≤ x1.toNatClampNeg))
    (k1 : (am_A μ (am_F μ (am_F μ r0 1) 12) x1.toNatClampNeg) ≤ x3 → Wp d 13 (72, [some (.ref r0), some (.int x1), some (.int x2), some (.int x3)], [], μ) Q) (k2 : ¬ ((am_A μ (am_F μ (am_F μ r0 1) 12) x1.toNatClampNeg) ≤ x3) → Wp d 13 (46, [some (.ref r0), some (.int x1), some (.int x2), some (.int x3)], [], μ) Q) :
    Wp d 13 (33, [some (.ref r0), some (.int x1), some (.int x2), some (.int x3)], [], μ) Q := wp_blk rfl e13_33 (And.intro h1 (And.intro h2 (And.intro h3 (And.intro h4 (And.intro h5 (And.intro h6 (And.intro k1 k2)))))))
def q13_46 : List (Nat × Instr × Nat) := [(46, .iload_n 2, 1), (47, .aload_n 0, 1), (48, .getfield 33, 3), (51, .getfield 112, 3), (54, .aload_n 0, 1), (55, .getfield 33, 3), (58, .iload_n 1, 1), (59, .iload_n 3, 1)]
theorem e13_46 : am_dec am_M13 q13_46 = true := by decide +kernel
theorem e13_46_c : am_dc1 am_M13 60 (.invokevirtual 74) 3 = true := by decide +kernel
theorem b13_46 {d : Nat} {Q : Option Value ⊕ Nat → am_Mem → Prop} {μ : am_Mem} {r0 : Nat} {x1 x2 x3 : Int32} {P : Int32 → am_Mem → Prop} {X : Nat → am_Mem → Prop}
    (h1 : am_kd μ r0 = (1, 0))
    (h2 : ¬ am_F μ r0 1 = 15)
    (h3 : am_kd μ (am_F μ r0 1) = (1, 5))
    (h4 : ¬ am_F μ (am_F μ r0 1) 5 = 15)
    (h5 : am_kd μ r0 = (1, 0))
    (h6 : ¬ am_F μ r0 1 = 15)
    (hk : am_kd μ (am_F μ r0 1) = (1, 5))
    (hc : Wp d 70 (0, [some (.ref (am_F μ r0 1)), some (.int x1), some (.int x3)], [], μ) (pI P X)) (hr : ∀ x μ', P x μ' → Wp (d + 1) 13 (63, [some (.ref r0), some (.int x1), some (.int x2), some (.int x3)], [.int x, .ref (am_F μ (am_F μ r0 1) 5), .int x2], (μ')) Q)
    (hx : ∀ x μ', X x μ' → Q (.inr x) μ') :
    Wp (d + 1) 13 (46, [some (.ref r0), some (.int x1), some (.int x2), some (.int x3)], [], μ) Q := wp_blk rfl e13_46 (And.intro h1 (And.intro h2 (And.intro h3 (And.intro h4 (And.intro h5 (And.intro h6 (wp_cv (as := [.int x1, .int x3]) rfl e13_46_c rfl rfl rfl rfl rfl hk hc (fun v μ' hv => by obtain ⟨x, rfl, hp⟩ := pI_r hv; exact hr x μ' hp) hx)))))))
def q13_63 : List (Nat × Instr × Nat) := [(63, .iaload, 1), (64, .ior, 1), (65, .istore_n 2, 1), (66, .iinc 3 1, 3), (69, .goto (-36), 3)]
theorem e13_63 : am_dec am_M13 q13_63 = true := by decide +kernel
theorem b13_63 {d : Nat} {Q : Option Value ⊕ Nat → am_Mem → Prop} {μ : am_Mem} {r0 r91 : Nat} {x1 x2 x3 s0 s2 : Int32}
    (h1 : (am_kd μ r91).1 = 2 ∨ (am_kd μ r91).1 = 8)
    (h2 : ¬ (s2 < 0 ∨ (am_kd μ r91).2 ≤ s2.toNatClampNeg))
    (k : Wp d 13 (33, [some (.ref r0), some (.int x1), some (.int (s0 ||| (am_A μ r91 s2.toNatClampNeg))), some (.int (x3 + Int32.ofInt 1))], [], μ) Q) :
    Wp d 13 (63, [some (.ref r0), some (.int x1), some (.int x2), some (.int x3)], [.int s2, .ref r91, .int s0], μ) Q := wp_blk rfl e13_63 (And.intro h1 (And.intro h2 k))
def q13_72 : List (Nat × Instr × Nat) := [(72, .iconst 0, 1), (73, .istore_n 3, 1)]
theorem e13_72 : am_dec am_M13 q13_72 = true := by decide +kernel
theorem b13_72 {d : Nat} {Q : Option Value ⊕ Nat → am_Mem → Prop} {μ : am_Mem} {r0 : Nat} {x1 x2 x3 : Int32}
    (k : Wp d 13 (74, [some (.ref r0), some (.int x1), some (.int x2), some (.int (Int32.ofInt 0))], [], μ) Q) :
    Wp d 13 (72, [some (.ref r0), some (.int x1), some (.int x2), some (.int x3)], [], μ) Q := wp_blk rfl e13_72 k
def q13_74 : List (Nat × Instr × Nat) := [(74, .iload_n 3, 1), (75, .aload_n 0, 1), (76, .getfield 33, 3), (79, .getfield 99, 3), (82, .iload_n 1, 1), (83, .iaload, 1), (84, .if_icmp .ge 31, 3)]
theorem e13_74 : am_dec am_M13 q13_74 = true := by decide +kernel
theorem b13_74 {d : Nat} {Q : Option Value ⊕ Nat → am_Mem → Prop} {μ : am_Mem} {r0 : Nat} {x1 x2 x3 : Int32}
    (h1 : am_kd μ r0 = (1, 0))
    (h2 : ¬ am_F μ r0 1 = 15)
    (h3 : am_kd μ (am_F μ r0 1) = (1, 5))
    (h4 : ¬ am_F μ (am_F μ r0 1) 9 = 15)
    (h5 : (am_kd μ (am_F μ (am_F μ r0 1) 9)).1 = 2 ∨ (am_kd μ (am_F μ (am_F μ r0 1) 9)).1 = 8)
    (h6 : ¬ (x1 < 0 ∨ (am_kd μ (am_F μ (am_F μ r0 1) 9)).2 ≤ x1.toNatClampNeg))
    (k1 : (am_A μ (am_F μ (am_F μ r0 1) 9) x1.toNatClampNeg) ≤ x3 → Wp d 13 (115, [some (.ref r0), some (.int x1), some (.int x2), some (.int x3)], [], μ) Q) (k2 : ¬ ((am_A μ (am_F μ (am_F μ r0 1) 9) x1.toNatClampNeg) ≤ x3) → Wp d 13 (87, [some (.ref r0), some (.int x1), some (.int x2), some (.int x3)], [], μ) Q) :
    Wp d 13 (74, [some (.ref r0), some (.int x1), some (.int x2), some (.int x3)], [], μ) Q := wp_blk rfl e13_74 (And.intro h1 (And.intro h2 (And.intro h3 (And.intro h4 (And.intro h5 (And.intro h6 (And.intro k1 k2)))))))
def q13_87 : List (Nat × Instr × Nat) := [(87, .iload_n 2, 1), (88, .aload_n 0, 1), (89, .getfield 33, 3), (92, .getfield 112, 3), (95, .aload_n 0, 1), (96, .getfield 33, 3), (99, .iload_n 1, 1), (100, .iload_n 3, 1)]
theorem e13_87 : am_dec am_M13 q13_87 = true := by decide +kernel
theorem e13_87_c : am_dc1 am_M13 101 (.invokevirtual 70) 3 = true := by decide +kernel
theorem b13_87 {d : Nat} {Q : Option Value ⊕ Nat → am_Mem → Prop} {μ : am_Mem} {r0 : Nat} {x1 x2 x3 : Int32} {P : Int32 → am_Mem → Prop} {X : Nat → am_Mem → Prop}
    (h1 : am_kd μ r0 = (1, 0))
    (h2 : ¬ am_F μ r0 1 = 15)
    (h3 : am_kd μ (am_F μ r0 1) = (1, 5))
    (h4 : ¬ am_F μ (am_F μ r0 1) 5 = 15)
    (h5 : am_kd μ r0 = (1, 0))
    (h6 : ¬ am_F μ r0 1 = 15)
    (hk : am_kd μ (am_F μ r0 1) = (1, 5))
    (hc : Wp d 69 (0, [some (.ref (am_F μ r0 1)), some (.int x1), some (.int x3)], [], μ) (pI P X)) (hr : ∀ x μ', P x μ' → Wp (d + 1) 13 (104, [some (.ref r0), some (.int x1), some (.int x2), some (.int x3)], [.int x, .ref (am_F μ (am_F μ r0 1) 5), .int x2], (μ')) Q)
    (hx : ∀ x μ', X x μ' → Q (.inr x) μ') :
    Wp (d + 1) 13 (87, [some (.ref r0), some (.int x1), some (.int x2), some (.int x3)], [], μ) Q := wp_blk rfl e13_87 (And.intro h1 (And.intro h2 (And.intro h3 (And.intro h4 (And.intro h5 (And.intro h6 (wp_cv (as := [.int x1, .int x3]) rfl e13_87_c rfl rfl rfl rfl rfl hk hc (fun v μ' hv => by obtain ⟨x, rfl, hp⟩ := pI_r hv; exact hr x μ' hp) hx)))))))
def q13_104 : List (Nat × Instr × Nat) := [(104, .iaload, 1), (105, .iconst (-1), 1), (106, .ixor, 1), (107, .iand, 1), (108, .istore_n 2, 1), (109, .iinc 3 1, 3), (112, .goto (-38), 3)]
theorem e13_104 : am_dec am_M13 q13_104 = true := by decide +kernel
theorem b13_104 {d : Nat} {Q : Option Value ⊕ Nat → am_Mem → Prop} {μ : am_Mem} {r0 r91 : Nat} {x1 x2 x3 s0 s2 : Int32}
    (h1 : (am_kd μ r91).1 = 2 ∨ (am_kd μ r91).1 = 8)
    (h2 : ¬ (s2 < 0 ∨ (am_kd μ r91).2 ≤ s2.toNatClampNeg))
    (k : Wp d 13 (74, [some (.ref r0), some (.int x1), some (.int (s0 &&& ((am_A μ r91 s2.toNatClampNeg) ^^^ (Int32.ofInt (-1))))), some (.int (x3 + Int32.ofInt 1))], [], μ) Q) :
    Wp d 13 (104, [some (.ref r0), some (.int x1), some (.int x2), some (.int x3)], [.int s2, .ref r91, .int s0], μ) Q := wp_blk rfl e13_104 (And.intro h1 (And.intro h2 k))
def q13_115 : List (Nat × Instr × Nat) := [(115, .iload_n 2, 1), (116, .ifCond .eq 5, 3)]
theorem e13_115 : am_dec am_M13 q13_115 = true := by decide +kernel
theorem b13_115 {d : Nat} {Q : Option Value ⊕ Nat → am_Mem → Prop} {μ : am_Mem} {r0 : Nat} {x1 x2 x3 : Int32}
    (k1 : x2 = 0 → Wp d 13 (121, [some (.ref r0), some (.int x1), some (.int x2), some (.int x3)], [], μ) Q) (k2 : ¬ (x2 = 0) → Wp d 13 (119, [some (.ref r0), some (.int x1), some (.int x2), some (.int x3)], [], μ) Q) :
    Wp d 13 (115, [some (.ref r0), some (.int x1), some (.int x2), some (.int x3)], [], μ) Q := wp_blk rfl e13_115 (And.intro k1 k2)
def q13_119 : List (Nat × Instr × Nat) := [(119, .iload_n 1, 1)]
theorem e13_119 : am_dec am_M13 q13_119 = true := by decide +kernel
theorem e13_119_r : am_dec am_M13 [(120, .ireturn, 1)] = true := by decide +kernel
theorem b13_119 {d : Nat} {Q : Option Value ⊕ Nat → am_Mem → Prop} {μ : am_Mem} {r0 : Nat} {x1 x2 x3 : Int32}
    (k : Q (.inl (some (.int x1))) μ) :
    Wp d 13 (119, [some (.ref r0), some (.int x1), some (.int x2), some (.int x3)], [], μ) Q := wp_blk rfl e13_119 (wp_ri (ty := .int) rfl e13_119_r rfl ⟨rfl, rfl⟩ k)
def q13_121 : List (Nat × Instr × Nat) := [(121, .iinc 1 1, 3), (124, .goto (-122), 3)]
theorem e13_121 : am_dec am_M13 q13_121 = true := by decide +kernel
theorem b13_121 {d : Nat} {Q : Option Value ⊕ Nat → am_Mem → Prop} {μ : am_Mem} {r0 : Nat} {x1 x2 x3 : Int32}
    (k : Wp d 13 (2, [some (.ref r0), some (.int (x1 + Int32.ofInt 1)), some (.int x2), some (.int x3)], [], μ) Q) :
    Wp d 13 (121, [some (.ref r0), some (.int x1), some (.int x2), some (.int x3)], [], μ) Q := wp_blk rfl e13_121 k
def q13_127 : List (Nat × Instr × Nat) := [(127, .iconst (-1), 1)]
theorem e13_127 : am_dec am_M13 q13_127 = true := by decide +kernel
theorem e13_127_r : am_dec am_M13 [(128, .ireturn, 1)] = true := by decide +kernel
theorem b13_127 {d : Nat} {Q : Option Value ⊕ Nat → am_Mem → Prop} {μ : am_Mem} {r0 : Nat} {x1 : Int32} {o2 o3 : Option Value}
    (k : Q (.inl (some (.int (Int32.ofInt (-1))))) μ) :
    Wp d 13 (127, [some (.ref r0), some (.int x1), o2, o3], [], μ) Q := wp_blk rfl e13_127 (wp_ri (ty := .int) rfl e13_127_r rfl ⟨rfl, rfl⟩ k)
/-! RuleSheets$Checker.findUnlayered()I -/
def q14_0 : List (Nat × Instr × Nat) := [(0, .iconst 0, 1), (1, .istore_n 1, 1)]
theorem e14_0 : am_dec am_M14 q14_0 = true := by decide +kernel
theorem b14_0 {d : Nat} {Q : Option Value ⊕ Nat → am_Mem → Prop} {μ : am_Mem} {r0 : Nat}
    (k : Wp d 14 (2, [some (.ref r0), some (.int (Int32.ofInt 0)), none, none], [], μ) Q) :
    Wp d 14 (0, [some (.ref r0), none, none, none], [], μ) Q := wp_blk rfl e14_0 k
def q14_2 : List (Nat × Instr × Nat) := [(2, .iload_n 1, 1), (3, .aload_n 0, 1), (4, .getfield 33, 3), (7, .getfield 92, 3), (10, .if_icmp .ge 58, 3)]
theorem e14_2 : am_dec am_M14 q14_2 = true := by decide +kernel
theorem b14_2 {d : Nat} {Q : Option Value ⊕ Nat → am_Mem → Prop} {μ : am_Mem} {r0 : Nat} {x1 : Int32} {o2 o3 : Option Value}
    (h1 : am_kd μ r0 = (1, 0))
    (h2 : ¬ am_F μ r0 1 = 15)
    (h3 : am_kd μ (am_F μ r0 1) = (1, 5))
    (k1 : (am_A μ (am_F μ r0 1) 13) ≤ x1 → Wp d 14 (68, [some (.ref r0), some (.int x1), o2, o3], [], μ) Q) (k2 : ¬ ((am_A μ (am_F μ r0 1) 13) ≤ x1) → Wp d 14 (13, [some (.ref r0), some (.int x1), o2, o3], [], μ) Q) :
    Wp d 14 (2, [some (.ref r0), some (.int x1), o2, o3], [], μ) Q := wp_blk rfl e14_2 (And.intro h1 (And.intro h2 (And.intro h3 (And.intro k1 k2))))
def q14_13 : List (Nat × Instr × Nat) := [(13, .iconst 0, 1), (14, .istore_n 2, 1)]
theorem e14_13 : am_dec am_M14 q14_13 = true := by decide +kernel
theorem b14_13 {d : Nat} {Q : Option Value ⊕ Nat → am_Mem → Prop} {μ : am_Mem} {r0 : Nat} {x1 : Int32} {o2 o3 : Option Value}
    (k : Wp d 14 (15, [some (.ref r0), some (.int x1), some (.int (Int32.ofInt 0)), o3], [], μ) Q) :
    Wp d 14 (13, [some (.ref r0), some (.int x1), o2, o3], [], μ) Q := wp_blk rfl e14_13 k
def q14_15 : List (Nat × Instr × Nat) := [(15, .iload_n 2, 1), (16, .aload_n 0, 1), (17, .getfield 33, 3), (20, .getfield 102, 3), (23, .iload_n 1, 1), (24, .iaload, 1), (25, .if_icmp .ge 37, 3)]
theorem e14_15 : am_dec am_M14 q14_15 = true := by decide +kernel
theorem b14_15 {d : Nat} {Q : Option Value ⊕ Nat → am_Mem → Prop} {μ : am_Mem} {r0 : Nat} {x1 x2 : Int32} {o3 : Option Value}
    (h1 : am_kd μ r0 = (1, 0))
    (h2 : ¬ am_F μ r0 1 = 15)
    (h3 : am_kd μ (am_F μ r0 1) = (1, 5))
    (h4 : ¬ am_F μ (am_F μ r0 1) 12 = 15)
    (h5 : (am_kd μ (am_F μ (am_F μ r0 1) 12)).1 = 2 ∨ (am_kd μ (am_F μ (am_F μ r0 1) 12)).1 = 8)
    (h6 : ¬ (x1 < 0 ∨ (am_kd μ (am_F μ (am_F μ r0 1) 12)).2 ≤ x1.toNatClampNeg))
    (k1 : (am_A μ (am_F μ (am_F μ r0 1) 12) x1.toNatClampNeg) ≤ x2 → Wp d 14 (62, [some (.ref r0), some (.int x1), some (.int x2), o3], [], μ) Q) (k2 : ¬ ((am_A μ (am_F μ (am_F μ r0 1) 12) x1.toNatClampNeg) ≤ x2) → Wp d 14 (28, [some (.ref r0), some (.int x1), some (.int x2), o3], [], μ) Q) :
    Wp d 14 (15, [some (.ref r0), some (.int x1), some (.int x2), o3], [], μ) Q := wp_blk rfl e14_15 (And.intro h1 (And.intro h2 (And.intro h3 (And.intro h4 (And.intro h5 (And.intro h6 (And.intro k1 k2)))))))
def q14_28 : List (Nat × Instr × Nat) := [(28, .aload_n 0, 1), (29, .iload_n 1, 1), (30, .iload_n 2, 1)]
theorem e14_28 : am_dec am_M14 q14_28 = true := by decide +kernel
theorem e14_28_c : am_dc1 am_M14 31 (.invokevirtual 121) 3 = true := by decide +kernel
theorem b14_28 {d : Nat} {Q : Option Value ⊕ Nat → am_Mem → Prop} {μ : am_Mem} {r0 : Nat} {x1 x2 : Int32} {o3 : Option Value} {P : Int32 → am_Mem → Prop} {X : Nat → am_Mem → Prop}
    (hk : am_kd μ r0 = (1, 0))
    (hc : Wp d 8 (0, [some (.ref r0), some (.int x1), some (.int x2)], [], μ) (pI P X)) (hr : ∀ x μ', P x μ' → Wp (d + 1) 14 (34, [some (.ref r0), some (.int x1), some (.int x2), o3], [.int x], (μ')) Q)
    (hx : ∀ x μ', X x μ' → Q (.inr x) μ') :
    Wp (d + 1) 14 (28, [some (.ref r0), some (.int x1), some (.int x2), o3], [], μ) Q := wp_blk rfl e14_28 (wp_cv (as := [.int x1, .int x2]) rfl e14_28_c rfl rfl rfl rfl rfl hk hc (fun v μ' hv => by obtain ⟨x, rfl, hp⟩ := pI_r hv; exact hr x μ' hp) hx)
def q14_34 : List (Nat × Instr × Nat) := [(34, .istore_n 3, 1), (35, .iload_n 3, 1), (36, .bipush 9, 2), (38, .if_icmp .eq 18, 3)]
theorem e14_34 : am_dec am_M14 q14_34 = true := by decide +kernel
theorem b14_34 {d : Nat} {Q : Option Value ⊕ Nat → am_Mem → Prop} {μ : am_Mem} {r0 : Nat} {x1 x2 s0 : Int32} {o3 : Option Value}
    (k1 : s0 = ((Int8.ofInt 9).toInt32) → Wp d 14 (56, [some (.ref r0), some (.int x1), some (.int x2), some (.int s0)], [], μ) Q) (k2 : ¬ (s0 = ((Int8.ofInt 9).toInt32)) → Wp d 14 (41, [some (.ref r0), some (.int x1), some (.int x2), some (.int s0)], [], μ) Q) :
    Wp d 14 (34, [some (.ref r0), some (.int x1), some (.int x2), o3], [.int s0], μ) Q := wp_blk rfl e14_34 (And.intro k1 k2)
def q14_41 : List (Nat × Instr × Nat) := [(41, .aload_n 0, 1), (42, .iload_n 3, 1), (43, .aload_n 0, 1), (44, .iload_n 1, 1)]
theorem e14_41 : am_dec am_M14 q14_41 = true := by decide +kernel
theorem e14_41_c : am_dc1 am_M14 45 (.invokevirtual 108) 3 = true := by decide +kernel
theorem b14_41 {d : Nat} {Q : Option Value ⊕ Nat → am_Mem → Prop} {μ : am_Mem} {r0 : Nat} {x1 x2 x3 : Int32} {P : Int32 → am_Mem → Prop} {X : Nat → am_Mem → Prop}
    (hk : am_kd μ r0 = (1, 0))
    (hc : Wp d 5 (0, [some (.ref r0), some (.int x1)], [], μ) (pI P X)) (hr : ∀ x μ', P x μ' → Wp (d + 1) 14 (48, [some (.ref r0), some (.int x1), some (.int x2), some (.int x3)], [.int x, .int x3, .ref r0], (μ')) Q)
    (hx : ∀ x μ', X x μ' → Q (.inr x) μ') :
    Wp (d + 1) 14 (41, [some (.ref r0), some (.int x1), some (.int x2), some (.int x3)], [], μ) Q := wp_blk rfl e14_41 (wp_cv (as := [.int x1]) rfl e14_41_c rfl rfl rfl rfl rfl hk hc (fun v μ' hv => by obtain ⟨x, rfl, hp⟩ := pI_r hv; exact hr x μ' hp) hx)
theorem e14_48_c : am_dc1 am_M14 48 (.invokevirtual 135) 3 = true := by decide +kernel
theorem b14_48 {d : Nat} {Q : Option Value ⊕ Nat → am_Mem → Prop} {μ : am_Mem} {r0 r90 : Nat} {x1 x2 x3 s1 s2 : Int32} {P : Int32 → am_Mem → Prop} {X : Nat → am_Mem → Prop}
    (hk : am_kd μ r90 = (1, 0))
    (hc : Wp d 15 (0, [some (.ref r90), some (.int s1), some (.int s2)], [], μ) (pI P X)) (hr : ∀ x μ', P x μ' → Wp (d + 1) 14 (51, [some (.ref r0), some (.int x1), some (.int x2), some (.int x3)], [.int x], (μ')) Q)
    (hx : ∀ x μ', X x μ' → Q (.inr x) μ') :
    Wp (d + 1) 14 (48, [some (.ref r0), some (.int x1), some (.int x2), some (.int x3)], [.int s2, .int s1, .ref r90], μ) Q := (wp_cv (as := [.int s1, .int s2]) rfl e14_48_c rfl rfl rfl rfl rfl hk hc (fun v μ' hv => by obtain ⟨x, rfl, hp⟩ := pI_r hv; exact hr x μ' hp) hx)
def q14_51 : List (Nat × Instr × Nat) := [(51, .ifCond .eq 5, 3)]
theorem e14_51 : am_dec am_M14 q14_51 = true := by decide +kernel
theorem b14_51 {d : Nat} {Q : Option Value ⊕ Nat → am_Mem → Prop} {μ : am_Mem} {r0 : Nat} {x1 x2 x3 s0 : Int32}
    (k1 : s0 = 0 → Wp d 14 (56, [some (.ref r0), some (.int x1), some (.int x2), some (.int x3)], [], μ) Q) (k2 : ¬ (s0 = 0) → Wp d 14 (54, [some (.ref r0), some (.int x1), some (.int x2), some (.int x3)], [], μ) Q) :
    Wp d 14 (51, [some (.ref r0), some (.int x1), some (.int x2), some (.int x3)], [.int s0], μ) Q := wp_blk rfl e14_51 (And.intro k1 k2)
def q14_54 : List (Nat × Instr × Nat) := [(54, .iload_n 1, 1)]
theorem e14_54 : am_dec am_M14 q14_54 = true := by decide +kernel
theorem e14_54_r : am_dec am_M14 [(55, .ireturn, 1)] = true := by decide +kernel
theorem b14_54 {d : Nat} {Q : Option Value ⊕ Nat → am_Mem → Prop} {μ : am_Mem} {r0 : Nat} {x1 x2 x3 : Int32}
    (k : Q (.inl (some (.int x1))) μ) :
    Wp d 14 (54, [some (.ref r0), some (.int x1), some (.int x2), some (.int x3)], [], μ) Q := wp_blk rfl e14_54 (wp_ri (ty := .int) rfl e14_54_r rfl ⟨rfl, rfl⟩ k)
def q14_56 : List (Nat × Instr × Nat) := [(56, .iinc 2 1, 3), (59, .goto (-44), 3)]
theorem e14_56 : am_dec am_M14 q14_56 = true := by decide +kernel
theorem b14_56 {d : Nat} {Q : Option Value ⊕ Nat → am_Mem → Prop} {μ : am_Mem} {r0 : Nat} {x1 x2 x3 : Int32}
    (k : Wp d 14 (15, [some (.ref r0), some (.int x1), some (.int (x2 + Int32.ofInt 1)), some (.int x3)], [], μ) Q) :
    Wp d 14 (56, [some (.ref r0), some (.int x1), some (.int x2), some (.int x3)], [], μ) Q := wp_blk rfl e14_56 k
def q14_62 : List (Nat × Instr × Nat) := [(62, .iinc 1 1, 3), (65, .goto (-63), 3)]
theorem e14_62 : am_dec am_M14 q14_62 = true := by decide +kernel
theorem b14_62 {d : Nat} {Q : Option Value ⊕ Nat → am_Mem → Prop} {μ : am_Mem} {r0 : Nat} {x1 x2 : Int32} {o3 : Option Value}
    (k : Wp d 14 (2, [some (.ref r0), some (.int (x1 + Int32.ofInt 1)), some (.int x2), o3], [], μ) Q) :
    Wp d 14 (62, [some (.ref r0), some (.int x1), some (.int x2), o3], [], μ) Q := wp_blk rfl e14_62 k
def q14_68 : List (Nat × Instr × Nat) := [(68, .iconst (-1), 1)]
theorem e14_68 : am_dec am_M14 q14_68 = true := by decide +kernel
theorem e14_68_r : am_dec am_M14 [(69, .ireturn, 1)] = true := by decide +kernel
theorem b14_68 {d : Nat} {Q : Option Value ⊕ Nat → am_Mem → Prop} {μ : am_Mem} {r0 : Nat} {x1 : Int32} {o2 o3 : Option Value}
    (k : Q (.inl (some (.int (Int32.ofInt (-1))))) μ) :
    Wp d 14 (68, [some (.ref r0), some (.int x1), o2, o3], [], μ) Q := wp_blk rfl e14_68 (wp_ri (ty := .int) rfl e14_68_r rfl ⟨rfl, rfl⟩ k)
/-! RuleSheets$Checker.restsOn(II)Z -/
def q15_0 : List (Nat × Instr × Nat) := [(0, .iload_n 1, 1), (1, .iload_n 2, 1), (2, .if_icmp .eq 12, 3)]
theorem e15_0 : am_dec am_M15 q15_0 = true := by decide +kernel
theorem b15_0 {d : Nat} {Q : Option Value ⊕ Nat → am_Mem → Prop} {μ : am_Mem} {r0 : Nat} {x1 x2 : Int32}
    (k1 : x1 = x2 → Wp d 15 (14, [some (.ref r0), some (.int x1), some (.int x2)], [], μ) Q) (k2 : ¬ (x1 = x2) → Wp d 15 (5, [some (.ref r0), some (.int x1), some (.int x2)], [], μ) Q) :
    Wp d 15 (0, [some (.ref r0), some (.int x1), some (.int x2)], [], μ) Q := wp_blk rfl e15_0 (And.intro k1 k2)
def q15_5 : List (Nat × Instr × Nat) := [(5, .aload_n 0, 1), (6, .iload_n 1, 1), (7, .iload_n 2, 1)]
theorem e15_5 : am_dec am_M15 q15_5 = true := by decide +kernel
theorem e15_5_c : am_dc1 am_M15 8 (.invokevirtual 131) 3 = true := by decide +kernel
theorem b15_5 {d : Nat} {Q : Option Value ⊕ Nat → am_Mem → Prop} {μ : am_Mem} {r0 : Nat} {x1 x2 : Int32} {P : Int32 → am_Mem → Prop} {X : Nat → am_Mem → Prop}
    (hk : am_kd μ r0 = (1, 0))
    (hc : Wp d 12 (0, [some (.ref r0), some (.int x1), some (.int x2)], [], μ) (pI P X)) (hr : ∀ x μ', P x μ' → Wp (d + 1) 15 (11, [some (.ref r0), some (.int x1), some (.int x2)], [.int x], (μ')) Q)
    (hx : ∀ x μ', X x μ' → Q (.inr x) μ') :
    Wp (d + 1) 15 (5, [some (.ref r0), some (.int x1), some (.int x2)], [], μ) Q := wp_blk rfl e15_5 (wp_cv (as := [.int x1, .int x2]) rfl e15_5_c rfl rfl rfl rfl rfl hk hc (fun v μ' hv => by obtain ⟨x, rfl, hp⟩ := pI_r hv; exact hr x μ' hp) hx)
def q15_11 : List (Nat × Instr × Nat) := [(11, .ifCond .eq 7, 3)]
theorem e15_11 : am_dec am_M15 q15_11 = true := by decide +kernel
theorem b15_11 {d : Nat} {Q : Option Value ⊕ Nat → am_Mem → Prop} {μ : am_Mem} {r0 : Nat} {x1 x2 s0 : Int32}
    (k1 : s0 = 0 → Wp d 15 (18, [some (.ref r0), some (.int x1), some (.int x2)], [], μ) Q) (k2 : ¬ (s0 = 0) → Wp d 15 (14, [some (.ref r0), some (.int x1), some (.int x2)], [], μ) Q) :
    Wp d 15 (11, [some (.ref r0), some (.int x1), some (.int x2)], [.int s0], μ) Q := wp_blk rfl e15_11 (And.intro k1 k2)
def q15_14 : List (Nat × Instr × Nat) := [(14, .iconst 1, 1), (15, .goto 4, 3)]
theorem e15_14 : am_dec am_M15 q15_14 = true := by decide +kernel
theorem b15_14 {d : Nat} {Q : Option Value ⊕ Nat → am_Mem → Prop} {μ : am_Mem} {r0 : Nat} {x1 x2 : Int32}
    (k : Wp d 15 (19, [some (.ref r0), some (.int x1), some (.int x2)], [.int (Int32.ofInt 1)], μ) Q) :
    Wp d 15 (14, [some (.ref r0), some (.int x1), some (.int x2)], [], μ) Q := wp_blk rfl e15_14 k
def q15_18 : List (Nat × Instr × Nat) := [(18, .iconst 0, 1)]
theorem e15_18 : am_dec am_M15 q15_18 = true := by decide +kernel
theorem b15_18 {d : Nat} {Q : Option Value ⊕ Nat → am_Mem → Prop} {μ : am_Mem} {r0 : Nat} {x1 x2 : Int32}
    (k : Wp d 15 (19, [some (.ref r0), some (.int x1), some (.int x2)], [.int (Int32.ofInt 0)], μ) Q) :
    Wp d 15 (18, [some (.ref r0), some (.int x1), some (.int x2)], [], μ) Q := wp_blk rfl e15_18 k
theorem e15_19_r : am_dec am_M15 [(19, .ireturn, 1)] = true := by decide +kernel
theorem b15_19 {d : Nat} {Q : Option Value ⊕ Nat → am_Mem → Prop} {μ : am_Mem} {r0 : Nat} {x1 x2 s0 : Int32}
    (hn : narrow .boolean (.int s0) = .int s0 ∧ fits .boolean (.int s0) = true)
    (k : Q (.inl (some (.int s0))) μ) :
    Wp d 15 (19, [some (.ref r0), some (.int x1), some (.int x2)], [.int s0], μ) Q := (wp_ri (ty := .boolean) rfl e15_19_r rfl hn k)
/-! RuleSheets$Checker.findUnbounded()I -/
def q16_0 : List (Nat × Instr × Nat) := [(0, .iconst 0, 1), (1, .istore_n 1, 1)]
theorem e16_0 : am_dec am_M16 q16_0 = true := by decide +kernel
theorem b16_0 {d : Nat} {Q : Option Value ⊕ Nat → am_Mem → Prop} {μ : am_Mem} {r0 : Nat}
    (k : Wp d 16 (2, [some (.ref r0), some (.int (Int32.ofInt 0)), none], [], μ) Q) :
    Wp d 16 (0, [some (.ref r0), none, none], [], μ) Q := wp_blk rfl e16_0 k
def q16_2 : List (Nat × Instr × Nat) := [(2, .iload_n 1, 1), (3, .aload_n 0, 1), (4, .getfield 33, 3), (7, .getfield 92, 3), (10, .if_icmp .ge 67, 3)]
theorem e16_2 : am_dec am_M16 q16_2 = true := by decide +kernel
theorem b16_2 {d : Nat} {Q : Option Value ⊕ Nat → am_Mem → Prop} {μ : am_Mem} {r0 : Nat} {x1 : Int32} {o2 : Option Value}
    (h1 : am_kd μ r0 = (1, 0))
    (h2 : ¬ am_F μ r0 1 = 15)
    (h3 : am_kd μ (am_F μ r0 1) = (1, 5))
    (k1 : (am_A μ (am_F μ r0 1) 13) ≤ x1 → Wp d 16 (77, [some (.ref r0), some (.int x1), o2], [], μ) Q) (k2 : ¬ ((am_A μ (am_F μ r0 1) 13) ≤ x1) → Wp d 16 (13, [some (.ref r0), some (.int x1), o2], [], μ) Q) :
    Wp d 16 (2, [some (.ref r0), some (.int x1), o2], [], μ) Q := wp_blk rfl e16_2 (And.intro h1 (And.intro h2 (And.intro h3 (And.intro k1 k2))))
def q16_13 : List (Nat × Instr × Nat) := [(13, .iconst 0, 1), (14, .istore_n 2, 1)]
theorem e16_13 : am_dec am_M16 q16_13 = true := by decide +kernel
theorem b16_13 {d : Nat} {Q : Option Value ⊕ Nat → am_Mem → Prop} {μ : am_Mem} {r0 : Nat} {x1 : Int32} {o2 : Option Value}
    (k : Wp d 16 (15, [some (.ref r0), some (.int x1), some (.int (Int32.ofInt 0))], [], μ) Q) :
    Wp d 16 (13, [some (.ref r0), some (.int x1), o2], [], μ) Q := wp_blk rfl e16_13 k
def q16_15 : List (Nat × Instr × Nat) := [(15, .iload_n 2, 1), (16, .aload_n 0, 1), (17, .getfield 33, 3), (20, .getfield 99, 3), (23, .iload_n 1, 1), (24, .iaload, 1), (25, .if_icmp .ge 46, 3)]
theorem e16_15 : am_dec am_M16 q16_15 = true := by decide +kernel
theorem b16_15 {d : Nat} {Q : Option Value ⊕ Nat → am_Mem → Prop} {μ : am_Mem} {r0 : Nat} {x1 x2 : Int32}
    (h1 : am_kd μ r0 = (1, 0))
    (h2 : ¬ am_F μ r0 1 = 15)
    (h3 : am_kd μ (am_F μ r0 1) = (1, 5))
    (h4 : ¬ am_F μ (am_F μ r0 1) 9 = 15)
    (h5 : (am_kd μ (am_F μ (am_F μ r0 1) 9)).1 = 2 ∨ (am_kd μ (am_F μ (am_F μ r0 1) 9)).1 = 8)
    (h6 : ¬ (x1 < 0 ∨ (am_kd μ (am_F μ (am_F μ r0 1) 9)).2 ≤ x1.toNatClampNeg))
    (k1 : (am_A μ (am_F μ (am_F μ r0 1) 9) x1.toNatClampNeg) ≤ x2 → Wp d 16 (71, [some (.ref r0), some (.int x1), some (.int x2)], [], μ) Q) (k2 : ¬ ((am_A μ (am_F μ (am_F μ r0 1) 9) x1.toNatClampNeg) ≤ x2) → Wp d 16 (28, [some (.ref r0), some (.int x1), some (.int x2)], [], μ) Q) :
    Wp d 16 (15, [some (.ref r0), some (.int x1), some (.int x2)], [], μ) Q := wp_blk rfl e16_15 (And.intro h1 (And.intro h2 (And.intro h3 (And.intro h4 (And.intro h5 (And.intro h6 (And.intro k1 k2)))))))
def q16_28 : List (Nat × Instr × Nat) := [(28, .aload_n 0, 1), (29, .aload_n 0, 1), (30, .iload_n 1, 1), (31, .iload_n 2, 1)]
theorem e16_28 : am_dec am_M16 q16_28 = true := by decide +kernel
theorem e16_28_c : am_dc1 am_M16 32 (.invokevirtual 115) 3 = true := by decide +kernel
theorem b16_28 {d : Nat} {Q : Option Value ⊕ Nat → am_Mem → Prop} {μ : am_Mem} {r0 : Nat} {x1 x2 : Int32} {P : Int32 → am_Mem → Prop} {X : Nat → am_Mem → Prop}
    (hk : am_kd μ r0 = (1, 0))
    (hc : Wp d 6 (0, [some (.ref r0), some (.int x1), some (.int x2)], [], μ) (pI P X)) (hr : ∀ x μ', P x μ' → Wp (d + 1) 16 (35, [some (.ref r0), some (.int x1), some (.int x2)], [.int x, .ref r0], (μ')) Q)
    (hx : ∀ x μ', X x μ' → Q (.inr x) μ') :
    Wp (d + 1) 16 (28, [some (.ref r0), some (.int x1), some (.int x2)], [], μ) Q := wp_blk rfl e16_28 (wp_cv (as := [.int x1, .int x2]) rfl e16_28_c rfl rfl rfl rfl rfl hk hc (fun v μ' hv => by obtain ⟨x, rfl, hp⟩ := pI_r hv; exact hr x μ' hp) hx)
def q16_35 : List (Nat × Instr × Nat) := [(35, .aload_n 0, 1), (36, .iload_n 1, 1)]
theorem e16_35 : am_dec am_M16 q16_35 = true := by decide +kernel
theorem e16_35_c : am_dc1 am_M16 37 (.invokevirtual 108) 3 = true := by decide +kernel
theorem b16_35 {d : Nat} {Q : Option Value ⊕ Nat → am_Mem → Prop} {μ : am_Mem} {r0 r90 : Nat} {x1 x2 s1 : Int32} {P : Int32 → am_Mem → Prop} {X : Nat → am_Mem → Prop}
    (hk : am_kd μ r0 = (1, 0))
    (hc : Wp d 5 (0, [some (.ref r0), some (.int x1)], [], μ) (pI P X)) (hr : ∀ x μ', P x μ' → Wp (d + 1) 16 (40, [some (.ref r0), some (.int x1), some (.int x2)], [.int x, .int s1, .ref r90], (μ')) Q)
    (hx : ∀ x μ', X x μ' → Q (.inr x) μ') :
    Wp (d + 1) 16 (35, [some (.ref r0), some (.int x1), some (.int x2)], [.int s1, .ref r90], μ) Q := wp_blk rfl e16_35 (wp_cv (as := [.int x1]) rfl e16_35_c rfl rfl rfl rfl rfl hk hc (fun v μ' hv => by obtain ⟨x, rfl, hp⟩ := pI_r hv; exact hr x μ' hp) hx)
theorem e16_40_c : am_dc1 am_M16 40 (.invokevirtual 135) 3 = true := by decide +kernel
theorem b16_40 {d : Nat} {Q : Option Value ⊕ Nat → am_Mem → Prop} {μ : am_Mem} {r0 r90 : Nat} {x1 x2 s1 s2 : Int32} {P : Int32 → am_Mem → Prop} {X : Nat → am_Mem → Prop}
    (hk : am_kd μ r90 = (1, 0))
    (hc : Wp d 15 (0, [some (.ref r90), some (.int s1), some (.int s2)], [], μ) (pI P X)) (hr : ∀ x μ', P x μ' → Wp (d + 1) 16 (43, [some (.ref r0), some (.int x1), some (.int x2)], [.int x], (μ')) Q)
    (hx : ∀ x μ', X x μ' → Q (.inr x) μ') :
    Wp (d + 1) 16 (40, [some (.ref r0), some (.int x1), some (.int x2)], [.int s2, .int s1, .ref r90], μ) Q := (wp_cv (as := [.int s1, .int s2]) rfl e16_40_c rfl rfl rfl rfl rfl hk hc (fun v μ' hv => by obtain ⟨x, rfl, hp⟩ := pI_r hv; exact hr x μ' hp) hx)
def q16_43 : List (Nat × Instr × Nat) := [(43, .ifCond .eq 22, 3)]
theorem e16_43 : am_dec am_M16 q16_43 = true := by decide +kernel
theorem b16_43 {d : Nat} {Q : Option Value ⊕ Nat → am_Mem → Prop} {μ : am_Mem} {r0 : Nat} {x1 x2 s0 : Int32}
    (k1 : s0 = 0 → Wp d 16 (65, [some (.ref r0), some (.int x1), some (.int x2)], [], μ) Q) (k2 : ¬ (s0 = 0) → Wp d 16 (46, [some (.ref r0), some (.int x1), some (.int x2)], [], μ) Q) :
    Wp d 16 (43, [some (.ref r0), some (.int x1), some (.int x2)], [.int s0], μ) Q := wp_blk rfl e16_43 (And.intro k1 k2)
def q16_46 : List (Nat × Instr × Nat) := [(46, .aload_n 0, 1), (47, .iload_n 1, 1), (48, .aload_n 0, 1), (49, .getfield 33, 3), (52, .iload_n 1, 1), (53, .iload_n 2, 1)]
theorem e16_46 : am_dec am_M16 q16_46 = true := by decide +kernel
theorem e16_46_c : am_dc1 am_M16 54 (.invokevirtual 70) 3 = true := by decide +kernel
theorem b16_46 {d : Nat} {Q : Option Value ⊕ Nat → am_Mem → Prop} {μ : am_Mem} {r0 : Nat} {x1 x2 : Int32} {P : Int32 → am_Mem → Prop} {X : Nat → am_Mem → Prop}
    (h1 : am_kd μ r0 = (1, 0))
    (h2 : ¬ am_F μ r0 1 = 15)
    (hk : am_kd μ (am_F μ r0 1) = (1, 5))
    (hc : Wp d 69 (0, [some (.ref (am_F μ r0 1)), some (.int x1), some (.int x2)], [], μ) (pI P X)) (hr : ∀ x μ', P x μ' → Wp (d + 1) 16 (57, [some (.ref r0), some (.int x1), some (.int x2)], [.int x, .int x1, .ref r0], (μ')) Q)
    (hx : ∀ x μ', X x μ' → Q (.inr x) μ') :
    Wp (d + 1) 16 (46, [some (.ref r0), some (.int x1), some (.int x2)], [], μ) Q := wp_blk rfl e16_46 (And.intro h1 (And.intro h2 (wp_cv (as := [.int x1, .int x2]) rfl e16_46_c rfl rfl rfl rfl rfl hk hc (fun v μ' hv => by obtain ⟨x, rfl, hp⟩ := pI_r hv; exact hr x μ' hp) hx)))
theorem e16_57_c : am_dc1 am_M16 57 (.invokevirtual 138) 3 = true := by decide +kernel
theorem b16_57 {d : Nat} {Q : Option Value ⊕ Nat → am_Mem → Prop} {μ : am_Mem} {r0 r90 : Nat} {x1 x2 s1 s2 : Int32} {P : Int32 → am_Mem → Prop} {X : Nat → am_Mem → Prop}
    (hk : am_kd μ r90 = (1, 0))
    (hc : Wp d 17 (0, [some (.ref r90), some (.int s1), some (.int s2), none, none], [], μ) (pI P X)) (hr : ∀ x μ', P x μ' → Wp (d + 1) 16 (60, [some (.ref r0), some (.int x1), some (.int x2)], [.int x], (μ')) Q)
    (hx : ∀ x μ', X x μ' → Q (.inr x) μ') :
    Wp (d + 1) 16 (57, [some (.ref r0), some (.int x1), some (.int x2)], [.int s2, .int s1, .ref r90], μ) Q := (wp_cv (as := [.int s1, .int s2]) rfl e16_57_c rfl rfl rfl rfl rfl hk hc (fun v μ' hv => by obtain ⟨x, rfl, hp⟩ := pI_r hv; exact hr x μ' hp) hx)
def q16_60 : List (Nat × Instr × Nat) := [(60, .ifCond .ne 5, 3)]
theorem e16_60 : am_dec am_M16 q16_60 = true := by decide +kernel
theorem b16_60 {d : Nat} {Q : Option Value ⊕ Nat → am_Mem → Prop} {μ : am_Mem} {r0 : Nat} {x1 x2 s0 : Int32}
    (k1 : ¬ s0 = 0 → Wp d 16 (65, [some (.ref r0), some (.int x1), some (.int x2)], [], μ) Q) (k2 : ¬ (¬ s0 = 0) → Wp d 16 (63, [some (.ref r0), some (.int x1), some (.int x2)], [], μ) Q) :
    Wp d 16 (60, [some (.ref r0), some (.int x1), some (.int x2)], [.int s0], μ) Q := wp_blk rfl e16_60 (And.intro k1 k2)
def q16_63 : List (Nat × Instr × Nat) := [(63, .iload_n 1, 1)]
theorem e16_63 : am_dec am_M16 q16_63 = true := by decide +kernel
theorem e16_63_r : am_dec am_M16 [(64, .ireturn, 1)] = true := by decide +kernel
theorem b16_63 {d : Nat} {Q : Option Value ⊕ Nat → am_Mem → Prop} {μ : am_Mem} {r0 : Nat} {x1 x2 : Int32}
    (k : Q (.inl (some (.int x1))) μ) :
    Wp d 16 (63, [some (.ref r0), some (.int x1), some (.int x2)], [], μ) Q := wp_blk rfl e16_63 (wp_ri (ty := .int) rfl e16_63_r rfl ⟨rfl, rfl⟩ k)
def q16_65 : List (Nat × Instr × Nat) := [(65, .iinc 2 1, 3), (68, .goto (-53), 3)]
theorem e16_65 : am_dec am_M16 q16_65 = true := by decide +kernel
theorem b16_65 {d : Nat} {Q : Option Value ⊕ Nat → am_Mem → Prop} {μ : am_Mem} {r0 : Nat} {x1 x2 : Int32}
    (k : Wp d 16 (15, [some (.ref r0), some (.int x1), some (.int (x2 + Int32.ofInt 1))], [], μ) Q) :
    Wp d 16 (65, [some (.ref r0), some (.int x1), some (.int x2)], [], μ) Q := wp_blk rfl e16_65 k
def q16_71 : List (Nat × Instr × Nat) := [(71, .iinc 1 1, 3), (74, .goto (-72), 3)]
theorem e16_71 : am_dec am_M16 q16_71 = true := by decide +kernel
theorem b16_71 {d : Nat} {Q : Option Value ⊕ Nat → am_Mem → Prop} {μ : am_Mem} {r0 : Nat} {x1 x2 : Int32}
    (k : Wp d 16 (2, [some (.ref r0), some (.int (x1 + Int32.ofInt 1)), some (.int x2)], [], μ) Q) :
    Wp d 16 (71, [some (.ref r0), some (.int x1), some (.int x2)], [], μ) Q := wp_blk rfl e16_71 k
def q16_77 : List (Nat × Instr × Nat) := [(77, .iconst (-1), 1)]
theorem e16_77 : am_dec am_M16 q16_77 = true := by decide +kernel
theorem e16_77_r : am_dec am_M16 [(78, .ireturn, 1)] = true := by decide +kernel
theorem b16_77 {d : Nat} {Q : Option Value ⊕ Nat → am_Mem → Prop} {μ : am_Mem} {r0 : Nat} {x1 : Int32} {o2 : Option Value}
    (k : Q (.inl (some (.int (Int32.ofInt (-1))))) μ) :
    Wp d 16 (77, [some (.ref r0), some (.int x1), o2], [], μ) Q := wp_blk rfl e16_77 (wp_ri (ty := .int) rfl e16_77_r rfl ⟨rfl, rfl⟩ k)
/-! RuleSheets$Checker.isBounded(II)Z -/
def q17_0 : List (Nat × Instr × Nat) := [(0, .iconst 0, 1), (1, .istore_n 3, 1)]
theorem e17_0 : am_dec am_M17 q17_0 = true := by decide +kernel
theorem b17_0 {d : Nat} {Q : Option Value ⊕ Nat → am_Mem → Prop} {μ : am_Mem} {r0 : Nat} {x1 x2 : Int32}
    (k : Wp d 17 (2, [some (.ref r0), some (.int x1), some (.int x2), some (.int (Int32.ofInt 0)), none], [], μ) Q) :
    Wp d 17 (0, [some (.ref r0), some (.int x1), some (.int x2), none, none], [], μ) Q := wp_blk rfl e17_0 k
def q17_2 : List (Nat × Instr × Nat) := [(2, .iload_n 3, 1), (3, .aload_n 0, 1), (4, .getfield 33, 3), (7, .getfield 105, 3), (10, .iload_n 2, 1), (11, .iaload, 1), (12, .if_icmp .ge 49, 3)]
theorem e17_2 : am_dec am_M17 q17_2 = true := by decide +kernel
theorem b17_2 {d : Nat} {Q : Option Value ⊕ Nat → am_Mem → Prop} {μ : am_Mem} {r0 : Nat} {x1 x2 x3 : Int32} {o4 : Option Value}
    (h1 : am_kd μ r0 = (1, 0))
    (h2 : ¬ am_F μ r0 1 = 15)
    (h3 : am_kd μ (am_F μ r0 1) = (1, 5))
    (h4 : ¬ am_F μ (am_F μ r0 1) 2 = 15)
    (h5 : (am_kd μ (am_F μ (am_F μ r0 1) 2)).1 = 2 ∨ (am_kd μ (am_F μ (am_F μ r0 1) 2)).1 = 8)
    (h6 : ¬ (x2 < 0 ∨ (am_kd μ (am_F μ (am_F μ r0 1) 2)).2 ≤ x2.toNatClampNeg))
    (k1 : (am_A μ (am_F μ (am_F μ r0 1) 2) x2.toNatClampNeg) ≤ x3 → Wp d 17 (61, [some (.ref r0), some (.int x1), some (.int x2), some (.int x3), o4], [], μ) Q) (k2 : ¬ ((am_A μ (am_F μ (am_F μ r0 1) 2) x2.toNatClampNeg) ≤ x3) → Wp d 17 (15, [some (.ref r0), some (.int x1), some (.int x2), some (.int x3), o4], [], μ) Q) :
    Wp d 17 (2, [some (.ref r0), some (.int x1), some (.int x2), some (.int x3), o4], [], μ) Q := wp_blk rfl e17_2 (And.intro h1 (And.intro h2 (And.intro h3 (And.intro h4 (And.intro h5 (And.intro h6 (And.intro k1 k2)))))))
def q17_15 : List (Nat × Instr × Nat) := [(15, .aload_n 0, 1), (16, .getfield 33, 3), (19, .getfield 141, 3), (22, .iconst 4, 1), (23, .iload_n 2, 1), (24, .imul, 1), (25, .iload_n 3, 1), (26, .iadd, 1), (27, .iaload, 1), (28, .istore 4, 2), (30, .aload_n 0, 1), (31, .getfield 33, 3), (34, .getfield 112, 3), (37, .iload 4, 2), (39, .iaload, 1), (40, .ifCond .eq 15, 3)]
theorem e17_15 : am_dec am_M17 q17_15 = true := by decide +kernel
theorem b17_15 {d : Nat} {Q : Option Value ⊕ Nat → am_Mem → Prop} {μ : am_Mem} {r0 : Nat} {x1 x2 x3 : Int32} {o4 : Option Value}
    (h1 : am_kd μ r0 = (1, 0))
    (h2 : ¬ am_F μ r0 1 = 15)
    (h3 : am_kd μ (am_F μ r0 1) = (1, 5))
    (h4 : ¬ am_F μ (am_F μ r0 1) 3 = 15)
    (h5 : (am_kd μ (am_F μ (am_F μ r0 1) 3)).1 = 2 ∨ (am_kd μ (am_F μ (am_F μ r0 1) 3)).1 = 8)
    (h6 : ¬ ((((Int32.ofInt 4) * x2) + x3) < 0 ∨ (am_kd μ (am_F μ (am_F μ r0 1) 3)).2 ≤ (((Int32.ofInt 4) * x2) + x3).toNatClampNeg))
    (h7 : am_kd μ r0 = (1, 0))
    (h8 : ¬ am_F μ r0 1 = 15)
    (h9 : am_kd μ (am_F μ r0 1) = (1, 5))
    (h10 : ¬ am_F μ (am_F μ r0 1) 5 = 15)
    (h11 : (am_kd μ (am_F μ (am_F μ r0 1) 5)).1 = 2 ∨ (am_kd μ (am_F μ (am_F μ r0 1) 5)).1 = 8)
    (h12 : ¬ ((am_A μ (am_F μ (am_F μ r0 1) 3) (((Int32.ofInt 4) * x2) + x3).toNatClampNeg) < 0 ∨ (am_kd μ (am_F μ (am_F μ r0 1) 5)).2 ≤ (am_A μ (am_F μ (am_F μ r0 1) 3) (((Int32.ofInt 4) * x2) + x3).toNatClampNeg).toNatClampNeg))
    (k1 : (am_A μ (am_F μ (am_F μ r0 1) 5) (am_A μ (am_F μ (am_F μ r0 1) 3) (((Int32.ofInt 4) * x2) + x3).toNatClampNeg).toNatClampNeg) = 0 → Wp d 17 (55, [some (.ref r0), some (.int x1), some (.int x2), some (.int x3), some (.int (am_A μ (am_F μ (am_F μ r0 1) 3) (((Int32.ofInt 4) * x2) + x3).toNatClampNeg))], [], μ) Q) (k2 : ¬ ((am_A μ (am_F μ (am_F μ r0 1) 5) (am_A μ (am_F μ (am_F μ r0 1) 3) (((Int32.ofInt 4) * x2) + x3).toNatClampNeg).toNatClampNeg) = 0) → Wp d 17 (43, [some (.ref r0), some (.int x1), some (.int x2), some (.int x3), some (.int (am_A μ (am_F μ (am_F μ r0 1) 3) (((Int32.ofInt 4) * x2) + x3).toNatClampNeg))], [], μ) Q) :
    Wp d 17 (15, [some (.ref r0), some (.int x1), some (.int x2), some (.int x3), o4], [], μ) Q := wp_blk rfl e17_15 (And.intro h1 (And.intro h2 (And.intro h3 (And.intro h4 (And.intro h5 (And.intro h6 (And.intro h7 (And.intro h8 (And.intro h9 (And.intro h10 (And.intro h11 (And.intro h12 (And.intro k1 k2)))))))))))))
def q17_43 : List (Nat × Instr × Nat) := [(43, .aload_n 0, 1), (44, .iload_n 1, 1), (45, .iload 4, 2)]
theorem e17_43 : am_dec am_M17 q17_43 = true := by decide +kernel
theorem e17_43_c : am_dc1 am_M17 47 (.invokevirtual 144) 3 = true := by decide +kernel
theorem b17_43 {d : Nat} {Q : Option Value ⊕ Nat → am_Mem → Prop} {μ : am_Mem} {r0 : Nat} {x1 x2 x3 x4 : Int32} {P : Int32 → am_Mem → Prop} {X : Nat → am_Mem → Prop}
    (hk : am_kd μ r0 = (1, 0))
    (hc : Wp d 18 (0, [some (.ref r0), some (.int x1), some (.int x4), none], [], μ) (pI P X)) (hr : ∀ x μ', P x μ' → Wp (d + 1) 17 (50, [some (.ref r0), some (.int x1), some (.int x2), some (.int x3), some (.int x4)], [.int x], (μ')) Q)
    (hx : ∀ x μ', X x μ' → Q (.inr x) μ') :
    Wp (d + 1) 17 (43, [some (.ref r0), some (.int x1), some (.int x2), some (.int x3), some (.int x4)], [], μ) Q := wp_blk rfl e17_43 (wp_cv (as := [.int x1, .int x4]) rfl e17_43_c rfl rfl rfl rfl rfl hk hc (fun v μ' hv => by obtain ⟨x, rfl, hp⟩ := pI_r hv; exact hr x μ' hp) hx)
def q17_50 : List (Nat × Instr × Nat) := [(50, .ifCond .ne 5, 3)]
theorem e17_50 : am_dec am_M17 q17_50 = true := by decide +kernel
theorem b17_50 {d : Nat} {Q : Option Value ⊕ Nat → am_Mem → Prop} {μ : am_Mem} {r0 : Nat} {x1 x2 x3 x4 s0 : Int32}
    (k1 : ¬ s0 = 0 → Wp d 17 (55, [some (.ref r0), some (.int x1), some (.int x2), some (.int x3), some (.int x4)], [], μ) Q) (k2 : ¬ (¬ s0 = 0) → Wp d 17 (53, [some (.ref r0), some (.int x1), some (.int x2), some (.int x3), some (.int x4)], [], μ) Q) :
    Wp d 17 (50, [some (.ref r0), some (.int x1), some (.int x2), some (.int x3), some (.int x4)], [.int s0], μ) Q := wp_blk rfl e17_50 (And.intro k1 k2)
def q17_53 : List (Nat × Instr × Nat) := [(53, .iconst 0, 1)]
theorem e17_53 : am_dec am_M17 q17_53 = true := by decide +kernel
theorem e17_53_r : am_dec am_M17 [(54, .ireturn, 1)] = true := by decide +kernel
theorem b17_53 {d : Nat} {Q : Option Value ⊕ Nat → am_Mem → Prop} {μ : am_Mem} {r0 : Nat} {x1 x2 x3 x4 : Int32}
    (k : Q (.inl (some (.int (Int32.ofInt 0)))) μ) :
    Wp d 17 (53, [some (.ref r0), some (.int x1), some (.int x2), some (.int x3), some (.int x4)], [], μ) Q := wp_blk rfl e17_53 (wp_ri (ty := .boolean) rfl e17_53_r rfl (by decide) k)
def q17_55 : List (Nat × Instr × Nat) := [(55, .iinc 3 1, 3), (58, .goto (-56), 3)]
theorem e17_55 : am_dec am_M17 q17_55 = true := by decide +kernel
theorem b17_55 {d : Nat} {Q : Option Value ⊕ Nat → am_Mem → Prop} {μ : am_Mem} {r0 : Nat} {x1 x2 x3 x4 : Int32}
    (k : Wp d 17 (2, [some (.ref r0), some (.int x1), some (.int x2), some (.int (x3 + Int32.ofInt 1)), some (.int x4)], [], μ) Q) :
    Wp d 17 (55, [some (.ref r0), some (.int x1), some (.int x2), some (.int x3), some (.int x4)], [], μ) Q := wp_blk rfl e17_55 k
def q17_61 : List (Nat × Instr × Nat) := [(61, .iconst 1, 1)]
theorem e17_61 : am_dec am_M17 q17_61 = true := by decide +kernel
theorem e17_61_r : am_dec am_M17 [(62, .ireturn, 1)] = true := by decide +kernel
theorem b17_61 {d : Nat} {Q : Option Value ⊕ Nat → am_Mem → Prop} {μ : am_Mem} {r0 : Nat} {x1 x2 x3 : Int32} {o4 : Option Value}
    (k : Q (.inl (some (.int (Int32.ofInt 1)))) μ) :
    Wp d 17 (61, [some (.ref r0), some (.int x1), some (.int x2), some (.int x3), o4], [], μ) Q := wp_blk rfl e17_61 (wp_ri (ty := .boolean) rfl e17_61_r rfl (by decide) k)
/-! RuleSheets$Checker.isHeld(II)Z -/
def q18_0 : List (Nat × Instr × Nat) := [(0, .aload_n 0, 1), (1, .aload_n 0, 1), (2, .getfield 33, 3), (5, .getfield 67, 3), (8, .iload_n 1, 1), (9, .iaload, 1), (10, .iload_n 2, 1)]
theorem e18_0 : am_dec am_M18 q18_0 = true := by decide +kernel
theorem e18_0_c : am_dc1 am_M18 11 (.invokevirtual 147) 3 = true := by decide +kernel
theorem b18_0 {d : Nat} {Q : Option Value ⊕ Nat → am_Mem → Prop} {μ : am_Mem} {r0 : Nat} {x1 x2 : Int32} {P : Int32 → am_Mem → Prop} {X : Nat → am_Mem → Prop}
    (h1 : am_kd μ r0 = (1, 0))
    (h2 : ¬ am_F μ r0 1 = 15)
    (h3 : am_kd μ (am_F μ r0 1) = (1, 5))
    (h4 : ¬ am_F μ (am_F μ r0 1) 7 = 15)
    (h5 : (am_kd μ (am_F μ (am_F μ r0 1) 7)).1 = 2 ∨ (am_kd μ (am_F μ (am_F μ r0 1) 7)).1 = 8)
    (h6 : ¬ (x1 < 0 ∨ (am_kd μ (am_F μ (am_F μ r0 1) 7)).2 ≤ x1.toNatClampNeg))
    (hk : am_kd μ r0 = (1, 0))
    (hc : Wp d 19 (0, [some (.ref r0), some (.int (am_A μ (am_F μ (am_F μ r0 1) 7) x1.toNatClampNeg)), some (.int x2), none], [], μ) (pI P X)) (hr : ∀ x μ', P x μ' → Wp (d + 1) 18 (14, [some (.ref r0), some (.int x1), some (.int x2), none], [.int x], (μ')) Q)
    (hx : ∀ x μ', X x μ' → Q (.inr x) μ') :
    Wp (d + 1) 18 (0, [some (.ref r0), some (.int x1), some (.int x2), none], [], μ) Q := wp_blk rfl e18_0 (And.intro h1 (And.intro h2 (And.intro h3 (And.intro h4 (And.intro h5 (And.intro h6 (wp_cv (as := [.int (am_A μ (am_F μ (am_F μ r0 1) 7) x1.toNatClampNeg), .int x2]) rfl e18_0_c rfl rfl rfl rfl rfl hk hc (fun v μ' hv => by obtain ⟨x, rfl, hp⟩ := pI_r hv; exact hr x μ' hp) hx)))))))
def q18_14 : List (Nat × Instr × Nat) := [(14, .ifCond .eq 5, 3)]
theorem e18_14 : am_dec am_M18 q18_14 = true := by decide +kernel
theorem b18_14 {d : Nat} {Q : Option Value ⊕ Nat → am_Mem → Prop} {μ : am_Mem} {r0 : Nat} {x1 x2 s0 : Int32}
    (k1 : s0 = 0 → Wp d 18 (19, [some (.ref r0), some (.int x1), some (.int x2), none], [], μ) Q) (k2 : ¬ (s0 = 0) → Wp d 18 (17, [some (.ref r0), some (.int x1), some (.int x2), none], [], μ) Q) :
    Wp d 18 (14, [some (.ref r0), some (.int x1), some (.int x2), none], [.int s0], μ) Q := wp_blk rfl e18_14 (And.intro k1 k2)
def q18_17 : List (Nat × Instr × Nat) := [(17, .iconst 1, 1)]
theorem e18_17 : am_dec am_M18 q18_17 = true := by decide +kernel
theorem e18_17_r : am_dec am_M18 [(18, .ireturn, 1)] = true := by decide +kernel
theorem b18_17 {d : Nat} {Q : Option Value ⊕ Nat → am_Mem → Prop} {μ : am_Mem} {r0 : Nat} {x1 x2 : Int32}
    (k : Q (.inl (some (.int (Int32.ofInt 1)))) μ) :
    Wp d 18 (17, [some (.ref r0), some (.int x1), some (.int x2), none], [], μ) Q := wp_blk rfl e18_17 (wp_ri (ty := .boolean) rfl e18_17_r rfl (by decide) k)
def q18_19 : List (Nat × Instr × Nat) := [(19, .iconst 0, 1), (20, .istore_n 3, 1)]
theorem e18_19 : am_dec am_M18 q18_19 = true := by decide +kernel
theorem b18_19 {d : Nat} {Q : Option Value ⊕ Nat → am_Mem → Prop} {μ : am_Mem} {r0 : Nat} {x1 x2 : Int32}
    (k : Wp d 18 (21, [some (.ref r0), some (.int x1), some (.int x2), some (.int (Int32.ofInt 0))], [], μ) Q) :
    Wp d 18 (19, [some (.ref r0), some (.int x1), some (.int x2), none], [], μ) Q := wp_blk rfl e18_19 k
def q18_21 : List (Nat × Instr × Nat) := [(21, .iload_n 3, 1), (22, .aload_n 0, 1), (23, .getfield 33, 3), (26, .getfield 99, 3), (29, .iload_n 1, 1), (30, .iaload, 1), (31, .if_icmp .ge 46, 3)]
theorem e18_21 : am_dec am_M18 q18_21 = true := by decide +kernel
theorem b18_21 {d : Nat} {Q : Option Value ⊕ Nat → am_Mem → Prop} {μ : am_Mem} {r0 : Nat} {x1 x2 x3 : Int32}
    (h1 : am_kd μ r0 = (1, 0))
    (h2 : ¬ am_F μ r0 1 = 15)
    (h3 : am_kd μ (am_F μ r0 1) = (1, 5))
    (h4 : ¬ am_F μ (am_F μ r0 1) 9 = 15)
    (h5 : (am_kd μ (am_F μ (am_F μ r0 1) 9)).1 = 2 ∨ (am_kd μ (am_F μ (am_F μ r0 1) 9)).1 = 8)
    (h6 : ¬ (x1 < 0 ∨ (am_kd μ (am_F μ (am_F μ r0 1) 9)).2 ≤ x1.toNatClampNeg))
    (k1 : (am_A μ (am_F μ (am_F μ r0 1) 9) x1.toNatClampNeg) ≤ x3 → Wp d 18 (77, [some (.ref r0), some (.int x1), some (.int x2), some (.int x3)], [], μ) Q) (k2 : ¬ ((am_A μ (am_F μ (am_F μ r0 1) 9) x1.toNatClampNeg) ≤ x3) → Wp d 18 (34, [some (.ref r0), some (.int x1), some (.int x2), some (.int x3)], [], μ) Q) :
    Wp d 18 (21, [some (.ref r0), some (.int x1), some (.int x2), some (.int x3)], [], μ) Q := wp_blk rfl e18_21 (And.intro h1 (And.intro h2 (And.intro h3 (And.intro h4 (And.intro h5 (And.intro h6 (And.intro k1 k2)))))))
def q18_34 : List (Nat × Instr × Nat) := [(34, .aload_n 0, 1), (35, .aload_n 0, 1), (36, .iload_n 1, 1), (37, .iload_n 3, 1)]
theorem e18_34 : am_dec am_M18 q18_34 = true := by decide +kernel
theorem e18_34_c : am_dc1 am_M18 38 (.invokevirtual 115) 3 = true := by decide +kernel
theorem b18_34 {d : Nat} {Q : Option Value ⊕ Nat → am_Mem → Prop} {μ : am_Mem} {r0 : Nat} {x1 x2 x3 : Int32} {P : Int32 → am_Mem → Prop} {X : Nat → am_Mem → Prop}
    (hk : am_kd μ r0 = (1, 0))
    (hc : Wp d 6 (0, [some (.ref r0), some (.int x1), some (.int x3)], [], μ) (pI P X)) (hr : ∀ x μ', P x μ' → Wp (d + 1) 18 (41, [some (.ref r0), some (.int x1), some (.int x2), some (.int x3)], [.int x, .ref r0], (μ')) Q)
    (hx : ∀ x μ', X x μ' → Q (.inr x) μ') :
    Wp (d + 1) 18 (34, [some (.ref r0), some (.int x1), some (.int x2), some (.int x3)], [], μ) Q := wp_blk rfl e18_34 (wp_cv (as := [.int x1, .int x3]) rfl e18_34_c rfl rfl rfl rfl rfl hk hc (fun v μ' hv => by obtain ⟨x, rfl, hp⟩ := pI_r hv; exact hr x μ' hp) hx)
def q18_41 : List (Nat × Instr × Nat) := [(41, .aload_n 0, 1), (42, .iload_n 1, 1)]
theorem e18_41 : am_dec am_M18 q18_41 = true := by decide +kernel
theorem e18_41_c : am_dc1 am_M18 43 (.invokevirtual 108) 3 = true := by decide +kernel
theorem b18_41 {d : Nat} {Q : Option Value ⊕ Nat → am_Mem → Prop} {μ : am_Mem} {r0 r90 : Nat} {x1 x2 x3 s1 : Int32} {P : Int32 → am_Mem → Prop} {X : Nat → am_Mem → Prop}
    (hk : am_kd μ r0 = (1, 0))
    (hc : Wp d 5 (0, [some (.ref r0), some (.int x1)], [], μ) (pI P X)) (hr : ∀ x μ', P x μ' → Wp (d + 1) 18 (46, [some (.ref r0), some (.int x1), some (.int x2), some (.int x3)], [.int x, .int s1, .ref r90], (μ')) Q)
    (hx : ∀ x μ', X x μ' → Q (.inr x) μ') :
    Wp (d + 1) 18 (41, [some (.ref r0), some (.int x1), some (.int x2), some (.int x3)], [.int s1, .ref r90], μ) Q := wp_blk rfl e18_41 (wp_cv (as := [.int x1]) rfl e18_41_c rfl rfl rfl rfl rfl hk hc (fun v μ' hv => by obtain ⟨x, rfl, hp⟩ := pI_r hv; exact hr x μ' hp) hx)
theorem e18_46_c : am_dc1 am_M18 46 (.invokevirtual 135) 3 = true := by decide +kernel
theorem b18_46 {d : Nat} {Q : Option Value ⊕ Nat → am_Mem → Prop} {μ : am_Mem} {r0 r90 : Nat} {x1 x2 x3 s1 s2 : Int32} {P : Int32 → am_Mem → Prop} {X : Nat → am_Mem → Prop}
    (hk : am_kd μ r90 = (1, 0))
    (hc : Wp d 15 (0, [some (.ref r90), some (.int s1), some (.int s2)], [], μ) (pI P X)) (hr : ∀ x μ', P x μ' → Wp (d + 1) 18 (49, [some (.ref r0), some (.int x1), some (.int x2), some (.int x3)], [.int x], (μ')) Q)
    (hx : ∀ x μ', X x μ' → Q (.inr x) μ') :
    Wp (d + 1) 18 (46, [some (.ref r0), some (.int x1), some (.int x2), some (.int x3)], [.int s2, .int s1, .ref r90], μ) Q := (wp_cv (as := [.int s1, .int s2]) rfl e18_46_c rfl rfl rfl rfl rfl hk hc (fun v μ' hv => by obtain ⟨x, rfl, hp⟩ := pI_r hv; exact hr x μ' hp) hx)
def q18_49 : List (Nat × Instr × Nat) := [(49, .ifCond .ne 22, 3)]
theorem e18_49 : am_dec am_M18 q18_49 = true := by decide +kernel
theorem b18_49 {d : Nat} {Q : Option Value ⊕ Nat → am_Mem → Prop} {μ : am_Mem} {r0 : Nat} {x1 x2 x3 s0 : Int32}
    (k1 : ¬ s0 = 0 → Wp d 18 (71, [some (.ref r0), some (.int x1), some (.int x2), some (.int x3)], [], μ) Q) (k2 : ¬ (¬ s0 = 0) → Wp d 18 (52, [some (.ref r0), some (.int x1), some (.int x2), some (.int x3)], [], μ) Q) :
    Wp d 18 (49, [some (.ref r0), some (.int x1), some (.int x2), some (.int x3)], [.int s0], μ) Q := wp_blk rfl e18_49 (And.intro k1 k2)
def q18_52 : List (Nat × Instr × Nat) := [(52, .aload_n 0, 1), (53, .aload_n 0, 1), (54, .getfield 33, 3), (57, .iload_n 1, 1), (58, .iload_n 3, 1)]
theorem e18_52 : am_dec am_M18 q18_52 = true := by decide +kernel
theorem e18_52_c : am_dc1 am_M18 59 (.invokevirtual 70) 3 = true := by decide +kernel
theorem b18_52 {d : Nat} {Q : Option Value ⊕ Nat → am_Mem → Prop} {μ : am_Mem} {r0 : Nat} {x1 x2 x3 : Int32} {P : Int32 → am_Mem → Prop} {X : Nat → am_Mem → Prop}
    (h1 : am_kd μ r0 = (1, 0))
    (h2 : ¬ am_F μ r0 1 = 15)
    (hk : am_kd μ (am_F μ r0 1) = (1, 5))
    (hc : Wp d 69 (0, [some (.ref (am_F μ r0 1)), some (.int x1), some (.int x3)], [], μ) (pI P X)) (hr : ∀ x μ', P x μ' → Wp (d + 1) 18 (62, [some (.ref r0), some (.int x1), some (.int x2), some (.int x3)], [.int x, .ref r0], (μ')) Q)
    (hx : ∀ x μ', X x μ' → Q (.inr x) μ') :
    Wp (d + 1) 18 (52, [some (.ref r0), some (.int x1), some (.int x2), some (.int x3)], [], μ) Q := wp_blk rfl e18_52 (And.intro h1 (And.intro h2 (wp_cv (as := [.int x1, .int x3]) rfl e18_52_c rfl rfl rfl rfl rfl hk hc (fun v μ' hv => by obtain ⟨x, rfl, hp⟩ := pI_r hv; exact hr x μ' hp) hx)))
def q18_62 : List (Nat × Instr × Nat) := [(62, .iload_n 2, 1)]
theorem e18_62 : am_dec am_M18 q18_62 = true := by decide +kernel
theorem e18_62_c : am_dc1 am_M18 63 (.invokevirtual 147) 3 = true := by decide +kernel
theorem b18_62 {d : Nat} {Q : Option Value ⊕ Nat → am_Mem → Prop} {μ : am_Mem} {r0 r90 : Nat} {x1 x2 x3 s1 : Int32} {P : Int32 → am_Mem → Prop} {X : Nat → am_Mem → Prop}
    (hk : am_kd μ r90 = (1, 0))
    (hc : Wp d 19 (0, [some (.ref r90), some (.int s1), some (.int x2), none], [], μ) (pI P X)) (hr : ∀ x μ', P x μ' → Wp (d + 1) 18 (66, [some (.ref r0), some (.int x1), some (.int x2), some (.int x3)], [.int x], (μ')) Q)
    (hx : ∀ x μ', X x μ' → Q (.inr x) μ') :
    Wp (d + 1) 18 (62, [some (.ref r0), some (.int x1), some (.int x2), some (.int x3)], [.int s1, .ref r90], μ) Q := wp_blk rfl e18_62 (wp_cv (as := [.int s1, .int x2]) rfl e18_62_c rfl rfl rfl rfl rfl hk hc (fun v μ' hv => by obtain ⟨x, rfl, hp⟩ := pI_r hv; exact hr x μ' hp) hx)
def q18_66 : List (Nat × Instr × Nat) := [(66, .ifCond .eq 5, 3)]
theorem e18_66 : am_dec am_M18 q18_66 = true := by decide +kernel
theorem b18_66 {d : Nat} {Q : Option Value ⊕ Nat → am_Mem → Prop} {μ : am_Mem} {r0 : Nat} {x1 x2 x3 s0 : Int32}
    (k1 : s0 = 0 → Wp d 18 (71, [some (.ref r0), some (.int x1), some (.int x2), some (.int x3)], [], μ) Q) (k2 : ¬ (s0 = 0) → Wp d 18 (69, [some (.ref r0), some (.int x1), some (.int x2), some (.int x3)], [], μ) Q) :
    Wp d 18 (66, [some (.ref r0), some (.int x1), some (.int x2), some (.int x3)], [.int s0], μ) Q := wp_blk rfl e18_66 (And.intro k1 k2)
def q18_69 : List (Nat × Instr × Nat) := [(69, .iconst 1, 1)]
theorem e18_69 : am_dec am_M18 q18_69 = true := by decide +kernel
theorem e18_69_r : am_dec am_M18 [(70, .ireturn, 1)] = true := by decide +kernel
theorem b18_69 {d : Nat} {Q : Option Value ⊕ Nat → am_Mem → Prop} {μ : am_Mem} {r0 : Nat} {x1 x2 x3 : Int32}
    (k : Q (.inl (some (.int (Int32.ofInt 1)))) μ) :
    Wp d 18 (69, [some (.ref r0), some (.int x1), some (.int x2), some (.int x3)], [], μ) Q := wp_blk rfl e18_69 (wp_ri (ty := .boolean) rfl e18_69_r rfl (by decide) k)
def q18_71 : List (Nat × Instr × Nat) := [(71, .iinc 3 1, 3), (74, .goto (-53), 3)]
theorem e18_71 : am_dec am_M18 q18_71 = true := by decide +kernel
theorem b18_71 {d : Nat} {Q : Option Value ⊕ Nat → am_Mem → Prop} {μ : am_Mem} {r0 : Nat} {x1 x2 x3 : Int32}
    (k : Wp d 18 (21, [some (.ref r0), some (.int x1), some (.int x2), some (.int (x3 + Int32.ofInt 1))], [], μ) Q) :
    Wp d 18 (71, [some (.ref r0), some (.int x1), some (.int x2), some (.int x3)], [], μ) Q := wp_blk rfl e18_71 k
def q18_77 : List (Nat × Instr × Nat) := [(77, .iconst 0, 1)]
theorem e18_77 : am_dec am_M18 q18_77 = true := by decide +kernel
theorem e18_77_r : am_dec am_M18 [(78, .ireturn, 1)] = true := by decide +kernel
theorem b18_77 {d : Nat} {Q : Option Value ⊕ Nat → am_Mem → Prop} {μ : am_Mem} {r0 : Nat} {x1 x2 x3 : Int32}
    (k : Q (.inl (some (.int (Int32.ofInt 0)))) μ) :
    Wp d 18 (77, [some (.ref r0), some (.int x1), some (.int x2), some (.int x3)], [], μ) Q := wp_blk rfl e18_77 (wp_ri (ty := .boolean) rfl e18_77_r rfl (by decide) k)
/-! RuleSheets$Checker.hasTerm(II)Z -/
def q19_0 : List (Nat × Instr × Nat) := [(0, .iconst 0, 1), (1, .istore_n 3, 1)]
theorem e19_0 : am_dec am_M19 q19_0 = true := by decide +kernel
theorem b19_0 {d : Nat} {Q : Option Value ⊕ Nat → am_Mem → Prop} {μ : am_Mem} {r0 : Nat} {x1 x2 : Int32}
    (k : Wp d 19 (2, [some (.ref r0), some (.int x1), some (.int x2), some (.int (Int32.ofInt 0))], [], μ) Q) :
    Wp d 19 (0, [some (.ref r0), some (.int x1), some (.int x2), none], [], μ) Q := wp_blk rfl e19_0 k
def q19_2 : List (Nat × Instr × Nat) := [(2, .iload_n 3, 1), (3, .aload_n 0, 1), (4, .getfield 33, 3), (7, .getfield 105, 3), (10, .iload_n 1, 1), (11, .iaload, 1), (12, .if_icmp .ge 35, 3)]
theorem e19_2 : am_dec am_M19 q19_2 = true := by decide +kernel
theorem b19_2 {d : Nat} {Q : Option Value ⊕ Nat → am_Mem → Prop} {μ : am_Mem} {r0 : Nat} {x1 x2 x3 : Int32}
    (h1 : am_kd μ r0 = (1, 0))
    (h2 : ¬ am_F μ r0 1 = 15)
    (h3 : am_kd μ (am_F μ r0 1) = (1, 5))
    (h4 : ¬ am_F μ (am_F μ r0 1) 2 = 15)
    (h5 : (am_kd μ (am_F μ (am_F μ r0 1) 2)).1 = 2 ∨ (am_kd μ (am_F μ (am_F μ r0 1) 2)).1 = 8)
    (h6 : ¬ (x1 < 0 ∨ (am_kd μ (am_F μ (am_F μ r0 1) 2)).2 ≤ x1.toNatClampNeg))
    (k1 : (am_A μ (am_F μ (am_F μ r0 1) 2) x1.toNatClampNeg) ≤ x3 → Wp d 19 (47, [some (.ref r0), some (.int x1), some (.int x2), some (.int x3)], [], μ) Q) (k2 : ¬ ((am_A μ (am_F μ (am_F μ r0 1) 2) x1.toNatClampNeg) ≤ x3) → Wp d 19 (15, [some (.ref r0), some (.int x1), some (.int x2), some (.int x3)], [], μ) Q) :
    Wp d 19 (2, [some (.ref r0), some (.int x1), some (.int x2), some (.int x3)], [], μ) Q := wp_blk rfl e19_2 (And.intro h1 (And.intro h2 (And.intro h3 (And.intro h4 (And.intro h5 (And.intro h6 (And.intro k1 k2)))))))
def q19_15 : List (Nat × Instr × Nat) := [(15, .aload_n 0, 1), (16, .getfield 33, 3), (19, .aload_n 0, 1), (20, .getfield 33, 3), (23, .getfield 141, 3), (26, .iconst 4, 1), (27, .iload_n 1, 1), (28, .imul, 1), (29, .iload_n 3, 1), (30, .iadd, 1), (31, .iaload, 1), (32, .iload_n 2, 1)]
theorem e19_15 : am_dec am_M19 q19_15 = true := by decide +kernel
theorem e19_15_c : am_dc1 am_M19 33 (.invokevirtual 150) 3 = true := by decide +kernel
theorem b19_15 {d : Nat} {Q : Option Value ⊕ Nat → am_Mem → Prop} {μ : am_Mem} {r0 : Nat} {x1 x2 x3 : Int32} {P : Int32 → am_Mem → Prop} {X : Nat → am_Mem → Prop}
    (h1 : am_kd μ r0 = (1, 0))
    (h2 : ¬ am_F μ r0 1 = 15)
    (h3 : am_kd μ r0 = (1, 0))
    (h4 : ¬ am_F μ r0 1 = 15)
    (h5 : am_kd μ (am_F μ r0 1) = (1, 5))
    (h6 : ¬ am_F μ (am_F μ r0 1) 3 = 15)
    (h7 : (am_kd μ (am_F μ (am_F μ r0 1) 3)).1 = 2 ∨ (am_kd μ (am_F μ (am_F μ r0 1) 3)).1 = 8)
    (h8 : ¬ ((((Int32.ofInt 4) * x1) + x3) < 0 ∨ (am_kd μ (am_F μ (am_F μ r0 1) 3)).2 ≤ (((Int32.ofInt 4) * x1) + x3).toNatClampNeg))
    (hk : am_kd μ (am_F μ r0 1) = (1, 5))
    (hc : Wp d 71 (0, [some (.ref (am_F μ r0 1)), some (.int (am_A μ (am_F μ (am_F μ r0 1) 3) (((Int32.ofInt 4) * x1) + x3).toNatClampNeg)), some (.int x2), none, none, none], [], μ) (pI P X)) (hr : ∀ x μ', P x μ' → Wp (d + 1) 19 (36, [some (.ref r0), some (.int x1), some (.int x2), some (.int x3)], [.int x], (μ')) Q)
    (hx : ∀ x μ', X x μ' → Q (.inr x) μ') :
    Wp (d + 1) 19 (15, [some (.ref r0), some (.int x1), some (.int x2), some (.int x3)], [], μ) Q := wp_blk rfl e19_15 (And.intro h1 (And.intro h2 (And.intro h3 (And.intro h4 (And.intro h5 (And.intro h6 (And.intro h7 (And.intro h8 (wp_cv (as := [.int (am_A μ (am_F μ (am_F μ r0 1) 3) (((Int32.ofInt 4) * x1) + x3).toNatClampNeg), .int x2]) rfl e19_15_c rfl rfl rfl rfl rfl hk hc (fun v μ' hv => by obtain ⟨x, rfl, hp⟩ := pI_r hv; exact hr x μ' hp) hx)))))))))
def q19_36 : List (Nat × Instr × Nat) := [(36, .ifCond .eq 5, 3)]
theorem e19_36 : am_dec am_M19 q19_36 = true := by decide +kernel
theorem b19_36 {d : Nat} {Q : Option Value ⊕ Nat → am_Mem → Prop} {μ : am_Mem} {r0 : Nat} {x1 x2 x3 s0 : Int32}
    (k1 : s0 = 0 → Wp d 19 (41, [some (.ref r0), some (.int x1), some (.int x2), some (.int x3)], [], μ) Q) (k2 : ¬ (s0 = 0) → Wp d 19 (39, [some (.ref r0), some (.int x1), some (.int x2), some (.int x3)], [], μ) Q) :
    Wp d 19 (36, [some (.ref r0), some (.int x1), some (.int x2), some (.int x3)], [.int s0], μ) Q := wp_blk rfl e19_36 (And.intro k1 k2)
def q19_39 : List (Nat × Instr × Nat) := [(39, .iconst 1, 1)]
theorem e19_39 : am_dec am_M19 q19_39 = true := by decide +kernel
theorem e19_39_r : am_dec am_M19 [(40, .ireturn, 1)] = true := by decide +kernel
theorem b19_39 {d : Nat} {Q : Option Value ⊕ Nat → am_Mem → Prop} {μ : am_Mem} {r0 : Nat} {x1 x2 x3 : Int32}
    (k : Q (.inl (some (.int (Int32.ofInt 1)))) μ) :
    Wp d 19 (39, [some (.ref r0), some (.int x1), some (.int x2), some (.int x3)], [], μ) Q := wp_blk rfl e19_39 (wp_ri (ty := .boolean) rfl e19_39_r rfl (by decide) k)
def q19_41 : List (Nat × Instr × Nat) := [(41, .iinc 3 1, 3), (44, .goto (-42), 3)]
theorem e19_41 : am_dec am_M19 q19_41 = true := by decide +kernel
theorem b19_41 {d : Nat} {Q : Option Value ⊕ Nat → am_Mem → Prop} {μ : am_Mem} {r0 : Nat} {x1 x2 x3 : Int32}
    (k : Wp d 19 (2, [some (.ref r0), some (.int x1), some (.int x2), some (.int (x3 + Int32.ofInt 1))], [], μ) Q) :
    Wp d 19 (41, [some (.ref r0), some (.int x1), some (.int x2), some (.int x3)], [], μ) Q := wp_blk rfl e19_41 k
def q19_47 : List (Nat × Instr × Nat) := [(47, .iconst 0, 1)]
theorem e19_47 : am_dec am_M19 q19_47 = true := by decide +kernel
theorem e19_47_r : am_dec am_M19 [(48, .ireturn, 1)] = true := by decide +kernel
theorem b19_47 {d : Nat} {Q : Option Value ⊕ Nat → am_Mem → Prop} {μ : am_Mem} {r0 : Nat} {x1 x2 x3 : Int32}
    (k : Q (.inl (some (.int (Int32.ofInt 0)))) μ) :
    Wp d 19 (47, [some (.ref r0), some (.int x1), some (.int x2), some (.int x3)], [], μ) Q := wp_blk rfl e19_47 (wp_ri (ty := .boolean) rfl e19_47_r rfl (by decide) k)
/-! RuleSheets$Checker.plan()V -/
def q20_0 : List (Nat × Instr × Nat) := [(0, .iconst 0, 1), (1, .istore_n 1, 1)]
theorem e20_0 : am_dec am_M20 q20_0 = true := by decide +kernel
theorem b20_0 {d : Nat} {Q : Option Value ⊕ Nat → am_Mem → Prop} {μ : am_Mem} {r0 : Nat}
    (k : Wp d 20 (2, [some (.ref r0), some (.int (Int32.ofInt 0)), none], [], μ) Q) :
    Wp d 20 (0, [some (.ref r0), none, none], [], μ) Q := wp_blk rfl e20_0 k
def q20_2 : List (Nat × Instr × Nat) := [(2, .iload_n 1, 1), (3, .aload_n 0, 1), (4, .getfield 22, 3), (7, .if_icmp .ge 16, 3)]
theorem e20_2 : am_dec am_M20 q20_2 = true := by decide +kernel
theorem b20_2 {d : Nat} {Q : Option Value ⊕ Nat → am_Mem → Prop} {μ : am_Mem} {r0 : Nat} {x1 : Int32}
    (h1 : am_kd μ r0 = (1, 0))
    (k1 : (am_A μ r0 4) ≤ x1 → Wp d 20 (23, [some (.ref r0), some (.int x1), none], [], μ) Q) (k2 : ¬ ((am_A μ r0 4) ≤ x1) → Wp d 20 (10, [some (.ref r0), some (.int x1), none], [], μ) Q) :
    Wp d 20 (2, [some (.ref r0), some (.int x1), none], [], μ) Q := wp_blk rfl e20_2 (And.intro h1 (And.intro k1 k2))
def q20_10 : List (Nat × Instr × Nat) := [(10, .aload_n 0, 1), (11, .getfield 29, 3), (14, .iload_n 1, 1), (15, .iconst 0, 1), (16, .bastore, 1), (17, .iinc 1 1, 3), (20, .goto (-18), 3)]
theorem e20_10 : am_dec am_M20 q20_10 = true := by decide +kernel
theorem b20_10 {d : Nat} {Q : Option Value ⊕ Nat → am_Mem → Prop} {μ : am_Mem} {r0 : Nat} {x1 : Int32}
    (h1 : am_kd μ r0 = (1, 0))
    (h2 : ¬ am_F μ r0 6 = 15)
    (h3 : (am_kd μ (am_F μ r0 6)).1 = 3 ∨ (am_kd μ (am_F μ r0 6)).1 = 4)
    (h4 : ¬ (x1 < 0 ∨ (am_kd μ (am_F μ r0 6)).2 ≤ x1.toNatClampNeg))
    (k : Wp d 20 (2, [some (.ref r0), some (.int (x1 + Int32.ofInt 1)), none], [], (am_pA μ (am_F μ r0 6) x1.toNatClampNeg (am_nar (am_kd μ (am_F μ r0 6)).1 (Int32.ofInt 0)))) Q) :
    Wp d 20 (10, [some (.ref r0), some (.int x1), none], [], μ) Q := wp_blk rfl e20_10 (And.intro h1 (And.intro h2 (And.intro h3 (And.intro h4 k))))
def q20_23 : List (Nat × Instr × Nat) := [(23, .aload_n 0, 1), (24, .getfield 33, 3), (27, .iconst 0, 1), (28, .putfield 153, 3), (31, .aload_n 0, 1), (32, .getfield 33, 3), (35, .getfield 156, 3), (38, .iconst 0, 1), (39, .iconst 0, 1), (40, .iastore, 1)]
theorem e20_23 : am_dec am_M20 q20_23 = true := by decide +kernel
theorem b20_23 {d : Nat} {Q : Option Value ⊕ Nat → am_Mem → Prop} {μ : am_Mem} {r0 : Nat} {x1 : Int32}
    (h1 : am_kd μ r0 = (1, 0))
    (h2 : ¬ am_F μ r0 1 = 15)
    (h3 : am_kd μ (am_F μ r0 1) = (1, 5))
    (h4 : am_kd (am_pA μ (am_F μ r0 1) 17 (Int32.ofInt 0)) r0 = (1, 0))
    (h5 : ¬ am_F (am_pA μ (am_F μ r0 1) 17 (Int32.ofInt 0)) r0 1 = 15)
    (h6 : am_kd (am_pA μ (am_F μ r0 1) 17 (Int32.ofInt 0)) (am_F (am_pA μ (am_F μ r0 1) 17 (Int32.ofInt 0)) r0 1) = (1, 5))
    (h7 : ¬ am_F (am_pA μ (am_F μ r0 1) 17 (Int32.ofInt 0)) (am_F (am_pA μ (am_F μ r0 1) 17 (Int32.ofInt 0)) r0 1) 15 = 15)
    (h8 : (am_kd (am_pA μ (am_F μ r0 1) 17 (Int32.ofInt 0)) (am_F (am_pA μ (am_F μ r0 1) 17 (Int32.ofInt 0)) (am_F (am_pA μ (am_F μ r0 1) 17 (Int32.ofInt 0)) r0 1) 15)).1 = 2)
    (h9 : ¬ ((Int32.ofInt 0) < 0 ∨ (am_kd (am_pA μ (am_F μ r0 1) 17 (Int32.ofInt 0)) (am_F (am_pA μ (am_F μ r0 1) 17 (Int32.ofInt 0)) (am_F (am_pA μ (am_F μ r0 1) 17 (Int32.ofInt 0)) r0 1) 15)).2 ≤ (Int32.ofInt 0).toNatClampNeg))
    (k : Wp d 20 (41, [some (.ref r0), some (.int x1), none], [], (am_pA (am_pA μ (am_F μ r0 1) 17 (Int32.ofInt 0)) (am_F (am_pA μ (am_F μ r0 1) 17 (Int32.ofInt 0)) (am_F (am_pA μ (am_F μ r0 1) 17 (Int32.ofInt 0)) r0 1) 15) (Int32.ofInt 0).toNatClampNeg (Int32.ofInt 0))) Q) :
    Wp d 20 (23, [some (.ref r0), some (.int x1), none], [], μ) Q := wp_blk rfl e20_23 (And.intro h1 (And.intro h2 (And.intro h3 (And.intro ⟨rfl, rfl⟩ (And.intro h4 (And.intro h5 (And.intro h6 (And.intro h7 (And.intro h8 (And.intro h9 k))))))))))
def q20_41 : List (Nat × Instr × Nat) := [(41, .iconst 0, 1), (42, .istore_n 1, 1)]
theorem e20_41 : am_dec am_M20 q20_41 = true := by decide +kernel
theorem b20_41 {d : Nat} {Q : Option Value ⊕ Nat → am_Mem → Prop} {μ : am_Mem} {r0 : Nat} {x1 : Int32}
    (k : Wp d 20 (43, [some (.ref r0), some (.int (Int32.ofInt 0)), none], [], μ) Q) :
    Wp d 20 (41, [some (.ref r0), some (.int x1), none], [], μ) Q := wp_blk rfl e20_41 k
def q20_43 : List (Nat × Instr × Nat) := [(43, .iload_n 1, 1), (44, .bipush 124, 2), (46, .if_icmp .ge 68, 3)]
theorem e20_43 : am_dec am_M20 q20_43 = true := by decide +kernel
theorem b20_43 {d : Nat} {Q : Option Value ⊕ Nat → am_Mem → Prop} {μ : am_Mem} {r0 : Nat} {x1 : Int32} {o2 : Option Value}
    (k1 : ((Int8.ofInt 124).toInt32) ≤ x1 → Wp d 20 (114, [some (.ref r0), some (.int x1), o2], [], μ) Q) (k2 : ¬ (((Int8.ofInt 124).toInt32) ≤ x1) → Wp d 20 (49, [some (.ref r0), some (.int x1), o2], [], μ) Q) :
    Wp d 20 (43, [some (.ref r0), some (.int x1), o2], [], μ) Q := wp_blk rfl e20_43 (And.intro k1 k2)
def q20_49 : List (Nat × Instr × Nat) := [(49, .iload_n 1, 1), (50, .bipush 62, 2), (52, .if_icmp .ne 17, 3)]
theorem e20_49 : am_dec am_M20 q20_49 = true := by decide +kernel
theorem b20_49 {d : Nat} {Q : Option Value ⊕ Nat → am_Mem → Prop} {μ : am_Mem} {r0 : Nat} {x1 : Int32} {o2 : Option Value}
    (k1 : ¬ x1 = ((Int8.ofInt 62).toInt32) → Wp d 20 (69, [some (.ref r0), some (.int x1), o2], [], μ) Q) (k2 : ¬ (¬ x1 = ((Int8.ofInt 62).toInt32)) → Wp d 20 (55, [some (.ref r0), some (.int x1), o2], [], μ) Q) :
    Wp d 20 (49, [some (.ref r0), some (.int x1), o2], [], μ) Q := wp_blk rfl e20_49 (And.intro k1 k2)
def q20_55 : List (Nat × Instr × Nat) := [(55, .aload_n 0, 1), (56, .getfield 33, 3), (59, .aload_n 0, 1), (60, .getfield 33, 3), (63, .getfield 153, 3), (66, .putfield 159, 3)]
theorem e20_55 : am_dec am_M20 q20_55 = true := by decide +kernel
theorem b20_55 {d : Nat} {Q : Option Value ⊕ Nat → am_Mem → Prop} {μ : am_Mem} {r0 : Nat} {x1 : Int32} {o2 : Option Value}
    (h1 : am_kd μ r0 = (1, 0))
    (h2 : ¬ am_F μ r0 1 = 15)
    (h3 : am_kd μ r0 = (1, 0))
    (h4 : ¬ am_F μ r0 1 = 15)
    (h5 : am_kd μ (am_F μ r0 1) = (1, 5))
    (h6 : am_kd μ (am_F μ r0 1) = (1, 5))
    (k : Wp d 20 (69, [some (.ref r0), some (.int x1), o2], [], (am_pA μ (am_F μ r0 1) 18 (am_A μ (am_F μ r0 1) 17))) Q) :
    Wp d 20 (55, [some (.ref r0), some (.int x1), o2], [], μ) Q := wp_blk rfl e20_55 (And.intro h1 (And.intro h2 (And.intro h3 (And.intro h4 (And.intro h5 (And.intro h6 (And.intro ⟨rfl, rfl⟩ k)))))))
def q20_69 : List (Nat × Instr × Nat) := [(69, .iconst 0, 1), (70, .istore_n 2, 1)]
theorem e20_69 : am_dec am_M20 q20_69 = true := by decide +kernel
theorem b20_69 {d : Nat} {Q : Option Value ⊕ Nat → am_Mem → Prop} {μ : am_Mem} {r0 : Nat} {x1 : Int32} {o2 : Option Value}
    (k : Wp d 20 (71, [some (.ref r0), some (.int x1), some (.int (Int32.ofInt 0))], [], μ) Q) :
    Wp d 20 (69, [some (.ref r0), some (.int x1), o2], [], μ) Q := wp_blk rfl e20_69 k
def q20_71 : List (Nat × Instr × Nat) := [(71, .iload_n 2, 1), (72, .aload_n 0, 1), (73, .getfield 22, 3), (76, .if_icmp .ge 32, 3)]
theorem e20_71 : am_dec am_M20 q20_71 = true := by decide +kernel
theorem b20_71 {d : Nat} {Q : Option Value ⊕ Nat → am_Mem → Prop} {μ : am_Mem} {r0 : Nat} {x1 x2 : Int32}
    (h1 : am_kd μ r0 = (1, 0))
    (k1 : (am_A μ r0 4) ≤ x2 → Wp d 20 (108, [some (.ref r0), some (.int x1), some (.int x2)], [], μ) Q) (k2 : ¬ ((am_A μ r0 4) ≤ x2) → Wp d 20 (79, [some (.ref r0), some (.int x1), some (.int x2)], [], μ) Q) :
    Wp d 20 (71, [some (.ref r0), some (.int x1), some (.int x2)], [], μ) Q := wp_blk rfl e20_71 (And.intro h1 (And.intro k1 k2))
def q20_79 : List (Nat × Instr × Nat) := [(79, .aload_n 0, 1), (80, .getfield 29, 3), (83, .iload_n 2, 1), (84, .baload, 1), (85, .ifCond .ne 17, 3)]
theorem e20_79 : am_dec am_M20 q20_79 = true := by decide +kernel
theorem b20_79 {d : Nat} {Q : Option Value ⊕ Nat → am_Mem → Prop} {μ : am_Mem} {r0 : Nat} {x1 x2 : Int32}
    (h1 : am_kd μ r0 = (1, 0))
    (h2 : ¬ am_F μ r0 6 = 15)
    (h3 : (am_kd μ (am_F μ r0 6)).1 = 3 ∨ (am_kd μ (am_F μ r0 6)).1 = 4 ∨ (am_kd μ (am_F μ r0 6)).1 = 10)
    (h4 : ¬ (x2 < 0 ∨ (am_kd μ (am_F μ r0 6)).2 ≤ x2.toNatClampNeg))
    (k1 : ¬ (am_A μ (am_F μ r0 6) x2.toNatClampNeg) = 0 → Wp d 20 (102, [some (.ref r0), some (.int x1), some (.int x2)], [], μ) Q) (k2 : ¬ (¬ (am_A μ (am_F μ r0 6) x2.toNatClampNeg) = 0) → Wp d 20 (88, [some (.ref r0), some (.int x1), some (.int x2)], [], μ) Q) :
    Wp d 20 (79, [some (.ref r0), some (.int x1), some (.int x2)], [], μ) Q := wp_blk rfl e20_79 (And.intro h1 (And.intro h2 (And.intro h3 (And.intro h4 (And.intro k1 k2)))))
def q20_88 : List (Nat × Instr × Nat) := [(88, .aload_n 0, 1), (89, .iload_n 2, 1)]
theorem e20_88 : am_dec am_M20 q20_88 = true := by decide +kernel
theorem e20_88_c : am_dc1 am_M20 90 (.invokevirtual 162) 3 = true := by decide +kernel
theorem b20_88 {d : Nat} {Q : Option Value ⊕ Nat → am_Mem → Prop} {μ : am_Mem} {r0 : Nat} {x1 x2 : Int32} {P : Int32 → am_Mem → Prop} {X : Nat → am_Mem → Prop}
    (hk : am_kd μ r0 = (1, 0))
    (hc : Wp d 21 (0, [some (.ref r0), some (.int x2), none, none], [], μ) (pI P X)) (hr : ∀ x μ', P x μ' → Wp (d + 1) 20 (93, [some (.ref r0), some (.int x1), some (.int x2)], [.int x], (μ')) Q)
    (hx : ∀ x μ', X x μ' → Q (.inr x) μ') :
    Wp (d + 1) 20 (88, [some (.ref r0), some (.int x1), some (.int x2)], [], μ) Q := wp_blk rfl e20_88 (wp_cv (as := [.int x2]) rfl e20_88_c rfl rfl rfl rfl rfl hk hc (fun v μ' hv => by obtain ⟨x, rfl, hp⟩ := pI_r hv; exact hr x μ' hp) hx)
def q20_93 : List (Nat × Instr × Nat) := [(93, .iload_n 1, 1), (94, .if_icmp .ne 8, 3)]
theorem e20_93 : am_dec am_M20 q20_93 = true := by decide +kernel
theorem b20_93 {d : Nat} {Q : Option Value ⊕ Nat → am_Mem → Prop} {μ : am_Mem} {r0 : Nat} {x1 x2 s0 : Int32}
    (k1 : ¬ s0 = x1 → Wp d 20 (102, [some (.ref r0), some (.int x1), some (.int x2)], [], μ) Q) (k2 : ¬ (¬ s0 = x1) → Wp d 20 (97, [some (.ref r0), some (.int x1), some (.int x2)], [], μ) Q) :
    Wp d 20 (93, [some (.ref r0), some (.int x1), some (.int x2)], [.int s0], μ) Q := wp_blk rfl e20_93 (And.intro k1 k2)
def q20_97 : List (Nat × Instr × Nat) := [(97, .aload_n 0, 1), (98, .iload_n 2, 1)]
theorem e20_97 : am_dec am_M20 q20_97 = true := by decide +kernel
theorem e20_97_c : am_dc1 am_M20 99 (.invokevirtual 165) 3 = true := by decide +kernel
theorem b20_97 {d : Nat} {Q : Option Value ⊕ Nat → am_Mem → Prop} {μ : am_Mem} {r0 : Nat} {x1 x2 : Int32} {P : am_Mem → Prop} {X : Nat → am_Mem → Prop}
    (hk : am_kd μ r0 = (1, 0))
    (hc : Wp d 22 (0, [some (.ref r0), some (.int x2), none, none], [], μ) (pV P X)) (hr : ∀ μ', P μ' → Wp (d + 1) 20 (102, [some (.ref r0), some (.int x1), some (.int x2)], [], (μ')) Q)
    (hx : ∀ x μ', X x μ' → Q (.inr x) μ') :
    Wp (d + 1) 20 (97, [some (.ref r0), some (.int x1), some (.int x2)], [], μ) Q := wp_blk rfl e20_97 (wp_cv (as := [.int x2]) rfl e20_97_c rfl rfl rfl rfl rfl hk hc (fun v μ' hv => by obtain ⟨rfl, hp⟩ := pV_r hv; exact hr μ' hp) hx)
def q20_102 : List (Nat × Instr × Nat) := [(102, .iinc 2 1, 3), (105, .goto (-34), 3)]
theorem e20_102 : am_dec am_M20 q20_102 = true := by decide +kernel
theorem b20_102 {d : Nat} {Q : Option Value ⊕ Nat → am_Mem → Prop} {μ : am_Mem} {r0 : Nat} {x1 x2 : Int32}
    (k : Wp d 20 (71, [some (.ref r0), some (.int x1), some (.int (x2 + Int32.ofInt 1))], [], μ) Q) :
    Wp d 20 (102, [some (.ref r0), some (.int x1), some (.int x2)], [], μ) Q := wp_blk rfl e20_102 k
def q20_108 : List (Nat × Instr × Nat) := [(108, .iinc 1 1, 3), (111, .goto (-68), 3)]
theorem e20_108 : am_dec am_M20 q20_108 = true := by decide +kernel
theorem b20_108 {d : Nat} {Q : Option Value ⊕ Nat → am_Mem → Prop} {μ : am_Mem} {r0 : Nat} {x1 x2 : Int32}
    (k : Wp d 20 (43, [some (.ref r0), some (.int (x1 + Int32.ofInt 1)), some (.int x2)], [], μ) Q) :
    Wp d 20 (108, [some (.ref r0), some (.int x1), some (.int x2)], [], μ) Q := wp_blk rfl e20_108 k
theorem e20_114_r : am_dec am_M20 [(114, .return_, 1)] = true := by decide +kernel
theorem b20_114 {d : Nat} {Q : Option Value ⊕ Nat → am_Mem → Prop} {μ : am_Mem} {r0 : Nat} {x1 : Int32} {o2 : Option Value}
    (k : Q (.inl none) μ) :
    Wp d 20 (114, [some (.ref r0), some (.int x1), o2], [], μ) Q := (wp_rv rfl e20_114_r rfl k)
/-! RuleSheets$Checker.turnOf(I)I -/
def q21_0 : List (Nat × Instr × Nat) := [(0, .aload_n 0, 1), (1, .getfield 25, 3), (4, .iload_n 1, 1), (5, .laload, 1), (6, .ldc2_w 172, 3), (9, .land, 1), (10, .lconst 0, 1), (11, .lcmp, 1), (12, .ifCond .ne 7, 3)]
theorem e21_0 : am_dec am_M21 q21_0 = true := by decide +kernel
theorem b21_0 {d : Nat} {Q : Option Value ⊕ Nat → am_Mem → Prop} {μ : am_Mem} {r0 : Nat} {x1 : Int32}
    (h1 : am_kd μ r0 = (1, 0))
    (h2 : ¬ am_F μ r0 5 = 15)
    (h3 : (am_kd μ (am_F μ r0 5)).1 = 6)
    (h4 : ¬ (x1 < 0 ∨ (am_kd μ (am_F μ r0 5)).2 ≤ x1.toNatClampNeg))
    (k1 : ¬ (lg_cmp ((am_L μ (am_F μ r0 5) x1.toNatClampNeg) &&& (3458764513820540928 : Int64)) (Int64.ofNat 0)) = 0 → Wp d 21 (19, [some (.ref r0), some (.int x1), none, none], [], μ) Q) (k2 : ¬ (¬ (lg_cmp ((am_L μ (am_F μ r0 5) x1.toNatClampNeg) &&& (3458764513820540928 : Int64)) (Int64.ofNat 0)) = 0) → Wp d 21 (15, [some (.ref r0), some (.int x1), none, none], [], μ) Q) :
    Wp d 21 (0, [some (.ref r0), some (.int x1), none, none], [], μ) Q := wp_blk rfl e21_0 (And.intro h1 (And.intro h2 (And.intro h3 (And.intro h4 (And.intro k1 k2)))))
def q21_15 : List (Nat × Instr × Nat) := [(15, .iconst 1, 1), (16, .goto 4, 3)]
theorem e21_15 : am_dec am_M21 q21_15 = true := by decide +kernel
theorem b21_15 {d : Nat} {Q : Option Value ⊕ Nat → am_Mem → Prop} {μ : am_Mem} {r0 : Nat} {x1 : Int32}
    (k : Wp d 21 (20, [some (.ref r0), some (.int x1), none, none], [.int (Int32.ofInt 1)], μ) Q) :
    Wp d 21 (15, [some (.ref r0), some (.int x1), none, none], [], μ) Q := wp_blk rfl e21_15 k
def q21_19 : List (Nat × Instr × Nat) := [(19, .iconst 0, 1)]
theorem e21_19 : am_dec am_M21 q21_19 = true := by decide +kernel
theorem b21_19 {d : Nat} {Q : Option Value ⊕ Nat → am_Mem → Prop} {μ : am_Mem} {r0 : Nat} {x1 : Int32}
    (k : Wp d 21 (20, [some (.ref r0), some (.int x1), none, none], [.int (Int32.ofInt 0)], μ) Q) :
    Wp d 21 (19, [some (.ref r0), some (.int x1), none, none], [], μ) Q := wp_blk rfl e21_19 k
def q21_20 : List (Nat × Instr × Nat) := [(20, .istore_n 2, 1), (21, .aload_n 0, 1), (22, .getfield 25, 3), (25, .iload_n 1, 1), (26, .laload, 1), (27, .lconst 1, 1), (28, .iload_n 1, 1), (29, .lshl, 1), (30, .lor, 1)]
theorem e21_20 : am_dec am_M21 q21_20 = true := by decide +kernel
theorem e21_20_c : am_dc1 am_M21 31 (.invokestatic 174) 3 = true := by decide +kernel
theorem b21_20 {d : Nat} {Q : Option Value ⊕ Nat → am_Mem → Prop} {μ : am_Mem} {r0 : Nat} {x1 s0 : Int32} {P : Int32 → am_Mem → Prop} {X : Nat → am_Mem → Prop}
    (h1 : am_kd μ r0 = (1, 0))
    (h2 : ¬ am_F μ r0 5 = 15)
    (h3 : (am_kd μ (am_F μ r0 5)).1 = 6)
    (h4 : ¬ (x1 < 0 ∨ (am_kd μ (am_F μ r0 5)).2 ≤ x1.toNatClampNeg))
    (hc : Wp d 294 (0, [some (.long ((am_L μ (am_F μ r0 5) x1.toNatClampNeg) ||| ((Int64.ofNat 1) <<< (x1.toInt64 &&& 63)))), none], [], μ) (pI P X)) (hr : ∀ x μ', P x μ' → Wp (d + 1) 21 (34, [some (.ref r0), some (.int x1), some (.int s0), none], [.int x], (μ')) Q)
    (hx : ∀ x μ', X x μ' → Q (.inr x) μ') :
    Wp (d + 1) 21 (20, [some (.ref r0), some (.int x1), none, none], [.int s0], μ) Q := wp_blk rfl e21_20 (And.intro h1 (And.intro h2 (And.intro h3 (And.intro h4 (wp_cs (vs := [.long ((am_L μ (am_F μ r0 5) x1.toNatClampNeg) ||| ((Int64.ofNat 1) <<< (x1.toInt64 &&& 63)))]) rfl e21_20_c rfl rfl rfl rfl rfl hc (fun v μ' hv => by obtain ⟨x, rfl, hp⟩ := pI_r hv; exact hr x μ' hp) hx)))))
def q21_34 : List (Nat × Instr × Nat) := [(34, .istore_n 3, 1), (35, .iload_n 2, 1), (36, .ifCond .eq 9, 3)]
theorem e21_34 : am_dec am_M21 q21_34 = true := by decide +kernel
theorem b21_34 {d : Nat} {Q : Option Value ⊕ Nat → am_Mem → Prop} {μ : am_Mem} {r0 : Nat} {x1 x2 s0 : Int32}
    (k1 : x2 = 0 → Wp d 21 (45, [some (.ref r0), some (.int x1), some (.int x2), some (.int s0)], [], μ) Q) (k2 : ¬ (x2 = 0) → Wp d 21 (39, [some (.ref r0), some (.int x1), some (.int x2), some (.int s0)], [], μ) Q) :
    Wp d 21 (34, [some (.ref r0), some (.int x1), some (.int x2), none], [.int s0], μ) Q := wp_blk rfl e21_34 (And.intro k1 k2)
def q21_39 : List (Nat × Instr × Nat) := [(39, .iload_n 3, 1), (40, .iconst 1, 1), (41, .isub, 1), (42, .goto 9, 3)]
theorem e21_39 : am_dec am_M21 q21_39 = true := by decide +kernel
theorem b21_39 {d : Nat} {Q : Option Value ⊕ Nat → am_Mem → Prop} {μ : am_Mem} {r0 : Nat} {x1 x2 x3 : Int32}
    (k : Wp d 21 (51, [some (.ref r0), some (.int x1), some (.int x2), some (.int x3)], [.int (x3 - (Int32.ofInt 1))], μ) Q) :
    Wp d 21 (39, [some (.ref r0), some (.int x1), some (.int x2), some (.int x3)], [], μ) Q := wp_blk rfl e21_39 k
def q21_45 : List (Nat × Instr × Nat) := [(45, .bipush 62, 2), (47, .iload_n 3, 1), (48, .iadd, 1), (49, .iconst 1, 1), (50, .isub, 1)]
theorem e21_45 : am_dec am_M21 q21_45 = true := by decide +kernel
theorem b21_45 {d : Nat} {Q : Option Value ⊕ Nat → am_Mem → Prop} {μ : am_Mem} {r0 : Nat} {x1 x2 x3 : Int32}
    (k : Wp d 21 (51, [some (.ref r0), some (.int x1), some (.int x2), some (.int x3)], [.int ((((Int8.ofInt 62).toInt32) + x3) - (Int32.ofInt 1))], μ) Q) :
    Wp d 21 (45, [some (.ref r0), some (.int x1), some (.int x2), some (.int x3)], [], μ) Q := wp_blk rfl e21_45 k
theorem e21_51_r : am_dec am_M21 [(51, .ireturn, 1)] = true := by decide +kernel
theorem b21_51 {d : Nat} {Q : Option Value ⊕ Nat → am_Mem → Prop} {μ : am_Mem} {r0 : Nat} {x1 x2 x3 s0 : Int32}
    (k : Q (.inl (some (.int s0))) μ) :
    Wp d 21 (51, [some (.ref r0), some (.int x1), some (.int x2), some (.int x3)], [.int s0], μ) Q := (wp_ri (ty := .int) rfl e21_51_r rfl ⟨rfl, rfl⟩ k)
/-! RuleSheets$Checker.placeGroup(I)V -/
def q22_0 : List (Nat × Instr × Nat) := [(0, .aload_n 0, 1), (1, .iload_n 1, 1), (2, .iconst 0, 1), (3, .aload_n 0, 1), (4, .getfield 33, 3), (7, .getfield 156, 3), (10, .aload_n 0, 1), (11, .getfield 33, 3), (14, .getfield 153, 3), (17, .iaload, 1)]
theorem e22_0 : am_dec am_M22 q22_0 = true := by decide +kernel
theorem e22_0_c : am_dc1 am_M22 18 (.invokevirtual 180) 3 = true := by decide +kernel
theorem b22_0 {d : Nat} {Q : Option Value ⊕ Nat → am_Mem → Prop} {μ : am_Mem} {r0 : Nat} {x1 : Int32} {P : Int32 → am_Mem → Prop} {X : Nat → am_Mem → Prop}
    (h1 : am_kd μ r0 = (1, 0))
    (h2 : ¬ am_F μ r0 1 = 15)
    (h3 : am_kd μ (am_F μ r0 1) = (1, 5))
    (h4 : ¬ am_F μ (am_F μ r0 1) 15 = 15)
    (h5 : am_kd μ r0 = (1, 0))
    (h6 : ¬ am_F μ r0 1 = 15)
    (h7 : am_kd μ (am_F μ r0 1) = (1, 5))
    (h8 : (am_kd μ (am_F μ (am_F μ r0 1) 15)).1 = 2 ∨ (am_kd μ (am_F μ (am_F μ r0 1) 15)).1 = 8)
    (h9 : ¬ ((am_A μ (am_F μ r0 1) 17) < 0 ∨ (am_kd μ (am_F μ (am_F μ r0 1) 15)).2 ≤ (am_A μ (am_F μ r0 1) 17).toNatClampNeg))
    (hk : am_kd μ r0 = (1, 0))
    (hc : Wp d 23 (0, [some (.ref r0), some (.int x1), some (.int (Int32.ofInt 0)), some (.int (am_A μ (am_F μ (am_F μ r0 1) 15) (am_A μ (am_F μ r0 1) 17).toNatClampNeg)), none, none, none], [], μ) (pI P X)) (hr : ∀ x μ', P x μ' → Wp (d + 1) 22 (21, [some (.ref r0), some (.int x1), none, none], [.int x], (μ')) Q)
    (hx : ∀ x μ', X x μ' → Q (.inr x) μ') :
    Wp (d + 1) 22 (0, [some (.ref r0), some (.int x1), none, none], [], μ) Q := wp_blk rfl e22_0 (And.intro h1 (And.intro h2 (And.intro h3 (And.intro h4 (And.intro h5 (And.intro h6 (And.intro h7 (And.intro h8 (And.intro h9 (wp_cv (as := [.int x1, .int (Int32.ofInt 0), .int (am_A μ (am_F μ (am_F μ r0 1) 15) (am_A μ (am_F μ r0 1) 17).toNatClampNeg)]) rfl e22_0_c rfl rfl rfl rfl rfl hk hc (fun v μ' hv => by obtain ⟨x, rfl, hp⟩ := pI_r hv; exact hr x μ' hp) hx))))))))))
def q22_21 : List (Nat × Instr × Nat) := [(21, .istore_n 2, 1), (22, .aload_n 0, 1), (23, .iload_n 1, 1), (24, .iconst 1, 1), (25, .iload_n 2, 1)]
theorem e22_21 : am_dec am_M22 q22_21 = true := by decide +kernel
theorem e22_21_c : am_dc1 am_M22 26 (.invokevirtual 180) 3 = true := by decide +kernel
theorem b22_21 {d : Nat} {Q : Option Value ⊕ Nat → am_Mem → Prop} {μ : am_Mem} {r0 : Nat} {x1 s0 : Int32} {P : Int32 → am_Mem → Prop} {X : Nat → am_Mem → Prop}
    (hk : am_kd μ r0 = (1, 0))
    (hc : Wp d 23 (0, [some (.ref r0), some (.int x1), some (.int (Int32.ofInt 1)), some (.int s0), none, none, none], [], μ) (pI P X)) (hr : ∀ x μ', P x μ' → Wp (d + 1) 22 (29, [some (.ref r0), some (.int x1), some (.int s0), none], [.int x], (μ')) Q)
    (hx : ∀ x μ', X x μ' → Q (.inr x) μ') :
    Wp (d + 1) 22 (21, [some (.ref r0), some (.int x1), none, none], [.int s0], μ) Q := wp_blk rfl e22_21 (wp_cv (as := [.int x1, .int (Int32.ofInt 1), .int s0]) rfl e22_21_c rfl rfl rfl rfl rfl hk hc (fun v μ' hv => by obtain ⟨x, rfl, hp⟩ := pI_r hv; exact hr x μ' hp) hx)
def q22_29 : List (Nat × Instr × Nat) := [(29, .istore_n 3, 1), (30, .aload_n 0, 1), (31, .getfield 33, 3), (34, .getfield 184, 3), (37, .aload_n 0, 1), (38, .getfield 33, 3), (41, .getfield 153, 3), (44, .iload_n 2, 1), (45, .iastore, 1), (46, .aload_n 0, 1), (47, .getfield 33, 3), (50, .dup, 1), (51, .getfield 153, 3), (54, .iconst 1, 1), (55, .iadd, 1), (56, .putfield 153, 3)]
theorem e22_29 : am_dec am_M22 q22_29 = true := by decide +kernel
theorem b22_29 {d : Nat} {Q : Option Value ⊕ Nat → am_Mem → Prop} {μ : am_Mem} {r0 : Nat} {x1 x2 s0 : Int32}
    (h1 : am_kd μ r0 = (1, 0))
    (h2 : ¬ am_F μ r0 1 = 15)
    (h3 : am_kd μ (am_F μ r0 1) = (1, 5))
    (h4 : ¬ am_F μ (am_F μ r0 1) 16 = 15)
    (h5 : am_kd μ r0 = (1, 0))
    (h6 : ¬ am_F μ r0 1 = 15)
    (h7 : am_kd μ (am_F μ r0 1) = (1, 5))
    (h8 : (am_kd μ (am_F μ (am_F μ r0 1) 16)).1 = 2)
    (h9 : ¬ ((am_A μ (am_F μ r0 1) 17) < 0 ∨ (am_kd μ (am_F μ (am_F μ r0 1) 16)).2 ≤ (am_A μ (am_F μ r0 1) 17).toNatClampNeg))
    (h10 : am_kd (am_pA μ (am_F μ (am_F μ r0 1) 16) (am_A μ (am_F μ r0 1) 17).toNatClampNeg x2) r0 = (1, 0))
    (h11 : ¬ am_F (am_pA μ (am_F μ (am_F μ r0 1) 16) (am_A μ (am_F μ r0 1) 17).toNatClampNeg x2) r0 1 = 15)
    (h12 : am_kd (am_pA μ (am_F μ (am_F μ r0 1) 16) (am_A μ (am_F μ r0 1) 17).toNatClampNeg x2) (am_F (am_pA μ (am_F μ (am_F μ r0 1) 16) (am_A μ (am_F μ r0 1) 17).toNatClampNeg x2) r0 1) = (1, 5))
    (h13 : am_kd (am_pA μ (am_F μ (am_F μ r0 1) 16) (am_A μ (am_F μ r0 1) 17).toNatClampNeg x2) (am_F (am_pA μ (am_F μ (am_F μ r0 1) 16) (am_A μ (am_F μ r0 1) 17).toNatClampNeg x2) r0 1) = (1, 5))
    (k : Wp d 22 (59, [some (.ref r0), some (.int x1), some (.int x2), some (.int s0)], [], (am_pA (am_pA μ (am_F μ (am_F μ r0 1) 16) (am_A μ (am_F μ r0 1) 17).toNatClampNeg x2) (am_F (am_pA μ (am_F μ (am_F μ r0 1) 16) (am_A μ (am_F μ r0 1) 17).toNatClampNeg x2) r0 1) 17 ((am_A (am_pA μ (am_F μ (am_F μ r0 1) 16) (am_A μ (am_F μ r0 1) 17).toNatClampNeg x2) (am_F (am_pA μ (am_F μ (am_F μ r0 1) 16) (am_A μ (am_F μ r0 1) 17).toNatClampNeg x2) r0 1) 17) + (Int32.ofInt 1)))) Q) :
    Wp d 22 (29, [some (.ref r0), some (.int x1), some (.int x2), none], [.int s0], μ) Q := wp_blk rfl e22_29 (And.intro h1 (And.intro h2 (And.intro h3 (And.intro h4 (And.intro h5 (And.intro h6 (And.intro h7 (And.intro h8 (And.intro h9 (And.intro h10 (And.intro h11 (And.intro h12 (And.intro h13 (And.intro ⟨rfl, rfl⟩ k))))))))))))))
def q22_59 : List (Nat × Instr × Nat) := [(59, .aload_n 0, 1), (60, .getfield 33, 3), (63, .getfield 156, 3), (66, .aload_n 0, 1), (67, .getfield 33, 3), (70, .getfield 153, 3), (73, .iload_n 3, 1), (74, .iastore, 1)]
theorem e22_59 : am_dec am_M22 q22_59 = true := by decide +kernel
theorem e22_59_r : am_dec am_M22 [(75, .return_, 1)] = true := by decide +kernel
theorem b22_59 {d : Nat} {Q : Option Value ⊕ Nat → am_Mem → Prop} {μ : am_Mem} {r0 : Nat} {x1 x2 x3 : Int32}
    (h1 : am_kd μ r0 = (1, 0))
    (h2 : ¬ am_F μ r0 1 = 15)
    (h3 : am_kd μ (am_F μ r0 1) = (1, 5))
    (h4 : ¬ am_F μ (am_F μ r0 1) 15 = 15)
    (h5 : am_kd μ r0 = (1, 0))
    (h6 : ¬ am_F μ r0 1 = 15)
    (h7 : am_kd μ (am_F μ r0 1) = (1, 5))
    (h8 : (am_kd μ (am_F μ (am_F μ r0 1) 15)).1 = 2)
    (h9 : ¬ ((am_A μ (am_F μ r0 1) 17) < 0 ∨ (am_kd μ (am_F μ (am_F μ r0 1) 15)).2 ≤ (am_A μ (am_F μ r0 1) 17).toNatClampNeg))
    (k : Q (.inl none) (am_pA μ (am_F μ (am_F μ r0 1) 15) (am_A μ (am_F μ r0 1) 17).toNatClampNeg x3)) :
    Wp d 22 (59, [some (.ref r0), some (.int x1), some (.int x2), some (.int x3)], [], μ) Q := wp_blk rfl e22_59 (And.intro h1 (And.intro h2 (And.intro h3 (And.intro h4 (And.intro h5 (And.intro h6 (And.intro h7 (And.intro h8 (And.intro h9 (wp_rv rfl e22_59_r rfl k))))))))))
/-! RuleSheets$Checker.placeRules(IZI)I -/
def q23_0 : List (Nat × Instr × Nat) := [(0, .iload_n 3, 1), (1, .istore 4, 2), (3, .iconst 0, 1), (4, .istore 5, 2)]
theorem e23_0 : am_dec am_M23 q23_0 = true := by decide +kernel
theorem b23_0 {d : Nat} {Q : Option Value ⊕ Nat → am_Mem → Prop} {μ : am_Mem} {r0 : Nat} {x1 x2 x3 : Int32}
    (k : Wp d 23 (6, [some (.ref r0), some (.int x1), some (.int x2), some (.int x3), some (.int x3), some (.int (Int32.ofInt 0)), none], [], μ) Q) :
    Wp d 23 (0, [some (.ref r0), some (.int x1), some (.int x2), some (.int x3), none, none, none], [], μ) Q := wp_blk rfl e23_0 k
def q23_6 : List (Nat × Instr × Nat) := [(6, .iload 5, 2), (8, .aload_n 0, 1), (9, .getfield 33, 3), (12, .getfield 92, 3), (15, .if_icmp .ge 71, 3)]
theorem e23_6 : am_dec am_M23 q23_6 = true := by decide +kernel
theorem b23_6 {d : Nat} {Q : Option Value ⊕ Nat → am_Mem → Prop} {μ : am_Mem} {r0 : Nat} {x1 x2 x3 x4 x5 : Int32} {o6 : Option Value}
    (h1 : am_kd μ r0 = (1, 0))
    (h2 : ¬ am_F μ r0 1 = 15)
    (h3 : am_kd μ (am_F μ r0 1) = (1, 5))
    (k1 : (am_A μ (am_F μ r0 1) 13) ≤ x5 → Wp d 23 (86, [some (.ref r0), some (.int x1), some (.int x2), some (.int x3), some (.int x4), some (.int x5), o6], [], μ) Q) (k2 : ¬ ((am_A μ (am_F μ r0 1) 13) ≤ x5) → Wp d 23 (18, [some (.ref r0), some (.int x1), some (.int x2), some (.int x3), some (.int x4), some (.int x5), o6], [], μ) Q) :
    Wp d 23 (6, [some (.ref r0), some (.int x1), some (.int x2), some (.int x3), some (.int x4), some (.int x5), o6], [], μ) Q := wp_blk rfl e23_6 (And.intro h1 (And.intro h2 (And.intro h3 (And.intro k1 k2))))
def q23_18 : List (Nat × Instr × Nat) := [(18, .aload_n 0, 1), (19, .getfield 19, 3), (22, .aload_n 0, 1), (23, .iload 5, 2)]
theorem e23_18 : am_dec am_M23 q23_18 = true := by decide +kernel
theorem e23_18_c : am_dc1 am_M23 25 (.invokevirtual 108) 3 = true := by decide +kernel
theorem b23_18 {d : Nat} {Q : Option Value ⊕ Nat → am_Mem → Prop} {μ : am_Mem} {r0 : Nat} {x1 x2 x3 x4 x5 : Int32} {o6 : Option Value} {P : Int32 → am_Mem → Prop} {X : Nat → am_Mem → Prop}
    (h1 : am_kd μ r0 = (1, 0))
    (h2 : ¬ am_F μ r0 3 = 15)
    (hk : am_kd μ r0 = (1, 0))
    (hc : Wp d 5 (0, [some (.ref r0), some (.int x5)], [], μ) (pI P X)) (hr : ∀ x μ', P x μ' → Wp (d + 1) 23 (28, [some (.ref r0), some (.int x1), some (.int x2), some (.int x3), some (.int x4), some (.int x5), o6], [.int x, .ref (am_F μ r0 3)], (μ')) Q)
    (hx : ∀ x μ', X x μ' → Q (.inr x) μ') :
    Wp (d + 1) 23 (18, [some (.ref r0), some (.int x1), some (.int x2), some (.int x3), some (.int x4), some (.int x5), o6], [], μ) Q := wp_blk rfl e23_18 (And.intro h1 (And.intro h2 (wp_cv (as := [.int x5]) rfl e23_18_c rfl rfl rfl rfl rfl hk hc (fun v μ' hv => by obtain ⟨x, rfl, hp⟩ := pI_r hv; exact hr x μ' hp) hx)))
def q23_28 : List (Nat × Instr × Nat) := [(28, .iaload, 1), (29, .istore 6, 2), (31, .aload_n 0, 1), (32, .iload_n 1, 1), (33, .iload 6, 2)]
theorem e23_28 : am_dec am_M23 q23_28 = true := by decide +kernel
theorem e23_28_c : am_dc1 am_M23 35 (.invokevirtual 187) 3 = true := by decide +kernel
theorem b23_28 {d : Nat} {Q : Option Value ⊕ Nat → am_Mem → Prop} {μ : am_Mem} {r0 r90 : Nat} {x1 x2 x3 x4 x5 s1 : Int32} {o6 : Option Value} {P : Int32 → am_Mem → Prop} {X : Nat → am_Mem → Prop}
    (h1 : (am_kd μ r90).1 = 2 ∨ (am_kd μ r90).1 = 8)
    (h2 : ¬ (s1 < 0 ∨ (am_kd μ r90).2 ≤ s1.toNatClampNeg))
    (hk : am_kd μ r0 = (1, 0))
    (hc : Wp d 24 (0, [some (.ref r0), some (.int x1), some (.int (am_A μ r90 s1.toNatClampNeg))], [], μ) (pI P X)) (hr : ∀ x μ', P x μ' → Wp (d + 1) 23 (38, [some (.ref r0), some (.int x1), some (.int x2), some (.int x3), some (.int x4), some (.int x5), some (.int (am_A μ r90 s1.toNatClampNeg))], [.int x], (μ')) Q)
    (hx : ∀ x μ', X x μ' → Q (.inr x) μ') :
    Wp (d + 1) 23 (28, [some (.ref r0), some (.int x1), some (.int x2), some (.int x3), some (.int x4), some (.int x5), o6], [.int s1, .ref r90], μ) Q := wp_blk rfl e23_28 (And.intro h1 (And.intro h2 (wp_cv (as := [.int x1, .int (am_A μ r90 s1.toNatClampNeg)]) rfl e23_28_c rfl rfl rfl rfl rfl hk hc (fun v μ' hv => by obtain ⟨x, rfl, hp⟩ := pI_r hv; exact hr x μ' hp) hx)))
def q23_38 : List (Nat × Instr × Nat) := [(38, .ifCond .eq 42, 3)]
theorem e23_38 : am_dec am_M23 q23_38 = true := by decide +kernel
theorem b23_38 {d : Nat} {Q : Option Value ⊕ Nat → am_Mem → Prop} {μ : am_Mem} {r0 : Nat} {x1 x2 x3 x4 x5 x6 s0 : Int32}
    (k1 : s0 = 0 → Wp d 23 (80, [some (.ref r0), some (.int x1), some (.int x2), some (.int x3), some (.int x4), some (.int x5), some (.int x6)], [], μ) Q) (k2 : ¬ (s0 = 0) → Wp d 23 (41, [some (.ref r0), some (.int x1), some (.int x2), some (.int x3), some (.int x4), some (.int x5), some (.int x6)], [], μ) Q) :
    Wp d 23 (38, [some (.ref r0), some (.int x1), some (.int x2), some (.int x3), some (.int x4), some (.int x5), some (.int x6)], [.int s0], μ) Q := wp_blk rfl e23_38 (And.intro k1 k2)
def q23_41 : List (Nat × Instr × Nat) := [(41, .aload_n 0, 1), (42, .iload 5, 2)]
theorem e23_41 : am_dec am_M23 q23_41 = true := by decide +kernel
theorem e23_41_c : am_dc1 am_M23 44 (.invokevirtual 190) 3 = true := by decide +kernel
theorem b23_41 {d : Nat} {Q : Option Value ⊕ Nat → am_Mem → Prop} {μ : am_Mem} {r0 : Nat} {x1 x2 x3 x4 x5 x6 : Int32} {P : Int32 → am_Mem → Prop} {X : Nat → am_Mem → Prop}
    (hk : am_kd μ r0 = (1, 0))
    (hc : Wp d 25 (0, [some (.ref r0), some (.int x5), none], [], μ) (pI P X)) (hr : ∀ x μ', P x μ' → Wp (d + 1) 23 (47, [some (.ref r0), some (.int x1), some (.int x2), some (.int x3), some (.int x4), some (.int x5), some (.int x6)], [.int x], (μ')) Q)
    (hx : ∀ x μ', X x μ' → Q (.inr x) μ') :
    Wp (d + 1) 23 (41, [some (.ref r0), some (.int x1), some (.int x2), some (.int x3), some (.int x4), some (.int x5), some (.int x6)], [], μ) Q := wp_blk rfl e23_41 (wp_cv (as := [.int x5]) rfl e23_41_c rfl rfl rfl rfl rfl hk hc (fun v μ' hv => by obtain ⟨x, rfl, hp⟩ := pI_r hv; exact hr x μ' hp) hx)
def q23_47 : List (Nat × Instr × Nat) := [(47, .iload_n 2, 1), (48, .if_icmp .ne 32, 3)]
theorem e23_47 : am_dec am_M23 q23_47 = true := by decide +kernel
theorem b23_47 {d : Nat} {Q : Option Value ⊕ Nat → am_Mem → Prop} {μ : am_Mem} {r0 : Nat} {x1 x2 x3 x4 x5 x6 s0 : Int32}
    (k1 : ¬ s0 = x2 → Wp d 23 (80, [some (.ref r0), some (.int x1), some (.int x2), some (.int x3), some (.int x4), some (.int x5), some (.int x6)], [], μ) Q) (k2 : ¬ (¬ s0 = x2) → Wp d 23 (51, [some (.ref r0), some (.int x1), some (.int x2), some (.int x3), some (.int x4), some (.int x5), some (.int x6)], [], μ) Q) :
    Wp d 23 (47, [some (.ref r0), some (.int x1), some (.int x2), some (.int x3), some (.int x4), some (.int x5), some (.int x6)], [.int s0], μ) Q := wp_blk rfl e23_47 (And.intro k1 k2)
def q23_51 : List (Nat × Instr × Nat) := [(51, .aload_n 0, 1), (52, .getfield 29, 3), (55, .iload 6, 2), (57, .iconst 1, 1), (58, .bastore, 1), (59, .aload_n 0, 1), (60, .getfield 33, 3), (63, .getfield 193, 3), (66, .iload 4, 2), (68, .iload 5, 2), (70, .iastore, 1)]
theorem e23_51 : am_dec am_M23 q23_51 = true := by decide +kernel
theorem b23_51 {d : Nat} {Q : Option Value ⊕ Nat → am_Mem → Prop} {μ : am_Mem} {r0 : Nat} {x1 x2 x3 x4 x5 x6 : Int32}
    (h1 : am_kd μ r0 = (1, 0))
    (h2 : ¬ am_F μ r0 6 = 15)
    (h3 : (am_kd μ (am_F μ r0 6)).1 = 3 ∨ (am_kd μ (am_F μ r0 6)).1 = 4)
    (h4 : ¬ (x6 < 0 ∨ (am_kd μ (am_F μ r0 6)).2 ≤ x6.toNatClampNeg))
    (h5 : am_kd (am_pA μ (am_F μ r0 6) x6.toNatClampNeg (am_nar (am_kd μ (am_F μ r0 6)).1 (Int32.ofInt 1))) r0 = (1, 0))
    (h6 : ¬ am_F (am_pA μ (am_F μ r0 6) x6.toNatClampNeg (am_nar (am_kd μ (am_F μ r0 6)).1 (Int32.ofInt 1))) r0 1 = 15)
    (h7 : am_kd (am_pA μ (am_F μ r0 6) x6.toNatClampNeg (am_nar (am_kd μ (am_F μ r0 6)).1 (Int32.ofInt 1))) (am_F (am_pA μ (am_F μ r0 6) x6.toNatClampNeg (am_nar (am_kd μ (am_F μ r0 6)).1 (Int32.ofInt 1))) r0 1) = (1, 5))
    (h8 : ¬ am_F (am_pA μ (am_F μ r0 6) x6.toNatClampNeg (am_nar (am_kd μ (am_F μ r0 6)).1 (Int32.ofInt 1))) (am_F (am_pA μ (am_F μ r0 6) x6.toNatClampNeg (am_nar (am_kd μ (am_F μ r0 6)).1 (Int32.ofInt 1))) r0 1) 14 = 15)
    (h9 : (am_kd (am_pA μ (am_F μ r0 6) x6.toNatClampNeg (am_nar (am_kd μ (am_F μ r0 6)).1 (Int32.ofInt 1))) (am_F (am_pA μ (am_F μ r0 6) x6.toNatClampNeg (am_nar (am_kd μ (am_F μ r0 6)).1 (Int32.ofInt 1))) (am_F (am_pA μ (am_F μ r0 6) x6.toNatClampNeg (am_nar (am_kd μ (am_F μ r0 6)).1 (Int32.ofInt 1))) r0 1) 14)).1 = 2)
    (h10 : ¬ (x4 < 0 ∨ (am_kd (am_pA μ (am_F μ r0 6) x6.toNatClampNeg (am_nar (am_kd μ (am_F μ r0 6)).1 (Int32.ofInt 1))) (am_F (am_pA μ (am_F μ r0 6) x6.toNatClampNeg (am_nar (am_kd μ (am_F μ r0 6)).1 (Int32.ofInt 1))) (am_F (am_pA μ (am_F μ r0 6) x6.toNatClampNeg (am_nar (am_kd μ (am_F μ r0 6)).1 (Int32.ofInt 1))) r0 1) 14)).2 ≤ x4.toNatClampNeg))
    (k : Wp d 23 (71, [some (.ref r0), some (.int x1), some (.int x2), some (.int x3), some (.int x4), some (.int x5), some (.int x6)], [], (am_pA (am_pA μ (am_F μ r0 6) x6.toNatClampNeg (am_nar (am_kd μ (am_F μ r0 6)).1 (Int32.ofInt 1))) (am_F (am_pA μ (am_F μ r0 6) x6.toNatClampNeg (am_nar (am_kd μ (am_F μ r0 6)).1 (Int32.ofInt 1))) (am_F (am_pA μ (am_F μ r0 6) x6.toNatClampNeg (am_nar (am_kd μ (am_F μ r0 6)).1 (Int32.ofInt 1))) r0 1) 14) x4.toNatClampNeg x5)) Q) :
    Wp d 23 (51, [some (.ref r0), some (.int x1), some (.int x2), some (.int x3), some (.int x4), some (.int x5), some (.int x6)], [], μ) Q := wp_blk rfl e23_51 (And.intro h1 (And.intro h2 (And.intro h3 (And.intro h4 (And.intro h5 (And.intro h6 (And.intro h7 (And.intro h8 (And.intro h9 (And.intro h10 k))))))))))
def q23_71 : List (Nat × Instr × Nat) := [(71, .iinc 4 1, 3), (74, .aload_n 0, 1), (75, .iload 5, 2)]
theorem e23_71 : am_dec am_M23 q23_71 = true := by decide +kernel
theorem e23_71_c : am_dc1 am_M23 77 (.invokevirtual 196) 3 = true := by decide +kernel
theorem b23_71 {d : Nat} {Q : Option Value ⊕ Nat → am_Mem → Prop} {μ : am_Mem} {r0 : Nat} {x1 x2 x3 x4 x5 x6 : Int32} {P : am_Mem → Prop} {X : Nat → am_Mem → Prop}
    (hk : am_kd μ r0 = (1, 0))
    (hc : Wp d 26 (0, [some (.ref r0), some (.int x5), none, none], [], μ) (pV P X)) (hr : ∀ μ', P μ' → Wp (d + 1) 23 (80, [some (.ref r0), some (.int x1), some (.int x2), some (.int x3), some (.int (x4 + Int32.ofInt 1)), some (.int x5), some (.int x6)], [], (μ')) Q)
    (hx : ∀ x μ', X x μ' → Q (.inr x) μ') :
    Wp (d + 1) 23 (71, [some (.ref r0), some (.int x1), some (.int x2), some (.int x3), some (.int x4), some (.int x5), some (.int x6)], [], μ) Q := wp_blk rfl e23_71 (wp_cv (as := [.int x5]) rfl e23_71_c rfl rfl rfl rfl rfl hk hc (fun v μ' hv => by obtain ⟨rfl, hp⟩ := pV_r hv; exact hr μ' hp) hx)
def q23_80 : List (Nat × Instr × Nat) := [(80, .iinc 5 1, 3), (83, .goto (-77), 3)]
theorem e23_80 : am_dec am_M23 q23_80 = true := by decide +kernel
theorem b23_80 {d : Nat} {Q : Option Value ⊕ Nat → am_Mem → Prop} {μ : am_Mem} {r0 : Nat} {x1 x2 x3 x4 x5 x6 : Int32}
    (k : Wp d 23 (6, [some (.ref r0), some (.int x1), some (.int x2), some (.int x3), some (.int x4), some (.int (x5 + Int32.ofInt 1)), some (.int x6)], [], μ) Q) :
    Wp d 23 (80, [some (.ref r0), some (.int x1), some (.int x2), some (.int x3), some (.int x4), some (.int x5), some (.int x6)], [], μ) Q := wp_blk rfl e23_80 k
def q23_86 : List (Nat × Instr × Nat) := [(86, .iload 4, 2)]
theorem e23_86 : am_dec am_M23 q23_86 = true := by decide +kernel
theorem e23_86_r : am_dec am_M23 [(88, .ireturn, 1)] = true := by decide +kernel
theorem b23_86 {d : Nat} {Q : Option Value ⊕ Nat → am_Mem → Prop} {μ : am_Mem} {r0 : Nat} {x1 x2 x3 x4 x5 : Int32} {o6 : Option Value}
    (k : Q (.inl (some (.int x4))) μ) :
    Wp d 23 (86, [some (.ref r0), some (.int x1), some (.int x2), some (.int x3), some (.int x4), some (.int x5), o6], [], μ) Q := wp_blk rfl e23_86 (wp_ri (ty := .int) rfl e23_86_r rfl ⟨rfl, rfl⟩ k)
/-! RuleSheets$Checker.sameGroup(II)Z -/
def q24_0 : List (Nat × Instr × Nat) := [(0, .iload_n 1, 1), (1, .iload_n 2, 1), (2, .if_icmp .eq 33, 3)]
theorem e24_0 : am_dec am_M24 q24_0 = true := by decide +kernel
theorem b24_0 {d : Nat} {Q : Option Value ⊕ Nat → am_Mem → Prop} {μ : am_Mem} {r0 : Nat} {x1 x2 : Int32}
    (k1 : x1 = x2 → Wp d 24 (35, [some (.ref r0), some (.int x1), some (.int x2)], [], μ) Q) (k2 : ¬ (x1 = x2) → Wp d 24 (5, [some (.ref r0), some (.int x1), some (.int x2)], [], μ) Q) :
    Wp d 24 (0, [some (.ref r0), some (.int x1), some (.int x2)], [], μ) Q := wp_blk rfl e24_0 (And.intro k1 k2)
def q24_5 : List (Nat × Instr × Nat) := [(5, .aload_n 0, 1), (6, .getfield 25, 3), (9, .iload_n 1, 1), (10, .laload, 1), (11, .iload_n 2, 1), (12, .lushr, 1), (13, .lconst 1, 1), (14, .land, 1), (15, .lconst 0, 1), (16, .lcmp, 1), (17, .ifCond .eq 22, 3)]
theorem e24_5 : am_dec am_M24 q24_5 = true := by decide +kernel
theorem b24_5 {d : Nat} {Q : Option Value ⊕ Nat → am_Mem → Prop} {μ : am_Mem} {r0 : Nat} {x1 x2 : Int32}
    (h1 : am_kd μ r0 = (1, 0))
    (h2 : ¬ am_F μ r0 5 = 15)
    (h3 : (am_kd μ (am_F μ r0 5)).1 = 6)
    (h4 : ¬ (x1 < 0 ∨ (am_kd μ (am_F μ r0 5)).2 ≤ x1.toNatClampNeg))
    (k1 : (lg_cmp ((((am_L μ (am_F μ r0 5) x1.toNatClampNeg).toUInt64 >>> (x2.toInt64.toUInt64 &&& Int64.toUInt64 63)).toInt64) &&& (Int64.ofNat 1)) (Int64.ofNat 0)) = 0 → Wp d 24 (39, [some (.ref r0), some (.int x1), some (.int x2)], [], μ) Q) (k2 : ¬ ((lg_cmp ((((am_L μ (am_F μ r0 5) x1.toNatClampNeg).toUInt64 >>> (x2.toInt64.toUInt64 &&& Int64.toUInt64 63)).toInt64) &&& (Int64.ofNat 1)) (Int64.ofNat 0)) = 0) → Wp d 24 (20, [some (.ref r0), some (.int x1), some (.int x2)], [], μ) Q) :
    Wp d 24 (5, [some (.ref r0), some (.int x1), some (.int x2)], [], μ) Q := wp_blk rfl e24_5 (And.intro h1 (And.intro h2 (And.intro h3 (And.intro h4 (And.intro k1 k2)))))
def q24_20 : List (Nat × Instr × Nat) := [(20, .aload_n 0, 1), (21, .getfield 25, 3), (24, .iload_n 2, 1), (25, .laload, 1), (26, .iload_n 1, 1), (27, .lushr, 1), (28, .lconst 1, 1), (29, .land, 1), (30, .lconst 0, 1), (31, .lcmp, 1), (32, .ifCond .eq 7, 3)]
theorem e24_20 : am_dec am_M24 q24_20 = true := by decide +kernel
theorem b24_20 {d : Nat} {Q : Option Value ⊕ Nat → am_Mem → Prop} {μ : am_Mem} {r0 : Nat} {x1 x2 : Int32}
    (h1 : am_kd μ r0 = (1, 0))
    (h2 : ¬ am_F μ r0 5 = 15)
    (h3 : (am_kd μ (am_F μ r0 5)).1 = 6)
    (h4 : ¬ (x2 < 0 ∨ (am_kd μ (am_F μ r0 5)).2 ≤ x2.toNatClampNeg))
    (k1 : (lg_cmp ((((am_L μ (am_F μ r0 5) x2.toNatClampNeg).toUInt64 >>> (x1.toInt64.toUInt64 &&& Int64.toUInt64 63)).toInt64) &&& (Int64.ofNat 1)) (Int64.ofNat 0)) = 0 → Wp d 24 (39, [some (.ref r0), some (.int x1), some (.int x2)], [], μ) Q) (k2 : ¬ ((lg_cmp ((((am_L μ (am_F μ r0 5) x2.toNatClampNeg).toUInt64 >>> (x1.toInt64.toUInt64 &&& Int64.toUInt64 63)).toInt64) &&& (Int64.ofNat 1)) (Int64.ofNat 0)) = 0) → Wp d 24 (35, [some (.ref r0), some (.int x1), some (.int x2)], [], μ) Q) :
    Wp d 24 (20, [some (.ref r0), some (.int x1), some (.int x2)], [], μ) Q := wp_blk rfl e24_20 (And.intro h1 (And.intro h2 (And.intro h3 (And.intro h4 (And.intro k1 k2)))))
def q24_35 : List (Nat × Instr × Nat) := [(35, .iconst 1, 1), (36, .goto 4, 3)]
theorem e24_35 : am_dec am_M24 q24_35 = true := by decide +kernel
theorem b24_35 {d : Nat} {Q : Option Value ⊕ Nat → am_Mem → Prop} {μ : am_Mem} {r0 : Nat} {x1 x2 : Int32}
    (k : Wp d 24 (40, [some (.ref r0), some (.int x1), some (.int x2)], [.int (Int32.ofInt 1)], μ) Q) :
    Wp d 24 (35, [some (.ref r0), some (.int x1), some (.int x2)], [], μ) Q := wp_blk rfl e24_35 k
def q24_39 : List (Nat × Instr × Nat) := [(39, .iconst 0, 1)]
theorem e24_39 : am_dec am_M24 q24_39 = true := by decide +kernel
theorem b24_39 {d : Nat} {Q : Option Value ⊕ Nat → am_Mem → Prop} {μ : am_Mem} {r0 : Nat} {x1 x2 : Int32}
    (k : Wp d 24 (40, [some (.ref r0), some (.int x1), some (.int x2)], [.int (Int32.ofInt 0)], μ) Q) :
    Wp d 24 (39, [some (.ref r0), some (.int x1), some (.int x2)], [], μ) Q := wp_blk rfl e24_39 k
theorem e24_40_r : am_dec am_M24 [(40, .ireturn, 1)] = true := by decide +kernel
theorem b24_40 {d : Nat} {Q : Option Value ⊕ Nat → am_Mem → Prop} {μ : am_Mem} {r0 : Nat} {x1 x2 s0 : Int32}
    (hn : narrow .boolean (.int s0) = .int s0 ∧ fits .boolean (.int s0) = true)
    (k : Q (.inl (some (.int s0))) μ) :
    Wp d 24 (40, [some (.ref r0), some (.int x1), some (.int x2)], [.int s0], μ) Q := (wp_ri (ty := .boolean) rfl e24_40_r rfl hn k)
/-! RuleSheets$Checker.isRecursive(I)Z -/
def q25_0 : List (Nat × Instr × Nat) := [(0, .iconst 0, 1), (1, .istore_n 2, 1)]
theorem e25_0 : am_dec am_M25 q25_0 = true := by decide +kernel
theorem b25_0 {d : Nat} {Q : Option Value ⊕ Nat → am_Mem → Prop} {μ : am_Mem} {r0 : Nat} {x1 : Int32}
    (k : Wp d 25 (2, [some (.ref r0), some (.int x1), some (.int (Int32.ofInt 0))], [], μ) Q) :
    Wp d 25 (0, [some (.ref r0), some (.int x1), none], [], μ) Q := wp_blk rfl e25_0 k
def q25_2 : List (Nat × Instr × Nat) := [(2, .iload_n 2, 1), (3, .aload_n 0, 1), (4, .getfield 33, 3), (7, .getfield 99, 3), (10, .iload_n 1, 1), (11, .iaload, 1), (12, .if_icmp .ge 29, 3)]
theorem e25_2 : am_dec am_M25 q25_2 = true := by decide +kernel
theorem b25_2 {d : Nat} {Q : Option Value ⊕ Nat → am_Mem → Prop} {μ : am_Mem} {r0 : Nat} {x1 x2 : Int32}
    (h1 : am_kd μ r0 = (1, 0))
    (h2 : ¬ am_F μ r0 1 = 15)
    (h3 : am_kd μ (am_F μ r0 1) = (1, 5))
    (h4 : ¬ am_F μ (am_F μ r0 1) 9 = 15)
    (h5 : (am_kd μ (am_F μ (am_F μ r0 1) 9)).1 = 2 ∨ (am_kd μ (am_F μ (am_F μ r0 1) 9)).1 = 8)
    (h6 : ¬ (x1 < 0 ∨ (am_kd μ (am_F μ (am_F μ r0 1) 9)).2 ≤ x1.toNatClampNeg))
    (k1 : (am_A μ (am_F μ (am_F μ r0 1) 9) x1.toNatClampNeg) ≤ x2 → Wp d 25 (41, [some (.ref r0), some (.int x1), some (.int x2)], [], μ) Q) (k2 : ¬ ((am_A μ (am_F μ (am_F μ r0 1) 9) x1.toNatClampNeg) ≤ x2) → Wp d 25 (15, [some (.ref r0), some (.int x1), some (.int x2)], [], μ) Q) :
    Wp d 25 (2, [some (.ref r0), some (.int x1), some (.int x2)], [], μ) Q := wp_blk rfl e25_2 (And.intro h1 (And.intro h2 (And.intro h3 (And.intro h4 (And.intro h5 (And.intro h6 (And.intro k1 k2)))))))
def q25_15 : List (Nat × Instr × Nat) := [(15, .aload_n 0, 1), (16, .aload_n 0, 1), (17, .iload_n 1, 1), (18, .iload_n 2, 1)]
theorem e25_15 : am_dec am_M25 q25_15 = true := by decide +kernel
theorem e25_15_c : am_dc1 am_M25 19 (.invokevirtual 115) 3 = true := by decide +kernel
theorem b25_15 {d : Nat} {Q : Option Value ⊕ Nat → am_Mem → Prop} {μ : am_Mem} {r0 : Nat} {x1 x2 : Int32} {P : Int32 → am_Mem → Prop} {X : Nat → am_Mem → Prop}
    (hk : am_kd μ r0 = (1, 0))
    (hc : Wp d 6 (0, [some (.ref r0), some (.int x1), some (.int x2)], [], μ) (pI P X)) (hr : ∀ x μ', P x μ' → Wp (d + 1) 25 (22, [some (.ref r0), some (.int x1), some (.int x2)], [.int x, .ref r0], (μ')) Q)
    (hx : ∀ x μ', X x μ' → Q (.inr x) μ') :
    Wp (d + 1) 25 (15, [some (.ref r0), some (.int x1), some (.int x2)], [], μ) Q := wp_blk rfl e25_15 (wp_cv (as := [.int x1, .int x2]) rfl e25_15_c rfl rfl rfl rfl rfl hk hc (fun v μ' hv => by obtain ⟨x, rfl, hp⟩ := pI_r hv; exact hr x μ' hp) hx)
def q25_22 : List (Nat × Instr × Nat) := [(22, .aload_n 0, 1), (23, .iload_n 1, 1)]
theorem e25_22 : am_dec am_M25 q25_22 = true := by decide +kernel
theorem e25_22_c : am_dc1 am_M25 24 (.invokevirtual 108) 3 = true := by decide +kernel
theorem b25_22 {d : Nat} {Q : Option Value ⊕ Nat → am_Mem → Prop} {μ : am_Mem} {r0 r90 : Nat} {x1 x2 s1 : Int32} {P : Int32 → am_Mem → Prop} {X : Nat → am_Mem → Prop}
    (hk : am_kd μ r0 = (1, 0))
    (hc : Wp d 5 (0, [some (.ref r0), some (.int x1)], [], μ) (pI P X)) (hr : ∀ x μ', P x μ' → Wp (d + 1) 25 (27, [some (.ref r0), some (.int x1), some (.int x2)], [.int x, .int s1, .ref r90], (μ')) Q)
    (hx : ∀ x μ', X x μ' → Q (.inr x) μ') :
    Wp (d + 1) 25 (22, [some (.ref r0), some (.int x1), some (.int x2)], [.int s1, .ref r90], μ) Q := wp_blk rfl e25_22 (wp_cv (as := [.int x1]) rfl e25_22_c rfl rfl rfl rfl rfl hk hc (fun v μ' hv => by obtain ⟨x, rfl, hp⟩ := pI_r hv; exact hr x μ' hp) hx)
theorem e25_27_c : am_dc1 am_M25 27 (.invokevirtual 135) 3 = true := by decide +kernel
theorem b25_27 {d : Nat} {Q : Option Value ⊕ Nat → am_Mem → Prop} {μ : am_Mem} {r0 r90 : Nat} {x1 x2 s1 s2 : Int32} {P : Int32 → am_Mem → Prop} {X : Nat → am_Mem → Prop}
    (hk : am_kd μ r90 = (1, 0))
    (hc : Wp d 15 (0, [some (.ref r90), some (.int s1), some (.int s2)], [], μ) (pI P X)) (hr : ∀ x μ', P x μ' → Wp (d + 1) 25 (30, [some (.ref r0), some (.int x1), some (.int x2)], [.int x], (μ')) Q)
    (hx : ∀ x μ', X x μ' → Q (.inr x) μ') :
    Wp (d + 1) 25 (27, [some (.ref r0), some (.int x1), some (.int x2)], [.int s2, .int s1, .ref r90], μ) Q := (wp_cv (as := [.int s1, .int s2]) rfl e25_27_c rfl rfl rfl rfl rfl hk hc (fun v μ' hv => by obtain ⟨x, rfl, hp⟩ := pI_r hv; exact hr x μ' hp) hx)
def q25_30 : List (Nat × Instr × Nat) := [(30, .ifCond .eq 5, 3)]
theorem e25_30 : am_dec am_M25 q25_30 = true := by decide +kernel
theorem b25_30 {d : Nat} {Q : Option Value ⊕ Nat → am_Mem → Prop} {μ : am_Mem} {r0 : Nat} {x1 x2 s0 : Int32}
    (k1 : s0 = 0 → Wp d 25 (35, [some (.ref r0), some (.int x1), some (.int x2)], [], μ) Q) (k2 : ¬ (s0 = 0) → Wp d 25 (33, [some (.ref r0), some (.int x1), some (.int x2)], [], μ) Q) :
    Wp d 25 (30, [some (.ref r0), some (.int x1), some (.int x2)], [.int s0], μ) Q := wp_blk rfl e25_30 (And.intro k1 k2)
def q25_33 : List (Nat × Instr × Nat) := [(33, .iconst 1, 1)]
theorem e25_33 : am_dec am_M25 q25_33 = true := by decide +kernel
theorem e25_33_r : am_dec am_M25 [(34, .ireturn, 1)] = true := by decide +kernel
theorem b25_33 {d : Nat} {Q : Option Value ⊕ Nat → am_Mem → Prop} {μ : am_Mem} {r0 : Nat} {x1 x2 : Int32}
    (k : Q (.inl (some (.int (Int32.ofInt 1)))) μ) :
    Wp d 25 (33, [some (.ref r0), some (.int x1), some (.int x2)], [], μ) Q := wp_blk rfl e25_33 (wp_ri (ty := .boolean) rfl e25_33_r rfl (by decide) k)
def q25_35 : List (Nat × Instr × Nat) := [(35, .iinc 2 1, 3), (38, .goto (-36), 3)]
theorem e25_35 : am_dec am_M25 q25_35 = true := by decide +kernel
theorem b25_35 {d : Nat} {Q : Option Value ⊕ Nat → am_Mem → Prop} {μ : am_Mem} {r0 : Nat} {x1 x2 : Int32}
    (k : Wp d 25 (2, [some (.ref r0), some (.int x1), some (.int (x2 + Int32.ofInt 1))], [], μ) Q) :
    Wp d 25 (35, [some (.ref r0), some (.int x1), some (.int x2)], [], μ) Q := wp_blk rfl e25_35 k
def q25_41 : List (Nat × Instr × Nat) := [(41, .iconst 0, 1)]
theorem e25_41 : am_dec am_M25 q25_41 = true := by decide +kernel
theorem e25_41_r : am_dec am_M25 [(42, .ireturn, 1)] = true := by decide +kernel
theorem b25_41 {d : Nat} {Q : Option Value ⊕ Nat → am_Mem → Prop} {μ : am_Mem} {r0 : Nat} {x1 x2 : Int32}
    (k : Q (.inl (some (.int (Int32.ofInt 0)))) μ) :
    Wp d 25 (41, [some (.ref r0), some (.int x1), some (.int x2)], [], μ) Q := wp_blk rfl e25_41 (wp_ri (ty := .boolean) rfl e25_41_r rfl (by decide) k)
/-! RuleSheets$Checker.findLater(I)V -/
def q26_0 : List (Nat × Instr × Nat) := [(0, .aload_n 0, 1), (1, .getfield 33, 3), (4, .getfield 112, 3), (7, .aload_n 0, 1), (8, .getfield 33, 3), (11, .getfield 67, 3), (14, .iload_n 1, 1), (15, .iaload, 1), (16, .iaload, 1), (17, .istore_n 2, 1), (18, .iconst 0, 1), (19, .istore_n 3, 1)]
theorem e26_0 : am_dec am_M26 q26_0 = true := by decide +kernel
theorem b26_0 {d : Nat} {Q : Option Value ⊕ Nat → am_Mem → Prop} {μ : am_Mem} {r0 : Nat} {x1 : Int32}
    (h1 : am_kd μ r0 = (1, 0))
    (h2 : ¬ am_F μ r0 1 = 15)
    (h3 : am_kd μ (am_F μ r0 1) = (1, 5))
    (h4 : ¬ am_F μ (am_F μ r0 1) 5 = 15)
    (h5 : am_kd μ r0 = (1, 0))
    (h6 : ¬ am_F μ r0 1 = 15)
    (h7 : am_kd μ (am_F μ r0 1) = (1, 5))
    (h8 : ¬ am_F μ (am_F μ r0 1) 7 = 15)
    (h9 : (am_kd μ (am_F μ (am_F μ r0 1) 7)).1 = 2 ∨ (am_kd μ (am_F μ (am_F μ r0 1) 7)).1 = 8)
    (h10 : ¬ (x1 < 0 ∨ (am_kd μ (am_F μ (am_F μ r0 1) 7)).2 ≤ x1.toNatClampNeg))
    (h11 : (am_kd μ (am_F μ (am_F μ r0 1) 5)).1 = 2 ∨ (am_kd μ (am_F μ (am_F μ r0 1) 5)).1 = 8)
    (h12 : ¬ ((am_A μ (am_F μ (am_F μ r0 1) 7) x1.toNatClampNeg) < 0 ∨ (am_kd μ (am_F μ (am_F μ r0 1) 5)).2 ≤ (am_A μ (am_F μ (am_F μ r0 1) 7) x1.toNatClampNeg).toNatClampNeg))
    (k : Wp d 26 (20, [some (.ref r0), some (.int x1), some (.int (am_A μ (am_F μ (am_F μ r0 1) 5) (am_A μ (am_F μ (am_F μ r0 1) 7) x1.toNatClampNeg).toNatClampNeg)), some (.int (Int32.ofInt 0))], [], μ) Q) :
    Wp d 26 (0, [some (.ref r0), some (.int x1), none, none], [], μ) Q := wp_blk rfl e26_0 (And.intro h1 (And.intro h2 (And.intro h3 (And.intro h4 (And.intro h5 (And.intro h6 (And.intro h7 (And.intro h8 (And.intro h9 (And.intro h10 (And.intro h11 (And.intro h12 k))))))))))))
def q26_20 : List (Nat × Instr × Nat) := [(20, .iload_n 3, 1), (21, .aload_n 0, 1), (22, .getfield 33, 3), (25, .getfield 102, 3), (28, .iload_n 1, 1), (29, .iaload, 1), (30, .if_icmp .ge 29, 3)]
theorem e26_20 : am_dec am_M26 q26_20 = true := by decide +kernel
theorem b26_20 {d : Nat} {Q : Option Value ⊕ Nat → am_Mem → Prop} {μ : am_Mem} {r0 : Nat} {x1 x2 x3 : Int32}
    (h1 : am_kd μ r0 = (1, 0))
    (h2 : ¬ am_F μ r0 1 = 15)
    (h3 : am_kd μ (am_F μ r0 1) = (1, 5))
    (h4 : ¬ am_F μ (am_F μ r0 1) 12 = 15)
    (h5 : (am_kd μ (am_F μ (am_F μ r0 1) 12)).1 = 2 ∨ (am_kd μ (am_F μ (am_F μ r0 1) 12)).1 = 8)
    (h6 : ¬ (x1 < 0 ∨ (am_kd μ (am_F μ (am_F μ r0 1) 12)).2 ≤ x1.toNatClampNeg))
    (k1 : (am_A μ (am_F μ (am_F μ r0 1) 12) x1.toNatClampNeg) ≤ x3 → Wp d 26 (59, [some (.ref r0), some (.int x1), some (.int x2), some (.int x3)], [], μ) Q) (k2 : ¬ ((am_A μ (am_F μ (am_F μ r0 1) 12) x1.toNatClampNeg) ≤ x3) → Wp d 26 (33, [some (.ref r0), some (.int x1), some (.int x2), some (.int x3)], [], μ) Q) :
    Wp d 26 (20, [some (.ref r0), some (.int x1), some (.int x2), some (.int x3)], [], μ) Q := wp_blk rfl e26_20 (And.intro h1 (And.intro h2 (And.intro h3 (And.intro h4 (And.intro h5 (And.intro h6 (And.intro k1 k2)))))))
def q26_33 : List (Nat × Instr × Nat) := [(33, .iload_n 2, 1), (34, .aload_n 0, 1), (35, .getfield 33, 3), (38, .getfield 112, 3), (41, .aload_n 0, 1), (42, .getfield 33, 3), (45, .iload_n 1, 1), (46, .iload_n 3, 1)]
theorem e26_33 : am_dec am_M26 q26_33 = true := by decide +kernel
theorem e26_33_c : am_dc1 am_M26 47 (.invokevirtual 74) 3 = true := by decide +kernel
theorem b26_33 {d : Nat} {Q : Option Value ⊕ Nat → am_Mem → Prop} {μ : am_Mem} {r0 : Nat} {x1 x2 x3 : Int32} {P : Int32 → am_Mem → Prop} {X : Nat → am_Mem → Prop}
    (h1 : am_kd μ r0 = (1, 0))
    (h2 : ¬ am_F μ r0 1 = 15)
    (h3 : am_kd μ (am_F μ r0 1) = (1, 5))
    (h4 : ¬ am_F μ (am_F μ r0 1) 5 = 15)
    (h5 : am_kd μ r0 = (1, 0))
    (h6 : ¬ am_F μ r0 1 = 15)
    (hk : am_kd μ (am_F μ r0 1) = (1, 5))
    (hc : Wp d 70 (0, [some (.ref (am_F μ r0 1)), some (.int x1), some (.int x3)], [], μ) (pI P X)) (hr : ∀ x μ', P x μ' → Wp (d + 1) 26 (50, [some (.ref r0), some (.int x1), some (.int x2), some (.int x3)], [.int x, .ref (am_F μ (am_F μ r0 1) 5), .int x2], (μ')) Q)
    (hx : ∀ x μ', X x μ' → Q (.inr x) μ') :
    Wp (d + 1) 26 (33, [some (.ref r0), some (.int x1), some (.int x2), some (.int x3)], [], μ) Q := wp_blk rfl e26_33 (And.intro h1 (And.intro h2 (And.intro h3 (And.intro h4 (And.intro h5 (And.intro h6 (wp_cv (as := [.int x1, .int x3]) rfl e26_33_c rfl rfl rfl rfl rfl hk hc (fun v μ' hv => by obtain ⟨x, rfl, hp⟩ := pI_r hv; exact hr x μ' hp) hx)))))))
def q26_50 : List (Nat × Instr × Nat) := [(50, .iaload, 1), (51, .ior, 1), (52, .istore_n 2, 1), (53, .iinc 3 1, 3), (56, .goto (-36), 3)]
theorem e26_50 : am_dec am_M26 q26_50 = true := by decide +kernel
theorem b26_50 {d : Nat} {Q : Option Value ⊕ Nat → am_Mem → Prop} {μ : am_Mem} {r0 r91 : Nat} {x1 x2 x3 s0 s2 : Int32}
    (h1 : (am_kd μ r91).1 = 2 ∨ (am_kd μ r91).1 = 8)
    (h2 : ¬ (s2 < 0 ∨ (am_kd μ r91).2 ≤ s2.toNatClampNeg))
    (k : Wp d 26 (20, [some (.ref r0), some (.int x1), some (.int (s0 ||| (am_A μ r91 s2.toNatClampNeg))), some (.int (x3 + Int32.ofInt 1))], [], μ) Q) :
    Wp d 26 (50, [some (.ref r0), some (.int x1), some (.int x2), some (.int x3)], [.int s2, .ref r91, .int s0], μ) Q := wp_blk rfl e26_50 (And.intro h1 (And.intro h2 k))
def q26_59 : List (Nat × Instr × Nat) := [(59, .aload_n 0, 1), (60, .getfield 33, 3), (63, .getfield 99, 3), (66, .iload_n 1, 1), (67, .iaload, 1), (68, .iconst 1, 1), (69, .isub, 1), (70, .istore_n 3, 1)]
theorem e26_59 : am_dec am_M26 q26_59 = true := by decide +kernel
theorem b26_59 {d : Nat} {Q : Option Value ⊕ Nat → am_Mem → Prop} {μ : am_Mem} {r0 : Nat} {x1 x2 x3 : Int32}
    (h1 : am_kd μ r0 = (1, 0))
    (h2 : ¬ am_F μ r0 1 = 15)
    (h3 : am_kd μ (am_F μ r0 1) = (1, 5))
    (h4 : ¬ am_F μ (am_F μ r0 1) 9 = 15)
    (h5 : (am_kd μ (am_F μ (am_F μ r0 1) 9)).1 = 2 ∨ (am_kd μ (am_F μ (am_F μ r0 1) 9)).1 = 8)
    (h6 : ¬ (x1 < 0 ∨ (am_kd μ (am_F μ (am_F μ r0 1) 9)).2 ≤ x1.toNatClampNeg))
    (k : Wp d 26 (71, [some (.ref r0), some (.int x1), some (.int x2), some (.int ((am_A μ (am_F μ (am_F μ r0 1) 9) x1.toNatClampNeg) - (Int32.ofInt 1)))], [], μ) Q) :
    Wp d 26 (59, [some (.ref r0), some (.int x1), some (.int x2), some (.int x3)], [], μ) Q := wp_blk rfl e26_59 (And.intro h1 (And.intro h2 (And.intro h3 (And.intro h4 (And.intro h5 (And.intro h6 k))))))
def q26_71 : List (Nat × Instr × Nat) := [(71, .iload_n 3, 1), (72, .ifCond .lt 44, 3)]
theorem e26_71 : am_dec am_M26 q26_71 = true := by decide +kernel
theorem b26_71 {d : Nat} {Q : Option Value ⊕ Nat → am_Mem → Prop} {μ : am_Mem} {r0 : Nat} {x1 x2 x3 : Int32}
    (k1 : x3 < 0 → Wp d 26 (116, [some (.ref r0), some (.int x1), some (.int x2), some (.int x3)], [], μ) Q) (k2 : ¬ (x3 < 0) → Wp d 26 (75, [some (.ref r0), some (.int x1), some (.int x2), some (.int x3)], [], μ) Q) :
    Wp d 26 (71, [some (.ref r0), some (.int x1), some (.int x2), some (.int x3)], [], μ) Q := wp_blk rfl e26_71 (And.intro k1 k2)
def q26_75 : List (Nat × Instr × Nat) := [(75, .aload_n 0, 1), (76, .getfield 33, 3), (79, .getfield 169, 3), (82, .bipush 8, 2), (84, .iload_n 1, 1), (85, .imul, 1), (86, .iload_n 3, 1), (87, .iadd, 1), (88, .iload_n 2, 1), (89, .iastore, 1), (90, .iload_n 2, 1), (91, .aload_n 0, 1), (92, .getfield 33, 3), (95, .getfield 112, 3), (98, .aload_n 0, 1), (99, .getfield 33, 3), (102, .iload_n 1, 1), (103, .iload_n 3, 1)]
theorem e26_75 : am_dec am_M26 q26_75 = true := by decide +kernel
theorem e26_75_c : am_dc1 am_M26 104 (.invokevirtual 70) 3 = true := by decide +kernel
theorem b26_75 {d : Nat} {Q : Option Value ⊕ Nat → am_Mem → Prop} {μ : am_Mem} {r0 : Nat} {x1 x2 x3 : Int32} {P : Int32 → am_Mem → Prop} {X : Nat → am_Mem → Prop}
    (h1 : am_kd μ r0 = (1, 0))
    (h2 : ¬ am_F μ r0 1 = 15)
    (h3 : am_kd μ (am_F μ r0 1) = (1, 5))
    (h4 : ¬ am_F μ (am_F μ r0 1) 10 = 15)
    (h5 : (am_kd μ (am_F μ (am_F μ r0 1) 10)).1 = 2)
    (h6 : ¬ (((((Int8.ofInt 8).toInt32) * x1) + x3) < 0 ∨ (am_kd μ (am_F μ (am_F μ r0 1) 10)).2 ≤ ((((Int8.ofInt 8).toInt32) * x1) + x3).toNatClampNeg))
    (h7 : am_kd (am_pA μ (am_F μ (am_F μ r0 1) 10) ((((Int8.ofInt 8).toInt32) * x1) + x3).toNatClampNeg x2) r0 = (1, 0))
    (h8 : ¬ am_F (am_pA μ (am_F μ (am_F μ r0 1) 10) ((((Int8.ofInt 8).toInt32) * x1) + x3).toNatClampNeg x2) r0 1 = 15)
    (h9 : am_kd (am_pA μ (am_F μ (am_F μ r0 1) 10) ((((Int8.ofInt 8).toInt32) * x1) + x3).toNatClampNeg x2) (am_F (am_pA μ (am_F μ (am_F μ r0 1) 10) ((((Int8.ofInt 8).toInt32) * x1) + x3).toNatClampNeg x2) r0 1) = (1, 5))
    (h10 : ¬ am_F (am_pA μ (am_F μ (am_F μ r0 1) 10) ((((Int8.ofInt 8).toInt32) * x1) + x3).toNatClampNeg x2) (am_F (am_pA μ (am_F μ (am_F μ r0 1) 10) ((((Int8.ofInt 8).toInt32) * x1) + x3).toNatClampNeg x2) r0 1) 5 = 15)
    (h11 : am_kd (am_pA μ (am_F μ (am_F μ r0 1) 10) ((((Int8.ofInt 8).toInt32) * x1) + x3).toNatClampNeg x2) r0 = (1, 0))
    (h12 : ¬ am_F (am_pA μ (am_F μ (am_F μ r0 1) 10) ((((Int8.ofInt 8).toInt32) * x1) + x3).toNatClampNeg x2) r0 1 = 15)
    (hk : am_kd (am_pA μ (am_F μ (am_F μ r0 1) 10) ((((Int8.ofInt 8).toInt32) * x1) + x3).toNatClampNeg x2) (am_F (am_pA μ (am_F μ (am_F μ r0 1) 10) ((((Int8.ofInt 8).toInt32) * x1) + x3).toNatClampNeg x2) r0 1) = (1, 5))
    (hc : Wp d 69 (0, [some (.ref (am_F (am_pA μ (am_F μ (am_F μ r0 1) 10) ((((Int8.ofInt 8).toInt32) * x1) + x3).toNatClampNeg x2) r0 1)), some (.int x1), some (.int x3)], [], (am_pA μ (am_F μ (am_F μ r0 1) 10) ((((Int8.ofInt 8).toInt32) * x1) + x3).toNatClampNeg x2)) (pI P X)) (hr : ∀ x μ', P x μ' → Wp (d + 1) 26 (107, [some (.ref r0), some (.int x1), some (.int x2), some (.int x3)], [.int x, .ref (am_F (am_pA μ (am_F μ (am_F μ r0 1) 10) ((((Int8.ofInt 8).toInt32) * x1) + x3).toNatClampNeg x2) (am_F (am_pA μ (am_F μ (am_F μ r0 1) 10) ((((Int8.ofInt 8).toInt32) * x1) + x3).toNatClampNeg x2) r0 1) 5), .int x2], (μ')) Q)
    (hx : ∀ x μ', X x μ' → Q (.inr x) μ') :
    Wp (d + 1) 26 (75, [some (.ref r0), some (.int x1), some (.int x2), some (.int x3)], [], μ) Q := wp_blk rfl e26_75 (And.intro h1 (And.intro h2 (And.intro h3 (And.intro h4 (And.intro h5 (And.intro h6 (And.intro h7 (And.intro h8 (And.intro h9 (And.intro h10 (And.intro h11 (And.intro h12 (wp_cv (as := [.int x1, .int x3]) rfl e26_75_c rfl rfl rfl rfl rfl hk hc (fun v μ' hv => by obtain ⟨x, rfl, hp⟩ := pI_r hv; exact hr x μ' hp) hx)))))))))))))
def q26_107 : List (Nat × Instr × Nat) := [(107, .iaload, 1), (108, .ior, 1), (109, .istore_n 2, 1), (110, .iinc 3 (-1), 3), (113, .goto (-42), 3)]
theorem e26_107 : am_dec am_M26 q26_107 = true := by decide +kernel
theorem b26_107 {d : Nat} {Q : Option Value ⊕ Nat → am_Mem → Prop} {μ : am_Mem} {r0 r91 : Nat} {x1 x2 x3 s0 s2 : Int32}
    (h1 : (am_kd μ r91).1 = 2 ∨ (am_kd μ r91).1 = 8)
    (h2 : ¬ (s2 < 0 ∨ (am_kd μ r91).2 ≤ s2.toNatClampNeg))
    (k : Wp d 26 (71, [some (.ref r0), some (.int x1), some (.int (s0 ||| (am_A μ r91 s2.toNatClampNeg))), some (.int (x3 + Int32.ofInt (-1)))], [], μ) Q) :
    Wp d 26 (107, [some (.ref r0), some (.int x1), some (.int x2), some (.int x3)], [.int s2, .ref r91, .int s0], μ) Q := wp_blk rfl e26_107 (And.intro h1 (And.intro h2 k))
theorem e26_116_r : am_dec am_M26 [(116, .return_, 1)] = true := by decide +kernel
theorem b26_116 {d : Nat} {Q : Option Value ⊕ Nat → am_Mem → Prop} {μ : am_Mem} {r0 : Nat} {x1 x2 x3 : Int32}
    (k : Q (.inl none) μ) :
    Wp d 26 (116, [some (.ref r0), some (.int x1), some (.int x2), some (.int x3)], [], μ) Q := (wp_rv rfl e26_116_r rfl k)
