/-! ===== printed: the blocks of Model ===== -/
/-! RuleSheets$Model.<init>(LRuleSheets$Sheet;)V -/
def q32_0 : List (Nat × Instr × Nat) := [(0, .aload_n 0, 1), (1, .invokespecial 3, 3), (4, .aload_n 0, 1), (5, .new 9, 3), (8, .dup, 1)]
theorem e32_0 : am_dec am_M32 q32_0 = true := by decide +kernel
theorem e32_0_c : am_dc1 am_M32 9 (.invokespecial 11) 3 = true := by decide +kernel
theorem b32_0 {d : Nat} {Q : Option Value ⊕ Nat → am_Mem → Prop} {μ : am_Mem} {r0 r1 : Nat} {P : am_Mem → Prop}
    (hc : Wp d 27 (0, [some (.ref (am_n μ))], [], (am_nO μ 1 9)) (pV P noX)) (hr : ∀ μ', P μ' → Wp (d + 1) 32 (12, [some (.ref r0), some (.ref r1)], [.ref (am_n μ), .ref r0], (μ')) Q) :
    Wp (d + 1) 32 (0, [some (.ref r0), some (.ref r1)], [], μ) Q := wp_blk rfl e32_0 (wp_ci (as := []) rfl e32_0_c rfl rfl rfl rfl hc (fun v μ' hv => by obtain ⟨rfl, hp⟩ := pV_r hv; exact hr μ' hp) (fun _ _ h => h))
def q32_12 : List (Nat × Instr × Nat) := [(12, .putfield 12, 3), (15, .aload_n 0, 1), (16, .iconst 4, 1), (17, .newarray .int, 2), (19, .putfield 18, 3)]
theorem e32_12 : am_dec am_M32 q32_12 = true := by decide +kernel
theorem b32_12 {d : Nat} {Q : Option Value ⊕ Nat → am_Mem → Prop} {μ : am_Mem} {r0 r1 r90 r91 : Nat}
    (h1 : am_kd μ r90 = (1, 2))
    (h2 : ¬ r91 = 15)
    (h3 : am_kd (am_nA (am_pR μ r90 1 r91) 2 (Int32.ofInt 4).toNatClampNeg) r0 = (1, 2))
    (h4 : ¬ (am_n (am_pR μ r90 1 r91)) = 15)
    (k : Wp d 32 (22, [some (.ref r0), some (.ref r1)], [], (am_pR (am_nA (am_pR μ r90 1 r91) 2 (Int32.ofInt 4).toNatClampNeg) r0 3 (am_n (am_pR μ r90 1 r91)))) Q) :
    Wp d 32 (12, [some (.ref r0), some (.ref r1)], [.ref r91, .ref r90], μ) Q := wp_blk rfl e32_12 (And.intro h1 (And.intro h2 (And.intro (by decide) (And.intro h3 (And.intro h4 k)))))
def q32_22 : List (Nat × Instr × Nat) := [(22, .aload_n 0, 1), (23, .iconst 0, 1), (24, .putfield 22, 3), (27, .aload_n 0, 1), (28, .sipush 1024, 3), (31, .newarray .int, 2), (33, .putfield 26, 3)]
theorem e32_22 : am_dec am_M32 q32_22 = true := by decide +kernel
theorem b32_22 {d : Nat} {Q : Option Value ⊕ Nat → am_Mem → Prop} {μ : am_Mem} {r0 r1 : Nat}
    (h1 : am_kd μ r0 = (1, 2))
    (h2 : am_kd (am_nA (am_pA μ r0 4 (Int32.ofInt 0)) 2 ((Int16.ofInt 1024).toInt32).toNatClampNeg) r0 = (1, 2))
    (h3 : ¬ (am_n (am_pA μ r0 4 (Int32.ofInt 0))) = 15)
    (k : Wp d 32 (36, [some (.ref r0), some (.ref r1)], [], (am_pR (am_nA (am_pA μ r0 4 (Int32.ofInt 0)) 2 ((Int16.ofInt 1024).toInt32).toNatClampNeg) r0 5 (am_n (am_pA μ r0 4 (Int32.ofInt 0))))) Q) :
    Wp d 32 (22, [some (.ref r0), some (.ref r1)], [], μ) Q := wp_blk rfl e32_22 (And.intro h1 (And.intro ⟨rfl, rfl⟩ (And.intro (by decide) (And.intro h2 (And.intro h3 k)))))
def q32_36 : List (Nat × Instr × Nat) := [(36, .aload_n 0, 1), (37, .sipush 1024, 3), (40, .newarray .int, 2), (42, .putfield 29, 3)]
theorem e32_36 : am_dec am_M32 q32_36 = true := by decide +kernel
theorem b32_36 {d : Nat} {Q : Option Value ⊕ Nat → am_Mem → Prop} {μ : am_Mem} {r0 r1 : Nat}
    (h1 : am_kd (am_nA μ 2 ((Int16.ofInt 1024).toInt32).toNatClampNeg) r0 = (1, 2))
    (h2 : ¬ (am_n μ) = 15)
    (k : Wp d 32 (45, [some (.ref r0), some (.ref r1)], [], (am_pR (am_nA μ 2 ((Int16.ofInt 1024).toInt32).toNatClampNeg) r0 6 (am_n μ))) Q) :
    Wp d 32 (36, [some (.ref r0), some (.ref r1)], [], μ) Q := wp_blk rfl e32_36 (And.intro (by decide) (And.intro h1 (And.intro h2 k)))
def q32_45 : List (Nat × Instr × Nat) := [(45, .aload_n 0, 1), (46, .bipush 8, 2), (48, .newarray .int, 2), (50, .putfield 32, 3)]
theorem e32_45 : am_dec am_M32 q32_45 = true := by decide +kernel
theorem b32_45 {d : Nat} {Q : Option Value ⊕ Nat → am_Mem → Prop} {μ : am_Mem} {r0 r1 : Nat}
    (h1 : am_kd (am_nA μ 2 ((Int8.ofInt 8).toInt32).toNatClampNeg) r0 = (1, 2))
    (h2 : ¬ (am_n μ) = 15)
    (k : Wp d 32 (53, [some (.ref r0), some (.ref r1)], [], (am_pR (am_nA μ 2 ((Int8.ofInt 8).toInt32).toNatClampNeg) r0 7 (am_n μ))) Q) :
    Wp d 32 (45, [some (.ref r0), some (.ref r1)], [], μ) Q := wp_blk rfl e32_45 (And.intro (by decide) (And.intro h1 (And.intro h2 k)))
def q32_53 : List (Nat × Instr × Nat) := [(53, .aload_n 0, 1), (54, .iconst 0, 1), (55, .putfield 35, 3), (58, .aload_n 0, 1), (59, .iconst 0, 1), (60, .putfield 38, 3), (63, .aload_n 0, 1), (64, .iconst (-1), 1), (65, .putfield 41, 3)]
theorem e32_53 : am_dec am_M32 q32_53 = true := by decide +kernel
theorem b32_53 {d : Nat} {Q : Option Value ⊕ Nat → am_Mem → Prop} {μ : am_Mem} {r0 r1 : Nat}
    (h1 : am_kd μ r0 = (1, 2))
    (h2 : am_kd (am_pA μ r0 8 (Int32.ofInt 0)) r0 = (1, 2))
    (h3 : am_kd (am_pA (am_pA μ r0 8 (Int32.ofInt 0)) r0 9 (Int32.ofInt 0)) r0 = (1, 2))
    (k : Wp d 32 (68, [some (.ref r0), some (.ref r1)], [], (am_pA (am_pA (am_pA μ r0 8 (Int32.ofInt 0)) r0 9 (Int32.ofInt 0)) r0 10 (Int32.ofInt (-1)))) Q) :
    Wp d 32 (53, [some (.ref r0), some (.ref r1)], [], μ) Q := wp_blk rfl e32_53 (And.intro h1 (And.intro ⟨rfl, rfl⟩ (And.intro h2 (And.intro ⟨rfl, rfl⟩ (And.intro h3 (And.intro ⟨rfl, rfl⟩ k))))))
def q32_68 : List (Nat × Instr × Nat) := [(68, .aload_n 0, 1), (69, .iconst 0, 1), (70, .putfield 44, 3), (73, .aload_n 0, 1), (74, .iconst 0, 1), (75, .putfield 47, 3), (78, .aload_n 0, 1), (79, .iconst 0, 1), (80, .putfield 50, 3)]
theorem e32_68 : am_dec am_M32 q32_68 = true := by decide +kernel
theorem b32_68 {d : Nat} {Q : Option Value ⊕ Nat → am_Mem → Prop} {μ : am_Mem} {r0 r1 : Nat}
    (h1 : am_kd μ r0 = (1, 2))
    (h2 : am_kd (am_pA μ r0 11 (Int32.ofInt 0)) r0 = (1, 2))
    (h3 : am_kd (am_pA (am_pA μ r0 11 (Int32.ofInt 0)) r0 12 (Int32.ofInt 0)) r0 = (1, 2))
    (k : Wp d 32 (83, [some (.ref r0), some (.ref r1)], [], (am_pA (am_pA (am_pA μ r0 11 (Int32.ofInt 0)) r0 12 (Int32.ofInt 0)) r0 13 (Int32.ofInt 0))) Q) :
    Wp d 32 (68, [some (.ref r0), some (.ref r1)], [], μ) Q := wp_blk rfl e32_68 (And.intro h1 (And.intro ⟨rfl, rfl⟩ (And.intro h2 (And.intro ⟨rfl, rfl⟩ (And.intro h3 (And.intro ⟨rfl, rfl⟩ k))))))
def q32_83 : List (Nat × Instr × Nat) := [(83, .aload_n 0, 1), (84, .iconst 0, 1), (85, .putfield 53, 3), (88, .aload_n 0, 1), (89, .iconst 0, 1), (90, .putfield 56, 3), (93, .aload_n 0, 1), (94, .lconst 0, 1), (95, .putfield 59, 3)]
theorem e32_83 : am_dec am_M32 q32_83 = true := by decide +kernel
theorem b32_83 {d : Nat} {Q : Option Value ⊕ Nat → am_Mem → Prop} {μ : am_Mem} {r0 r1 : Nat}
    (h1 : am_kd μ r0 = (1, 2))
    (h2 : am_kd (am_pA μ r0 14 (Int32.ofInt 0)) r0 = (1, 2))
    (h3 : am_kd (am_pA (am_pA μ r0 14 (Int32.ofInt 0)) r0 15 (Int32.ofInt 0)) r0 = (1, 2))
    (k : Wp d 32 (98, [some (.ref r0), some (.ref r1)], [], (am_pL (am_pA (am_pA μ r0 14 (Int32.ofInt 0)) r0 15 (Int32.ofInt 0)) r0 16 (Int64.ofNat 0))) Q) :
    Wp d 32 (83, [some (.ref r0), some (.ref r1)], [], μ) Q := wp_blk rfl e32_83 (And.intro h1 (And.intro ⟨rfl, rfl⟩ (And.intro h2 (And.intro ⟨rfl, rfl⟩ (And.intro h3 (And.intro ⟨rfl, rfl⟩ k))))))
def q32_98 : List (Nat × Instr × Nat) := [(98, .aload_n 0, 1), (99, .aload_n 1, 1), (100, .putfield 63, 3), (103, .aload_n 0, 1), (104, .new 67, 3), (107, .dup, 1), (108, .aload_n 1, 1), (109, .getfield 69, 3)]
theorem e32_98 : am_dec am_M32 q32_98 = true := by decide +kernel
theorem e32_98_c : am_dc1 am_M32 112 (.invokespecial 75) 3 = true := by decide +kernel
theorem b32_98 {d : Nat} {Q : Option Value ⊕ Nat → am_Mem → Prop} {μ : am_Mem} {r0 r1 : Nat} {P : am_Mem → Prop}
    (h1 : am_kd μ r0 = (1, 2))
    (h2 : ¬ r1 = 15)
    (h3 : am_kd (am_nO (am_pR μ r0 2 r1) 8 11) r1 = (1, 5))
    (h4 : ¬ am_F (am_nO (am_pR μ r0 2 r1) 8 11) r1 0 = 15)
    (hc : Wp d 88 (0, [some (.ref (am_n (am_pR μ r0 2 r1))), some (.ref (am_F (am_nO (am_pR μ r0 2 r1) 8 11) r1 0))], [], (am_nO (am_pR μ r0 2 r1) 8 11)) (pV P noX)) (hr : ∀ μ', P μ' → Wp (d + 1) 32 (115, [some (.ref r0), some (.ref r1)], [.ref (am_n (am_pR μ r0 2 r1)), .ref r0], (μ')) Q) :
    Wp (d + 1) 32 (98, [some (.ref r0), some (.ref r1)], [], μ) Q := wp_blk rfl e32_98 (And.intro h1 (And.intro h2 (And.intro h3 (And.intro h4 (wp_ci (as := [.ref (am_F (am_nO (am_pR μ r0 2 r1) 8 11) r1 0)]) rfl e32_98_c rfl rfl rfl rfl hc (fun v μ' hv => by obtain ⟨rfl, hp⟩ := pV_r hv; exact hr μ' hp) (fun _ _ h => h))))))
def q32_115 : List (Nat × Instr × Nat) := [(115, .putfield 78, 3)]
theorem e32_115 : am_dec am_M32 q32_115 = true := by decide +kernel
theorem e32_115_r : am_dec am_M32 [(118, .return_, 1)] = true := by decide +kernel
theorem b32_115 {d : Nat} {Q : Option Value ⊕ Nat → am_Mem → Prop} {μ : am_Mem} {r0 r1 r90 r91 : Nat}
    (h1 : am_kd μ r90 = (1, 2))
    (h2 : ¬ r91 = 15)
    (k : Q (.inl none) (am_pR μ r90 0 r91)) :
    Wp d 32 (115, [some (.ref r0), some (.ref r1)], [.ref r91, .ref r90], μ) Q := wp_blk rfl e32_115 (And.intro h1 (And.intro h2 (wp_rv rfl e32_115_r rfl k)))
/-! RuleSheets$Model.install(LRuleSheets$Sheet;)V -/
def q33_0 : List (Nat × Instr × Nat) := [(0, .aload_n 0, 1), (1, .aload_n 1, 1), (2, .putfield 63, 3), (5, .aload_n 0, 1), (6, .getfield 12, 3), (9, .iconst 0, 1)]
theorem e33_0 : am_dec am_M33 q33_0 = true := by decide +kernel
theorem e33_0_c : am_dc1 am_M33 10 (.invokevirtual 82) 3 = true := by decide +kernel
theorem b33_0 {d : Nat} {Q : Option Value ⊕ Nat → am_Mem → Prop} {μ : am_Mem} {r0 r1 : Nat} {P : am_Mem → Prop} {X : Nat → am_Mem → Prop}
    (h1 : am_kd μ r0 = (1, 2))
    (h2 : ¬ r1 = 15)
    (h3 : am_kd (am_pR μ r0 2 r1) r0 = (1, 2))
    (h4 : ¬ am_F (am_pR μ r0 2 r1) r0 1 = 15)
    (hk : am_kd (am_pR μ r0 2 r1) (am_F (am_pR μ r0 2 r1) r0 1) = (1, 1))
    (hc : Wp d 28 (0, [some (.ref (am_F (am_pR μ r0 2 r1) r0 1)), some (.int (Int32.ofInt 0)), none], [], (am_pR μ r0 2 r1)) (pV P X)) (hr : ∀ μ', P μ' → Wp (d + 1) 33 (13, [some (.ref r0), some (.ref r1), none, none], [], (μ')) Q)
    (hx : ∀ x μ', X x μ' → Q (.inr x) μ') :
    Wp (d + 1) 33 (0, [some (.ref r0), some (.ref r1), none, none], [], μ) Q := wp_blk rfl e33_0 (And.intro h1 (And.intro h2 (And.intro h3 (And.intro h4 (wp_cv (as := [.int (Int32.ofInt 0)]) rfl e33_0_c rfl rfl rfl rfl rfl hk hc (fun v μ' hv => by obtain ⟨rfl, hp⟩ := pV_r hv; exact hr μ' hp) hx)))))
def q33_13 : List (Nat × Instr × Nat) := [(13, .aload_n 0, 1), (14, .getfield 78, 3), (17, .aload_n 0, 1), (18, .getfield 63, 3), (21, .getfield 69, 3)]
theorem e33_13 : am_dec am_M33 q33_13 = true := by decide +kernel
theorem e33_13_c : am_dc1 am_M33 24 (.invokevirtual 86) 3 = true := by decide +kernel
theorem b33_13 {d : Nat} {Q : Option Value ⊕ Nat → am_Mem → Prop} {μ : am_Mem} {r0 r1 : Nat} {P : am_Mem → Prop} {X : Nat → am_Mem → Prop}
    (h1 : am_kd μ r0 = (1, 2))
    (h2 : ¬ am_F μ r0 0 = 15)
    (h3 : am_kd μ r0 = (1, 2))
    (h4 : ¬ am_F μ r0 2 = 15)
    (h5 : am_kd μ (am_F μ r0 2) = (1, 5))
    (h6 : ¬ am_F μ (am_F μ r0 2) 0 = 15)
    (hk : am_kd μ (am_F μ r0 0) = (1, 8))
    (hc : Wp d 89 (0, [some (.ref (am_F μ r0 0)), some (.ref (am_F μ (am_F μ r0 2) 0))], [], μ) (pV P X)) (hr : ∀ μ', P μ' → Wp (d + 1) 33 (27, [some (.ref r0), some (.ref r1), none, none], [], (μ')) Q)
    (hx : ∀ x μ', X x μ' → Q (.inr x) μ') :
    Wp (d + 1) 33 (13, [some (.ref r0), some (.ref r1), none, none], [], μ) Q := wp_blk rfl e33_13 (And.intro h1 (And.intro h2 (And.intro h3 (And.intro h4 (And.intro h5 (And.intro h6 (wp_cv (as := [.ref (am_F μ (am_F μ r0 2) 0)]) rfl e33_13_c rfl rfl rfl rfl rfl hk hc (fun v μ' hv => by obtain ⟨rfl, hp⟩ := pV_r hv; exact hr μ' hp) hx)))))))
def q33_27 : List (Nat × Instr × Nat) := [(27, .iconst 0, 1), (28, .istore_n 2, 1)]
theorem e33_27 : am_dec am_M33 q33_27 = true := by decide +kernel
theorem b33_27 {d : Nat} {Q : Option Value ⊕ Nat → am_Mem → Prop} {μ : am_Mem} {r0 r1 : Nat}
    (k : Wp d 33 (29, [some (.ref r0), some (.ref r1), some (.int (Int32.ofInt 0)), none], [], μ) Q) :
    Wp d 33 (27, [some (.ref r0), some (.ref r1), none, none], [], μ) Q := wp_blk rfl e33_27 k
def q33_29 : List (Nat × Instr × Nat) := [(29, .iload_n 2, 1), (30, .aload_n 0, 1), (31, .getfield 63, 3), (34, .getfield 89, 3), (37, .if_icmp .ge 100, 3)]
theorem e33_29 : am_dec am_M33 q33_29 = true := by decide +kernel
theorem b33_29 {d : Nat} {Q : Option Value ⊕ Nat → am_Mem → Prop} {μ : am_Mem} {r0 r1 : Nat} {x2 : Int32} {o3 : Option Value}
    (h1 : am_kd μ r0 = (1, 2))
    (h2 : ¬ am_F μ r0 2 = 15)
    (h3 : am_kd μ (am_F μ r0 2) = (1, 5))
    (k1 : (am_A μ (am_F μ r0 2) 6) ≤ x2 → Wp d 33 (137, [some (.ref r0), some (.ref r1), some (.int x2), o3], [], μ) Q) (k2 : ¬ ((am_A μ (am_F μ r0 2) 6) ≤ x2) → Wp d 33 (40, [some (.ref r0), some (.ref r1), some (.int x2), o3], [], μ) Q) :
    Wp d 33 (29, [some (.ref r0), some (.ref r1), some (.int x2), o3], [], μ) Q := wp_blk rfl e33_29 (And.intro h1 (And.intro h2 (And.intro h3 (And.intro k1 k2))))
def q33_40 : List (Nat × Instr × Nat) := [(40, .aload_n 0, 1), (41, .getfield 63, 3), (44, .getfield 92, 3), (47, .iload_n 2, 1), (48, .iaload, 1), (49, .ifCond .ne 82, 3)]
theorem e33_40 : am_dec am_M33 q33_40 = true := by decide +kernel
theorem b33_40 {d : Nat} {Q : Option Value ⊕ Nat → am_Mem → Prop} {μ : am_Mem} {r0 r1 : Nat} {x2 : Int32} {o3 : Option Value}
    (h1 : am_kd μ r0 = (1, 2))
    (h2 : ¬ am_F μ r0 2 = 15)
    (h3 : am_kd μ (am_F μ r0 2) = (1, 5))
    (h4 : ¬ am_F μ (am_F μ r0 2) 5 = 15)
    (h5 : (am_kd μ (am_F μ (am_F μ r0 2) 5)).1 = 2 ∨ (am_kd μ (am_F μ (am_F μ r0 2) 5)).1 = 8)
    (h6 : ¬ (x2 < 0 ∨ (am_kd μ (am_F μ (am_F μ r0 2) 5)).2 ≤ x2.toNatClampNeg))
    (k1 : ¬ (am_A μ (am_F μ (am_F μ r0 2) 5) x2.toNatClampNeg) = 0 → Wp d 33 (131, [some (.ref r0), some (.ref r1), some (.int x2), o3], [], μ) Q) (k2 : ¬ (¬ (am_A μ (am_F μ (am_F μ r0 2) 5) x2.toNatClampNeg) = 0) → Wp d 33 (52, [some (.ref r0), some (.ref r1), some (.int x2), o3], [], μ) Q) :
    Wp d 33 (40, [some (.ref r0), some (.ref r1), some (.int x2), o3], [], μ) Q := wp_blk rfl e33_40 (And.intro h1 (And.intro h2 (And.intro h3 (And.intro h4 (And.intro h5 (And.intro h6 (And.intro k1 k2)))))))
def q33_52 : List (Nat × Instr × Nat) := [(52, .iconst 0, 1), (53, .istore_n 3, 1)]
theorem e33_52 : am_dec am_M33 q33_52 = true := by decide +kernel
theorem b33_52 {d : Nat} {Q : Option Value ⊕ Nat → am_Mem → Prop} {μ : am_Mem} {r0 r1 : Nat} {x2 : Int32} {o3 : Option Value}
    (k : Wp d 33 (54, [some (.ref r0), some (.ref r1), some (.int x2), some (.int (Int32.ofInt 0))], [], μ) Q) :
    Wp d 33 (52, [some (.ref r0), some (.ref r1), some (.int x2), o3], [], μ) Q := wp_blk rfl e33_52 k
def q33_54 : List (Nat × Instr × Nat) := [(54, .iload_n 3, 1), (55, .aload_n 0, 1), (56, .getfield 63, 3), (59, .getfield 95, 3), (62, .iload_n 2, 1), (63, .iaload, 1), (64, .if_icmp .ge 36, 3)]
theorem e33_54 : am_dec am_M33 q33_54 = true := by decide +kernel
theorem b33_54 {d : Nat} {Q : Option Value ⊕ Nat → am_Mem → Prop} {μ : am_Mem} {r0 r1 : Nat} {x2 x3 : Int32}
    (h1 : am_kd μ r0 = (1, 2))
    (h2 : ¬ am_F μ r0 2 = 15)
    (h3 : am_kd μ (am_F μ r0 2) = (1, 5))
    (h4 : ¬ am_F μ (am_F μ r0 2) 2 = 15)
    (h5 : (am_kd μ (am_F μ (am_F μ r0 2) 2)).1 = 2 ∨ (am_kd μ (am_F μ (am_F μ r0 2) 2)).1 = 8)
    (h6 : ¬ (x2 < 0 ∨ (am_kd μ (am_F μ (am_F μ r0 2) 2)).2 ≤ x2.toNatClampNeg))
    (k1 : (am_A μ (am_F μ (am_F μ r0 2) 2) x2.toNatClampNeg) ≤ x3 → Wp d 33 (100, [some (.ref r0), some (.ref r1), some (.int x2), some (.int x3)], [], μ) Q) (k2 : ¬ ((am_A μ (am_F μ (am_F μ r0 2) 2) x2.toNatClampNeg) ≤ x3) → Wp d 33 (67, [some (.ref r0), some (.ref r1), some (.int x2), some (.int x3)], [], μ) Q) :
    Wp d 33 (54, [some (.ref r0), some (.ref r1), some (.int x2), some (.int x3)], [], μ) Q := wp_blk rfl e33_54 (And.intro h1 (And.intro h2 (And.intro h3 (And.intro h4 (And.intro h5 (And.intro h6 (And.intro k1 k2)))))))
def q33_67 : List (Nat × Instr × Nat) := [(67, .aload_n 0, 1), (68, .getfield 78, 3), (71, .getfield 98, 3), (74, .iload_n 3, 1), (75, .aload_n 0, 1), (76, .getfield 26, 3), (79, .aload_n 0, 1), (80, .getfield 63, 3), (83, .getfield 101, 3), (86, .iconst 4, 1), (87, .iload_n 2, 1), (88, .imul, 1), (89, .iload_n 3, 1), (90, .iadd, 1), (91, .iaload, 1), (92, .iaload, 1), (93, .iastore, 1), (94, .iinc 3 1, 3), (97, .goto (-43), 3)]
theorem e33_67 : am_dec am_M33 q33_67 = true := by decide +kernel
theorem b33_67 {d : Nat} {Q : Option Value ⊕ Nat → am_Mem → Prop} {μ : am_Mem} {r0 r1 : Nat} {x2 x3 : Int32}
    (h1 : am_kd μ r0 = (1, 2))
    (h2 : ¬ am_F μ r0 0 = 15)
    (h3 : am_kd μ (am_F μ r0 0) = (1, 8))
    (h4 : ¬ am_F μ (am_F μ r0 0) 10 = 15)
    (h5 : am_kd μ r0 = (1, 2))
    (h6 : ¬ am_F μ r0 5 = 15)
    (h7 : am_kd μ r0 = (1, 2))
    (h8 : ¬ am_F μ r0 2 = 15)
    (h9 : am_kd μ (am_F μ r0 2) = (1, 5))
    (h10 : ¬ am_F μ (am_F μ r0 2) 3 = 15)
    (h11 : (am_kd μ (am_F μ (am_F μ r0 2) 3)).1 = 2 ∨ (am_kd μ (am_F μ (am_F μ r0 2) 3)).1 = 8)
    (h12 : ¬ ((((Int32.ofInt 4) * x2) + x3) < 0 ∨ (am_kd μ (am_F μ (am_F μ r0 2) 3)).2 ≤ (((Int32.ofInt 4) * x2) + x3).toNatClampNeg))
    (h13 : (am_kd μ (am_F μ r0 5)).1 = 2 ∨ (am_kd μ (am_F μ r0 5)).1 = 8)
    (h14 : ¬ ((am_A μ (am_F μ (am_F μ r0 2) 3) (((Int32.ofInt 4) * x2) + x3).toNatClampNeg) < 0 ∨ (am_kd μ (am_F μ r0 5)).2 ≤ (am_A μ (am_F μ (am_F μ r0 2) 3) (((Int32.ofInt 4) * x2) + x3).toNatClampNeg).toNatClampNeg))
    (h15 : (am_kd μ (am_F μ (am_F μ r0 0) 10)).1 = 2)
    (h16 : ¬ (x3 < 0 ∨ (am_kd μ (am_F μ (am_F μ r0 0) 10)).2 ≤ x3.toNatClampNeg))
    (k : Wp d 33 (54, [some (.ref r0), some (.ref r1), some (.int x2), some (.int (x3 + Int32.ofInt 1))], [], (am_pA μ (am_F μ (am_F μ r0 0) 10) x3.toNatClampNeg (am_A μ (am_F μ r0 5) (am_A μ (am_F μ (am_F μ r0 2) 3) (((Int32.ofInt 4) * x2) + x3).toNatClampNeg).toNatClampNeg))) Q) :
    Wp d 33 (67, [some (.ref r0), some (.ref r1), some (.int x2), some (.int x3)], [], μ) Q := wp_blk rfl e33_67 (And.intro h1 (And.intro h2 (And.intro h3 (And.intro h4 (And.intro h5 (And.intro h6 (And.intro h7 (And.intro h8 (And.intro h9 (And.intro h10 (And.intro h11 (And.intro h12 (And.intro h13 (And.intro h14 (And.intro h15 (And.intro h16 k))))))))))))))))
def q33_100 : List (Nat × Instr × Nat) := [(100, .aload_n 0, 1), (101, .getfield 26, 3), (104, .iload_n 2, 1), (105, .aload_n 0, 1), (106, .getfield 78, 3), (109, .aload_n 0, 1), (110, .getfield 63, 3), (113, .getfield 104, 3), (116, .iload_n 2, 1), (117, .iaload, 1), (118, .aload_n 0, 1), (119, .getfield 63, 3), (122, .getfield 95, 3), (125, .iload_n 2, 1), (126, .iaload, 1)]
theorem e33_100 : am_dec am_M33 q33_100 = true := by decide +kernel
theorem e33_100_c : am_dc1 am_M33 127 (.invokevirtual 107) 3 = true := by decide +kernel
theorem b33_100 {d : Nat} {Q : Option Value ⊕ Nat → am_Mem → Prop} {μ : am_Mem} {r0 r1 : Nat} {x2 x3 : Int32} {P : Int32 → am_Mem → Prop} {X : Nat → am_Mem → Prop}
    (h1 : am_kd μ r0 = (1, 2))
    (h2 : ¬ am_F μ r0 5 = 15)
    (h3 : am_kd μ r0 = (1, 2))
    (h4 : ¬ am_F μ r0 0 = 15)
    (h5 : am_kd μ r0 = (1, 2))
    (h6 : ¬ am_F μ r0 2 = 15)
    (h7 : am_kd μ (am_F μ r0 2) = (1, 5))
    (h8 : ¬ am_F μ (am_F μ r0 2) 1 = 15)
    (h9 : (am_kd μ (am_F μ (am_F μ r0 2) 1)).1 = 2 ∨ (am_kd μ (am_F μ (am_F μ r0 2) 1)).1 = 8)
    (h10 : ¬ (x2 < 0 ∨ (am_kd μ (am_F μ (am_F μ r0 2) 1)).2 ≤ x2.toNatClampNeg))
    (h11 : am_kd μ r0 = (1, 2))
    (h12 : ¬ am_F μ r0 2 = 15)
    (h13 : am_kd μ (am_F μ r0 2) = (1, 5))
    (h14 : ¬ am_F μ (am_F μ r0 2) 2 = 15)
    (h15 : (am_kd μ (am_F μ (am_F μ r0 2) 2)).1 = 2 ∨ (am_kd μ (am_F μ (am_F μ r0 2) 2)).1 = 8)
    (h16 : ¬ (x2 < 0 ∨ (am_kd μ (am_F μ (am_F μ r0 2) 2)).2 ≤ x2.toNatClampNeg))
    (hk : am_kd μ (am_F μ r0 0) = (1, 8))
    (hc : Wp d 91 (0, [some (.ref (am_F μ r0 0)), some (.int (am_A μ (am_F μ (am_F μ r0 2) 1) x2.toNatClampNeg)), some (.int (am_A μ (am_F μ (am_F μ r0 2) 2) x2.toNatClampNeg)), none, none, none, none, none], [], μ) (pI P X)) (hr : ∀ x μ', P x μ' → Wp (d + 1) 33 (130, [some (.ref r0), some (.ref r1), some (.int x2), some (.int x3)], [.int x, .int x2, .ref (am_F μ r0 5)], (μ')) Q)
    (hx : ∀ x μ', X x μ' → Q (.inr x) μ') :
    Wp (d + 1) 33 (100, [some (.ref r0), some (.ref r1), some (.int x2), some (.int x3)], [], μ) Q := wp_blk rfl e33_100 (And.intro h1 (And.intro h2 (And.intro h3 (And.intro h4 (And.intro h5 (And.intro h6 (And.intro h7 (And.intro h8 (And.intro h9 (And.intro h10 (And.intro h11 (And.intro h12 (And.intro h13 (And.intro h14 (And.intro h15 (And.intro h16 (wp_cv (as := [.int (am_A μ (am_F μ (am_F μ r0 2) 1) x2.toNatClampNeg), .int (am_A μ (am_F μ (am_F μ r0 2) 2) x2.toNatClampNeg)]) rfl e33_100_c rfl rfl rfl rfl rfl hk hc (fun v μ' hv => by obtain ⟨x, rfl, hp⟩ := pI_r hv; exact hr x μ' hp) hx)))))))))))))))))
def q33_130 : List (Nat × Instr × Nat) := [(130, .iastore, 1)]
theorem e33_130 : am_dec am_M33 q33_130 = true := by decide +kernel
theorem b33_130 {d : Nat} {Q : Option Value ⊕ Nat → am_Mem → Prop} {μ : am_Mem} {r0 r1 r90 : Nat} {x2 x3 s1 s2 : Int32}
    (h1 : (am_kd μ r90).1 = 2)
    (h2 : ¬ (s1 < 0 ∨ (am_kd μ r90).2 ≤ s1.toNatClampNeg))
    (k : Wp d 33 (131, [some (.ref r0), some (.ref r1), some (.int x2), some (.int x3)], [], (am_pA μ r90 s1.toNatClampNeg s2)) Q) :
    Wp d 33 (130, [some (.ref r0), some (.ref r1), some (.int x2), some (.int x3)], [.int s2, .int s1, .ref r90], μ) Q := wp_blk rfl e33_130 (And.intro h1 (And.intro h2 k))
def q33_131 : List (Nat × Instr × Nat) := [(131, .iinc 2 1, 3), (134, .goto (-105), 3)]
theorem e33_131 : am_dec am_M33 q33_131 = true := by decide +kernel
theorem b33_131 {d : Nat} {Q : Option Value ⊕ Nat → am_Mem → Prop} {μ : am_Mem} {r0 r1 : Nat} {x2 : Int32} {o3 : Option Value}
    (k : Wp d 33 (29, [some (.ref r0), some (.ref r1), some (.int (x2 + Int32.ofInt 1)), o3], [], μ) Q) :
    Wp d 33 (131, [some (.ref r0), some (.ref r1), some (.int x2), o3], [], μ) Q := wp_blk rfl e33_131 k
def q33_137 : List (Nat × Instr × Nat) := [(137, .aload_n 0, 1), (138, .iconst 0, 1), (139, .putfield 47, 3), (142, .aload_n 0, 1), (143, .aload_n 0, 1), (144, .getfield 78, 3), (147, .getfield 111, 3), (150, .putfield 56, 3)]
theorem e33_137 : am_dec am_M33 q33_137 = true := by decide +kernel
theorem b33_137 {d : Nat} {Q : Option Value ⊕ Nat → am_Mem → Prop} {μ : am_Mem} {r0 r1 : Nat} {x2 : Int32} {o3 : Option Value}
    (h1 : am_kd μ r0 = (1, 2))
    (h2 : am_kd (am_pA μ r0 12 (Int32.ofInt 0)) r0 = (1, 2))
    (h3 : ¬ am_F (am_pA μ r0 12 (Int32.ofInt 0)) r0 0 = 15)
    (h4 : am_kd (am_pA μ r0 12 (Int32.ofInt 0)) (am_F (am_pA μ r0 12 (Int32.ofInt 0)) r0 0) = (1, 8))
    (h5 : am_kd (am_pA μ r0 12 (Int32.ofInt 0)) r0 = (1, 2))
    (k : Wp d 33 (153, [some (.ref r0), some (.ref r1), some (.int x2), o3], [], (am_pA (am_pA μ r0 12 (Int32.ofInt 0)) r0 15 (am_A (am_pA μ r0 12 (Int32.ofInt 0)) (am_F (am_pA μ r0 12 (Int32.ofInt 0)) r0 0) 9))) Q) :
    Wp d 33 (137, [some (.ref r0), some (.ref r1), some (.int x2), o3], [], μ) Q := wp_blk rfl e33_137 (And.intro h1 (And.intro ⟨rfl, rfl⟩ (And.intro h2 (And.intro h3 (And.intro h4 (And.intro h5 (And.intro ⟨rfl, rfl⟩ k)))))))
def q33_153 : List (Nat × Instr × Nat) := [(153, .aload_n 0, 1)]
theorem e33_153 : am_dec am_M33 q33_153 = true := by decide +kernel
theorem e33_153_c : am_dc1 am_M33 154 (.invokevirtual 114) 3 = true := by decide +kernel
theorem b33_153 {d : Nat} {Q : Option Value ⊕ Nat → am_Mem → Prop} {μ : am_Mem} {r0 r1 : Nat} {x2 : Int32} {o3 : Option Value} {P : am_Mem → Prop} {X : Nat → am_Mem → Prop}
    (hk : am_kd μ r0 = (1, 2))
    (hc : Wp d 34 (0, [some (.ref r0), none, none, none], [], μ) (pV P X)) (hr : ∀ μ', P μ' → Wp (d + 1) 33 (157, [some (.ref r0), some (.ref r1), some (.int x2), o3], [], (μ')) Q)
    (hx : ∀ x μ', X x μ' → Q (.inr x) μ') :
    Wp (d + 1) 33 (153, [some (.ref r0), some (.ref r1), some (.int x2), o3], [], μ) Q := wp_blk rfl e33_153 (wp_cv (as := []) rfl e33_153_c rfl rfl rfl rfl rfl hk hc (fun v μ' hv => by obtain ⟨rfl, hp⟩ := pV_r hv; exact hr μ' hp) hx)
theorem e33_157_r : am_dec am_M33 [(157, .return_, 1)] = true := by decide +kernel
theorem b33_157 {d : Nat} {Q : Option Value ⊕ Nat → am_Mem → Prop} {μ : am_Mem} {r0 r1 : Nat} {x2 : Int32} {o3 : Option Value}
    (k : Q (.inl none) μ) :
    Wp d 33 (157, [some (.ref r0), some (.ref r1), some (.int x2), o3], [], μ) Q := (wp_rv rfl e33_157_r rfl k)
/-! RuleSheets$Model.findRoles()V -/
def q34_0 : List (Nat × Instr × Nat) := [(0, .aload_n 0, 1), (1, .iconst 0, 1), (2, .putfield 22, 3), (5, .iconst 0, 1), (6, .istore_n 1, 1)]
theorem e34_0 : am_dec am_M34 q34_0 = true := by decide +kernel
theorem b34_0 {d : Nat} {Q : Option Value ⊕ Nat → am_Mem → Prop} {μ : am_Mem} {r0 : Nat}
    (h1 : am_kd μ r0 = (1, 2))
    (k : Wp d 34 (7, [some (.ref r0), some (.int (Int32.ofInt 0)), none, none], [], (am_pA μ r0 4 (Int32.ofInt 0))) Q) :
    Wp d 34 (0, [some (.ref r0), none, none, none], [], μ) Q := wp_blk rfl e34_0 (And.intro h1 (And.intro ⟨rfl, rfl⟩ k))
def q34_7 : List (Nat × Instr × Nat) := [(7, .iload_n 1, 1), (8, .aload_n 0, 1), (9, .getfield 63, 3), (12, .getfield 117, 3), (15, .if_icmp .ge 84, 3)]
theorem e34_7 : am_dec am_M34 q34_7 = true := by decide +kernel
theorem b34_7 {d : Nat} {Q : Option Value ⊕ Nat → am_Mem → Prop} {μ : am_Mem} {r0 : Nat} {x1 : Int32} {o2 o3 : Option Value}
    (h1 : am_kd μ r0 = (1, 2))
    (h2 : ¬ am_F μ r0 2 = 15)
    (h3 : am_kd μ (am_F μ r0 2) = (1, 5))
    (k1 : (am_A μ (am_F μ r0 2) 13) ≤ x1 → Wp d 34 (99, [some (.ref r0), some (.int x1), o2, o3], [], μ) Q) (k2 : ¬ ((am_A μ (am_F μ r0 2) 13) ≤ x1) → Wp d 34 (18, [some (.ref r0), some (.int x1), o2, o3], [], μ) Q) :
    Wp d 34 (7, [some (.ref r0), some (.int x1), o2, o3], [], μ) Q := wp_blk rfl e34_7 (And.intro h1 (And.intro h2 (And.intro h3 (And.intro k1 k2))))
def q34_18 : List (Nat × Instr × Nat) := [(18, .aload_n 0, 1), (19, .getfield 63, 3), (22, .getfield 120, 3), (25, .iload_n 1, 1), (26, .iaload, 1), (27, .istore_n 2, 1), (28, .aload_n 0, 1), (29, .getfield 63, 3), (32, .getfield 104, 3), (35, .iload_n 2, 1), (36, .iaload, 1), (37, .ifCond .ne 56, 3)]
theorem e34_18 : am_dec am_M34 q34_18 = true := by decide +kernel
theorem b34_18 {d : Nat} {Q : Option Value ⊕ Nat → am_Mem → Prop} {μ : am_Mem} {r0 : Nat} {x1 : Int32} {o2 o3 : Option Value}
    (h1 : am_kd μ r0 = (1, 2))
    (h2 : ¬ am_F μ r0 2 = 15)
    (h3 : am_kd μ (am_F μ r0 2) = (1, 5))
    (h4 : ¬ am_F μ (am_F μ r0 2) 7 = 15)
    (h5 : (am_kd μ (am_F μ (am_F μ r0 2) 7)).1 = 2 ∨ (am_kd μ (am_F μ (am_F μ r0 2) 7)).1 = 8)
    (h6 : ¬ (x1 < 0 ∨ (am_kd μ (am_F μ (am_F μ r0 2) 7)).2 ≤ x1.toNatClampNeg))
    (h7 : am_kd μ r0 = (1, 2))
    (h8 : ¬ am_F μ r0 2 = 15)
    (h9 : am_kd μ (am_F μ r0 2) = (1, 5))
    (h10 : ¬ am_F μ (am_F μ r0 2) 1 = 15)
    (h11 : (am_kd μ (am_F μ (am_F μ r0 2) 1)).1 = 2 ∨ (am_kd μ (am_F μ (am_F μ r0 2) 1)).1 = 8)
    (h12 : ¬ ((am_A μ (am_F μ (am_F μ r0 2) 7) x1.toNatClampNeg) < 0 ∨ (am_kd μ (am_F μ (am_F μ r0 2) 1)).2 ≤ (am_A μ (am_F μ (am_F μ r0 2) 7) x1.toNatClampNeg).toNatClampNeg))
    (k1 : ¬ (am_A μ (am_F μ (am_F μ r0 2) 1) (am_A μ (am_F μ (am_F μ r0 2) 7) x1.toNatClampNeg).toNatClampNeg) = 0 → Wp d 34 (93, [some (.ref r0), some (.int x1), some (.int (am_A μ (am_F μ (am_F μ r0 2) 7) x1.toNatClampNeg)), o3], [], μ) Q) (k2 : ¬ (¬ (am_A μ (am_F μ (am_F μ r0 2) 1) (am_A μ (am_F μ (am_F μ r0 2) 7) x1.toNatClampNeg).toNatClampNeg) = 0) → Wp d 34 (40, [some (.ref r0), some (.int x1), some (.int (am_A μ (am_F μ (am_F μ r0 2) 7) x1.toNatClampNeg)), o3], [], μ) Q) :
    Wp d 34 (18, [some (.ref r0), some (.int x1), o2, o3], [], μ) Q := wp_blk rfl e34_18 (And.intro h1 (And.intro h2 (And.intro h3 (And.intro h4 (And.intro h5 (And.intro h6 (And.intro h7 (And.intro h8 (And.intro h9 (And.intro h10 (And.intro h11 (And.intro h12 (And.intro k1 k2)))))))))))))
def q34_40 : List (Nat × Instr × Nat) := [(40, .aload_n 0, 1), (41, .getfield 22, 3), (44, .iconst 4, 1), (45, .if_icmp .ge 48, 3)]
theorem e34_40 : am_dec am_M34 q34_40 = true := by decide +kernel
theorem b34_40 {d : Nat} {Q : Option Value ⊕ Nat → am_Mem → Prop} {μ : am_Mem} {r0 : Nat} {x1 x2 : Int32} {o3 : Option Value}
    (h1 : am_kd μ r0 = (1, 2))
    (k1 : (Int32.ofInt 4) ≤ (am_A μ r0 4) → Wp d 34 (93, [some (.ref r0), some (.int x1), some (.int x2), o3], [], μ) Q) (k2 : ¬ ((Int32.ofInt 4) ≤ (am_A μ r0 4)) → Wp d 34 (48, [some (.ref r0), some (.int x1), some (.int x2), o3], [], μ) Q) :
    Wp d 34 (40, [some (.ref r0), some (.int x1), some (.int x2), o3], [], μ) Q := wp_blk rfl e34_40 (And.intro h1 (And.intro k1 k2))
def q34_48 : List (Nat × Instr × Nat) := [(48, .aload_n 0, 1), (49, .getfield 26, 3), (52, .aload_n 0, 1), (53, .getfield 63, 3), (56, .getfield 101, 3), (59, .iconst 4, 1), (60, .iload_n 2, 1), (61, .imul, 1), (62, .iaload, 1), (63, .iaload, 1), (64, .istore_n 3, 1), (65, .aload_n 0, 1), (66, .iload_n 3, 1)]
theorem e34_48 : am_dec am_M34 q34_48 = true := by decide +kernel
theorem e34_48_c : am_dc1 am_M34 67 (.invokevirtual 123) 3 = true := by decide +kernel
theorem b34_48 {d : Nat} {Q : Option Value ⊕ Nat → am_Mem → Prop} {μ : am_Mem} {r0 : Nat} {x1 x2 : Int32} {o3 : Option Value} {P : Int32 → am_Mem → Prop} {X : Nat → am_Mem → Prop}
    (h1 : am_kd μ r0 = (1, 2))
    (h2 : ¬ am_F μ r0 5 = 15)
    (h3 : am_kd μ r0 = (1, 2))
    (h4 : ¬ am_F μ r0 2 = 15)
    (h5 : am_kd μ (am_F μ r0 2) = (1, 5))
    (h6 : ¬ am_F μ (am_F μ r0 2) 3 = 15)
    (h7 : (am_kd μ (am_F μ (am_F μ r0 2) 3)).1 = 2 ∨ (am_kd μ (am_F μ (am_F μ r0 2) 3)).1 = 8)
    (h8 : ¬ (((Int32.ofInt 4) * x2) < 0 ∨ (am_kd μ (am_F μ (am_F μ r0 2) 3)).2 ≤ ((Int32.ofInt 4) * x2).toNatClampNeg))
    (h9 : (am_kd μ (am_F μ r0 5)).1 = 2 ∨ (am_kd μ (am_F μ r0 5)).1 = 8)
    (h10 : ¬ ((am_A μ (am_F μ (am_F μ r0 2) 3) ((Int32.ofInt 4) * x2).toNatClampNeg) < 0 ∨ (am_kd μ (am_F μ r0 5)).2 ≤ (am_A μ (am_F μ (am_F μ r0 2) 3) ((Int32.ofInt 4) * x2).toNatClampNeg).toNatClampNeg))
    (hk : am_kd μ r0 = (1, 2))
    (hc : Wp d 35 (0, [some (.ref r0), some (.int (am_A μ (am_F μ r0 5) (am_A μ (am_F μ (am_F μ r0 2) 3) ((Int32.ofInt 4) * x2).toNatClampNeg).toNatClampNeg)), none], [], μ) (pI P X)) (hr : ∀ x μ', P x μ' → Wp (d + 1) 34 (70, [some (.ref r0), some (.int x1), some (.int x2), some (.int (am_A μ (am_F μ r0 5) (am_A μ (am_F μ (am_F μ r0 2) 3) ((Int32.ofInt 4) * x2).toNatClampNeg).toNatClampNeg))], [.int x], (μ')) Q)
    (hx : ∀ x μ', X x μ' → Q (.inr x) μ') :
    Wp (d + 1) 34 (48, [some (.ref r0), some (.int x1), some (.int x2), o3], [], μ) Q := wp_blk rfl e34_48 (And.intro h1 (And.intro h2 (And.intro h3 (And.intro h4 (And.intro h5 (And.intro h6 (And.intro h7 (And.intro h8 (And.intro h9 (And.intro h10 (wp_cv (as := [.int (am_A μ (am_F μ r0 5) (am_A μ (am_F μ (am_F μ r0 2) 3) ((Int32.ofInt 4) * x2).toNatClampNeg).toNatClampNeg)]) rfl e34_48_c rfl rfl rfl rfl rfl hk hc (fun v μ' hv => by obtain ⟨x, rfl, hp⟩ := pI_r hv; exact hr x μ' hp) hx)))))))))))
def q34_70 : List (Nat × Instr × Nat) := [(70, .ifCond .ne 23, 3)]
theorem e34_70 : am_dec am_M34 q34_70 = true := by decide +kernel
theorem b34_70 {d : Nat} {Q : Option Value ⊕ Nat → am_Mem → Prop} {μ : am_Mem} {r0 : Nat} {x1 x2 x3 s0 : Int32}
    (k1 : ¬ s0 = 0 → Wp d 34 (93, [some (.ref r0), some (.int x1), some (.int x2), some (.int x3)], [], μ) Q) (k2 : ¬ (¬ s0 = 0) → Wp d 34 (73, [some (.ref r0), some (.int x1), some (.int x2), some (.int x3)], [], μ) Q) :
    Wp d 34 (70, [some (.ref r0), some (.int x1), some (.int x2), some (.int x3)], [.int s0], μ) Q := wp_blk rfl e34_70 (And.intro k1 k2)
def q34_73 : List (Nat × Instr × Nat) := [(73, .aload_n 0, 1), (74, .getfield 18, 3), (77, .aload_n 0, 1), (78, .getfield 22, 3), (81, .iload_n 3, 1), (82, .iastore, 1), (83, .aload_n 0, 1), (84, .dup, 1), (85, .getfield 22, 3), (88, .iconst 1, 1), (89, .iadd, 1), (90, .putfield 22, 3)]
theorem e34_73 : am_dec am_M34 q34_73 = true := by decide +kernel
theorem b34_73 {d : Nat} {Q : Option Value ⊕ Nat → am_Mem → Prop} {μ : am_Mem} {r0 : Nat} {x1 x2 x3 : Int32}
    (h1 : am_kd μ r0 = (1, 2))
    (h2 : ¬ am_F μ r0 3 = 15)
    (h3 : am_kd μ r0 = (1, 2))
    (h4 : (am_kd μ (am_F μ r0 3)).1 = 2)
    (h5 : ¬ ((am_A μ r0 4) < 0 ∨ (am_kd μ (am_F μ r0 3)).2 ≤ (am_A μ r0 4).toNatClampNeg))
    (h6 : am_kd (am_pA μ (am_F μ r0 3) (am_A μ r0 4).toNatClampNeg x3) r0 = (1, 2))
    (h7 : am_kd (am_pA μ (am_F μ r0 3) (am_A μ r0 4).toNatClampNeg x3) r0 = (1, 2))
    (k : Wp d 34 (93, [some (.ref r0), some (.int x1), some (.int x2), some (.int x3)], [], (am_pA (am_pA μ (am_F μ r0 3) (am_A μ r0 4).toNatClampNeg x3) r0 4 ((am_A (am_pA μ (am_F μ r0 3) (am_A μ r0 4).toNatClampNeg x3) r0 4) + (Int32.ofInt 1)))) Q) :
    Wp d 34 (73, [some (.ref r0), some (.int x1), some (.int x2), some (.int x3)], [], μ) Q := wp_blk rfl e34_73 (And.intro h1 (And.intro h2 (And.intro h3 (And.intro h4 (And.intro h5 (And.intro h6 (And.intro h7 (And.intro ⟨rfl, rfl⟩ k))))))))
def q34_93 : List (Nat × Instr × Nat) := [(93, .iinc 1 1, 3), (96, .goto (-89), 3)]
theorem e34_93 : am_dec am_M34 q34_93 = true := by decide +kernel
theorem b34_93 {d : Nat} {Q : Option Value ⊕ Nat → am_Mem → Prop} {μ : am_Mem} {r0 : Nat} {x1 x2 : Int32} {o3 : Option Value}
    (k : Wp d 34 (7, [some (.ref r0), some (.int (x1 + Int32.ofInt 1)), some (.int x2), o3], [], μ) Q) :
    Wp d 34 (93, [some (.ref r0), some (.int x1), some (.int x2), o3], [], μ) Q := wp_blk rfl e34_93 k
theorem e34_99_r : am_dec am_M34 [(99, .return_, 1)] = true := by decide +kernel
theorem b34_99 {d : Nat} {Q : Option Value ⊕ Nat → am_Mem → Prop} {μ : am_Mem} {r0 : Nat} {x1 : Int32} {o2 o3 : Option Value}
    (k : Q (.inl none) μ) :
    Wp d 34 (99, [some (.ref r0), some (.int x1), o2, o3], [], μ) Q := (wp_rv rfl e34_99_r rfl k)
/-! RuleSheets$Model.isRole(I)Z -/
def q35_0 : List (Nat × Instr × Nat) := [(0, .iconst 0, 1), (1, .istore_n 2, 1)]
theorem e35_0 : am_dec am_M35 q35_0 = true := by decide +kernel
theorem b35_0 {d : Nat} {Q : Option Value ⊕ Nat → am_Mem → Prop} {μ : am_Mem} {r0 : Nat} {x1 : Int32}
    (k : Wp d 35 (2, [some (.ref r0), some (.int x1), some (.int (Int32.ofInt 0))], [], μ) Q) :
    Wp d 35 (0, [some (.ref r0), some (.int x1), none], [], μ) Q := wp_blk rfl e35_0 k
def q35_2 : List (Nat × Instr × Nat) := [(2, .iload_n 2, 1), (3, .aload_n 0, 1), (4, .getfield 22, 3), (7, .if_icmp .ge 21, 3)]
theorem e35_2 : am_dec am_M35 q35_2 = true := by decide +kernel
theorem b35_2 {d : Nat} {Q : Option Value ⊕ Nat → am_Mem → Prop} {μ : am_Mem} {r0 : Nat} {x1 x2 : Int32}
    (h1 : am_kd μ r0 = (1, 2))
    (k1 : (am_A μ r0 4) ≤ x2 → Wp d 35 (28, [some (.ref r0), some (.int x1), some (.int x2)], [], μ) Q) (k2 : ¬ ((am_A μ r0 4) ≤ x2) → Wp d 35 (10, [some (.ref r0), some (.int x1), some (.int x2)], [], μ) Q) :
    Wp d 35 (2, [some (.ref r0), some (.int x1), some (.int x2)], [], μ) Q := wp_blk rfl e35_2 (And.intro h1 (And.intro k1 k2))
def q35_10 : List (Nat × Instr × Nat) := [(10, .aload_n 0, 1), (11, .getfield 18, 3), (14, .iload_n 2, 1), (15, .iaload, 1), (16, .iload_n 1, 1), (17, .if_icmp .ne 5, 3)]
theorem e35_10 : am_dec am_M35 q35_10 = true := by decide +kernel
theorem b35_10 {d : Nat} {Q : Option Value ⊕ Nat → am_Mem → Prop} {μ : am_Mem} {r0 : Nat} {x1 x2 : Int32}
    (h1 : am_kd μ r0 = (1, 2))
    (h2 : ¬ am_F μ r0 3 = 15)
    (h3 : (am_kd μ (am_F μ r0 3)).1 = 2 ∨ (am_kd μ (am_F μ r0 3)).1 = 8)
    (h4 : ¬ (x2 < 0 ∨ (am_kd μ (am_F μ r0 3)).2 ≤ x2.toNatClampNeg))
    (k1 : ¬ (am_A μ (am_F μ r0 3) x2.toNatClampNeg) = x1 → Wp d 35 (22, [some (.ref r0), some (.int x1), some (.int x2)], [], μ) Q) (k2 : ¬ (¬ (am_A μ (am_F μ r0 3) x2.toNatClampNeg) = x1) → Wp d 35 (20, [some (.ref r0), some (.int x1), some (.int x2)], [], μ) Q) :
    Wp d 35 (10, [some (.ref r0), some (.int x1), some (.int x2)], [], μ) Q := wp_blk rfl e35_10 (And.intro h1 (And.intro h2 (And.intro h3 (And.intro h4 (And.intro k1 k2)))))
def q35_20 : List (Nat × Instr × Nat) := [(20, .iconst 1, 1)]
theorem e35_20 : am_dec am_M35 q35_20 = true := by decide +kernel
theorem e35_20_r : am_dec am_M35 [(21, .ireturn, 1)] = true := by decide +kernel
theorem b35_20 {d : Nat} {Q : Option Value ⊕ Nat → am_Mem → Prop} {μ : am_Mem} {r0 : Nat} {x1 x2 : Int32}
    (k : Q (.inl (some (.int (Int32.ofInt 1)))) μ) :
    Wp d 35 (20, [some (.ref r0), some (.int x1), some (.int x2)], [], μ) Q := wp_blk rfl e35_20 (wp_ri (ty := .boolean) rfl e35_20_r rfl (by decide) k)
def q35_22 : List (Nat × Instr × Nat) := [(22, .iinc 2 1, 3), (25, .goto (-23), 3)]
theorem e35_22 : am_dec am_M35 q35_22 = true := by decide +kernel
theorem b35_22 {d : Nat} {Q : Option Value ⊕ Nat → am_Mem → Prop} {μ : am_Mem} {r0 : Nat} {x1 x2 : Int32}
    (k : Wp d 35 (2, [some (.ref r0), some (.int x1), some (.int (x2 + Int32.ofInt 1))], [], μ) Q) :
    Wp d 35 (22, [some (.ref r0), some (.int x1), some (.int x2)], [], μ) Q := wp_blk rfl e35_22 k
def q35_28 : List (Nat × Instr × Nat) := [(28, .iconst 0, 1)]
theorem e35_28 : am_dec am_M35 q35_28 = true := by decide +kernel
theorem e35_28_r : am_dec am_M35 [(29, .ireturn, 1)] = true := by decide +kernel
theorem b35_28 {d : Nat} {Q : Option Value ⊕ Nat → am_Mem → Prop} {μ : am_Mem} {r0 : Nat} {x1 x2 : Int32}
    (k : Q (.inl (some (.int (Int32.ofInt 0)))) μ) :
    Wp d 35 (28, [some (.ref r0), some (.int x1), some (.int x2)], [], μ) Q := wp_blk rfl e35_28 (wp_ri (ty := .boolean) rfl e35_28_r rfl (by decide) k)
/-! RuleSheets$Model.fix()V -/
def q36_0 : List (Nat × Instr × Nat) := [(0, .aload_n 0, 1), (1, .getfield 47, 3), (4, .ifCond .ne 81, 3)]
theorem e36_0 : am_dec am_M36 q36_0 = true := by decide +kernel
theorem b36_0 {d : Nat} {Q : Option Value ⊕ Nat → am_Mem → Prop} {μ : am_Mem} {r0 : Nat}
    (h1 : am_kd μ r0 = (1, 2))
    (k1 : ¬ (am_A μ r0 12) = 0 → Wp d 36 (85, [some (.ref r0), none, none], [], μ) Q) (k2 : ¬ (¬ (am_A μ r0 12) = 0) → Wp d 36 (7, [some (.ref r0), none, none], [], μ) Q) :
    Wp d 36 (0, [some (.ref r0), none, none], [], μ) Q := wp_blk rfl e36_0 (And.intro h1 (And.intro k1 k2))
def q36_7 : List (Nat × Instr × Nat) := [(7, .aload_n 0, 1), (8, .iconst 2, 1), (9, .putfield 47, 3), (12, .iconst 0, 1), (13, .istore_n 1, 1)]
theorem e36_7 : am_dec am_M36 q36_7 = true := by decide +kernel
theorem b36_7 {d : Nat} {Q : Option Value ⊕ Nat → am_Mem → Prop} {μ : am_Mem} {r0 : Nat}
    (h1 : am_kd μ r0 = (1, 2))
    (k : Wp d 36 (14, [some (.ref r0), some (.int (Int32.ofInt 0)), none], [], (am_pA μ r0 12 (Int32.ofInt 2))) Q) :
    Wp d 36 (7, [some (.ref r0), none, none], [], μ) Q := wp_blk rfl e36_7 (And.intro h1 (And.intro ⟨rfl, rfl⟩ k))
def q36_14 : List (Nat × Instr × Nat) := [(14, .iload_n 1, 1), (15, .aload_n 0, 1), (16, .getfield 63, 3), (19, .getfield 127, 3), (22, .if_icmp .ge 28, 3)]
theorem e36_14 : am_dec am_M36 q36_14 = true := by decide +kernel
theorem b36_14 {d : Nat} {Q : Option Value ⊕ Nat → am_Mem → Prop} {μ : am_Mem} {r0 : Nat} {x1 : Int32} {o2 : Option Value}
    (h1 : am_kd μ r0 = (1, 2))
    (h2 : ¬ am_F μ r0 2 = 15)
    (h3 : am_kd μ (am_F μ r0 2) = (1, 5))
    (k1 : (am_A μ (am_F μ r0 2) 18) ≤ x1 → Wp d 36 (50, [some (.ref r0), some (.int x1), o2], [], μ) Q) (k2 : ¬ ((am_A μ (am_F μ r0 2) 18) ≤ x1) → Wp d 36 (25, [some (.ref r0), some (.int x1), o2], [], μ) Q) :
    Wp d 36 (14, [some (.ref r0), some (.int x1), o2], [], μ) Q := wp_blk rfl e36_14 (And.intro h1 (And.intro h2 (And.intro h3 (And.intro k1 k2))))
def q36_25 : List (Nat × Instr × Nat) := [(25, .aload_n 0, 1), (26, .getfield 12, 3), (29, .getfield 130, 3), (32, .istore_n 2, 1), (33, .aload_n 0, 1), (34, .iload_n 1, 1)]
theorem e36_25 : am_dec am_M36 q36_25 = true := by decide +kernel
theorem e36_25_c : am_dc1 am_M36 35 (.invokevirtual 131) 3 = true := by decide +kernel
theorem b36_25 {d : Nat} {Q : Option Value ⊕ Nat → am_Mem → Prop} {μ : am_Mem} {r0 : Nat} {x1 : Int32} {o2 : Option Value} {P : am_Mem → Prop} {X : Nat → am_Mem → Prop}
    (h1 : am_kd μ r0 = (1, 2))
    (h2 : ¬ am_F μ r0 1 = 15)
    (h3 : am_kd μ (am_F μ r0 1) = (1, 1))
    (hk : am_kd μ r0 = (1, 2))
    (hc : Wp d 37 (0, [some (.ref r0), some (.int x1), none], [], μ) (pV P X)) (hr : ∀ μ', P μ' → Wp (d + 1) 36 (38, [some (.ref r0), some (.int x1), some (.int (am_A μ (am_F μ r0 1) 7))], [], (μ')) Q)
    (hx : ∀ x μ', X x μ' → Q (.inr x) μ') :
    Wp (d + 1) 36 (25, [some (.ref r0), some (.int x1), o2], [], μ) Q := wp_blk rfl e36_25 (And.intro h1 (And.intro h2 (And.intro h3 (wp_cv (as := [.int x1]) rfl e36_25_c rfl rfl rfl rfl rfl hk hc (fun v μ' hv => by obtain ⟨rfl, hp⟩ := pV_r hv; exact hr μ' hp) hx))))
def q36_38 : List (Nat × Instr × Nat) := [(38, .aload_n 0, 1), (39, .iload_n 1, 1), (40, .iload_n 2, 1)]
theorem e36_38 : am_dec am_M36 q36_38 = true := by decide +kernel
theorem e36_38_c : am_dc1 am_M36 41 (.invokevirtual 134) 3 = true := by decide +kernel
theorem b36_38 {d : Nat} {Q : Option Value ⊕ Nat → am_Mem → Prop} {μ : am_Mem} {r0 : Nat} {x1 x2 : Int32} {P : am_Mem → Prop} {X : Nat → am_Mem → Prop}
    (hk : am_kd μ r0 = (1, 2))
    (hc : Wp d 44 (0, [some (.ref r0), some (.int x1), some (.int x2), none, none, none, none], [], μ) (pV P X)) (hr : ∀ μ', P μ' → Wp (d + 1) 36 (44, [some (.ref r0), some (.int x1), some (.int x2)], [], (μ')) Q)
    (hx : ∀ x μ', X x μ' → Q (.inr x) μ') :
    Wp (d + 1) 36 (38, [some (.ref r0), some (.int x1), some (.int x2)], [], μ) Q := wp_blk rfl e36_38 (wp_cv (as := [.int x1, .int x2]) rfl e36_38_c rfl rfl rfl rfl rfl hk hc (fun v μ' hv => by obtain ⟨rfl, hp⟩ := pV_r hv; exact hr μ' hp) hx)
def q36_44 : List (Nat × Instr × Nat) := [(44, .iinc 1 1, 3), (47, .goto (-33), 3)]
theorem e36_44 : am_dec am_M36 q36_44 = true := by decide +kernel
theorem b36_44 {d : Nat} {Q : Option Value ⊕ Nat → am_Mem → Prop} {μ : am_Mem} {r0 : Nat} {x1 x2 : Int32}
    (k : Wp d 36 (14, [some (.ref r0), some (.int (x1 + Int32.ofInt 1)), some (.int x2)], [], μ) Q) :
    Wp d 36 (44, [some (.ref r0), some (.int x1), some (.int x2)], [], μ) Q := wp_blk rfl e36_44 k
def q36_50 : List (Nat × Instr × Nat) := [(50, .aload_n 0, 1), (51, .aload_n 0, 1), (52, .getfield 12, 3), (55, .getfield 130, 3), (58, .putfield 50, 3), (61, .aload_n 0, 1), (62, .aload_n 0, 1), (63, .getfield 78, 3), (66, .getfield 111, 3), (69, .putfield 53, 3)]
theorem e36_50 : am_dec am_M36 q36_50 = true := by decide +kernel
theorem b36_50 {d : Nat} {Q : Option Value ⊕ Nat → am_Mem → Prop} {μ : am_Mem} {r0 : Nat} {x1 : Int32} {o2 : Option Value}
    (h1 : am_kd μ r0 = (1, 2))
    (h2 : ¬ am_F μ r0 1 = 15)
    (h3 : am_kd μ (am_F μ r0 1) = (1, 1))
    (h4 : am_kd μ r0 = (1, 2))
    (h5 : am_kd (am_pA μ r0 13 (am_A μ (am_F μ r0 1) 7)) r0 = (1, 2))
    (h6 : ¬ am_F (am_pA μ r0 13 (am_A μ (am_F μ r0 1) 7)) r0 0 = 15)
    (h7 : am_kd (am_pA μ r0 13 (am_A μ (am_F μ r0 1) 7)) (am_F (am_pA μ r0 13 (am_A μ (am_F μ r0 1) 7)) r0 0) = (1, 8))
    (h8 : am_kd (am_pA μ r0 13 (am_A μ (am_F μ r0 1) 7)) r0 = (1, 2))
    (k : Wp d 36 (72, [some (.ref r0), some (.int x1), o2], [], (am_pA (am_pA μ r0 13 (am_A μ (am_F μ r0 1) 7)) r0 14 (am_A (am_pA μ r0 13 (am_A μ (am_F μ r0 1) 7)) (am_F (am_pA μ r0 13 (am_A μ (am_F μ r0 1) 7)) r0 0) 9))) Q) :
    Wp d 36 (50, [some (.ref r0), some (.int x1), o2], [], μ) Q := wp_blk rfl e36_50 (And.intro h1 (And.intro h2 (And.intro h3 (And.intro h4 (And.intro ⟨rfl, rfl⟩ (And.intro h5 (And.intro h6 (And.intro h7 (And.intro h8 (And.intro ⟨rfl, rfl⟩ k))))))))))
def q36_72 : List (Nat × Instr × Nat) := [(72, .aload_n 0, 1), (73, .aload_n 0, 1), (74, .getfield 53, 3), (77, .putfield 56, 3), (80, .aload_n 0, 1), (81, .iconst 1, 1), (82, .putfield 47, 3)]
theorem e36_72 : am_dec am_M36 q36_72 = true := by decide +kernel
theorem b36_72 {d : Nat} {Q : Option Value ⊕ Nat → am_Mem → Prop} {μ : am_Mem} {r0 : Nat} {x1 : Int32} {o2 : Option Value}
    (h1 : am_kd μ r0 = (1, 2))
    (h2 : am_kd μ r0 = (1, 2))
    (h3 : am_kd (am_pA μ r0 15 (am_A μ r0 14)) r0 = (1, 2))
    (k : Wp d 36 (85, [some (.ref r0), some (.int x1), o2], [], (am_pA (am_pA μ r0 15 (am_A μ r0 14)) r0 12 (Int32.ofInt 1))) Q) :
    Wp d 36 (72, [some (.ref r0), some (.int x1), o2], [], μ) Q := wp_blk rfl e36_72 (And.intro h1 (And.intro h2 (And.intro ⟨rfl, rfl⟩ (And.intro h3 (And.intro ⟨rfl, rfl⟩ k)))))
def q36_85 : List (Nat × Instr × Nat) := [(85, .aload_n 0, 1), (86, .getfield 47, 3), (89, .iconst 2, 1), (90, .if_icmp .ne 13, 3)]
theorem e36_85 : am_dec am_M36 q36_85 = true := by decide +kernel
theorem b36_85 {d : Nat} {Q : Option Value ⊕ Nat → am_Mem → Prop} {μ : am_Mem} {r0 : Nat} {o1 o2 : Option Value}
    (h1 : am_kd μ r0 = (1, 2))
    (k1 : ¬ (am_A μ r0 12) = (Int32.ofInt 2) → Wp d 36 (103, [some (.ref r0), o1, o2], [], μ) Q) (k2 : ¬ (¬ (am_A μ r0 12) = (Int32.ofInt 2)) → Wp d 36 (93, [some (.ref r0), o1, o2], [], μ) Q) :
    Wp d 36 (85, [some (.ref r0), o1, o2], [], μ) Q := wp_blk rfl e36_85 (And.intro h1 (And.intro k1 k2))
theorem e36_93_t : am_dc1 am_M36 93 (.new 138) 3 = true ∧ am_throw GG 2 36 93 (.new 138) = some 3 := by decide +kernel
theorem b36_93 {d : Nat} {Q : Option Value ⊕ Nat → am_Mem → Prop} {μ : am_Mem} {r0 : Nat} {o1 o2 : Option Value}
    (k : Q (.inr 3) (am_nX μ)) :
    Wp d 36 (93, [some (.ref r0), o1, o2], [], μ) Q := (wp_throw rfl e36_93_t.1 ⟨_, rfl⟩ rfl e36_93_t.2 rfl k)
theorem e36_103_r : am_dec am_M36 [(103, .return_, 1)] = true := by decide +kernel
theorem b36_103 {d : Nat} {Q : Option Value ⊕ Nat → am_Mem → Prop} {μ : am_Mem} {r0 : Nat} {o1 o2 : Option Value}
    (k : Q (.inl none) μ) :
    Wp d 36 (103, [some (.ref r0), o1, o2], [], μ) Q := (wp_rv rfl e36_103_r rfl k)
/-! RuleSheets$Model.runPlain(I)V -/
def q37_0 : List (Nat × Instr × Nat) := [(0, .aload_n 0, 1), (1, .iconst (-1), 1), (2, .putfield 41, 3), (5, .aload_n 0, 1), (6, .sipush 1000, 3), (9, .putfield 44, 3), (12, .aload_n 0, 1), (13, .getfield 63, 3), (16, .getfield 169, 3), (19, .iload_n 1, 1), (20, .iaload, 1), (21, .istore_n 2, 1)]
theorem e37_0 : am_dec am_M37 q37_0 = true := by decide +kernel
theorem b37_0 {d : Nat} {Q : Option Value ⊕ Nat → am_Mem → Prop} {μ : am_Mem} {r0 : Nat} {x1 : Int32}
    (h1 : am_kd μ r0 = (1, 2))
    (h2 : am_kd (am_pA μ r0 10 (Int32.ofInt (-1))) r0 = (1, 2))
    (h3 : am_kd (am_pA (am_pA μ r0 10 (Int32.ofInt (-1))) r0 11 ((Int16.ofInt 1000).toInt32)) r0 = (1, 2))
    (h4 : ¬ am_F (am_pA (am_pA μ r0 10 (Int32.ofInt (-1))) r0 11 ((Int16.ofInt 1000).toInt32)) r0 2 = 15)
    (h5 : am_kd (am_pA (am_pA μ r0 10 (Int32.ofInt (-1))) r0 11 ((Int16.ofInt 1000).toInt32)) (am_F (am_pA (am_pA μ r0 10 (Int32.ofInt (-1))) r0 11 ((Int16.ofInt 1000).toInt32)) r0 2) = (1, 5))
    (h6 : ¬ am_F (am_pA (am_pA μ r0 10 (Int32.ofInt (-1))) r0 11 ((Int16.ofInt 1000).toInt32)) (am_F (am_pA (am_pA μ r0 10 (Int32.ofInt (-1))) r0 11 ((Int16.ofInt 1000).toInt32)) r0 2) 15 = 15)
    (h7 : (am_kd (am_pA (am_pA μ r0 10 (Int32.ofInt (-1))) r0 11 ((Int16.ofInt 1000).toInt32)) (am_F (am_pA (am_pA μ r0 10 (Int32.ofInt (-1))) r0 11 ((Int16.ofInt 1000).toInt32)) (am_F (am_pA (am_pA μ r0 10 (Int32.ofInt (-1))) r0 11 ((Int16.ofInt 1000).toInt32)) r0 2) 15)).1 = 2 ∨ (am_kd (am_pA (am_pA μ r0 10 (Int32.ofInt (-1))) r0 11 ((Int16.ofInt 1000).toInt32)) (am_F (am_pA (am_pA μ r0 10 (Int32.ofInt (-1))) r0 11 ((Int16.ofInt 1000).toInt32)) (am_F (am_pA (am_pA μ r0 10 (Int32.ofInt (-1))) r0 11 ((Int16.ofInt 1000).toInt32)) r0 2) 15)).1 = 8)
    (h8 : ¬ (x1 < 0 ∨ (am_kd (am_pA (am_pA μ r0 10 (Int32.ofInt (-1))) r0 11 ((Int16.ofInt 1000).toInt32)) (am_F (am_pA (am_pA μ r0 10 (Int32.ofInt (-1))) r0 11 ((Int16.ofInt 1000).toInt32)) (am_F (am_pA (am_pA μ r0 10 (Int32.ofInt (-1))) r0 11 ((Int16.ofInt 1000).toInt32)) r0 2) 15)).2 ≤ x1.toNatClampNeg))
    (k : Wp d 37 (22, [some (.ref r0), some (.int x1), some (.int (am_A (am_pA (am_pA μ r0 10 (Int32.ofInt (-1))) r0 11 ((Int16.ofInt 1000).toInt32)) (am_F (am_pA (am_pA μ r0 10 (Int32.ofInt (-1))) r0 11 ((Int16.ofInt 1000).toInt32)) (am_F (am_pA (am_pA μ r0 10 (Int32.ofInt (-1))) r0 11 ((Int16.ofInt 1000).toInt32)) r0 2) 15) x1.toNatClampNeg))], [], (am_pA (am_pA μ r0 10 (Int32.ofInt (-1))) r0 11 ((Int16.ofInt 1000).toInt32))) Q) :
    Wp d 37 (0, [some (.ref r0), some (.int x1), none], [], μ) Q := wp_blk rfl e37_0 (And.intro h1 (And.intro ⟨rfl, rfl⟩ (And.intro h2 (And.intro ⟨rfl, rfl⟩ (And.intro h3 (And.intro h4 (And.intro h5 (And.intro h6 (And.intro h7 (And.intro h8 k))))))))))
def q37_22 : List (Nat × Instr × Nat) := [(22, .iload_n 2, 1), (23, .aload_n 0, 1), (24, .getfield 63, 3), (27, .getfield 172, 3), (30, .iload_n 1, 1), (31, .iaload, 1), (32, .if_icmp .ge 45, 3)]
theorem e37_22 : am_dec am_M37 q37_22 = true := by decide +kernel
theorem b37_22 {d : Nat} {Q : Option Value ⊕ Nat → am_Mem → Prop} {μ : am_Mem} {r0 : Nat} {x1 x2 : Int32}
    (h1 : am_kd μ r0 = (1, 2))
    (h2 : ¬ am_F μ r0 2 = 15)
    (h3 : am_kd μ (am_F μ r0 2) = (1, 5))
    (h4 : ¬ am_F μ (am_F μ r0 2) 16 = 15)
    (h5 : (am_kd μ (am_F μ (am_F μ r0 2) 16)).1 = 2 ∨ (am_kd μ (am_F μ (am_F μ r0 2) 16)).1 = 8)
    (h6 : ¬ (x1 < 0 ∨ (am_kd μ (am_F μ (am_F μ r0 2) 16)).2 ≤ x1.toNatClampNeg))
    (k1 : (am_A μ (am_F μ (am_F μ r0 2) 16) x1.toNatClampNeg) ≤ x2 → Wp d 37 (77, [some (.ref r0), some (.int x1), some (.int x2)], [], μ) Q) (k2 : ¬ ((am_A μ (am_F μ (am_F μ r0 2) 16) x1.toNatClampNeg) ≤ x2) → Wp d 37 (35, [some (.ref r0), some (.int x1), some (.int x2)], [], μ) Q) :
    Wp d 37 (22, [some (.ref r0), some (.int x1), some (.int x2)], [], μ) Q := wp_blk rfl e37_22 (And.intro h1 (And.intro h2 (And.intro h3 (And.intro h4 (And.intro h5 (And.intro h6 (And.intro k1 k2)))))))
def q37_35 : List (Nat × Instr × Nat) := [(35, .aload_n 0, 1), (36, .aload_n 0, 1), (37, .getfield 63, 3), (40, .getfield 175, 3), (43, .iload_n 2, 1), (44, .iaload, 1), (45, .putfield 38, 3), (48, .aload_n 0, 1), (49, .iconst 0, 1), (50, .putfield 35, 3), (53, .aload_n 0, 1), (54, .aload_n 0, 1), (55, .getfield 38, 3)]
theorem e37_35 : am_dec am_M37 q37_35 = true := by decide +kernel
theorem e37_35_c : am_dc1 am_M37 58 (.invokevirtual 152) 3 = true := by decide +kernel
theorem b37_35 {d : Nat} {Q : Option Value ⊕ Nat → am_Mem → Prop} {μ : am_Mem} {r0 : Nat} {x1 x2 : Int32} {P : Int64 → am_Mem → Prop} {X : Nat → am_Mem → Prop}
    (h1 : am_kd μ r0 = (1, 2))
    (h2 : ¬ am_F μ r0 2 = 15)
    (h3 : am_kd μ (am_F μ r0 2) = (1, 5))
    (h4 : ¬ am_F μ (am_F μ r0 2) 14 = 15)
    (h5 : (am_kd μ (am_F μ (am_F μ r0 2) 14)).1 = 2 ∨ (am_kd μ (am_F μ (am_F μ r0 2) 14)).1 = 8)
    (h6 : ¬ (x2 < 0 ∨ (am_kd μ (am_F μ (am_F μ r0 2) 14)).2 ≤ x2.toNatClampNeg))
    (h7 : am_kd μ r0 = (1, 2))
    (h8 : am_kd (am_pA μ r0 9 (am_A μ (am_F μ (am_F μ r0 2) 14) x2.toNatClampNeg)) r0 = (1, 2))
    (h9 : am_kd (am_pA (am_pA μ r0 9 (am_A μ (am_F μ (am_F μ r0 2) 14) x2.toNatClampNeg)) r0 8 (Int32.ofInt 0)) r0 = (1, 2))
    (hk : am_kd (am_pA (am_pA μ r0 9 (am_A μ (am_F μ (am_F μ r0 2) 14) x2.toNatClampNeg)) r0 8 (Int32.ofInt 0)) r0 = (1, 2))
    (hc : Wp d 38 (0, [some (.ref r0), some (.int (am_A (am_pA (am_pA μ r0 9 (am_A μ (am_F μ (am_F μ r0 2) 14) x2.toNatClampNeg)) r0 8 (Int32.ofInt 0)) r0 9)), none, none, none], [], (am_pA (am_pA μ r0 9 (am_A μ (am_F μ (am_F μ r0 2) 14) x2.toNatClampNeg)) r0 8 (Int32.ofInt 0))) (pL P X)) (hr : ∀ x μ', P x μ' → Wp (d + 1) 37 (61, [some (.ref r0), some (.int x1), some (.int x2)], [.long x], (μ')) Q)
    (hx : ∀ x μ', X x μ' → Q (.inr x) μ') :
    Wp (d + 1) 37 (35, [some (.ref r0), some (.int x1), some (.int x2)], [], μ) Q := wp_blk rfl e37_35 (And.intro h1 (And.intro h2 (And.intro h3 (And.intro h4 (And.intro h5 (And.intro h6 (And.intro h7 (And.intro ⟨rfl, rfl⟩ (And.intro h8 (And.intro ⟨rfl, rfl⟩ (And.intro h9 (wp_cv (as := [.int (am_A (am_pA (am_pA μ r0 9 (am_A μ (am_F μ (am_F μ r0 2) 14) x2.toNatClampNeg)) r0 8 (Int32.ofInt 0)) r0 9)]) rfl e37_35_c rfl rfl rfl rfl rfl hk hc (fun v μ' hv => by obtain ⟨x, rfl, hp⟩ := pL_r hv; exact hr x μ' hp) hx))))))))))))
def q37_61 : List (Nat × Instr × Nat) := [(61, .lconst 0, 1), (62, .lcmp, 1), (63, .ifCond .le 8, 3)]
theorem e37_61 : am_dec am_M37 q37_61 = true := by decide +kernel
theorem b37_61 {d : Nat} {Q : Option Value ⊕ Nat → am_Mem → Prop} {μ : am_Mem} {r0 : Nat} {x1 x2 : Int32} {y90 : Int64}
    (k1 : (lg_cmp y90 (Int64.ofNat 0)) ≤ 0 → Wp d 37 (71, [some (.ref r0), some (.int x1), some (.int x2)], [], μ) Q) (k2 : ¬ ((lg_cmp y90 (Int64.ofNat 0)) ≤ 0) → Wp d 37 (66, [some (.ref r0), some (.int x1), some (.int x2)], [], μ) Q) :
    Wp d 37 (61, [some (.ref r0), some (.int x1), some (.int x2)], [.long y90], μ) Q := wp_blk rfl e37_61 (And.intro k1 k2)
def q37_66 : List (Nat × Instr × Nat) := [(66, .aload_n 0, 1), (67, .iconst 0, 1)]
theorem e37_66 : am_dec am_M37 q37_66 = true := by decide +kernel
theorem e37_66_c : am_dc1 am_M37 68 (.invokevirtual 178) 3 = true := by decide +kernel
theorem b37_66 {d : Nat} {Q : Option Value ⊕ Nat → am_Mem → Prop} {μ : am_Mem} {r0 : Nat} {x1 x2 : Int32} {P : am_Mem → Prop} {X : Nat → am_Mem → Prop}
    (hk : am_kd μ r0 = (1, 2))
    (hc : Wp d 39 (0, [some (.ref r0), some (.int (Int32.ofInt 0)), none, none, none, none, none, none, none, none, none], [], μ) (pV P X)) (hr : ∀ μ', P μ' → Wp (d + 1) 37 (71, [some (.ref r0), some (.int x1), some (.int x2)], [], (μ')) Q)
    (hx : ∀ x μ', X x μ' → Q (.inr x) μ') :
    Wp (d + 1) 37 (66, [some (.ref r0), some (.int x1), some (.int x2)], [], μ) Q := wp_blk rfl e37_66 (wp_cv (as := [.int (Int32.ofInt 0)]) rfl e37_66_c rfl rfl rfl rfl rfl hk hc (fun v μ' hv => by obtain ⟨rfl, hp⟩ := pV_r hv; exact hr μ' hp) hx)
def q37_71 : List (Nat × Instr × Nat) := [(71, .iinc 2 1, 3), (74, .goto (-52), 3)]
theorem e37_71 : am_dec am_M37 q37_71 = true := by decide +kernel
theorem b37_71 {d : Nat} {Q : Option Value ⊕ Nat → am_Mem → Prop} {μ : am_Mem} {r0 : Nat} {x1 x2 : Int32}
    (k : Wp d 37 (22, [some (.ref r0), some (.int x1), some (.int (x2 + Int32.ofInt 1))], [], μ) Q) :
    Wp d 37 (71, [some (.ref r0), some (.int x1), some (.int x2)], [], μ) Q := wp_blk rfl e37_71 k
theorem e37_77_r : am_dec am_M37 [(77, .return_, 1)] = true := by decide +kernel
theorem b37_77 {d : Nat} {Q : Option Value ⊕ Nat → am_Mem → Prop} {μ : am_Mem} {r0 : Nat} {x1 x2 : Int32}
    (k : Q (.inl none) μ) :
    Wp d 37 (77, [some (.ref r0), some (.int x1), some (.int x2)], [], μ) Q := (wp_rv rfl e37_77_r rfl k)
/-! RuleSheets$Model.roomOf(I)J -/
def q38_0 : List (Nat × Instr × Nat) := [(0, .lconst 1, 1), (1, .lstore_n 2, 1), (2, .iconst 0, 1), (3, .istore 4, 2)]
theorem e38_0 : am_dec am_M38 q38_0 = true := by decide +kernel
theorem b38_0 {d : Nat} {Q : Option Value ⊕ Nat → am_Mem → Prop} {μ : am_Mem} {r0 : Nat} {x1 : Int32}
    (k : Wp d 38 (5, [some (.ref r0), some (.int x1), some (.long (Int64.ofNat 1)), none, some (.int (Int32.ofInt 0))], [], μ) Q) :
    Wp d 38 (0, [some (.ref r0), some (.int x1), none, none, none], [], μ) Q := wp_blk rfl e38_0 k
def q38_5 : List (Nat × Instr × Nat) := [(5, .iload 4, 2), (7, .aload_n 0, 1), (8, .getfield 63, 3), (11, .getfield 156, 3), (14, .iload_n 1, 1), (15, .iaload, 1), (16, .if_icmp .ge 40, 3)]
theorem e38_5 : am_dec am_M38 q38_5 = true := by decide +kernel
theorem b38_5 {d : Nat} {Q : Option Value ⊕ Nat → am_Mem → Prop} {μ : am_Mem} {r0 : Nat} {x1 x4 : Int32} {y2 : Int64}
    (h1 : am_kd μ r0 = (1, 2))
    (h2 : ¬ am_F μ r0 2 = 15)
    (h3 : am_kd μ (am_F μ r0 2) = (1, 5))
    (h4 : ¬ am_F μ (am_F μ r0 2) 9 = 15)
    (h5 : (am_kd μ (am_F μ (am_F μ r0 2) 9)).1 = 2 ∨ (am_kd μ (am_F μ (am_F μ r0 2) 9)).1 = 8)
    (h6 : ¬ (x1 < 0 ∨ (am_kd μ (am_F μ (am_F μ r0 2) 9)).2 ≤ x1.toNatClampNeg))
    (k1 : (am_A μ (am_F μ (am_F μ r0 2) 9) x1.toNatClampNeg) ≤ x4 → Wp d 38 (56, [some (.ref r0), some (.int x1), some (.long y2), none, some (.int x4)], [], μ) Q) (k2 : ¬ ((am_A μ (am_F μ (am_F μ r0 2) 9) x1.toNatClampNeg) ≤ x4) → Wp d 38 (19, [some (.ref r0), some (.int x1), some (.long y2), none, some (.int x4)], [], μ) Q) :
    Wp d 38 (5, [some (.ref r0), some (.int x1), some (.long y2), none, some (.int x4)], [], μ) Q := wp_blk rfl e38_5 (And.intro h1 (And.intro h2 (And.intro h3 (And.intro h4 (And.intro h5 (And.intro h6 (And.intro k1 k2)))))))
def q38_19 : List (Nat × Instr × Nat) := [(19, .aload_n 0, 1), (20, .getfield 12, 3), (23, .getfield 159, 3), (26, .aload_n 0, 1), (27, .getfield 63, 3), (30, .getfield 104, 3), (33, .aload_n 0, 1), (34, .getfield 63, 3), (37, .iload_n 1, 1), (38, .iload 4, 2)]
theorem e38_19 : am_dec am_M38 q38_19 = true := by decide +kernel
theorem e38_19_c : am_dc1 am_M38 40 (.invokevirtual 162) 3 = true := by decide +kernel
theorem b38_19 {d : Nat} {Q : Option Value ⊕ Nat → am_Mem → Prop} {μ : am_Mem} {r0 : Nat} {x1 x4 : Int32} {y2 : Int64} {P : Int32 → am_Mem → Prop} {X : Nat → am_Mem → Prop}
    (h1 : am_kd μ r0 = (1, 2))
    (h2 : ¬ am_F μ r0 1 = 15)
    (h3 : am_kd μ (am_F μ r0 1) = (1, 1))
    (h4 : ¬ am_F μ (am_F μ r0 1) 6 = 15)
    (h5 : am_kd μ r0 = (1, 2))
    (h6 : ¬ am_F μ r0 2 = 15)
    (h7 : am_kd μ (am_F μ r0 2) = (1, 5))
    (h8 : ¬ am_F μ (am_F μ r0 2) 1 = 15)
    (h9 : am_kd μ r0 = (1, 2))
    (h10 : ¬ am_F μ r0 2 = 15)
    (hk : am_kd μ (am_F μ r0 2) = (1, 5))
    (hc : Wp d 69 (0, [some (.ref (am_F μ r0 2)), some (.int x1), some (.int x4)], [], μ) (pI P X)) (hr : ∀ x μ', P x μ' → Wp (d + 1) 38 (43, [some (.ref r0), some (.int x1), some (.long y2), none, some (.int x4)], [.int x, .ref (am_F μ (am_F μ r0 2) 1), .ref (am_F μ (am_F μ r0 1) 6)], (μ')) Q)
    (hx : ∀ x μ', X x μ' → Q (.inr x) μ') :
    Wp (d + 1) 38 (19, [some (.ref r0), some (.int x1), some (.long y2), none, some (.int x4)], [], μ) Q := wp_blk rfl e38_19 (And.intro h1 (And.intro h2 (And.intro h3 (And.intro h4 (And.intro h5 (And.intro h6 (And.intro h7 (And.intro h8 (And.intro h9 (And.intro h10 (wp_cv (as := [.int x1, .int x4]) rfl e38_19_c rfl rfl rfl rfl rfl hk hc (fun v μ' hv => by obtain ⟨x, rfl, hp⟩ := pI_r hv; exact hr x μ' hp) hx)))))))))))
def q38_43 : List (Nat × Instr × Nat) := [(43, .iaload, 1), (44, .iaload, 1), (45, .ifCond .ne 5, 3)]
theorem e38_43 : am_dec am_M38 q38_43 = true := by decide +kernel
theorem b38_43 {d : Nat} {Q : Option Value ⊕ Nat → am_Mem → Prop} {μ : am_Mem} {r0 r90 r91 : Nat} {x1 x4 s2 : Int32} {y2 : Int64}
    (h1 : (am_kd μ r91).1 = 2 ∨ (am_kd μ r91).1 = 8)
    (h2 : ¬ (s2 < 0 ∨ (am_kd μ r91).2 ≤ s2.toNatClampNeg))
    (h3 : (am_kd μ r90).1 = 2 ∨ (am_kd μ r90).1 = 8)
    (h4 : ¬ ((am_A μ r91 s2.toNatClampNeg) < 0 ∨ (am_kd μ r90).2 ≤ (am_A μ r91 s2.toNatClampNeg).toNatClampNeg))
    (k1 : ¬ (am_A μ r90 (am_A μ r91 s2.toNatClampNeg).toNatClampNeg) = 0 → Wp d 38 (50, [some (.ref r0), some (.int x1), some (.long y2), none, some (.int x4)], [], μ) Q) (k2 : ¬ (¬ (am_A μ r90 (am_A μ r91 s2.toNatClampNeg).toNatClampNeg) = 0) → Wp d 38 (48, [some (.ref r0), some (.int x1), some (.long y2), none, some (.int x4)], [], μ) Q) :
    Wp d 38 (43, [some (.ref r0), some (.int x1), some (.long y2), none, some (.int x4)], [.int s2, .ref r91, .ref r90], μ) Q := wp_blk rfl e38_43 (And.intro h1 (And.intro h2 (And.intro h3 (And.intro h4 (And.intro k1 k2)))))
def q38_48 : List (Nat × Instr × Nat) := [(48, .lconst 0, 1)]
theorem e38_48 : am_dec am_M38 q38_48 = true := by decide +kernel
theorem e38_48_r : am_dec am_M38 [(49, .lreturn, 1)] = true := by decide +kernel
theorem b38_48 {d : Nat} {Q : Option Value ⊕ Nat → am_Mem → Prop} {μ : am_Mem} {r0 : Nat} {x1 x4 : Int32} {y2 : Int64}
    (k : Q (.inl (some (.long (Int64.ofNat 0)))) μ) :
    Wp d 38 (48, [some (.ref r0), some (.int x1), some (.long y2), none, some (.int x4)], [], μ) Q := wp_blk rfl e38_48 (wp_rl rfl e38_48_r rfl k)
def q38_50 : List (Nat × Instr × Nat) := [(50, .iinc 4 1, 3), (53, .goto (-48), 3)]
theorem e38_50 : am_dec am_M38 q38_50 = true := by decide +kernel
theorem b38_50 {d : Nat} {Q : Option Value ⊕ Nat → am_Mem → Prop} {μ : am_Mem} {r0 : Nat} {x1 x4 : Int32} {y2 : Int64}
    (k : Wp d 38 (5, [some (.ref r0), some (.int x1), some (.long y2), none, some (.int (x4 + Int32.ofInt 1))], [], μ) Q) :
    Wp d 38 (50, [some (.ref r0), some (.int x1), some (.long y2), none, some (.int x4)], [], μ) Q := wp_blk rfl e38_50 k
def q38_56 : List (Nat × Instr × Nat) := [(56, .iconst 0, 1), (57, .istore 4, 2)]
theorem e38_56 : am_dec am_M38 q38_56 = true := by decide +kernel
theorem b38_56 {d : Nat} {Q : Option Value ⊕ Nat → am_Mem → Prop} {μ : am_Mem} {r0 : Nat} {x1 x4 : Int32} {y2 : Int64}
    (k : Wp d 38 (59, [some (.ref r0), some (.int x1), some (.long y2), none, some (.int (Int32.ofInt 0))], [], μ) Q) :
    Wp d 38 (56, [some (.ref r0), some (.int x1), some (.long y2), none, some (.int x4)], [], μ) Q := wp_blk rfl e38_56 k
def q38_59 : List (Nat × Instr × Nat) := [(59, .iload 4, 2), (61, .aload_n 0, 1), (62, .getfield 63, 3), (65, .getfield 156, 3), (68, .iload_n 1, 1), (69, .iaload, 1), (70, .if_icmp .ge 57, 3)]
theorem e38_59 : am_dec am_M38 q38_59 = true := by decide +kernel
theorem b38_59 {d : Nat} {Q : Option Value ⊕ Nat → am_Mem → Prop} {μ : am_Mem} {r0 : Nat} {x1 x4 : Int32} {y2 : Int64}
    (h1 : am_kd μ r0 = (1, 2))
    (h2 : ¬ am_F μ r0 2 = 15)
    (h3 : am_kd μ (am_F μ r0 2) = (1, 5))
    (h4 : ¬ am_F μ (am_F μ r0 2) 9 = 15)
    (h5 : (am_kd μ (am_F μ (am_F μ r0 2) 9)).1 = 2 ∨ (am_kd μ (am_F μ (am_F μ r0 2) 9)).1 = 8)
    (h6 : ¬ (x1 < 0 ∨ (am_kd μ (am_F μ (am_F μ r0 2) 9)).2 ≤ x1.toNatClampNeg))
    (k1 : (am_A μ (am_F μ (am_F μ r0 2) 9) x1.toNatClampNeg) ≤ x4 → Wp d 38 (127, [some (.ref r0), some (.int x1), some (.long y2), none, some (.int x4)], [], μ) Q) (k2 : ¬ ((am_A μ (am_F μ (am_F μ r0 2) 9) x1.toNatClampNeg) ≤ x4) → Wp d 38 (73, [some (.ref r0), some (.int x1), some (.long y2), none, some (.int x4)], [], μ) Q) :
    Wp d 38 (59, [some (.ref r0), some (.int x1), some (.long y2), none, some (.int x4)], [], μ) Q := wp_blk rfl e38_59 (And.intro h1 (And.intro h2 (And.intro h3 (And.intro h4 (And.intro h5 (And.intro h6 (And.intro k1 k2)))))))
def q38_73 : List (Nat × Instr × Nat) := [(73, .lload_n 2, 1), (74, .aload_n 0, 1), (75, .getfield 12, 3), (78, .getfield 159, 3), (81, .aload_n 0, 1), (82, .getfield 63, 3), (85, .getfield 104, 3), (88, .aload_n 0, 1), (89, .getfield 63, 3), (92, .iload_n 1, 1), (93, .iload 4, 2)]
theorem e38_73 : am_dec am_M38 q38_73 = true := by decide +kernel
theorem e38_73_c : am_dc1 am_M38 95 (.invokevirtual 162) 3 = true := by decide +kernel
theorem b38_73 {d : Nat} {Q : Option Value ⊕ Nat → am_Mem → Prop} {μ : am_Mem} {r0 : Nat} {x1 x4 : Int32} {y2 : Int64} {P : Int32 → am_Mem → Prop} {X : Nat → am_Mem → Prop}
    (h1 : am_kd μ r0 = (1, 2))
    (h2 : ¬ am_F μ r0 1 = 15)
    (h3 : am_kd μ (am_F μ r0 1) = (1, 1))
    (h4 : ¬ am_F μ (am_F μ r0 1) 6 = 15)
    (h5 : am_kd μ r0 = (1, 2))
    (h6 : ¬ am_F μ r0 2 = 15)
    (h7 : am_kd μ (am_F μ r0 2) = (1, 5))
    (h8 : ¬ am_F μ (am_F μ r0 2) 1 = 15)
    (h9 : am_kd μ r0 = (1, 2))
    (h10 : ¬ am_F μ r0 2 = 15)
    (hk : am_kd μ (am_F μ r0 2) = (1, 5))
    (hc : Wp d 69 (0, [some (.ref (am_F μ r0 2)), some (.int x1), some (.int x4)], [], μ) (pI P X)) (hr : ∀ x μ', P x μ' → Wp (d + 1) 38 (98, [some (.ref r0), some (.int x1), some (.long y2), none, some (.int x4)], [.int x, .ref (am_F μ (am_F μ r0 2) 1), .ref (am_F μ (am_F μ r0 1) 6), .long y2], (μ')) Q)
    (hx : ∀ x μ', X x μ' → Q (.inr x) μ') :
    Wp (d + 1) 38 (73, [some (.ref r0), some (.int x1), some (.long y2), none, some (.int x4)], [], μ) Q := wp_blk rfl e38_73 (And.intro h1 (And.intro h2 (And.intro h3 (And.intro h4 (And.intro h5 (And.intro h6 (And.intro h7 (And.intro h8 (And.intro h9 (And.intro h10 (wp_cv (as := [.int x1, .int x4]) rfl e38_73_c rfl rfl rfl rfl rfl hk hc (fun v μ' hv => by obtain ⟨x, rfl, hp⟩ := pI_r hv; exact hr x μ' hp) hx)))))))))))
def q38_98 : List (Nat × Instr × Nat) := [(98, .iaload, 1), (99, .iaload, 1), (100, .i2l, 1), (101, .lmul, 1), (102, .lstore_n 2, 1), (103, .lload_n 2, 1), (104, .ldc2_w 165, 3), (107, .lcmp, 1), (108, .ifCond .le 13, 3)]
theorem e38_98 : am_dec am_M38 q38_98 = true := by decide +kernel
theorem b38_98 {d : Nat} {Q : Option Value ⊕ Nat → am_Mem → Prop} {μ : am_Mem} {r0 r91 r92 : Nat} {x1 x4 s3 : Int32} {y2 y90 : Int64}
    (h1 : (am_kd μ r92).1 = 2 ∨ (am_kd μ r92).1 = 8)
    (h2 : ¬ (s3 < 0 ∨ (am_kd μ r92).2 ≤ s3.toNatClampNeg))
    (h3 : (am_kd μ r91).1 = 2 ∨ (am_kd μ r91).1 = 8)
    (h4 : ¬ ((am_A μ r92 s3.toNatClampNeg) < 0 ∨ (am_kd μ r91).2 ≤ (am_A μ r92 s3.toNatClampNeg).toNatClampNeg))
    (k1 : (lg_cmp (y90 * ((am_A μ r91 (am_A μ r92 s3.toNatClampNeg).toNatClampNeg).toInt64)) (300000 : Int64)) ≤ 0 → Wp d 38 (121, [some (.ref r0), some (.int x1), some (.long (y90 * ((am_A μ r91 (am_A μ r92 s3.toNatClampNeg).toNatClampNeg).toInt64))), none, some (.int x4)], [], μ) Q) (k2 : ¬ ((lg_cmp (y90 * ((am_A μ r91 (am_A μ r92 s3.toNatClampNeg).toNatClampNeg).toInt64)) (300000 : Int64)) ≤ 0) → Wp d 38 (111, [some (.ref r0), some (.int x1), some (.long (y90 * ((am_A μ r91 (am_A μ r92 s3.toNatClampNeg).toNatClampNeg).toInt64))), none, some (.int x4)], [], μ) Q) :
    Wp d 38 (98, [some (.ref r0), some (.int x1), some (.long y2), none, some (.int x4)], [.int s3, .ref r92, .ref r91, .long y90], μ) Q := wp_blk rfl e38_98 (And.intro h1 (And.intro h2 (And.intro h3 (And.intro h4 (And.intro k1 k2)))))
theorem e38_111_t : am_dc1 am_M38 111 (.new 138) 3 = true ∧ am_throw GG 2 38 111 (.new 138) = some 3 := by decide +kernel
theorem b38_111 {d : Nat} {Q : Option Value ⊕ Nat → am_Mem → Prop} {μ : am_Mem} {r0 : Nat} {x1 x4 : Int32} {y2 : Int64}
    (k : Q (.inr 3) (am_nX μ)) :
    Wp d 38 (111, [some (.ref r0), some (.int x1), some (.long y2), none, some (.int x4)], [], μ) Q := (wp_throw rfl e38_111_t.1 ⟨_, rfl⟩ rfl e38_111_t.2 rfl k)
def q38_121 : List (Nat × Instr × Nat) := [(121, .iinc 4 1, 3), (124, .goto (-65), 3)]
theorem e38_121 : am_dec am_M38 q38_121 = true := by decide +kernel
theorem b38_121 {d : Nat} {Q : Option Value ⊕ Nat → am_Mem → Prop} {μ : am_Mem} {r0 : Nat} {x1 x4 : Int32} {y2 : Int64}
    (k : Wp d 38 (59, [some (.ref r0), some (.int x1), some (.long y2), none, some (.int (x4 + Int32.ofInt 1))], [], μ) Q) :
    Wp d 38 (121, [some (.ref r0), some (.int x1), some (.long y2), none, some (.int x4)], [], μ) Q := wp_blk rfl e38_121 k
def q38_127 : List (Nat × Instr × Nat) := [(127, .lload_n 2, 1)]
theorem e38_127 : am_dec am_M38 q38_127 = true := by decide +kernel
theorem e38_127_r : am_dec am_M38 [(128, .lreturn, 1)] = true := by decide +kernel
theorem b38_127 {d : Nat} {Q : Option Value ⊕ Nat → am_Mem → Prop} {μ : am_Mem} {r0 : Nat} {x1 x4 : Int32} {y2 : Int64}
    (k : Q (.inl (some (.long y2))) μ) :
    Wp d 38 (127, [some (.ref r0), some (.int x1), some (.long y2), none, some (.int x4)], [], μ) Q := wp_blk rfl e38_127 (wp_rl rfl e38_127_r rfl k)
/-! RuleSheets$Model.join(I)V -/
def q39_0 : List (Nat × Instr × Nat) := [(0, .iload_n 1, 1), (1, .aload_n 0, 1), (2, .getfield 63, 3), (5, .getfield 156, 3), (8, .aload_n 0, 1), (9, .getfield 38, 3), (12, .iaload, 1), (13, .if_icmp .lt 8, 3)]
theorem e39_0 : am_dec am_M39 q39_0 = true := by decide +kernel
theorem b39_0 {d : Nat} {Q : Option Value ⊕ Nat → am_Mem → Prop} {μ : am_Mem} {r0 : Nat} {x1 : Int32}
    (h1 : am_kd μ r0 = (1, 2))
    (h2 : ¬ am_F μ r0 2 = 15)
    (h3 : am_kd μ (am_F μ r0 2) = (1, 5))
    (h4 : ¬ am_F μ (am_F μ r0 2) 9 = 15)
    (h5 : am_kd μ r0 = (1, 2))
    (h6 : (am_kd μ (am_F μ (am_F μ r0 2) 9)).1 = 2 ∨ (am_kd μ (am_F μ (am_F μ r0 2) 9)).1 = 8)
    (h7 : ¬ ((am_A μ r0 9) < 0 ∨ (am_kd μ (am_F μ (am_F μ r0 2) 9)).2 ≤ (am_A μ r0 9).toNatClampNeg))
    (k1 : x1 < (am_A μ (am_F μ (am_F μ r0 2) 9) (am_A μ r0 9).toNatClampNeg) → Wp d 39 (21, [some (.ref r0), some (.int x1), none, none, none, none, none, none, none, none, none], [], μ) Q) (k2 : ¬ (x1 < (am_A μ (am_F μ (am_F μ r0 2) 9) (am_A μ r0 9).toNatClampNeg)) → Wp d 39 (16, [some (.ref r0), some (.int x1), none, none, none, none, none, none, none, none, none], [], μ) Q) :
    Wp d 39 (0, [some (.ref r0), some (.int x1), none, none, none, none, none, none, none, none, none], [], μ) Q := wp_blk rfl e39_0 (And.intro h1 (And.intro h2 (And.intro h3 (And.intro h4 (And.intro h5 (And.intro h6 (And.intro h7 (And.intro k1 k2))))))))
def q39_16 : List (Nat × Instr × Nat) := [(16, .aload_n 0, 1)]
theorem e39_16 : am_dec am_M39 q39_16 = true := by decide +kernel
theorem e39_16_c : am_dc1 am_M39 17 (.invokevirtual 188) 3 = true := by decide +kernel
theorem b39_16 {d : Nat} {Q : Option Value ⊕ Nat → am_Mem → Prop} {μ : am_Mem} {r0 : Nat} {x1 : Int32} {P : am_Mem → Prop} {X : Nat → am_Mem → Prop}
    (hk : am_kd μ r0 = (1, 2))
    (hc : Wp d 40 (0, [some (.ref r0), none, none, none, none, none], [], μ) (pV P X)) (hr : ∀ μ', P μ' → Wp (d + 1) 39 (20, [some (.ref r0), some (.int x1), none, none, none, none, none, none, none, none, none], [], (μ')) Q)
    (hx : ∀ x μ', X x μ' → Q (.inr x) μ') :
    Wp (d + 1) 39 (16, [some (.ref r0), some (.int x1), none, none, none, none, none, none, none, none, none], [], μ) Q := wp_blk rfl e39_16 (wp_cv (as := []) rfl e39_16_c rfl rfl rfl rfl rfl hk hc (fun v μ' hv => by obtain ⟨rfl, hp⟩ := pV_r hv; exact hr μ' hp) hx)
theorem e39_20_r : am_dec am_M39 [(20, .return_, 1)] = true := by decide +kernel
theorem b39_20 {d : Nat} {Q : Option Value ⊕ Nat → am_Mem → Prop} {μ : am_Mem} {r0 : Nat} {x1 : Int32}
    (k : Q (.inl none) μ) :
    Wp d 39 (20, [some (.ref r0), some (.int x1), none, none, none, none, none, none, none, none, none], [], μ) Q := (wp_rv rfl e39_20_r rfl k)
def q39_21 : List (Nat × Instr × Nat) := [(21, .iload_n 1, 1), (22, .aload_n 0, 1), (23, .getfield 41, 3), (26, .if_icmp .ne 11, 3)]
theorem e39_21 : am_dec am_M39 q39_21 = true := by decide +kernel
theorem b39_21 {d : Nat} {Q : Option Value ⊕ Nat → am_Mem → Prop} {μ : am_Mem} {r0 : Nat} {x1 : Int32}
    (h1 : am_kd μ r0 = (1, 2))
    (k1 : ¬ x1 = (am_A μ r0 10) → Wp d 39 (37, [some (.ref r0), some (.int x1), none, none, none, none, none, none, none, none, none], [], μ) Q) (k2 : ¬ (¬ x1 = (am_A μ r0 10)) → Wp d 39 (29, [some (.ref r0), some (.int x1), none, none, none, none, none, none, none, none, none], [], μ) Q) :
    Wp d 39 (21, [some (.ref r0), some (.int x1), none, none, none, none, none, none, none, none, none], [], μ) Q := wp_blk rfl e39_21 (And.intro h1 (And.intro k1 k2))
def q39_29 : List (Nat × Instr × Nat) := [(29, .aload_n 0, 1), (30, .iload_n 1, 1), (31, .iconst 1, 1), (32, .iadd, 1)]
theorem e39_29 : am_dec am_M39 q39_29 = true := by decide +kernel
theorem e39_29_c : am_dc1 am_M39 33 (.invokevirtual 178) 3 = true := by decide +kernel
theorem b39_29 {d : Nat} {Q : Option Value ⊕ Nat → am_Mem → Prop} {μ : am_Mem} {r0 : Nat} {x1 : Int32} {P : am_Mem → Prop} {X : Nat → am_Mem → Prop}
    (hk : am_kd μ r0 = (1, 2))
    (hc : Wp d 39 (0, [some (.ref r0), some (.int (x1 + (Int32.ofInt 1))), none, none, none, none, none, none, none, none, none], [], μ) (pV P X)) (hr : ∀ μ', P μ' → Wp (d + 1) 39 (36, [some (.ref r0), some (.int x1), none, none, none, none, none, none, none, none, none], [], (μ')) Q)
    (hx : ∀ x μ', X x μ' → Q (.inr x) μ') :
    Wp (d + 1) 39 (29, [some (.ref r0), some (.int x1), none, none, none, none, none, none, none, none, none], [], μ) Q := wp_blk rfl e39_29 (wp_cv (as := [.int (x1 + (Int32.ofInt 1))]) rfl e39_29_c rfl rfl rfl rfl rfl hk hc (fun v μ' hv => by obtain ⟨rfl, hp⟩ := pV_r hv; exact hr μ' hp) hx)
theorem e39_36_r : am_dec am_M39 [(36, .return_, 1)] = true := by decide +kernel
theorem b39_36 {d : Nat} {Q : Option Value ⊕ Nat → am_Mem → Prop} {μ : am_Mem} {r0 : Nat} {x1 : Int32}
    (k : Q (.inl none) μ) :
    Wp d 39 (36, [some (.ref r0), some (.int x1), none, none, none, none, none, none, none, none, none], [], μ) Q := (wp_rv rfl e39_36_r rfl k)
def q39_37 : List (Nat × Instr × Nat) := [(37, .aload_n 0, 1), (38, .getfield 63, 3), (41, .aload_n 0, 1), (42, .getfield 38, 3), (45, .iload_n 1, 1)]
theorem e39_37 : am_dec am_M39 q39_37 = true := by decide +kernel
theorem e39_37_c : am_dc1 am_M39 46 (.invokevirtual 162) 3 = true := by decide +kernel
theorem b39_37 {d : Nat} {Q : Option Value ⊕ Nat → am_Mem → Prop} {μ : am_Mem} {r0 : Nat} {x1 : Int32} {P : Int32 → am_Mem → Prop} {X : Nat → am_Mem → Prop}
    (h1 : am_kd μ r0 = (1, 2))
    (h2 : ¬ am_F μ r0 2 = 15)
    (h3 : am_kd μ r0 = (1, 2))
    (hk : am_kd μ (am_F μ r0 2) = (1, 5))
    (hc : Wp d 69 (0, [some (.ref (am_F μ r0 2)), some (.int (am_A μ r0 9)), some (.int x1)], [], μ) (pI P X)) (hr : ∀ x μ', P x μ' → Wp (d + 1) 39 (49, [some (.ref r0), some (.int x1), none, none, none, none, none, none, none, none, none], [.int x], (μ')) Q)
    (hx : ∀ x μ', X x μ' → Q (.inr x) μ') :
    Wp (d + 1) 39 (37, [some (.ref r0), some (.int x1), none, none, none, none, none, none, none, none, none], [], μ) Q := wp_blk rfl e39_37 (And.intro h1 (And.intro h2 (And.intro h3 (wp_cv (as := [.int (am_A μ r0 9), .int x1]) rfl e39_37_c rfl rfl rfl rfl rfl hk hc (fun v μ' hv => by obtain ⟨x, rfl, hp⟩ := pI_r hv; exact hr x μ' hp) hx))))
def q39_49 : List (Nat × Instr × Nat) := [(49, .istore_n 2, 1), (50, .iload_n 1, 1), (51, .aload_n 0, 1), (52, .getfield 41, 3), (55, .if_icmp .ge 12, 3)]
theorem e39_49 : am_dec am_M39 q39_49 = true := by decide +kernel
theorem b39_49 {d : Nat} {Q : Option Value ⊕ Nat → am_Mem → Prop} {μ : am_Mem} {r0 : Nat} {x1 s0 : Int32}
    (h1 : am_kd μ r0 = (1, 2))
    (k1 : (am_A μ r0 10) ≤ x1 → Wp d 39 (67, [some (.ref r0), some (.int x1), some (.int s0), none, none, none, none, none, none, none, none], [], μ) Q) (k2 : ¬ ((am_A μ r0 10) ≤ x1) → Wp d 39 (58, [some (.ref r0), some (.int x1), some (.int s0), none, none, none, none, none, none, none, none], [], μ) Q) :
    Wp d 39 (49, [some (.ref r0), some (.int x1), none, none, none, none, none, none, none, none, none], [.int s0], μ) Q := wp_blk rfl e39_49 (And.intro h1 (And.intro k1 k2))
def q39_58 : List (Nat × Instr × Nat) := [(58, .aload_n 0, 1), (59, .getfield 44, 3), (62, .iconst 1, 1), (63, .isub, 1), (64, .goto 7, 3)]
theorem e39_58 : am_dec am_M39 q39_58 = true := by decide +kernel
theorem b39_58 {d : Nat} {Q : Option Value ⊕ Nat → am_Mem → Prop} {μ : am_Mem} {r0 : Nat} {x1 x2 : Int32}
    (h1 : am_kd μ r0 = (1, 2))
    (k : Wp d 39 (71, [some (.ref r0), some (.int x1), some (.int x2), none, none, none, none, none, none, none, none], [.int ((am_A μ r0 11) - (Int32.ofInt 1))], μ) Q) :
    Wp d 39 (58, [some (.ref r0), some (.int x1), some (.int x2), none, none, none, none, none, none, none, none], [], μ) Q := wp_blk rfl e39_58 (And.intro h1 k)
def q39_67 : List (Nat × Instr × Nat) := [(67, .aload_n 0, 1), (68, .getfield 44, 3)]
theorem e39_67 : am_dec am_M39 q39_67 = true := by decide +kernel
theorem b39_67 {d : Nat} {Q : Option Value ⊕ Nat → am_Mem → Prop} {μ : am_Mem} {r0 : Nat} {x1 x2 : Int32}
    (h1 : am_kd μ r0 = (1, 2))
    (k : Wp d 39 (71, [some (.ref r0), some (.int x1), some (.int x2), none, none, none, none, none, none, none, none], [.int (am_A μ r0 11)], μ) Q) :
    Wp d 39 (67, [some (.ref r0), some (.int x1), some (.int x2), none, none, none, none, none, none, none, none], [], μ) Q := wp_blk rfl e39_67 (And.intro h1 k)
def q39_71 : List (Nat × Instr × Nat) := [(71, .istore_n 3, 1), (72, .aload_n 0, 1), (73, .getfield 63, 3), (76, .getfield 92, 3), (79, .iload_n 2, 1), (80, .iaload, 1), (81, .aload_n 0, 1), (82, .getfield 35, 3), (85, .iconst (-1), 1), (86, .ixor, 1), (87, .iand, 1), (88, .ifCond .ne 30, 3)]
theorem e39_71 : am_dec am_M39 q39_71 = true := by decide +kernel
theorem b39_71 {d : Nat} {Q : Option Value ⊕ Nat → am_Mem → Prop} {μ : am_Mem} {r0 : Nat} {x1 x2 s0 : Int32}
    (h1 : am_kd μ r0 = (1, 2))
    (h2 : ¬ am_F μ r0 2 = 15)
    (h3 : am_kd μ (am_F μ r0 2) = (1, 5))
    (h4 : ¬ am_F μ (am_F μ r0 2) 5 = 15)
    (h5 : (am_kd μ (am_F μ (am_F μ r0 2) 5)).1 = 2 ∨ (am_kd μ (am_F μ (am_F μ r0 2) 5)).1 = 8)
    (h6 : ¬ (x2 < 0 ∨ (am_kd μ (am_F μ (am_F μ r0 2) 5)).2 ≤ x2.toNatClampNeg))
    (h7 : am_kd μ r0 = (1, 2))
    (k1 : ¬ ((am_A μ (am_F μ (am_F μ r0 2) 5) x2.toNatClampNeg) &&& ((am_A μ r0 8) ^^^ (Int32.ofInt (-1)))) = 0 → Wp d 39 (118, [some (.ref r0), some (.int x1), some (.int x2), some (.int s0), none, none, none, none, none, none, none], [], μ) Q) (k2 : ¬ (¬ ((am_A μ (am_F μ (am_F μ r0 2) 5) x2.toNatClampNeg) &&& ((am_A μ r0 8) ^^^ (Int32.ofInt (-1)))) = 0) → Wp d 39 (91, [some (.ref r0), some (.int x1), some (.int x2), some (.int s0), none, none, none, none, none, none, none], [], μ) Q) :
    Wp d 39 (71, [some (.ref r0), some (.int x1), some (.int x2), none, none, none, none, none, none, none, none], [.int s0], μ) Q := wp_blk rfl e39_71 (And.intro h1 (And.intro h2 (And.intro h3 (And.intro h4 (And.intro h5 (And.intro h6 (And.intro h7 (And.intro k1 k2))))))))
def q39_91 : List (Nat × Instr × Nat) := [(91, .aload_n 0, 1), (92, .iload_n 2, 1)]
theorem e39_91 : am_dec am_M39 q39_91 = true := by decide +kernel
theorem e39_91_c : am_dc1 am_M39 93 (.invokevirtual 191) 3 = true := by decide +kernel
theorem b39_91 {d : Nat} {Q : Option Value ⊕ Nat → am_Mem → Prop} {μ : am_Mem} {r0 : Nat} {x1 x2 x3 : Int32} {P : Int32 → am_Mem → Prop} {X : Nat → am_Mem → Prop}
    (hk : am_kd μ r0 = (1, 2))
    (hc : Wp d 42 (0, [some (.ref r0), some (.int x2), none, none], [], μ) (pI P X)) (hr : ∀ x μ', P x μ' → Wp (d + 1) 39 (96, [some (.ref r0), some (.int x1), some (.int x2), some (.int x3), none, none, none, none, none, none, none], [.int x], (μ')) Q)
    (hx : ∀ x μ', X x μ' → Q (.inr x) μ') :
    Wp (d + 1) 39 (91, [some (.ref r0), some (.int x1), some (.int x2), some (.int x3), none, none, none, none, none, none, none], [], μ) Q := wp_blk rfl e39_91 (wp_cv (as := [.int x2]) rfl e39_91_c rfl rfl rfl rfl rfl hk hc (fun v μ' hv => by obtain ⟨x, rfl, hp⟩ := pI_r hv; exact hr x μ' hp) hx)
def q39_96 : List (Nat × Instr × Nat) := [(96, .istore 4, 2), (98, .iload 4, 2), (100, .iconst (-1), 1), (101, .if_icmp .eq 16, 3)]
theorem e39_96 : am_dec am_M39 q39_96 = true := by decide +kernel
theorem b39_96 {d : Nat} {Q : Option Value ⊕ Nat → am_Mem → Prop} {μ : am_Mem} {r0 : Nat} {x1 x2 x3 s0 : Int32}
    (k1 : s0 = (Int32.ofInt (-1)) → Wp d 39 (117, [some (.ref r0), some (.int x1), some (.int x2), some (.int x3), some (.int s0), none, none, none, none, none, none], [], μ) Q) (k2 : ¬ (s0 = (Int32.ofInt (-1))) → Wp d 39 (104, [some (.ref r0), some (.int x1), some (.int x2), some (.int x3), some (.int s0), none, none, none, none, none, none], [], μ) Q) :
    Wp d 39 (96, [some (.ref r0), some (.int x1), some (.int x2), some (.int x3), none, none, none, none, none, none, none], [.int s0], μ) Q := wp_blk rfl e39_96 (And.intro k1 k2)
def q39_104 : List (Nat × Instr × Nat) := [(104, .iload 4, 2), (106, .iload_n 3, 1), (107, .if_icmp .gt 10, 3)]
theorem e39_104 : am_dec am_M39 q39_104 = true := by decide +kernel
theorem b39_104 {d : Nat} {Q : Option Value ⊕ Nat → am_Mem → Prop} {μ : am_Mem} {r0 : Nat} {x1 x2 x3 x4 : Int32}
    (k1 : x3 < x4 → Wp d 39 (117, [some (.ref r0), some (.int x1), some (.int x2), some (.int x3), some (.int x4), none, none, none, none, none, none], [], μ) Q) (k2 : ¬ (x3 < x4) → Wp d 39 (110, [some (.ref r0), some (.int x1), some (.int x2), some (.int x3), some (.int x4), none, none, none, none, none, none], [], μ) Q) :
    Wp d 39 (104, [some (.ref r0), some (.int x1), some (.int x2), some (.int x3), some (.int x4), none, none, none, none, none, none], [], μ) Q := wp_blk rfl e39_104 (And.intro k1 k2)
def q39_110 : List (Nat × Instr × Nat) := [(110, .aload_n 0, 1), (111, .iload_n 1, 1), (112, .iconst 1, 1), (113, .iadd, 1)]
theorem e39_110 : am_dec am_M39 q39_110 = true := by decide +kernel
theorem e39_110_c : am_dc1 am_M39 114 (.invokevirtual 178) 3 = true := by decide +kernel
theorem b39_110 {d : Nat} {Q : Option Value ⊕ Nat → am_Mem → Prop} {μ : am_Mem} {r0 : Nat} {x1 x2 x3 x4 : Int32} {P : am_Mem → Prop} {X : Nat → am_Mem → Prop}
    (hk : am_kd μ r0 = (1, 2))
    (hc : Wp d 39 (0, [some (.ref r0), some (.int (x1 + (Int32.ofInt 1))), none, none, none, none, none, none, none, none, none], [], μ) (pV P X)) (hr : ∀ μ', P μ' → Wp (d + 1) 39 (117, [some (.ref r0), some (.int x1), some (.int x2), some (.int x3), some (.int x4), none, none, none, none, none, none], [], (μ')) Q)
    (hx : ∀ x μ', X x μ' → Q (.inr x) μ') :
    Wp (d + 1) 39 (110, [some (.ref r0), some (.int x1), some (.int x2), some (.int x3), some (.int x4), none, none, none, none, none, none], [], μ) Q := wp_blk rfl e39_110 (wp_cv (as := [.int (x1 + (Int32.ofInt 1))]) rfl e39_110_c rfl rfl rfl rfl rfl hk hc (fun v μ' hv => by obtain ⟨rfl, hp⟩ := pV_r hv; exact hr μ' hp) hx)
theorem e39_117_r : am_dec am_M39 [(117, .return_, 1)] = true := by decide +kernel
theorem b39_117 {d : Nat} {Q : Option Value ⊕ Nat → am_Mem → Prop} {μ : am_Mem} {r0 : Nat} {x1 x2 x3 x4 : Int32}
    (k : Q (.inl none) μ) :
    Wp d 39 (117, [some (.ref r0), some (.int x1), some (.int x2), some (.int x3), some (.int x4), none, none, none, none, none, none], [], μ) Q := (wp_rv rfl e39_117_r rfl k)
def q39_118 : List (Nat × Instr × Nat) := [(118, .aload_n 0, 1), (119, .getfield 63, 3), (122, .getfield 120, 3), (125, .aload_n 0, 1), (126, .getfield 38, 3), (129, .iaload, 1), (130, .istore 4, 2), (132, .aload_n 0, 1), (133, .getfield 63, 3), (136, .getfield 92, 3), (139, .iload 4, 2), (141, .iaload, 1), (142, .aload_n 0, 1), (143, .getfield 35, 3), (146, .iconst (-1), 1), (147, .ixor, 1), (148, .iand, 1), (149, .ifCond .ne 14, 3)]
theorem e39_118 : am_dec am_M39 q39_118 = true := by decide +kernel
theorem b39_118 {d : Nat} {Q : Option Value ⊕ Nat → am_Mem → Prop} {μ : am_Mem} {r0 : Nat} {x1 x2 x3 : Int32}
    (h1 : am_kd μ r0 = (1, 2))
    (h2 : ¬ am_F μ r0 2 = 15)
    (h3 : am_kd μ (am_F μ r0 2) = (1, 5))
    (h4 : ¬ am_F μ (am_F μ r0 2) 7 = 15)
    (h5 : am_kd μ r0 = (1, 2))
    (h6 : (am_kd μ (am_F μ (am_F μ r0 2) 7)).1 = 2 ∨ (am_kd μ (am_F μ (am_F μ r0 2) 7)).1 = 8)
    (h7 : ¬ ((am_A μ r0 9) < 0 ∨ (am_kd μ (am_F μ (am_F μ r0 2) 7)).2 ≤ (am_A μ r0 9).toNatClampNeg))
    (h8 : am_kd μ r0 = (1, 2))
    (h9 : ¬ am_F μ r0 2 = 15)
    (h10 : am_kd μ (am_F μ r0 2) = (1, 5))
    (h11 : ¬ am_F μ (am_F μ r0 2) 5 = 15)
    (h12 : (am_kd μ (am_F μ (am_F μ r0 2) 5)).1 = 2 ∨ (am_kd μ (am_F μ (am_F μ r0 2) 5)).1 = 8)
    (h13 : ¬ ((am_A μ (am_F μ (am_F μ r0 2) 7) (am_A μ r0 9).toNatClampNeg) < 0 ∨ (am_kd μ (am_F μ (am_F μ r0 2) 5)).2 ≤ (am_A μ (am_F μ (am_F μ r0 2) 7) (am_A μ r0 9).toNatClampNeg).toNatClampNeg))
    (h14 : am_kd μ r0 = (1, 2))
    (k1 : ¬ ((am_A μ (am_F μ (am_F μ r0 2) 5) (am_A μ (am_F μ (am_F μ r0 2) 7) (am_A μ r0 9).toNatClampNeg).toNatClampNeg) &&& ((am_A μ r0 8) ^^^ (Int32.ofInt (-1)))) = 0 → Wp d 39 (163, [some (.ref r0), some (.int x1), some (.int x2), some (.int x3), some (.int (am_A μ (am_F μ (am_F μ r0 2) 7) (am_A μ r0 9).toNatClampNeg)), none, none, none, none, none, none], [], μ) Q) (k2 : ¬ (¬ ((am_A μ (am_F μ (am_F μ r0 2) 5) (am_A μ (am_F μ (am_F μ r0 2) 7) (am_A μ r0 9).toNatClampNeg).toNatClampNeg) &&& ((am_A μ r0 8) ^^^ (Int32.ofInt (-1)))) = 0) → Wp d 39 (152, [some (.ref r0), some (.int x1), some (.int x2), some (.int x3), some (.int (am_A μ (am_F μ (am_F μ r0 2) 7) (am_A μ r0 9).toNatClampNeg)), none, none, none, none, none, none], [], μ) Q) :
    Wp d 39 (118, [some (.ref r0), some (.int x1), some (.int x2), some (.int x3), none, none, none, none, none, none, none], [], μ) Q := wp_blk rfl e39_118 (And.intro h1 (And.intro h2 (And.intro h3 (And.intro h4 (And.intro h5 (And.intro h6 (And.intro h7 (And.intro h8 (And.intro h9 (And.intro h10 (And.intro h11 (And.intro h12 (And.intro h13 (And.intro h14 (And.intro k1 k2)))))))))))))))
def q39_152 : List (Nat × Instr × Nat) := [(152, .aload_n 0, 1), (153, .iload 4, 2)]
theorem e39_152 : am_dec am_M39 q39_152 = true := by decide +kernel
theorem e39_152_c : am_dc1 am_M39 155 (.invokevirtual 191) 3 = true := by decide +kernel
theorem b39_152 {d : Nat} {Q : Option Value ⊕ Nat → am_Mem → Prop} {μ : am_Mem} {r0 : Nat} {x1 x2 x3 x4 : Int32} {P : Int32 → am_Mem → Prop} {X : Nat → am_Mem → Prop}
    (hk : am_kd μ r0 = (1, 2))
    (hc : Wp d 42 (0, [some (.ref r0), some (.int x4), none, none], [], μ) (pI P X)) (hr : ∀ x μ', P x μ' → Wp (d + 1) 39 (158, [some (.ref r0), some (.int x1), some (.int x2), some (.int x3), some (.int x4), none, none, none, none, none, none], [.int x], (μ')) Q)
    (hx : ∀ x μ', X x μ' → Q (.inr x) μ') :
    Wp (d + 1) 39 (152, [some (.ref r0), some (.int x1), some (.int x2), some (.int x3), some (.int x4), none, none, none, none, none, none], [], μ) Q := wp_blk rfl e39_152 (wp_cv (as := [.int x4]) rfl e39_152_c rfl rfl rfl rfl rfl hk hc (fun v μ' hv => by obtain ⟨x, rfl, hp⟩ := pI_r hv; exact hr x μ' hp) hx)
def q39_158 : List (Nat × Instr × Nat) := [(158, .iconst (-1), 1), (159, .if_icmp .eq 4, 3)]
theorem e39_158 : am_dec am_M39 q39_158 = true := by decide +kernel
theorem b39_158 {d : Nat} {Q : Option Value ⊕ Nat → am_Mem → Prop} {μ : am_Mem} {r0 : Nat} {x1 x2 x3 x4 s0 : Int32}
    (k1 : s0 = (Int32.ofInt (-1)) → Wp d 39 (163, [some (.ref r0), some (.int x1), some (.int x2), some (.int x3), some (.int x4), none, none, none, none, none, none], [], μ) Q) (k2 : ¬ (s0 = (Int32.ofInt (-1))) → Wp d 39 (162, [some (.ref r0), some (.int x1), some (.int x2), some (.int x3), some (.int x4), none, none, none, none, none, none], [], μ) Q) :
    Wp d 39 (158, [some (.ref r0), some (.int x1), some (.int x2), some (.int x3), some (.int x4), none, none, none, none, none, none], [.int s0], μ) Q := wp_blk rfl e39_158 (And.intro k1 k2)
theorem e39_162_r : am_dec am_M39 [(162, .return_, 1)] = true := by decide +kernel
theorem b39_162 {d : Nat} {Q : Option Value ⊕ Nat → am_Mem → Prop} {μ : am_Mem} {r0 : Nat} {x1 x2 x3 x4 : Int32}
    (k : Q (.inl none) μ) :
    Wp d 39 (162, [some (.ref r0), some (.int x1), some (.int x2), some (.int x3), some (.int x4), none, none, none, none, none, none], [], μ) Q := (wp_rv rfl e39_162_r rfl k)
def q39_163 : List (Nat × Instr × Nat) := [(163, .aload_n 0, 1), (164, .getfield 63, 3), (167, .getfield 92, 3), (170, .iload_n 2, 1), (171, .iaload, 1), (172, .aload_n 0, 1), (173, .getfield 35, 3), (176, .iconst (-1), 1), (177, .ixor, 1), (178, .iand, 1), (179, .istore 5, 2), (181, .iload 5, 2), (183, .aload_n 0, 1), (184, .getfield 63, 3), (187, .getfield 195, 3), (190, .bipush 8, 2), (192, .aload_n 0, 1), (193, .getfield 38, 3), (196, .imul, 1), (197, .iload_n 1, 1), (198, .iadd, 1), (199, .iaload, 1), (200, .iand, 1), (201, .ifCond .ne 7, 3)]
theorem e39_163 : am_dec am_M39 q39_163 = true := by decide +kernel
theorem b39_163 {d : Nat} {Q : Option Value ⊕ Nat → am_Mem → Prop} {μ : am_Mem} {r0 : Nat} {x1 x2 x3 x4 : Int32}
    (h1 : am_kd μ r0 = (1, 2))
    (h2 : ¬ am_F μ r0 2 = 15)
    (h3 : am_kd μ (am_F μ r0 2) = (1, 5))
    (h4 : ¬ am_F μ (am_F μ r0 2) 5 = 15)
    (h5 : (am_kd μ (am_F μ (am_F μ r0 2) 5)).1 = 2 ∨ (am_kd μ (am_F μ (am_F μ r0 2) 5)).1 = 8)
    (h6 : ¬ (x2 < 0 ∨ (am_kd μ (am_F μ (am_F μ r0 2) 5)).2 ≤ x2.toNatClampNeg))
    (h7 : am_kd μ r0 = (1, 2))
    (h8 : am_kd μ r0 = (1, 2))
    (h9 : ¬ am_F μ r0 2 = 15)
    (h10 : am_kd μ (am_F μ r0 2) = (1, 5))
    (h11 : ¬ am_F μ (am_F μ r0 2) 10 = 15)
    (h12 : am_kd μ r0 = (1, 2))
    (h13 : (am_kd μ (am_F μ (am_F μ r0 2) 10)).1 = 2 ∨ (am_kd μ (am_F μ (am_F μ r0 2) 10)).1 = 8)
    (h14 : ¬ (((((Int8.ofInt 8).toInt32) * (am_A μ r0 9)) + x1) < 0 ∨ (am_kd μ (am_F μ (am_F μ r0 2) 10)).2 ≤ ((((Int8.ofInt 8).toInt32) * (am_A μ r0 9)) + x1).toNatClampNeg))
    (k1 : ¬ (((am_A μ (am_F μ (am_F μ r0 2) 5) x2.toNatClampNeg) &&& ((am_A μ r0 8) ^^^ (Int32.ofInt (-1)))) &&& (am_A μ (am_F μ (am_F μ r0 2) 10) ((((Int8.ofInt 8).toInt32) * (am_A μ r0 9)) + x1).toNatClampNeg)) = 0 → Wp d 39 (208, [some (.ref r0), some (.int x1), some (.int x2), some (.int x3), some (.int x4), some (.int ((am_A μ (am_F μ (am_F μ r0 2) 5) x2.toNatClampNeg) &&& ((am_A μ r0 8) ^^^ (Int32.ofInt (-1))))), none, none, none, none, none], [], μ) Q) (k2 : ¬ (¬ (((am_A μ (am_F μ (am_F μ r0 2) 5) x2.toNatClampNeg) &&& ((am_A μ r0 8) ^^^ (Int32.ofInt (-1)))) &&& (am_A μ (am_F μ (am_F μ r0 2) 10) ((((Int8.ofInt 8).toInt32) * (am_A μ r0 9)) + x1).toNatClampNeg)) = 0) → Wp d 39 (204, [some (.ref r0), some (.int x1), some (.int x2), some (.int x3), some (.int x4), some (.int ((am_A μ (am_F μ (am_F μ r0 2) 5) x2.toNatClampNeg) &&& ((am_A μ r0 8) ^^^ (Int32.ofInt (-1))))), none, none, none, none, none], [], μ) Q) :
    Wp d 39 (163, [some (.ref r0), some (.int x1), some (.int x2), some (.int x3), some (.int x4), none, none, none, none, none, none], [], μ) Q := wp_blk rfl e39_163 (And.intro h1 (And.intro h2 (And.intro h3 (And.intro h4 (And.intro h5 (And.intro h6 (And.intro h7 (And.intro h8 (And.intro h9 (And.intro h10 (And.intro h11 (And.intro h12 (And.intro h13 (And.intro h14 (And.intro k1 k2)))))))))))))))
def q39_204 : List (Nat × Instr × Nat) := [(204, .iconst 1, 1), (205, .goto 4, 3)]
theorem e39_204 : am_dec am_M39 q39_204 = true := by decide +kernel
theorem b39_204 {d : Nat} {Q : Option Value ⊕ Nat → am_Mem → Prop} {μ : am_Mem} {r0 : Nat} {x1 x2 x3 x4 x5 : Int32}
    (k : Wp d 39 (209, [some (.ref r0), some (.int x1), some (.int x2), some (.int x3), some (.int x4), some (.int x5), none, none, none, none, none], [.int (Int32.ofInt 1)], μ) Q) :
    Wp d 39 (204, [some (.ref r0), some (.int x1), some (.int x2), some (.int x3), some (.int x4), some (.int x5), none, none, none, none, none], [], μ) Q := wp_blk rfl e39_204 k
def q39_208 : List (Nat × Instr × Nat) := [(208, .iconst 0, 1)]
theorem e39_208 : am_dec am_M39 q39_208 = true := by decide +kernel
theorem b39_208 {d : Nat} {Q : Option Value ⊕ Nat → am_Mem → Prop} {μ : am_Mem} {r0 : Nat} {x1 x2 x3 x4 x5 : Int32}
    (k : Wp d 39 (209, [some (.ref r0), some (.int x1), some (.int x2), some (.int x3), some (.int x4), some (.int x5), none, none, none, none, none], [.int (Int32.ofInt 0)], μ) Q) :
    Wp d 39 (208, [some (.ref r0), some (.int x1), some (.int x2), some (.int x3), some (.int x4), some (.int x5), none, none, none, none, none], [], μ) Q := wp_blk rfl e39_208 k
def q39_209 : List (Nat × Instr × Nat) := [(209, .istore 6, 2), (211, .iconst 0, 1), (212, .istore 7, 2), (214, .aload_n 0, 1), (215, .getfield 35, 3), (218, .istore 8, 2), (220, .aload_n 0, 1), (221, .getfield 12, 3), (224, .getfield 198, 3), (227, .aload_n 0, 1), (228, .getfield 63, 3), (231, .getfield 104, 3), (234, .iload_n 2, 1), (235, .iaload, 1), (236, .iaload, 1), (237, .istore 9, 2), (239, .aload_n 0, 1), (240, .getfield 12, 3), (243, .getfield 159, 3), (246, .aload_n 0, 1), (247, .getfield 63, 3), (250, .getfield 104, 3), (253, .iload_n 2, 1), (254, .iaload, 1), (255, .iaload, 1), (256, .istore 10, 2)]
theorem e39_209 : am_dec am_M39 q39_209 = true := by decide +kernel
theorem b39_209 {d : Nat} {Q : Option Value ⊕ Nat → am_Mem → Prop} {μ : am_Mem} {r0 : Nat} {x1 x2 x3 x4 x5 s0 : Int32}
    (h1 : am_kd μ r0 = (1, 2))
    (h2 : am_kd μ r0 = (1, 2))
    (h3 : ¬ am_F μ r0 1 = 15)
    (h4 : am_kd μ (am_F μ r0 1) = (1, 1))
    (h5 : ¬ am_F μ (am_F μ r0 1) 5 = 15)
    (h6 : am_kd μ r0 = (1, 2))
    (h7 : ¬ am_F μ r0 2 = 15)
    (h8 : am_kd μ (am_F μ r0 2) = (1, 5))
    (h9 : ¬ am_F μ (am_F μ r0 2) 1 = 15)
    (h10 : (am_kd μ (am_F μ (am_F μ r0 2) 1)).1 = 2 ∨ (am_kd μ (am_F μ (am_F μ r0 2) 1)).1 = 8)
    (h11 : ¬ (x2 < 0 ∨ (am_kd μ (am_F μ (am_F μ r0 2) 1)).2 ≤ x2.toNatClampNeg))
    (h12 : (am_kd μ (am_F μ (am_F μ r0 1) 5)).1 = 2 ∨ (am_kd μ (am_F μ (am_F μ r0 1) 5)).1 = 8)
    (h13 : ¬ ((am_A μ (am_F μ (am_F μ r0 2) 1) x2.toNatClampNeg) < 0 ∨ (am_kd μ (am_F μ (am_F μ r0 1) 5)).2 ≤ (am_A μ (am_F μ (am_F μ r0 2) 1) x2.toNatClampNeg).toNatClampNeg))
    (h14 : am_kd μ r0 = (1, 2))
    (h15 : ¬ am_F μ r0 1 = 15)
    (h16 : am_kd μ (am_F μ r0 1) = (1, 1))
    (h17 : ¬ am_F μ (am_F μ r0 1) 6 = 15)
    (h18 : am_kd μ r0 = (1, 2))
    (h19 : ¬ am_F μ r0 2 = 15)
    (h20 : am_kd μ (am_F μ r0 2) = (1, 5))
    (h21 : ¬ am_F μ (am_F μ r0 2) 1 = 15)
    (h22 : (am_kd μ (am_F μ (am_F μ r0 2) 1)).1 = 2 ∨ (am_kd μ (am_F μ (am_F μ r0 2) 1)).1 = 8)
    (h23 : ¬ (x2 < 0 ∨ (am_kd μ (am_F μ (am_F μ r0 2) 1)).2 ≤ x2.toNatClampNeg))
    (h24 : (am_kd μ (am_F μ (am_F μ r0 1) 6)).1 = 2 ∨ (am_kd μ (am_F μ (am_F μ r0 1) 6)).1 = 8)
    (h25 : ¬ ((am_A μ (am_F μ (am_F μ r0 2) 1) x2.toNatClampNeg) < 0 ∨ (am_kd μ (am_F μ (am_F μ r0 1) 6)).2 ≤ (am_A μ (am_F μ (am_F μ r0 2) 1) x2.toNatClampNeg).toNatClampNeg))
    (k : Wp d 39 (258, [some (.ref r0), some (.int x1), some (.int x2), some (.int x3), some (.int x4), some (.int x5), some (.int s0), some (.int (Int32.ofInt 0)), some (.int (am_A μ r0 8)), some (.int (am_A μ (am_F μ (am_F μ r0 1) 5) (am_A μ (am_F μ (am_F μ r0 2) 1) x2.toNatClampNeg).toNatClampNeg)), some (.int (am_A μ (am_F μ (am_F μ r0 1) 6) (am_A μ (am_F μ (am_F μ r0 2) 1) x2.toNatClampNeg).toNatClampNeg))], [], μ) Q) :
    Wp d 39 (209, [some (.ref r0), some (.int x1), some (.int x2), some (.int x3), some (.int x4), some (.int x5), none, none, none, none, none], [.int s0], μ) Q := wp_blk rfl e39_209 (And.intro h1 (And.intro h2 (And.intro h3 (And.intro h4 (And.intro h5 (And.intro h6 (And.intro h7 (And.intro h8 (And.intro h9 (And.intro h10 (And.intro h11 (And.intro h12 (And.intro h13 (And.intro h14 (And.intro h15 (And.intro h16 (And.intro h17 (And.intro h18 (And.intro h19 (And.intro h20 (And.intro h21 (And.intro h22 (And.intro h23 (And.intro h24 (And.intro h25 k)))))))))))))))))))))))))
def q39_258 : List (Nat × Instr × Nat) := [(258, .iload 10, 2), (260, .ifCond .le 59, 3)]
theorem e39_258 : am_dec am_M39 q39_258 = true := by decide +kernel
theorem b39_258 {d : Nat} {Q : Option Value ⊕ Nat → am_Mem → Prop} {μ : am_Mem} {r0 : Nat} {x1 x2 x3 x4 x5 x6 x7 x8 x9 x10 : Int32}
    (k1 : x10 ≤ 0 → Wp d 39 (319, [some (.ref r0), some (.int x1), some (.int x2), some (.int x3), some (.int x4), some (.int x5), some (.int x6), some (.int x7), some (.int x8), some (.int x9), some (.int x10)], [], μ) Q) (k2 : ¬ (x10 ≤ 0) → Wp d 39 (263, [some (.ref r0), some (.int x1), some (.int x2), some (.int x3), some (.int x4), some (.int x5), some (.int x6), some (.int x7), some (.int x8), some (.int x9), some (.int x10)], [], μ) Q) :
    Wp d 39 (258, [some (.ref r0), some (.int x1), some (.int x2), some (.int x3), some (.int x4), some (.int x5), some (.int x6), some (.int x7), some (.int x8), some (.int x9), some (.int x10)], [], μ) Q := wp_blk rfl e39_258 (And.intro k1 k2)
def q39_263 : List (Nat × Instr × Nat) := [(263, .iload 7, 2), (265, .ifCond .ne 54, 3)]
theorem e39_263 : am_dec am_M39 q39_263 = true := by decide +kernel
theorem b39_263 {d : Nat} {Q : Option Value ⊕ Nat → am_Mem → Prop} {μ : am_Mem} {r0 : Nat} {x1 x2 x3 x4 x5 x6 x7 x8 x9 x10 : Int32}
    (k1 : ¬ x7 = 0 → Wp d 39 (319, [some (.ref r0), some (.int x1), some (.int x2), some (.int x3), some (.int x4), some (.int x5), some (.int x6), some (.int x7), some (.int x8), some (.int x9), some (.int x10)], [], μ) Q) (k2 : ¬ (¬ x7 = 0) → Wp d 39 (268, [some (.ref r0), some (.int x1), some (.int x2), some (.int x3), some (.int x4), some (.int x5), some (.int x6), some (.int x7), some (.int x8), some (.int x9), some (.int x10)], [], μ) Q) :
    Wp d 39 (263, [some (.ref r0), some (.int x1), some (.int x2), some (.int x3), some (.int x4), some (.int x5), some (.int x6), some (.int x7), some (.int x8), some (.int x9), some (.int x10)], [], μ) Q := wp_blk rfl e39_263 (And.intro k1 k2)
def q39_268 : List (Nat × Instr × Nat) := [(268, .iload 9, 2), (270, .iload_n 3, 1), (271, .if_icmp .gt 24, 3)]
theorem e39_268 : am_dec am_M39 q39_268 = true := by decide +kernel
theorem b39_268 {d : Nat} {Q : Option Value ⊕ Nat → am_Mem → Prop} {μ : am_Mem} {r0 : Nat} {x1 x2 x3 x4 x5 x6 x7 x8 x9 x10 : Int32}
    (k1 : x3 < x9 → Wp d 39 (295, [some (.ref r0), some (.int x1), some (.int x2), some (.int x3), some (.int x4), some (.int x5), some (.int x6), some (.int x7), some (.int x8), some (.int x9), some (.int x10)], [], μ) Q) (k2 : ¬ (x3 < x9) → Wp d 39 (274, [some (.ref r0), some (.int x1), some (.int x2), some (.int x3), some (.int x4), some (.int x5), some (.int x6), some (.int x7), some (.int x8), some (.int x9), some (.int x10)], [], μ) Q) :
    Wp d 39 (268, [some (.ref r0), some (.int x1), some (.int x2), some (.int x3), some (.int x4), some (.int x5), some (.int x6), some (.int x7), some (.int x8), some (.int x9), some (.int x10)], [], μ) Q := wp_blk rfl e39_268 (And.intro k1 k2)
def q39_274 : List (Nat × Instr × Nat) := [(274, .aload_n 0, 1), (275, .iload_n 2, 1), (276, .iload 9, 2)]
theorem e39_274 : am_dec am_M39 q39_274 = true := by decide +kernel
theorem e39_274_c : am_dc1 am_M39 278 (.invokevirtual 184) 3 = true := by decide +kernel
theorem b39_274 {d : Nat} {Q : Option Value ⊕ Nat → am_Mem → Prop} {μ : am_Mem} {r0 : Nat} {x1 x2 x3 x4 x5 x6 x7 x8 x9 x10 : Int32} {P : Int32 → am_Mem → Prop} {X : Nat → am_Mem → Prop}
    (hk : am_kd μ r0 = (1, 2))
    (hc : Wp d 43 (0, [some (.ref r0), some (.int x2), some (.int x9), none, none, none, none], [], μ) (pI P X)) (hr : ∀ x μ', P x μ' → Wp (d + 1) 39 (281, [some (.ref r0), some (.int x1), some (.int x2), some (.int x3), some (.int x4), some (.int x5), some (.int x6), some (.int x7), some (.int x8), some (.int x9), some (.int x10)], [.int x], (μ')) Q)
    (hx : ∀ x μ', X x μ' → Q (.inr x) μ') :
    Wp (d + 1) 39 (274, [some (.ref r0), some (.int x1), some (.int x2), some (.int x3), some (.int x4), some (.int x5), some (.int x6), some (.int x7), some (.int x8), some (.int x9), some (.int x10)], [], μ) Q := wp_blk rfl e39_274 (wp_cv (as := [.int x2, .int x9]) rfl e39_274_c rfl rfl rfl rfl rfl hk hc (fun v μ' hv => by obtain ⟨x, rfl, hp⟩ := pI_r hv; exact hr x μ' hp) hx)
def q39_281 : List (Nat × Instr × Nat) := [(281, .ifCond .eq 14, 3)]
theorem e39_281 : am_dec am_M39 q39_281 = true := by decide +kernel
theorem b39_281 {d : Nat} {Q : Option Value ⊕ Nat → am_Mem → Prop} {μ : am_Mem} {r0 : Nat} {x1 x2 x3 x4 x5 x6 x7 x8 x9 x10 s0 : Int32}
    (k1 : s0 = 0 → Wp d 39 (295, [some (.ref r0), some (.int x1), some (.int x2), some (.int x3), some (.int x4), some (.int x5), some (.int x6), some (.int x7), some (.int x8), some (.int x9), some (.int x10)], [], μ) Q) (k2 : ¬ (s0 = 0) → Wp d 39 (284, [some (.ref r0), some (.int x1), some (.int x2), some (.int x3), some (.int x4), some (.int x5), some (.int x6), some (.int x7), some (.int x8), some (.int x9), some (.int x10)], [], μ) Q) :
    Wp d 39 (281, [some (.ref r0), some (.int x1), some (.int x2), some (.int x3), some (.int x4), some (.int x5), some (.int x6), some (.int x7), some (.int x8), some (.int x9), some (.int x10)], [.int s0], μ) Q := wp_blk rfl e39_281 (And.intro k1 k2)
def q39_284 : List (Nat × Instr × Nat) := [(284, .aload_n 0, 1), (285, .iload_n 1, 1), (286, .iconst 1, 1), (287, .iadd, 1)]
theorem e39_284 : am_dec am_M39 q39_284 = true := by decide +kernel
theorem e39_284_c : am_dc1 am_M39 288 (.invokevirtual 178) 3 = true := by decide +kernel
theorem b39_284 {d : Nat} {Q : Option Value ⊕ Nat → am_Mem → Prop} {μ : am_Mem} {r0 : Nat} {x1 x2 x3 x4 x5 x6 x7 x8 x9 x10 : Int32} {P : am_Mem → Prop} {X : Nat → am_Mem → Prop}
    (hk : am_kd μ r0 = (1, 2))
    (hc : Wp d 39 (0, [some (.ref r0), some (.int (x1 + (Int32.ofInt 1))), none, none, none, none, none, none, none, none, none], [], μ) (pV P X)) (hr : ∀ μ', P μ' → Wp (d + 1) 39 (291, [some (.ref r0), some (.int x1), some (.int x2), some (.int x3), some (.int x4), some (.int x5), some (.int x6), some (.int x7), some (.int x8), some (.int x9), some (.int x10)], [], (μ')) Q)
    (hx : ∀ x μ', X x μ' → Q (.inr x) μ') :
    Wp (d + 1) 39 (284, [some (.ref r0), some (.int x1), some (.int x2), some (.int x3), some (.int x4), some (.int x5), some (.int x6), some (.int x7), some (.int x8), some (.int x9), some (.int x10)], [], μ) Q := wp_blk rfl e39_284 (wp_cv (as := [.int (x1 + (Int32.ofInt 1))]) rfl e39_284_c rfl rfl rfl rfl rfl hk hc (fun v μ' hv => by obtain ⟨rfl, hp⟩ := pV_r hv; exact hr μ' hp) hx)
def q39_291 : List (Nat × Instr × Nat) := [(291, .iload 6, 2), (293, .istore 7, 2)]
theorem e39_291 : am_dec am_M39 q39_291 = true := by decide +kernel
theorem b39_291 {d : Nat} {Q : Option Value ⊕ Nat → am_Mem → Prop} {μ : am_Mem} {r0 : Nat} {x1 x2 x3 x4 x5 x6 x7 x8 x9 x10 : Int32}
    (k : Wp d 39 (295, [some (.ref r0), some (.int x1), some (.int x2), some (.int x3), some (.int x4), some (.int x5), some (.int x6), some (.int x6), some (.int x8), some (.int x9), some (.int x10)], [], μ) Q) :
    Wp d 39 (291, [some (.ref r0), some (.int x1), some (.int x2), some (.int x3), some (.int x4), some (.int x5), some (.int x6), some (.int x7), some (.int x8), some (.int x9), some (.int x10)], [], μ) Q := wp_blk rfl e39_291 k
def q39_295 : List (Nat × Instr × Nat) := [(295, .aload_n 0, 1), (296, .iload 8, 2), (298, .putfield 35, 3), (301, .aload_n 0, 1), (302, .getfield 12, 3), (305, .getfield 201, 3), (308, .iload 9, 2), (310, .iaload, 1), (311, .istore 9, 2), (313, .iinc 10 (-1), 3), (316, .goto (-58), 3)]
theorem e39_295 : am_dec am_M39 q39_295 = true := by decide +kernel
theorem b39_295 {d : Nat} {Q : Option Value ⊕ Nat → am_Mem → Prop} {μ : am_Mem} {r0 : Nat} {x1 x2 x3 x4 x5 x6 x7 x8 x9 x10 : Int32}
    (h1 : am_kd μ r0 = (1, 2))
    (h2 : am_kd (am_pA μ r0 8 x8) r0 = (1, 2))
    (h3 : ¬ am_F (am_pA μ r0 8 x8) r0 1 = 15)
    (h4 : am_kd (am_pA μ r0 8 x8) (am_F (am_pA μ r0 8 x8) r0 1) = (1, 1))
    (h5 : ¬ am_F (am_pA μ r0 8 x8) (am_F (am_pA μ r0 8 x8) r0 1) 2 = 15)
    (h6 : (am_kd (am_pA μ r0 8 x8) (am_F (am_pA μ r0 8 x8) (am_F (am_pA μ r0 8 x8) r0 1) 2)).1 = 2 ∨ (am_kd (am_pA μ r0 8 x8) (am_F (am_pA μ r0 8 x8) (am_F (am_pA μ r0 8 x8) r0 1) 2)).1 = 8)
    (h7 : ¬ (x9 < 0 ∨ (am_kd (am_pA μ r0 8 x8) (am_F (am_pA μ r0 8 x8) (am_F (am_pA μ r0 8 x8) r0 1) 2)).2 ≤ x9.toNatClampNeg))
    (k : Wp d 39 (258, [some (.ref r0), some (.int x1), some (.int x2), some (.int x3), some (.int x4), some (.int x5), some (.int x6), some (.int x7), some (.int x8), some (.int (am_A (am_pA μ r0 8 x8) (am_F (am_pA μ r0 8 x8) (am_F (am_pA μ r0 8 x8) r0 1) 2) x9.toNatClampNeg)), some (.int (x10 + Int32.ofInt (-1)))], [], (am_pA μ r0 8 x8)) Q) :
    Wp d 39 (295, [some (.ref r0), some (.int x1), some (.int x2), some (.int x3), some (.int x4), some (.int x5), some (.int x6), some (.int x7), some (.int x8), some (.int x9), some (.int x10)], [], μ) Q := wp_blk rfl e39_295 (And.intro h1 (And.intro ⟨rfl, rfl⟩ (And.intro h2 (And.intro h3 (And.intro h4 (And.intro h5 (And.intro h6 (And.intro h7 k))))))))
theorem e39_319_r : am_dec am_M39 [(319, .return_, 1)] = true := by decide +kernel
theorem b39_319 {d : Nat} {Q : Option Value ⊕ Nat → am_Mem → Prop} {μ : am_Mem} {r0 : Nat} {x1 x2 x3 x4 x5 x6 x7 x8 x9 x10 : Int32}
    (k : Q (.inl none) μ) :
    Wp d 39 (319, [some (.ref r0), some (.int x1), some (.int x2), some (.int x3), some (.int x4), some (.int x5), some (.int x6), some (.int x7), some (.int x8), some (.int x9), some (.int x10)], [], μ) Q := (wp_rv rfl e39_319_r rfl k)
/-! RuleSheets$Model.conclude()V -/
def q40_0 : List (Nat × Instr × Nat) := [(0, .aload_n 0, 1), (1, .getfield 78, 3), (4, .getfield 111, 3), (7, .istore_n 1, 1), (8, .aload_n 0, 1), (9, .getfield 78, 3), (12, .aload_n 0, 1), (13, .getfield 63, 3), (16, .getfield 89, 3)]
theorem e40_0 : am_dec am_M40 q40_0 = true := by decide +kernel
theorem e40_0_c : am_dc1 am_M40 19 (.invokevirtual 204) 3 = true := by decide +kernel
theorem b40_0 {d : Nat} {Q : Option Value ⊕ Nat → am_Mem → Prop} {μ : am_Mem} {r0 : Nat} {P : am_Mem → Prop} {X : Nat → am_Mem → Prop}
    (h1 : am_kd μ r0 = (1, 2))
    (h2 : ¬ am_F μ r0 0 = 15)
    (h3 : am_kd μ (am_F μ r0 0) = (1, 8))
    (h4 : am_kd μ r0 = (1, 2))
    (h5 : ¬ am_F μ r0 0 = 15)
    (h6 : am_kd μ r0 = (1, 2))
    (h7 : ¬ am_F μ r0 2 = 15)
    (h8 : am_kd μ (am_F μ r0 2) = (1, 5))
    (hk : am_kd μ (am_F μ r0 0) = (1, 8))
    (hc : Wp d 92 (0, [some (.ref (am_F μ r0 0)), some (.int (am_A μ (am_F μ r0 2) 6))], [], μ) (pV P X)) (hr : ∀ μ', P μ' → Wp (d + 1) 40 (22, [some (.ref r0), some (.int (am_A μ (am_F μ r0 0) 9)), none, none, none, none], [], (μ')) Q)
    (hx : ∀ x μ', X x μ' → Q (.inr x) μ') :
    Wp (d + 1) 40 (0, [some (.ref r0), none, none, none, none, none], [], μ) Q := wp_blk rfl e40_0 (And.intro h1 (And.intro h2 (And.intro h3 (And.intro h4 (And.intro h5 (And.intro h6 (And.intro h7 (And.intro h8 (wp_cv (as := [.int (am_A μ (am_F μ r0 2) 6)]) rfl e40_0_c rfl rfl rfl rfl rfl hk hc (fun v μ' hv => by obtain ⟨rfl, hp⟩ := pV_r hv; exact hr μ' hp) hx)))))))))
def q40_22 : List (Nat × Instr × Nat) := [(22, .iconst 0, 1), (23, .istore_n 2, 1)]
theorem e40_22 : am_dec am_M40 q40_22 = true := by decide +kernel
theorem b40_22 {d : Nat} {Q : Option Value ⊕ Nat → am_Mem → Prop} {μ : am_Mem} {r0 : Nat} {x1 : Int32}
    (k : Wp d 40 (24, [some (.ref r0), some (.int x1), some (.int (Int32.ofInt 0)), none, none, none], [], μ) Q) :
    Wp d 40 (22, [some (.ref r0), some (.int x1), none, none, none, none], [], μ) Q := wp_blk rfl e40_22 k
def q40_24 : List (Nat × Instr × Nat) := [(24, .iload_n 2, 1), (25, .aload_n 0, 1), (26, .getfield 63, 3), (29, .getfield 223, 3), (32, .aload_n 0, 1), (33, .getfield 38, 3), (36, .iaload, 1), (37, .if_icmp .ge 117, 3)]
theorem e40_24 : am_dec am_M40 q40_24 = true := by decide +kernel
theorem b40_24 {d : Nat} {Q : Option Value ⊕ Nat → am_Mem → Prop} {μ : am_Mem} {r0 : Nat} {x1 x2 : Int32} {o3 o4 o5 : Option Value}
    (h1 : am_kd μ r0 = (1, 2))
    (h2 : ¬ am_F μ r0 2 = 15)
    (h3 : am_kd μ (am_F μ r0 2) = (1, 5))
    (h4 : ¬ am_F μ (am_F μ r0 2) 12 = 15)
    (h5 : am_kd μ r0 = (1, 2))
    (h6 : (am_kd μ (am_F μ (am_F μ r0 2) 12)).1 = 2 ∨ (am_kd μ (am_F μ (am_F μ r0 2) 12)).1 = 8)
    (h7 : ¬ ((am_A μ r0 9) < 0 ∨ (am_kd μ (am_F μ (am_F μ r0 2) 12)).2 ≤ (am_A μ r0 9).toNatClampNeg))
    (k1 : (am_A μ (am_F μ (am_F μ r0 2) 12) (am_A μ r0 9).toNatClampNeg) ≤ x2 → Wp d 40 (154, [some (.ref r0), some (.int x1), some (.int x2), o3, o4, o5], [], μ) Q) (k2 : ¬ ((am_A μ (am_F μ (am_F μ r0 2) 12) (am_A μ r0 9).toNatClampNeg) ≤ x2) → Wp d 40 (40, [some (.ref r0), some (.int x1), some (.int x2), o3, o4, o5], [], μ) Q) :
    Wp d 40 (24, [some (.ref r0), some (.int x1), some (.int x2), o3, o4, o5], [], μ) Q := wp_blk rfl e40_24 (And.intro h1 (And.intro h2 (And.intro h3 (And.intro h4 (And.intro h5 (And.intro h6 (And.intro h7 (And.intro k1 k2))))))))
def q40_40 : List (Nat × Instr × Nat) := [(40, .aload_n 0, 1), (41, .getfield 63, 3), (44, .aload_n 0, 1), (45, .getfield 38, 3), (48, .iload_n 2, 1)]
theorem e40_40 : am_dec am_M40 q40_40 = true := by decide +kernel
theorem e40_40_c : am_dc1 am_M40 49 (.invokevirtual 226) 3 = true := by decide +kernel
theorem b40_40 {d : Nat} {Q : Option Value ⊕ Nat → am_Mem → Prop} {μ : am_Mem} {r0 : Nat} {x1 x2 : Int32} {o3 o4 o5 : Option Value} {P : Int32 → am_Mem → Prop} {X : Nat → am_Mem → Prop}
    (h1 : am_kd μ r0 = (1, 2))
    (h2 : ¬ am_F μ r0 2 = 15)
    (h3 : am_kd μ r0 = (1, 2))
    (hk : am_kd μ (am_F μ r0 2) = (1, 5))
    (hc : Wp d 70 (0, [some (.ref (am_F μ r0 2)), some (.int (am_A μ r0 9)), some (.int x2)], [], μ) (pI P X)) (hr : ∀ x μ', P x μ' → Wp (d + 1) 40 (52, [some (.ref r0), some (.int x1), some (.int x2), o3, o4, o5], [.int x], (μ')) Q)
    (hx : ∀ x μ', X x μ' → Q (.inr x) μ') :
    Wp (d + 1) 40 (40, [some (.ref r0), some (.int x1), some (.int x2), o3, o4, o5], [], μ) Q := wp_blk rfl e40_40 (And.intro h1 (And.intro h2 (And.intro h3 (wp_cv (as := [.int (am_A μ r0 9), .int x2]) rfl e40_40_c rfl rfl rfl rfl rfl hk hc (fun v μ' hv => by obtain ⟨x, rfl, hp⟩ := pI_r hv; exact hr x μ' hp) hx))))
def q40_52 : List (Nat × Instr × Nat) := [(52, .istore_n 3, 1), (53, .aload_n 0, 1), (54, .getfield 63, 3), (57, .getfield 104, 3), (60, .iload_n 3, 1), (61, .iaload, 1), (62, .istore 4, 2), (64, .aload_n 0, 1), (65, .iload_n 3, 1)]
theorem e40_52 : am_dec am_M40 q40_52 = true := by decide +kernel
theorem e40_52_c : am_dc1 am_M40 66 (.invokevirtual 207) 3 = true := by decide +kernel
theorem b40_52 {d : Nat} {Q : Option Value ⊕ Nat → am_Mem → Prop} {μ : am_Mem} {r0 : Nat} {x1 x2 s0 : Int32} {o3 o4 o5 : Option Value} {P : am_Mem → Prop} {X : Nat → am_Mem → Prop}
    (h1 : am_kd μ r0 = (1, 2))
    (h2 : ¬ am_F μ r0 2 = 15)
    (h3 : am_kd μ (am_F μ r0 2) = (1, 5))
    (h4 : ¬ am_F μ (am_F μ r0 2) 1 = 15)
    (h5 : (am_kd μ (am_F μ (am_F μ r0 2) 1)).1 = 2 ∨ (am_kd μ (am_F μ (am_F μ r0 2) 1)).1 = 8)
    (h6 : ¬ (s0 < 0 ∨ (am_kd μ (am_F μ (am_F μ r0 2) 1)).2 ≤ s0.toNatClampNeg))
    (hk : am_kd μ r0 = (1, 2))
    (hc : Wp d 41 (0, [some (.ref r0), some (.int s0), none, none, none], [], μ) (pV P X)) (hr : ∀ μ', P μ' → Wp (d + 1) 40 (69, [some (.ref r0), some (.int x1), some (.int x2), some (.int s0), some (.int (am_A μ (am_F μ (am_F μ r0 2) 1) s0.toNatClampNeg)), o5], [], (μ')) Q)
    (hx : ∀ x μ', X x μ' → Q (.inr x) μ') :
    Wp (d + 1) 40 (52, [some (.ref r0), some (.int x1), some (.int x2), o3, o4, o5], [.int s0], μ) Q := wp_blk rfl e40_52 (And.intro h1 (And.intro h2 (And.intro h3 (And.intro h4 (And.intro h5 (And.intro h6 (wp_cv (as := [.int s0]) rfl e40_52_c rfl rfl rfl rfl rfl hk hc (fun v μ' hv => by obtain ⟨rfl, hp⟩ := pV_r hv; exact hr μ' hp) hx)))))))
def q40_69 : List (Nat × Instr × Nat) := [(69, .iload 4, 2), (71, .bipush 9, 2), (73, .if_icmp .ne 32, 3)]
theorem e40_69 : am_dec am_M40 q40_69 = true := by decide +kernel
theorem b40_69 {d : Nat} {Q : Option Value ⊕ Nat → am_Mem → Prop} {μ : am_Mem} {r0 : Nat} {x1 x2 x3 x4 : Int32} {o5 : Option Value}
    (k1 : ¬ x4 = ((Int8.ofInt 9).toInt32) → Wp d 40 (105, [some (.ref r0), some (.int x1), some (.int x2), some (.int x3), some (.int x4), o5], [], μ) Q) (k2 : ¬ (¬ x4 = ((Int8.ofInt 9).toInt32)) → Wp d 40 (76, [some (.ref r0), some (.int x1), some (.int x2), some (.int x3), some (.int x4), o5], [], μ) Q) :
    Wp d 40 (69, [some (.ref r0), some (.int x1), some (.int x2), some (.int x3), some (.int x4), o5], [], μ) Q := wp_blk rfl e40_69 (And.intro k1 k2)
def q40_76 : List (Nat × Instr × Nat) := [(76, .aload_n 0, 1), (77, .getfield 12, 3), (80, .getfield 145, 3), (83, .iconst 0, 1), (84, .iaload, 1), (85, .aload_n 0, 1), (86, .getfield 12, 3), (89, .getfield 145, 3), (92, .iconst 1, 1), (93, .iaload, 1), (94, .if_icmp .eq 7, 3)]
theorem e40_76 : am_dec am_M40 q40_76 = true := by decide +kernel
theorem b40_76 {d : Nat} {Q : Option Value ⊕ Nat → am_Mem → Prop} {μ : am_Mem} {r0 : Nat} {x1 x2 x3 x4 : Int32} {o5 : Option Value}
    (h1 : am_kd μ r0 = (1, 2))
    (h2 : ¬ am_F μ r0 1 = 15)
    (h3 : am_kd μ (am_F μ r0 1) = (1, 1))
    (h4 : ¬ am_F μ (am_F μ r0 1) 8 = 15)
    (h5 : (am_kd μ (am_F μ (am_F μ r0 1) 8)).1 = 2 ∨ (am_kd μ (am_F μ (am_F μ r0 1) 8)).1 = 8)
    (h6 : ¬ ((Int32.ofInt 0) < 0 ∨ (am_kd μ (am_F μ (am_F μ r0 1) 8)).2 ≤ (Int32.ofInt 0).toNatClampNeg))
    (h7 : am_kd μ r0 = (1, 2))
    (h8 : ¬ am_F μ r0 1 = 15)
    (h9 : am_kd μ (am_F μ r0 1) = (1, 1))
    (h10 : ¬ am_F μ (am_F μ r0 1) 8 = 15)
    (h11 : (am_kd μ (am_F μ (am_F μ r0 1) 8)).1 = 2 ∨ (am_kd μ (am_F μ (am_F μ r0 1) 8)).1 = 8)
    (h12 : ¬ ((Int32.ofInt 1) < 0 ∨ (am_kd μ (am_F μ (am_F μ r0 1) 8)).2 ≤ (Int32.ofInt 1).toNatClampNeg))
    (k1 : (am_A μ (am_F μ (am_F μ r0 1) 8) (Int32.ofInt 0).toNatClampNeg) = (am_A μ (am_F μ (am_F μ r0 1) 8) (Int32.ofInt 1).toNatClampNeg) → Wp d 40 (101, [some (.ref r0), some (.int x1), some (.int x2), some (.int x3), some (.int x4), o5], [], μ) Q) (k2 : ¬ ((am_A μ (am_F μ (am_F μ r0 1) 8) (Int32.ofInt 0).toNatClampNeg) = (am_A μ (am_F μ (am_F μ r0 1) 8) (Int32.ofInt 1).toNatClampNeg)) → Wp d 40 (97, [some (.ref r0), some (.int x1), some (.int x2), some (.int x3), some (.int x4), o5], [], μ) Q) :
    Wp d 40 (76, [some (.ref r0), some (.int x1), some (.int x2), some (.int x3), some (.int x4), o5], [], μ) Q := wp_blk rfl e40_76 (And.intro h1 (And.intro h2 (And.intro h3 (And.intro h4 (And.intro h5 (And.intro h6 (And.intro h7 (And.intro h8 (And.intro h9 (And.intro h10 (And.intro h11 (And.intro h12 (And.intro k1 k2)))))))))))))
def q40_97 : List (Nat × Instr × Nat) := [(97, .iconst 1, 1), (98, .goto 34, 3)]
theorem e40_97 : am_dec am_M40 q40_97 = true := by decide +kernel
theorem b40_97 {d : Nat} {Q : Option Value ⊕ Nat → am_Mem → Prop} {μ : am_Mem} {r0 : Nat} {x1 x2 x3 x4 : Int32} {o5 : Option Value}
    (k : Wp d 40 (132, [some (.ref r0), some (.int x1), some (.int x2), some (.int x3), some (.int x4), o5], [.int (Int32.ofInt 1)], μ) Q) :
    Wp d 40 (97, [some (.ref r0), some (.int x1), some (.int x2), some (.int x3), some (.int x4), o5], [], μ) Q := wp_blk rfl e40_97 k
def q40_101 : List (Nat × Instr × Nat) := [(101, .iconst 0, 1), (102, .goto 30, 3)]
theorem e40_101 : am_dec am_M40 q40_101 = true := by decide +kernel
theorem b40_101 {d : Nat} {Q : Option Value ⊕ Nat → am_Mem → Prop} {μ : am_Mem} {r0 : Nat} {x1 x2 x3 x4 : Int32} {o5 : Option Value}
    (k : Wp d 40 (132, [some (.ref r0), some (.int x1), some (.int x2), some (.int x3), some (.int x4), o5], [.int (Int32.ofInt 0)], μ) Q) :
    Wp d 40 (101, [some (.ref r0), some (.int x1), some (.int x2), some (.int x3), some (.int x4), o5], [], μ) Q := wp_blk rfl e40_101 k
def q40_105 : List (Nat × Instr × Nat) := [(105, .aload_n 0, 1), (106, .getfield 12, 3), (109, .iload 4, 2), (111, .aload_n 0, 1), (112, .getfield 63, 3), (115, .getfield 95, 3), (118, .iload_n 3, 1), (119, .iaload, 1)]
theorem e40_105 : am_dec am_M40 q40_105 = true := by decide +kernel
theorem e40_105_c : am_dc1 am_M40 120 (.invokevirtual 210) 3 = true := by decide +kernel
theorem b40_105 {d : Nat} {Q : Option Value ⊕ Nat → am_Mem → Prop} {μ : am_Mem} {r0 : Nat} {x1 x2 x3 x4 : Int32} {o5 : Option Value} {P : Int32 → am_Mem → Prop} {X : Nat → am_Mem → Prop}
    (h1 : am_kd μ r0 = (1, 2))
    (h2 : ¬ am_F μ r0 1 = 15)
    (h3 : am_kd μ r0 = (1, 2))
    (h4 : ¬ am_F μ r0 2 = 15)
    (h5 : am_kd μ (am_F μ r0 2) = (1, 5))
    (h6 : ¬ am_F μ (am_F μ r0 2) 2 = 15)
    (h7 : (am_kd μ (am_F μ (am_F μ r0 2) 2)).1 = 2 ∨ (am_kd μ (am_F μ (am_F μ r0 2) 2)).1 = 8)
    (h8 : ¬ (x3 < 0 ∨ (am_kd μ (am_F μ (am_F μ r0 2) 2)).2 ≤ x3.toNatClampNeg))
    (hk : am_kd μ (am_F μ r0 1) = (1, 1))
    (hc : Wp d 29 (0, [some (.ref (am_F μ r0 1)), some (.int x4), some (.int (am_A μ (am_F μ (am_F μ r0 2) 2) x3.toNatClampNeg))], [], μ) (pI P X)) (hr : ∀ x μ', P x μ' → Wp (d + 1) 40 (123, [some (.ref r0), some (.int x1), some (.int x2), some (.int x3), some (.int x4), o5], [.int x], (μ')) Q)
    (hx : ∀ x μ', X x μ' → Q (.inr x) μ') :
    Wp (d + 1) 40 (105, [some (.ref r0), some (.int x1), some (.int x2), some (.int x3), some (.int x4), o5], [], μ) Q := wp_blk rfl e40_105 (And.intro h1 (And.intro h2 (And.intro h3 (And.intro h4 (And.intro h5 (And.intro h6 (And.intro h7 (And.intro h8 (wp_cv (as := [.int x4, .int (am_A μ (am_F μ (am_F μ r0 2) 2) x3.toNatClampNeg)]) rfl e40_105_c rfl rfl rfl rfl rfl hk hc (fun v μ' hv => by obtain ⟨x, rfl, hp⟩ := pI_r hv; exact hr x μ' hp) hx)))))))))
def q40_123 : List (Nat × Instr × Nat) := [(123, .iconst (-1), 1), (124, .if_icmp .ne 7, 3)]
theorem e40_123 : am_dec am_M40 q40_123 = true := by decide +kernel
theorem b40_123 {d : Nat} {Q : Option Value ⊕ Nat → am_Mem → Prop} {μ : am_Mem} {r0 : Nat} {x1 x2 x3 x4 s0 : Int32} {o5 : Option Value}
    (k1 : ¬ s0 = (Int32.ofInt (-1)) → Wp d 40 (131, [some (.ref r0), some (.int x1), some (.int x2), some (.int x3), some (.int x4), o5], [], μ) Q) (k2 : ¬ (¬ s0 = (Int32.ofInt (-1))) → Wp d 40 (127, [some (.ref r0), some (.int x1), some (.int x2), some (.int x3), some (.int x4), o5], [], μ) Q) :
    Wp d 40 (123, [some (.ref r0), some (.int x1), some (.int x2), some (.int x3), some (.int x4), o5], [.int s0], μ) Q := wp_blk rfl e40_123 (And.intro k1 k2)
def q40_127 : List (Nat × Instr × Nat) := [(127, .iconst 1, 1), (128, .goto 4, 3)]
theorem e40_127 : am_dec am_M40 q40_127 = true := by decide +kernel
theorem b40_127 {d : Nat} {Q : Option Value ⊕ Nat → am_Mem → Prop} {μ : am_Mem} {r0 : Nat} {x1 x2 x3 x4 : Int32} {o5 : Option Value}
    (k : Wp d 40 (132, [some (.ref r0), some (.int x1), some (.int x2), some (.int x3), some (.int x4), o5], [.int (Int32.ofInt 1)], μ) Q) :
    Wp d 40 (127, [some (.ref r0), some (.int x1), some (.int x2), some (.int x3), some (.int x4), o5], [], μ) Q := wp_blk rfl e40_127 k
def q40_131 : List (Nat × Instr × Nat) := [(131, .iconst 0, 1)]
theorem e40_131 : am_dec am_M40 q40_131 = true := by decide +kernel
theorem b40_131 {d : Nat} {Q : Option Value ⊕ Nat → am_Mem → Prop} {μ : am_Mem} {r0 : Nat} {x1 x2 x3 x4 : Int32} {o5 : Option Value}
    (k : Wp d 40 (132, [some (.ref r0), some (.int x1), some (.int x2), some (.int x3), some (.int x4), o5], [.int (Int32.ofInt 0)], μ) Q) :
    Wp d 40 (131, [some (.ref r0), some (.int x1), some (.int x2), some (.int x3), some (.int x4), o5], [], μ) Q := wp_blk rfl e40_131 k
def q40_132 : List (Nat × Instr × Nat) := [(132, .istore 5, 2), (134, .aload_n 0, 1), (135, .getfield 78, 3), (138, .iload_n 1, 1)]
theorem e40_132 : am_dec am_M40 q40_132 = true := by decide +kernel
theorem e40_132_c : am_dc1 am_M40 139 (.invokevirtual 213) 3 = true := by decide +kernel
theorem b40_132 {d : Nat} {Q : Option Value ⊕ Nat → am_Mem → Prop} {μ : am_Mem} {r0 : Nat} {x1 x2 x3 x4 s0 : Int32} {o5 : Option Value} {P : am_Mem → Prop} {X : Nat → am_Mem → Prop}
    (h1 : am_kd μ r0 = (1, 2))
    (h2 : ¬ am_F μ r0 0 = 15)
    (hk : am_kd μ (am_F μ r0 0) = (1, 8))
    (hc : Wp d 90 (0, [some (.ref (am_F μ r0 0)), some (.int x1), none], [], μ) (pV P X)) (hr : ∀ μ', P μ' → Wp (d + 1) 40 (142, [some (.ref r0), some (.int x1), some (.int x2), some (.int x3), some (.int x4), some (.int s0)], [], (μ')) Q)
    (hx : ∀ x μ', X x μ' → Q (.inr x) μ') :
    Wp (d + 1) 40 (132, [some (.ref r0), some (.int x1), some (.int x2), some (.int x3), some (.int x4), o5], [.int s0], μ) Q := wp_blk rfl e40_132 (And.intro h1 (And.intro h2 (wp_cv (as := [.int x1]) rfl e40_132_c rfl rfl rfl rfl rfl hk hc (fun v μ' hv => by obtain ⟨rfl, hp⟩ := pV_r hv; exact hr μ' hp) hx)))
def q40_142 : List (Nat × Instr × Nat) := [(142, .iload 5, 2), (144, .ifCond .ne 4, 3)]
theorem e40_142 : am_dec am_M40 q40_142 = true := by decide +kernel
theorem b40_142 {d : Nat} {Q : Option Value ⊕ Nat → am_Mem → Prop} {μ : am_Mem} {r0 : Nat} {x1 x2 x3 x4 x5 : Int32}
    (k1 : ¬ x5 = 0 → Wp d 40 (148, [some (.ref r0), some (.int x1), some (.int x2), some (.int x3), some (.int x4), some (.int x5)], [], μ) Q) (k2 : ¬ (¬ x5 = 0) → Wp d 40 (147, [some (.ref r0), some (.int x1), some (.int x2), some (.int x3), some (.int x4), some (.int x5)], [], μ) Q) :
    Wp d 40 (142, [some (.ref r0), some (.int x1), some (.int x2), some (.int x3), some (.int x4), some (.int x5)], [], μ) Q := wp_blk rfl e40_142 (And.intro k1 k2)
theorem e40_147_r : am_dec am_M40 [(147, .return_, 1)] = true := by decide +kernel
theorem b40_147 {d : Nat} {Q : Option Value ⊕ Nat → am_Mem → Prop} {μ : am_Mem} {r0 : Nat} {x1 x2 x3 x4 x5 : Int32}
    (k : Q (.inl none) μ) :
    Wp d 40 (147, [some (.ref r0), some (.int x1), some (.int x2), some (.int x3), some (.int x4), some (.int x5)], [], μ) Q := (wp_rv rfl e40_147_r rfl k)
def q40_148 : List (Nat × Instr × Nat) := [(148, .iinc 2 1, 3), (151, .goto (-127), 3)]
theorem e40_148 : am_dec am_M40 q40_148 = true := by decide +kernel
theorem b40_148 {d : Nat} {Q : Option Value ⊕ Nat → am_Mem → Prop} {μ : am_Mem} {r0 : Nat} {x1 x2 x3 x4 x5 : Int32}
    (k : Wp d 40 (24, [some (.ref r0), some (.int x1), some (.int (x2 + Int32.ofInt 1)), some (.int x3), some (.int x4), some (.int x5)], [], μ) Q) :
    Wp d 40 (148, [some (.ref r0), some (.int x1), some (.int x2), some (.int x3), some (.int x4), some (.int x5)], [], μ) Q := wp_blk rfl e40_148 k
def q40_154 : List (Nat × Instr × Nat) := [(154, .aload_n 0, 1), (155, .getfield 63, 3), (158, .getfield 120, 3), (161, .aload_n 0, 1), (162, .getfield 38, 3), (165, .iaload, 1), (166, .istore_n 2, 1), (167, .aload_n 0, 1), (168, .iload_n 2, 1)]
theorem e40_154 : am_dec am_M40 q40_154 = true := by decide +kernel
theorem e40_154_c : am_dc1 am_M40 169 (.invokevirtual 207) 3 = true := by decide +kernel
theorem b40_154 {d : Nat} {Q : Option Value ⊕ Nat → am_Mem → Prop} {μ : am_Mem} {r0 : Nat} {x1 x2 : Int32} {o3 o4 o5 : Option Value} {P : am_Mem → Prop} {X : Nat → am_Mem → Prop}
    (h1 : am_kd μ r0 = (1, 2))
    (h2 : ¬ am_F μ r0 2 = 15)
    (h3 : am_kd μ (am_F μ r0 2) = (1, 5))
    (h4 : ¬ am_F μ (am_F μ r0 2) 7 = 15)
    (h5 : am_kd μ r0 = (1, 2))
    (h6 : (am_kd μ (am_F μ (am_F μ r0 2) 7)).1 = 2 ∨ (am_kd μ (am_F μ (am_F μ r0 2) 7)).1 = 8)
    (h7 : ¬ ((am_A μ r0 9) < 0 ∨ (am_kd μ (am_F μ (am_F μ r0 2) 7)).2 ≤ (am_A μ r0 9).toNatClampNeg))
    (hk : am_kd μ r0 = (1, 2))
    (hc : Wp d 41 (0, [some (.ref r0), some (.int (am_A μ (am_F μ (am_F μ r0 2) 7) (am_A μ r0 9).toNatClampNeg)), none, none, none], [], μ) (pV P X)) (hr : ∀ μ', P μ' → Wp (d + 1) 40 (172, [some (.ref r0), some (.int x1), some (.int (am_A μ (am_F μ (am_F μ r0 2) 7) (am_A μ r0 9).toNatClampNeg)), o3, o4, o5], [], (μ')) Q)
    (hx : ∀ x μ', X x μ' → Q (.inr x) μ') :
    Wp (d + 1) 40 (154, [some (.ref r0), some (.int x1), some (.int x2), o3, o4, o5], [], μ) Q := wp_blk rfl e40_154 (And.intro h1 (And.intro h2 (And.intro h3 (And.intro h4 (And.intro h5 (And.intro h6 (And.intro h7 (wp_cv (as := [.int (am_A μ (am_F μ (am_F μ r0 2) 7) (am_A μ r0 9).toNatClampNeg)]) rfl e40_154_c rfl rfl rfl rfl rfl hk hc (fun v μ' hv => by obtain ⟨rfl, hp⟩ := pV_r hv; exact hr μ' hp) hx))))))))
def q40_172 : List (Nat × Instr × Nat) := [(172, .iconst 0, 1), (173, .istore_n 3, 1)]
theorem e40_172 : am_dec am_M40 q40_172 = true := by decide +kernel
theorem b40_172 {d : Nat} {Q : Option Value ⊕ Nat → am_Mem → Prop} {μ : am_Mem} {r0 : Nat} {x1 x2 : Int32} {o3 o4 o5 : Option Value}
    (k : Wp d 40 (174, [some (.ref r0), some (.int x1), some (.int x2), some (.int (Int32.ofInt 0)), o4, o5], [], μ) Q) :
    Wp d 40 (172, [some (.ref r0), some (.int x1), some (.int x2), o3, o4, o5], [], μ) Q := wp_blk rfl e40_172 k
def q40_174 : List (Nat × Instr × Nat) := [(174, .iload_n 3, 1), (175, .aload_n 0, 1), (176, .getfield 63, 3), (179, .getfield 95, 3), (182, .iload_n 2, 1), (183, .iaload, 1), (184, .if_icmp .ge 41, 3)]
theorem e40_174 : am_dec am_M40 q40_174 = true := by decide +kernel
theorem b40_174 {d : Nat} {Q : Option Value ⊕ Nat → am_Mem → Prop} {μ : am_Mem} {r0 : Nat} {x1 x2 x3 : Int32} {o4 o5 : Option Value}
    (h1 : am_kd μ r0 = (1, 2))
    (h2 : ¬ am_F μ r0 2 = 15)
    (h3 : am_kd μ (am_F μ r0 2) = (1, 5))
    (h4 : ¬ am_F μ (am_F μ r0 2) 2 = 15)
    (h5 : (am_kd μ (am_F μ (am_F μ r0 2) 2)).1 = 2 ∨ (am_kd μ (am_F μ (am_F μ r0 2) 2)).1 = 8)
    (h6 : ¬ (x2 < 0 ∨ (am_kd μ (am_F μ (am_F μ r0 2) 2)).2 ≤ x2.toNatClampNeg))
    (k1 : (am_A μ (am_F μ (am_F μ r0 2) 2) x2.toNatClampNeg) ≤ x3 → Wp d 40 (225, [some (.ref r0), some (.int x1), some (.int x2), some (.int x3), o4, o5], [], μ) Q) (k2 : ¬ ((am_A μ (am_F μ (am_F μ r0 2) 2) x2.toNatClampNeg) ≤ x3) → Wp d 40 (187, [some (.ref r0), some (.int x1), some (.int x2), some (.int x3), o4, o5], [], μ) Q) :
    Wp d 40 (174, [some (.ref r0), some (.int x1), some (.int x2), some (.int x3), o4, o5], [], μ) Q := wp_blk rfl e40_174 (And.intro h1 (And.intro h2 (And.intro h3 (And.intro h4 (And.intro h5 (And.intro h6 (And.intro k1 k2)))))))
def q40_187 : List (Nat × Instr × Nat) := [(187, .aload_n 0, 1), (188, .getfield 78, 3), (191, .getfield 229, 3), (194, .aload_n 0, 1), (195, .getfield 12, 3), (198, .getfield 145, 3), (201, .iload_n 3, 1), (202, .iaload, 1), (203, .iaload, 1), (204, .bipush 48, 2), (206, .if_icmp .le 13, 3)]
theorem e40_187 : am_dec am_M40 q40_187 = true := by decide +kernel
theorem b40_187 {d : Nat} {Q : Option Value ⊕ Nat → am_Mem → Prop} {μ : am_Mem} {r0 : Nat} {x1 x2 x3 : Int32} {o4 o5 : Option Value}
    (h1 : am_kd μ r0 = (1, 2))
    (h2 : ¬ am_F μ r0 0 = 15)
    (h3 : am_kd μ (am_F μ r0 0) = (1, 8))
    (h4 : ¬ am_F μ (am_F μ r0 0) 4 = 15)
    (h5 : am_kd μ r0 = (1, 2))
    (h6 : ¬ am_F μ r0 1 = 15)
    (h7 : am_kd μ (am_F μ r0 1) = (1, 1))
    (h8 : ¬ am_F μ (am_F μ r0 1) 8 = 15)
    (h9 : (am_kd μ (am_F μ (am_F μ r0 1) 8)).1 = 2 ∨ (am_kd μ (am_F μ (am_F μ r0 1) 8)).1 = 8)
    (h10 : ¬ (x3 < 0 ∨ (am_kd μ (am_F μ (am_F μ r0 1) 8)).2 ≤ x3.toNatClampNeg))
    (h11 : (am_kd μ (am_F μ (am_F μ r0 0) 4)).1 = 2 ∨ (am_kd μ (am_F μ (am_F μ r0 0) 4)).1 = 8)
    (h12 : ¬ ((am_A μ (am_F μ (am_F μ r0 1) 8) x3.toNatClampNeg) < 0 ∨ (am_kd μ (am_F μ (am_F μ r0 0) 4)).2 ≤ (am_A μ (am_F μ (am_F μ r0 1) 8) x3.toNatClampNeg).toNatClampNeg))
    (k1 : (am_A μ (am_F μ (am_F μ r0 0) 4) (am_A μ (am_F μ (am_F μ r0 1) 8) x3.toNatClampNeg).toNatClampNeg) ≤ ((Int8.ofInt 48).toInt32) → Wp d 40 (219, [some (.ref r0), some (.int x1), some (.int x2), some (.int x3), o4, o5], [], μ) Q) (k2 : ¬ ((am_A μ (am_F μ (am_F μ r0 0) 4) (am_A μ (am_F μ (am_F μ r0 1) 8) x3.toNatClampNeg).toNatClampNeg) ≤ ((Int8.ofInt 48).toInt32)) → Wp d 40 (209, [some (.ref r0), some (.int x1), some (.int x2), some (.int x3), o4, o5], [], μ) Q) :
    Wp d 40 (187, [some (.ref r0), some (.int x1), some (.int x2), some (.int x3), o4, o5], [], μ) Q := wp_blk rfl e40_187 (And.intro h1 (And.intro h2 (And.intro h3 (And.intro h4 (And.intro h5 (And.intro h6 (And.intro h7 (And.intro h8 (And.intro h9 (And.intro h10 (And.intro h11 (And.intro h12 (And.intro k1 k2)))))))))))))
theorem e40_209_t : am_dc1 am_M40 209 (.new 138) 3 = true ∧ am_throw GG 2 40 209 (.new 138) = some 3 := by decide +kernel
theorem b40_209 {d : Nat} {Q : Option Value ⊕ Nat → am_Mem → Prop} {μ : am_Mem} {r0 : Nat} {x1 x2 x3 : Int32} {o4 o5 : Option Value}
    (k : Q (.inr 3) (am_nX μ)) :
    Wp d 40 (209, [some (.ref r0), some (.int x1), some (.int x2), some (.int x3), o4, o5], [], μ) Q := (wp_throw rfl e40_209_t.1 ⟨_, rfl⟩ rfl e40_209_t.2 rfl k)
def q40_219 : List (Nat × Instr × Nat) := [(219, .iinc 3 1, 3), (222, .goto (-48), 3)]
theorem e40_219 : am_dec am_M40 q40_219 = true := by decide +kernel
theorem b40_219 {d : Nat} {Q : Option Value ⊕ Nat → am_Mem → Prop} {μ : am_Mem} {r0 : Nat} {x1 x2 x3 : Int32} {o4 o5 : Option Value}
    (k : Wp d 40 (174, [some (.ref r0), some (.int x1), some (.int x2), some (.int (x3 + Int32.ofInt 1)), o4, o5], [], μ) Q) :
    Wp d 40 (219, [some (.ref r0), some (.int x1), some (.int x2), some (.int x3), o4, o5], [], μ) Q := wp_blk rfl e40_219 k
def q40_225 : List (Nat × Instr × Nat) := [(225, .aload_n 0, 1), (226, .getfield 12, 3), (229, .aload_n 0, 1), (230, .getfield 63, 3), (233, .getfield 104, 3), (236, .iload_n 2, 1), (237, .iaload, 1), (238, .aload_n 0, 1), (239, .getfield 63, 3), (242, .getfield 95, 3), (245, .iload_n 2, 1), (246, .iaload, 1)]
theorem e40_225 : am_dec am_M40 q40_225 = true := by decide +kernel
theorem e40_225_c : am_dc1 am_M40 247 (.invokevirtual 146) 3 = true := by decide +kernel
theorem b40_225 {d : Nat} {Q : Option Value ⊕ Nat → am_Mem → Prop} {μ : am_Mem} {r0 : Nat} {x1 x2 x3 : Int32} {o4 o5 : Option Value} {P : am_Mem → Prop} {X : Nat → am_Mem → Prop}
    (h1 : am_kd μ r0 = (1, 2))
    (h2 : ¬ am_F μ r0 1 = 15)
    (h3 : am_kd μ r0 = (1, 2))
    (h4 : ¬ am_F μ r0 2 = 15)
    (h5 : am_kd μ (am_F μ r0 2) = (1, 5))
    (h6 : ¬ am_F μ (am_F μ r0 2) 1 = 15)
    (h7 : (am_kd μ (am_F μ (am_F μ r0 2) 1)).1 = 2 ∨ (am_kd μ (am_F μ (am_F μ r0 2) 1)).1 = 8)
    (h8 : ¬ (x2 < 0 ∨ (am_kd μ (am_F μ (am_F μ r0 2) 1)).2 ≤ x2.toNatClampNeg))
    (h9 : am_kd μ r0 = (1, 2))
    (h10 : ¬ am_F μ r0 2 = 15)
    (h11 : am_kd μ (am_F μ r0 2) = (1, 5))
    (h12 : ¬ am_F μ (am_F μ r0 2) 2 = 15)
    (h13 : (am_kd μ (am_F μ (am_F μ r0 2) 2)).1 = 2 ∨ (am_kd μ (am_F μ (am_F μ r0 2) 2)).1 = 8)
    (h14 : ¬ (x2 < 0 ∨ (am_kd μ (am_F μ (am_F μ r0 2) 2)).2 ≤ x2.toNatClampNeg))
    (hk : am_kd μ (am_F μ r0 1) = (1, 1))
    (hc : Wp d 31 (0, [some (.ref (am_F μ r0 1)), some (.int (am_A μ (am_F μ (am_F μ r0 2) 1) x2.toNatClampNeg)), some (.int (am_A μ (am_F μ (am_F μ r0 2) 2) x2.toNatClampNeg)), none, none], [], μ) (pV P X)) (hr : ∀ μ', P μ' → Wp (d + 1) 40 (250, [some (.ref r0), some (.int x1), some (.int x2), some (.int x3), o4, o5], [], (μ')) Q)
    (hx : ∀ x μ', X x μ' → Q (.inr x) μ') :
    Wp (d + 1) 40 (225, [some (.ref r0), some (.int x1), some (.int x2), some (.int x3), o4, o5], [], μ) Q := wp_blk rfl e40_225 (And.intro h1 (And.intro h2 (And.intro h3 (And.intro h4 (And.intro h5 (And.intro h6 (And.intro h7 (And.intro h8 (And.intro h9 (And.intro h10 (And.intro h11 (And.intro h12 (And.intro h13 (And.intro h14 (wp_cv (as := [.int (am_A μ (am_F μ (am_F μ r0 2) 1) x2.toNatClampNeg), .int (am_A μ (am_F μ (am_F μ r0 2) 2) x2.toNatClampNeg)]) rfl e40_225_c rfl rfl rfl rfl rfl hk hc (fun v μ' hv => by obtain ⟨rfl, hp⟩ := pV_r hv; exact hr μ' hp) hx)))))))))))))))
theorem e40_250_r : am_dec am_M40 [(250, .return_, 1)] = true := by decide +kernel
theorem b40_250 {d : Nat} {Q : Option Value ⊕ Nat → am_Mem → Prop} {μ : am_Mem} {r0 : Nat} {x1 x2 x3 : Int32} {o4 o5 : Option Value}
    (k : Q (.inl none) μ) :
    Wp d 40 (250, [some (.ref r0), some (.int x1), some (.int x2), some (.int x3), o4, o5], [], μ) Q := (wp_rv rfl e40_250_r rfl k)
/-! RuleSheets$Model.build(I)V -/
def q41_0 : List (Nat × Instr × Nat) := [(0, .aload_n 0, 1), (1, .getfield 63, 3), (4, .getfield 217, 3), (7, .iload_n 1, 1), (8, .iaload, 1), (9, .istore_n 2, 1)]
theorem e41_0 : am_dec am_M41 q41_0 = true := by decide +kernel
theorem b41_0 {d : Nat} {Q : Option Value ⊕ Nat → am_Mem → Prop} {μ : am_Mem} {r0 : Nat} {x1 : Int32}
    (h1 : am_kd μ r0 = (1, 2))
    (h2 : ¬ am_F μ r0 2 = 15)
    (h3 : am_kd μ (am_F μ r0 2) = (1, 5))
    (h4 : ¬ am_F μ (am_F μ r0 2) 4 = 15)
    (h5 : (am_kd μ (am_F μ (am_F μ r0 2) 4)).1 = 2 ∨ (am_kd μ (am_F μ (am_F μ r0 2) 4)).1 = 8)
    (h6 : ¬ (x1 < 0 ∨ (am_kd μ (am_F μ (am_F μ r0 2) 4)).2 ≤ x1.toNatClampNeg))
    (k : Wp d 41 (10, [some (.ref r0), some (.int x1), some (.int (am_A μ (am_F μ (am_F μ r0 2) 4) x1.toNatClampNeg)), none, none], [], μ) Q) :
    Wp d 41 (0, [some (.ref r0), some (.int x1), none, none, none], [], μ) Q := wp_blk rfl e41_0 (And.intro h1 (And.intro h2 (And.intro h3 (And.intro h4 (And.intro h5 (And.intro h6 k))))))
def q41_10 : List (Nat × Instr × Nat) := [(10, .iload_n 2, 1), (11, .iload_n 1, 1), (12, .if_icmp .ge 142, 3)]
theorem e41_10 : am_dec am_M41 q41_10 = true := by decide +kernel
theorem b41_10 {d : Nat} {Q : Option Value ⊕ Nat → am_Mem → Prop} {μ : am_Mem} {r0 : Nat} {x1 x2 : Int32} {o3 o4 : Option Value}
    (k1 : x1 ≤ x2 → Wp d 41 (154, [some (.ref r0), some (.int x1), some (.int x2), o3, o4], [], μ) Q) (k2 : ¬ (x1 ≤ x2) → Wp d 41 (15, [some (.ref r0), some (.int x1), some (.int x2), o3, o4], [], μ) Q) :
    Wp d 41 (10, [some (.ref r0), some (.int x1), some (.int x2), o3, o4], [], μ) Q := wp_blk rfl e41_10 (And.intro k1 k2)
def q41_15 : List (Nat × Instr × Nat) := [(15, .aload_n 0, 1), (16, .getfield 63, 3), (19, .getfield 104, 3), (22, .iload_n 2, 1), (23, .iaload, 1), (24, .istore_n 3, 1), (25, .aload_n 0, 1), (26, .getfield 63, 3), (29, .getfield 92, 3), (32, .iload_n 2, 1), (33, .iaload, 1), (34, .ifCond .ne 18, 3)]
theorem e41_15 : am_dec am_M41 q41_15 = true := by decide +kernel
theorem b41_15 {d : Nat} {Q : Option Value ⊕ Nat → am_Mem → Prop} {μ : am_Mem} {r0 : Nat} {x1 x2 : Int32} {o3 o4 : Option Value}
    (h1 : am_kd μ r0 = (1, 2))
    (h2 : ¬ am_F μ r0 2 = 15)
    (h3 : am_kd μ (am_F μ r0 2) = (1, 5))
    (h4 : ¬ am_F μ (am_F μ r0 2) 1 = 15)
    (h5 : (am_kd μ (am_F μ (am_F μ r0 2) 1)).1 = 2 ∨ (am_kd μ (am_F μ (am_F μ r0 2) 1)).1 = 8)
    (h6 : ¬ (x2 < 0 ∨ (am_kd μ (am_F μ (am_F μ r0 2) 1)).2 ≤ x2.toNatClampNeg))
    (h7 : am_kd μ r0 = (1, 2))
    (h8 : ¬ am_F μ r0 2 = 15)
    (h9 : am_kd μ (am_F μ r0 2) = (1, 5))
    (h10 : ¬ am_F μ (am_F μ r0 2) 5 = 15)
    (h11 : (am_kd μ (am_F μ (am_F μ r0 2) 5)).1 = 2 ∨ (am_kd μ (am_F μ (am_F μ r0 2) 5)).1 = 8)
    (h12 : ¬ (x2 < 0 ∨ (am_kd μ (am_F μ (am_F μ r0 2) 5)).2 ≤ x2.toNatClampNeg))
    (k1 : ¬ (am_A μ (am_F μ (am_F μ r0 2) 5) x2.toNatClampNeg) = 0 → Wp d 41 (52, [some (.ref r0), some (.int x1), some (.int x2), some (.int (am_A μ (am_F μ (am_F μ r0 2) 1) x2.toNatClampNeg)), o4], [], μ) Q) (k2 : ¬ (¬ (am_A μ (am_F μ (am_F μ r0 2) 5) x2.toNatClampNeg) = 0) → Wp d 41 (37, [some (.ref r0), some (.int x1), some (.int x2), some (.int (am_A μ (am_F μ (am_F μ r0 2) 1) x2.toNatClampNeg)), o4], [], μ) Q) :
    Wp d 41 (15, [some (.ref r0), some (.int x1), some (.int x2), o3, o4], [], μ) Q := wp_blk rfl e41_15 (And.intro h1 (And.intro h2 (And.intro h3 (And.intro h4 (And.intro h5 (And.intro h6 (And.intro h7 (And.intro h8 (And.intro h9 (And.intro h10 (And.intro h11 (And.intro h12 (And.intro k1 k2)))))))))))))
def q41_37 : List (Nat × Instr × Nat) := [(37, .aload_n 0, 1), (38, .getfield 29, 3), (41, .iload_n 2, 1), (42, .aload_n 0, 1), (43, .getfield 26, 3), (46, .iload_n 2, 1), (47, .iaload, 1), (48, .iastore, 1), (49, .goto 99, 3)]
theorem e41_37 : am_dec am_M41 q41_37 = true := by decide +kernel
theorem b41_37 {d : Nat} {Q : Option Value ⊕ Nat → am_Mem → Prop} {μ : am_Mem} {r0 : Nat} {x1 x2 x3 : Int32} {o4 : Option Value}
    (h1 : am_kd μ r0 = (1, 2))
    (h2 : ¬ am_F μ r0 6 = 15)
    (h3 : am_kd μ r0 = (1, 2))
    (h4 : ¬ am_F μ r0 5 = 15)
    (h5 : (am_kd μ (am_F μ r0 5)).1 = 2 ∨ (am_kd μ (am_F μ r0 5)).1 = 8)
    (h6 : ¬ (x2 < 0 ∨ (am_kd μ (am_F μ r0 5)).2 ≤ x2.toNatClampNeg))
    (h7 : (am_kd μ (am_F μ r0 6)).1 = 2)
    (h8 : ¬ (x2 < 0 ∨ (am_kd μ (am_F μ r0 6)).2 ≤ x2.toNatClampNeg))
    (k : Wp d 41 (148, [some (.ref r0), some (.int x1), some (.int x2), some (.int x3), o4], [], (am_pA μ (am_F μ r0 6) x2.toNatClampNeg (am_A μ (am_F μ r0 5) x2.toNatClampNeg))) Q) :
    Wp d 41 (37, [some (.ref r0), some (.int x1), some (.int x2), some (.int x3), o4], [], μ) Q := wp_blk rfl e41_37 (And.intro h1 (And.intro h2 (And.intro h3 (And.intro h4 (And.intro h5 (And.intro h6 (And.intro h7 (And.intro h8 k))))))))
def q41_52 : List (Nat × Instr × Nat) := [(52, .iload_n 3, 1), (53, .ifCond .ge 20, 3)]
theorem e41_52 : am_dec am_M41 q41_52 = true := by decide +kernel
theorem b41_52 {d : Nat} {Q : Option Value ⊕ Nat → am_Mem → Prop} {μ : am_Mem} {r0 : Nat} {x1 x2 x3 : Int32} {o4 : Option Value}
    (k1 : 0 ≤ x3 → Wp d 41 (73, [some (.ref r0), some (.int x1), some (.int x2), some (.int x3), o4], [], μ) Q) (k2 : ¬ (0 ≤ x3) → Wp d 41 (56, [some (.ref r0), some (.int x1), some (.int x2), some (.int x3), o4], [], μ) Q) :
    Wp d 41 (52, [some (.ref r0), some (.int x1), some (.int x2), some (.int x3), o4], [], μ) Q := wp_blk rfl e41_52 (And.intro k1 k2)
def q41_56 : List (Nat × Instr × Nat) := [(56, .aload_n 0, 1), (57, .getfield 29, 3), (60, .iload_n 2, 1), (61, .aload_n 0, 1), (62, .getfield 32, 3), (65, .iconst (-1), 1), (66, .iload_n 3, 1), (67, .isub, 1), (68, .iaload, 1), (69, .iastore, 1), (70, .goto 78, 3)]
theorem e41_56 : am_dec am_M41 q41_56 = true := by decide +kernel
theorem b41_56 {d : Nat} {Q : Option Value ⊕ Nat → am_Mem → Prop} {μ : am_Mem} {r0 : Nat} {x1 x2 x3 : Int32} {o4 : Option Value}
    (h1 : am_kd μ r0 = (1, 2))
    (h2 : ¬ am_F μ r0 6 = 15)
    (h3 : am_kd μ r0 = (1, 2))
    (h4 : ¬ am_F μ r0 7 = 15)
    (h5 : (am_kd μ (am_F μ r0 7)).1 = 2 ∨ (am_kd μ (am_F μ r0 7)).1 = 8)
    (h6 : ¬ (((Int32.ofInt (-1)) - x3) < 0 ∨ (am_kd μ (am_F μ r0 7)).2 ≤ ((Int32.ofInt (-1)) - x3).toNatClampNeg))
    (h7 : (am_kd μ (am_F μ r0 6)).1 = 2)
    (h8 : ¬ (x2 < 0 ∨ (am_kd μ (am_F μ r0 6)).2 ≤ x2.toNatClampNeg))
    (k : Wp d 41 (148, [some (.ref r0), some (.int x1), some (.int x2), some (.int x3), o4], [], (am_pA μ (am_F μ r0 6) x2.toNatClampNeg (am_A μ (am_F μ r0 7) ((Int32.ofInt (-1)) - x3).toNatClampNeg))) Q) :
    Wp d 41 (56, [some (.ref r0), some (.int x1), some (.int x2), some (.int x3), o4], [], μ) Q := wp_blk rfl e41_56 (And.intro h1 (And.intro h2 (And.intro h3 (And.intro h4 (And.intro h5 (And.intro h6 (And.intro h7 (And.intro h8 k))))))))
def q41_73 : List (Nat × Instr × Nat) := [(73, .iconst 0, 1), (74, .istore 4, 2)]
theorem e41_73 : am_dec am_M41 q41_73 = true := by decide +kernel
theorem b41_73 {d : Nat} {Q : Option Value ⊕ Nat → am_Mem → Prop} {μ : am_Mem} {r0 : Nat} {x1 x2 x3 : Int32} {o4 : Option Value}
    (k : Wp d 41 (76, [some (.ref r0), some (.int x1), some (.int x2), some (.int x3), some (.int (Int32.ofInt 0))], [], μ) Q) :
    Wp d 41 (73, [some (.ref r0), some (.int x1), some (.int x2), some (.int x3), o4], [], μ) Q := wp_blk rfl e41_73 k
def q41_76 : List (Nat × Instr × Nat) := [(76, .iload 4, 2), (78, .aload_n 0, 1), (79, .getfield 63, 3), (82, .getfield 95, 3), (85, .iload_n 2, 1), (86, .iaload, 1), (87, .if_icmp .ge 38, 3)]
theorem e41_76 : am_dec am_M41 q41_76 = true := by decide +kernel
theorem b41_76 {d : Nat} {Q : Option Value ⊕ Nat → am_Mem → Prop} {μ : am_Mem} {r0 : Nat} {x1 x2 x3 x4 : Int32}
    (h1 : am_kd μ r0 = (1, 2))
    (h2 : ¬ am_F μ r0 2 = 15)
    (h3 : am_kd μ (am_F μ r0 2) = (1, 5))
    (h4 : ¬ am_F μ (am_F μ r0 2) 2 = 15)
    (h5 : (am_kd μ (am_F μ (am_F μ r0 2) 2)).1 = 2 ∨ (am_kd μ (am_F μ (am_F μ r0 2) 2)).1 = 8)
    (h6 : ¬ (x2 < 0 ∨ (am_kd μ (am_F μ (am_F μ r0 2) 2)).2 ≤ x2.toNatClampNeg))
    (k1 : (am_A μ (am_F μ (am_F μ r0 2) 2) x2.toNatClampNeg) ≤ x4 → Wp d 41 (125, [some (.ref r0), some (.int x1), some (.int x2), some (.int x3), some (.int x4)], [], μ) Q) (k2 : ¬ ((am_A μ (am_F μ (am_F μ r0 2) 2) x2.toNatClampNeg) ≤ x4) → Wp d 41 (90, [some (.ref r0), some (.int x1), some (.int x2), some (.int x3), some (.int x4)], [], μ) Q) :
    Wp d 41 (76, [some (.ref r0), some (.int x1), some (.int x2), some (.int x3), some (.int x4)], [], μ) Q := wp_blk rfl e41_76 (And.intro h1 (And.intro h2 (And.intro h3 (And.intro h4 (And.intro h5 (And.intro h6 (And.intro k1 k2)))))))
def q41_90 : List (Nat × Instr × Nat) := [(90, .aload_n 0, 1), (91, .getfield 78, 3), (94, .getfield 98, 3), (97, .iload 4, 2), (99, .aload_n 0, 1), (100, .getfield 29, 3), (103, .aload_n 0, 1), (104, .getfield 63, 3), (107, .getfield 101, 3), (110, .iconst 4, 1), (111, .iload_n 2, 1), (112, .imul, 1), (113, .iload 4, 2), (115, .iadd, 1), (116, .iaload, 1), (117, .iaload, 1), (118, .iastore, 1), (119, .iinc 4 1, 3), (122, .goto (-46), 3)]
theorem e41_90 : am_dec am_M41 q41_90 = true := by decide +kernel
theorem b41_90 {d : Nat} {Q : Option Value ⊕ Nat → am_Mem → Prop} {μ : am_Mem} {r0 : Nat} {x1 x2 x3 x4 : Int32}
    (h1 : am_kd μ r0 = (1, 2))
    (h2 : ¬ am_F μ r0 0 = 15)
    (h3 : am_kd μ (am_F μ r0 0) = (1, 8))
    (h4 : ¬ am_F μ (am_F μ r0 0) 10 = 15)
    (h5 : am_kd μ r0 = (1, 2))
    (h6 : ¬ am_F μ r0 6 = 15)
    (h7 : am_kd μ r0 = (1, 2))
    (h8 : ¬ am_F μ r0 2 = 15)
    (h9 : am_kd μ (am_F μ r0 2) = (1, 5))
    (h10 : ¬ am_F μ (am_F μ r0 2) 3 = 15)
    (h11 : (am_kd μ (am_F μ (am_F μ r0 2) 3)).1 = 2 ∨ (am_kd μ (am_F μ (am_F μ r0 2) 3)).1 = 8)
    (h12 : ¬ ((((Int32.ofInt 4) * x2) + x4) < 0 ∨ (am_kd μ (am_F μ (am_F μ r0 2) 3)).2 ≤ (((Int32.ofInt 4) * x2) + x4).toNatClampNeg))
    (h13 : (am_kd μ (am_F μ r0 6)).1 = 2 ∨ (am_kd μ (am_F μ r0 6)).1 = 8)
    (h14 : ¬ ((am_A μ (am_F μ (am_F μ r0 2) 3) (((Int32.ofInt 4) * x2) + x4).toNatClampNeg) < 0 ∨ (am_kd μ (am_F μ r0 6)).2 ≤ (am_A μ (am_F μ (am_F μ r0 2) 3) (((Int32.ofInt 4) * x2) + x4).toNatClampNeg).toNatClampNeg))
    (h15 : (am_kd μ (am_F μ (am_F μ r0 0) 10)).1 = 2)
    (h16 : ¬ (x4 < 0 ∨ (am_kd μ (am_F μ (am_F μ r0 0) 10)).2 ≤ x4.toNatClampNeg))
    (k : Wp d 41 (76, [some (.ref r0), some (.int x1), some (.int x2), some (.int x3), some (.int (x4 + Int32.ofInt 1))], [], (am_pA μ (am_F μ (am_F μ r0 0) 10) x4.toNatClampNeg (am_A μ (am_F μ r0 6) (am_A μ (am_F μ (am_F μ r0 2) 3) (((Int32.ofInt 4) * x2) + x4).toNatClampNeg).toNatClampNeg))) Q) :
    Wp d 41 (90, [some (.ref r0), some (.int x1), some (.int x2), some (.int x3), some (.int x4)], [], μ) Q := wp_blk rfl e41_90 (And.intro h1 (And.intro h2 (And.intro h3 (And.intro h4 (And.intro h5 (And.intro h6 (And.intro h7 (And.intro h8 (And.intro h9 (And.intro h10 (And.intro h11 (And.intro h12 (And.intro h13 (And.intro h14 (And.intro h15 (And.intro h16 k))))))))))))))))
def q41_125 : List (Nat × Instr × Nat) := [(125, .aload_n 0, 1), (126, .getfield 29, 3), (129, .iload_n 2, 1), (130, .aload_n 0, 1), (131, .getfield 78, 3), (134, .iload_n 3, 1), (135, .aload_n 0, 1), (136, .getfield 63, 3), (139, .getfield 95, 3), (142, .iload_n 2, 1), (143, .iaload, 1)]
theorem e41_125 : am_dec am_M41 q41_125 = true := by decide +kernel
theorem e41_125_c : am_dc1 am_M41 144 (.invokevirtual 107) 3 = true := by decide +kernel
theorem b41_125 {d : Nat} {Q : Option Value ⊕ Nat → am_Mem → Prop} {μ : am_Mem} {r0 : Nat} {x1 x2 x3 x4 : Int32} {P : Int32 → am_Mem → Prop} {X : Nat → am_Mem → Prop}
    (h1 : am_kd μ r0 = (1, 2))
    (h2 : ¬ am_F μ r0 6 = 15)
    (h3 : am_kd μ r0 = (1, 2))
    (h4 : ¬ am_F μ r0 0 = 15)
    (h5 : am_kd μ r0 = (1, 2))
    (h6 : ¬ am_F μ r0 2 = 15)
    (h7 : am_kd μ (am_F μ r0 2) = (1, 5))
    (h8 : ¬ am_F μ (am_F μ r0 2) 2 = 15)
    (h9 : (am_kd μ (am_F μ (am_F μ r0 2) 2)).1 = 2 ∨ (am_kd μ (am_F μ (am_F μ r0 2) 2)).1 = 8)
    (h10 : ¬ (x2 < 0 ∨ (am_kd μ (am_F μ (am_F μ r0 2) 2)).2 ≤ x2.toNatClampNeg))
    (hk : am_kd μ (am_F μ r0 0) = (1, 8))
    (hc : Wp d 91 (0, [some (.ref (am_F μ r0 0)), some (.int x3), some (.int (am_A μ (am_F μ (am_F μ r0 2) 2) x2.toNatClampNeg)), none, none, none, none, none], [], μ) (pI P X)) (hr : ∀ x μ', P x μ' → Wp (d + 1) 41 (147, [some (.ref r0), some (.int x1), some (.int x2), some (.int x3), some (.int x4)], [.int x, .int x2, .ref (am_F μ r0 6)], (μ')) Q)
    (hx : ∀ x μ', X x μ' → Q (.inr x) μ') :
    Wp (d + 1) 41 (125, [some (.ref r0), some (.int x1), some (.int x2), some (.int x3), some (.int x4)], [], μ) Q := wp_blk rfl e41_125 (And.intro h1 (And.intro h2 (And.intro h3 (And.intro h4 (And.intro h5 (And.intro h6 (And.intro h7 (And.intro h8 (And.intro h9 (And.intro h10 (wp_cv (as := [.int x3, .int (am_A μ (am_F μ (am_F μ r0 2) 2) x2.toNatClampNeg)]) rfl e41_125_c rfl rfl rfl rfl rfl hk hc (fun v μ' hv => by obtain ⟨x, rfl, hp⟩ := pI_r hv; exact hr x μ' hp) hx)))))))))))
def q41_147 : List (Nat × Instr × Nat) := [(147, .iastore, 1)]
theorem e41_147 : am_dec am_M41 q41_147 = true := by decide +kernel
theorem b41_147 {d : Nat} {Q : Option Value ⊕ Nat → am_Mem → Prop} {μ : am_Mem} {r0 r90 : Nat} {x1 x2 x3 x4 s1 s2 : Int32}
    (h1 : (am_kd μ r90).1 = 2)
    (h2 : ¬ (s1 < 0 ∨ (am_kd μ r90).2 ≤ s1.toNatClampNeg))
    (k : Wp d 41 (148, [some (.ref r0), some (.int x1), some (.int x2), some (.int x3), some (.int x4)], [], (am_pA μ r90 s1.toNatClampNeg s2)) Q) :
    Wp d 41 (147, [some (.ref r0), some (.int x1), some (.int x2), some (.int x3), some (.int x4)], [.int s2, .int s1, .ref r90], μ) Q := wp_blk rfl e41_147 (And.intro h1 (And.intro h2 k))
def q41_148 : List (Nat × Instr × Nat) := [(148, .iinc 2 1, 3), (151, .goto (-141), 3)]
theorem e41_148 : am_dec am_M41 q41_148 = true := by decide +kernel
theorem b41_148 {d : Nat} {Q : Option Value ⊕ Nat → am_Mem → Prop} {μ : am_Mem} {r0 : Nat} {x1 x2 x3 : Int32} {o4 : Option Value}
    (k : Wp d 41 (10, [some (.ref r0), some (.int x1), some (.int (x2 + Int32.ofInt 1)), some (.int x3), o4], [], μ) Q) :
    Wp d 41 (148, [some (.ref r0), some (.int x1), some (.int x2), some (.int x3), o4], [], μ) Q := wp_blk rfl e41_148 k
def q41_154 : List (Nat × Instr × Nat) := [(154, .iconst 0, 1), (155, .istore_n 2, 1)]
theorem e41_154 : am_dec am_M41 q41_154 = true := by decide +kernel
theorem b41_154 {d : Nat} {Q : Option Value ⊕ Nat → am_Mem → Prop} {μ : am_Mem} {r0 : Nat} {x1 x2 : Int32} {o3 o4 : Option Value}
    (k : Wp d 41 (156, [some (.ref r0), some (.int x1), some (.int (Int32.ofInt 0)), o3, o4], [], μ) Q) :
    Wp d 41 (154, [some (.ref r0), some (.int x1), some (.int x2), o3, o4], [], μ) Q := wp_blk rfl e41_154 k
def q41_156 : List (Nat × Instr × Nat) := [(156, .iload_n 2, 1), (157, .aload_n 0, 1), (158, .getfield 63, 3), (161, .getfield 95, 3), (164, .iload_n 1, 1), (165, .iaload, 1), (166, .if_icmp .ge 36, 3)]
theorem e41_156 : am_dec am_M41 q41_156 = true := by decide +kernel
theorem b41_156 {d : Nat} {Q : Option Value ⊕ Nat → am_Mem → Prop} {μ : am_Mem} {r0 : Nat} {x1 x2 : Int32} {o3 o4 : Option Value}
    (h1 : am_kd μ r0 = (1, 2))
    (h2 : ¬ am_F μ r0 2 = 15)
    (h3 : am_kd μ (am_F μ r0 2) = (1, 5))
    (h4 : ¬ am_F μ (am_F μ r0 2) 2 = 15)
    (h5 : (am_kd μ (am_F μ (am_F μ r0 2) 2)).1 = 2 ∨ (am_kd μ (am_F μ (am_F μ r0 2) 2)).1 = 8)
    (h6 : ¬ (x1 < 0 ∨ (am_kd μ (am_F μ (am_F μ r0 2) 2)).2 ≤ x1.toNatClampNeg))
    (k1 : (am_A μ (am_F μ (am_F μ r0 2) 2) x1.toNatClampNeg) ≤ x2 → Wp d 41 (202, [some (.ref r0), some (.int x1), some (.int x2), o3, o4], [], μ) Q) (k2 : ¬ ((am_A μ (am_F μ (am_F μ r0 2) 2) x1.toNatClampNeg) ≤ x2) → Wp d 41 (169, [some (.ref r0), some (.int x1), some (.int x2), o3, o4], [], μ) Q) :
    Wp d 41 (156, [some (.ref r0), some (.int x1), some (.int x2), o3, o4], [], μ) Q := wp_blk rfl e41_156 (And.intro h1 (And.intro h2 (And.intro h3 (And.intro h4 (And.intro h5 (And.intro h6 (And.intro k1 k2)))))))
def q41_169 : List (Nat × Instr × Nat) := [(169, .aload_n 0, 1), (170, .getfield 12, 3), (173, .getfield 145, 3), (176, .iload_n 2, 1), (177, .aload_n 0, 1), (178, .getfield 29, 3), (181, .aload_n 0, 1), (182, .getfield 63, 3), (185, .getfield 101, 3), (188, .iconst 4, 1), (189, .iload_n 1, 1), (190, .imul, 1), (191, .iload_n 2, 1), (192, .iadd, 1), (193, .iaload, 1), (194, .iaload, 1), (195, .iastore, 1), (196, .iinc 2 1, 3), (199, .goto (-43), 3)]
theorem e41_169 : am_dec am_M41 q41_169 = true := by decide +kernel
theorem b41_169 {d : Nat} {Q : Option Value ⊕ Nat → am_Mem → Prop} {μ : am_Mem} {r0 : Nat} {x1 x2 : Int32} {o3 o4 : Option Value}
    (h1 : am_kd μ r0 = (1, 2))
    (h2 : ¬ am_F μ r0 1 = 15)
    (h3 : am_kd μ (am_F μ r0 1) = (1, 1))
    (h4 : ¬ am_F μ (am_F μ r0 1) 8 = 15)
    (h5 : am_kd μ r0 = (1, 2))
    (h6 : ¬ am_F μ r0 6 = 15)
    (h7 : am_kd μ r0 = (1, 2))
    (h8 : ¬ am_F μ r0 2 = 15)
    (h9 : am_kd μ (am_F μ r0 2) = (1, 5))
    (h10 : ¬ am_F μ (am_F μ r0 2) 3 = 15)
    (h11 : (am_kd μ (am_F μ (am_F μ r0 2) 3)).1 = 2 ∨ (am_kd μ (am_F μ (am_F μ r0 2) 3)).1 = 8)
    (h12 : ¬ ((((Int32.ofInt 4) * x1) + x2) < 0 ∨ (am_kd μ (am_F μ (am_F μ r0 2) 3)).2 ≤ (((Int32.ofInt 4) * x1) + x2).toNatClampNeg))
    (h13 : (am_kd μ (am_F μ r0 6)).1 = 2 ∨ (am_kd μ (am_F μ r0 6)).1 = 8)
    (h14 : ¬ ((am_A μ (am_F μ (am_F μ r0 2) 3) (((Int32.ofInt 4) * x1) + x2).toNatClampNeg) < 0 ∨ (am_kd μ (am_F μ r0 6)).2 ≤ (am_A μ (am_F μ (am_F μ r0 2) 3) (((Int32.ofInt 4) * x1) + x2).toNatClampNeg).toNatClampNeg))
    (h15 : (am_kd μ (am_F μ (am_F μ r0 1) 8)).1 = 2)
    (h16 : ¬ (x2 < 0 ∨ (am_kd μ (am_F μ (am_F μ r0 1) 8)).2 ≤ x2.toNatClampNeg))
    (k : Wp d 41 (156, [some (.ref r0), some (.int x1), some (.int (x2 + Int32.ofInt 1)), o3, o4], [], (am_pA μ (am_F μ (am_F μ r0 1) 8) x2.toNatClampNeg (am_A μ (am_F μ r0 6) (am_A μ (am_F μ (am_F μ r0 2) 3) (((Int32.ofInt 4) * x1) + x2).toNatClampNeg).toNatClampNeg))) Q) :
    Wp d 41 (169, [some (.ref r0), some (.int x1), some (.int x2), o3, o4], [], μ) Q := wp_blk rfl e41_169 (And.intro h1 (And.intro h2 (And.intro h3 (And.intro h4 (And.intro h5 (And.intro h6 (And.intro h7 (And.intro h8 (And.intro h9 (And.intro h10 (And.intro h11 (And.intro h12 (And.intro h13 (And.intro h14 (And.intro h15 (And.intro h16 k))))))))))))))))
theorem e41_202_r : am_dec am_M41 [(202, .return_, 1)] = true := by decide +kernel
theorem b41_202 {d : Nat} {Q : Option Value ⊕ Nat → am_Mem → Prop} {μ : am_Mem} {r0 : Nat} {x1 x2 : Int32} {o3 o4 : Option Value}
    (k : Q (.inl none) μ) :
    Wp d 41 (202, [some (.ref r0), some (.int x1), some (.int x2), o3, o4], [], μ) Q := (wp_rv rfl e41_202_r rfl k)
/-! RuleSheets$Model.lookUp(I)I -/
def q42_0 : List (Nat × Instr × Nat) := [(0, .aload_n 0, 1), (1, .getfield 78, 3), (4, .getfield 111, 3), (7, .istore_n 2, 1), (8, .aload_n 0, 1), (9, .getfield 78, 3), (12, .aload_n 0, 1), (13, .getfield 63, 3), (16, .getfield 89, 3)]
theorem e42_0 : am_dec am_M42 q42_0 = true := by decide +kernel
theorem e42_0_c : am_dc1 am_M42 19 (.invokevirtual 204) 3 = true := by decide +kernel
theorem b42_0 {d : Nat} {Q : Option Value ⊕ Nat → am_Mem → Prop} {μ : am_Mem} {r0 : Nat} {x1 : Int32} {P : am_Mem → Prop} {X : Nat → am_Mem → Prop}
    (h1 : am_kd μ r0 = (1, 2))
    (h2 : ¬ am_F μ r0 0 = 15)
    (h3 : am_kd μ (am_F μ r0 0) = (1, 8))
    (h4 : am_kd μ r0 = (1, 2))
    (h5 : ¬ am_F μ r0 0 = 15)
    (h6 : am_kd μ r0 = (1, 2))
    (h7 : ¬ am_F μ r0 2 = 15)
    (h8 : am_kd μ (am_F μ r0 2) = (1, 5))
    (hk : am_kd μ (am_F μ r0 0) = (1, 8))
    (hc : Wp d 92 (0, [some (.ref (am_F μ r0 0)), some (.int (am_A μ (am_F μ r0 2) 6))], [], μ) (pV P X)) (hr : ∀ μ', P μ' → Wp (d + 1) 42 (22, [some (.ref r0), some (.int x1), some (.int (am_A μ (am_F μ r0 0) 9)), none], [], (μ')) Q)
    (hx : ∀ x μ', X x μ' → Q (.inr x) μ') :
    Wp (d + 1) 42 (0, [some (.ref r0), some (.int x1), none, none], [], μ) Q := wp_blk rfl e42_0 (And.intro h1 (And.intro h2 (And.intro h3 (And.intro h4 (And.intro h5 (And.intro h6 (And.intro h7 (And.intro h8 (wp_cv (as := [.int (am_A μ (am_F μ r0 2) 6)]) rfl e42_0_c rfl rfl rfl rfl rfl hk hc (fun v μ' hv => by obtain ⟨rfl, hp⟩ := pV_r hv; exact hr μ' hp) hx)))))))))
def q42_22 : List (Nat × Instr × Nat) := [(22, .aload_n 0, 1), (23, .iload_n 1, 1)]
theorem e42_22 : am_dec am_M42 q42_22 = true := by decide +kernel
theorem e42_22_c : am_dc1 am_M42 24 (.invokevirtual 207) 3 = true := by decide +kernel
theorem b42_22 {d : Nat} {Q : Option Value ⊕ Nat → am_Mem → Prop} {μ : am_Mem} {r0 : Nat} {x1 x2 : Int32} {P : am_Mem → Prop} {X : Nat → am_Mem → Prop}
    (hk : am_kd μ r0 = (1, 2))
    (hc : Wp d 41 (0, [some (.ref r0), some (.int x1), none, none, none], [], μ) (pV P X)) (hr : ∀ μ', P μ' → Wp (d + 1) 42 (27, [some (.ref r0), some (.int x1), some (.int x2), none], [], (μ')) Q)
    (hx : ∀ x μ', X x μ' → Q (.inr x) μ') :
    Wp (d + 1) 42 (22, [some (.ref r0), some (.int x1), some (.int x2), none], [], μ) Q := wp_blk rfl e42_22 (wp_cv (as := [.int x1]) rfl e42_22_c rfl rfl rfl rfl rfl hk hc (fun v μ' hv => by obtain ⟨rfl, hp⟩ := pV_r hv; exact hr μ' hp) hx)
def q42_27 : List (Nat × Instr × Nat) := [(27, .aload_n 0, 1), (28, .getfield 12, 3), (31, .aload_n 0, 1), (32, .getfield 63, 3), (35, .getfield 104, 3), (38, .iload_n 1, 1), (39, .iaload, 1), (40, .aload_n 0, 1), (41, .getfield 63, 3), (44, .getfield 95, 3), (47, .iload_n 1, 1), (48, .iaload, 1)]
theorem e42_27 : am_dec am_M42 q42_27 = true := by decide +kernel
theorem e42_27_c : am_dc1 am_M42 49 (.invokevirtual 210) 3 = true := by decide +kernel
theorem b42_27 {d : Nat} {Q : Option Value ⊕ Nat → am_Mem → Prop} {μ : am_Mem} {r0 : Nat} {x1 x2 : Int32} {P : Int32 → am_Mem → Prop} {X : Nat → am_Mem → Prop}
    (h1 : am_kd μ r0 = (1, 2))
    (h2 : ¬ am_F μ r0 1 = 15)
    (h3 : am_kd μ r0 = (1, 2))
    (h4 : ¬ am_F μ r0 2 = 15)
    (h5 : am_kd μ (am_F μ r0 2) = (1, 5))
    (h6 : ¬ am_F μ (am_F μ r0 2) 1 = 15)
    (h7 : (am_kd μ (am_F μ (am_F μ r0 2) 1)).1 = 2 ∨ (am_kd μ (am_F μ (am_F μ r0 2) 1)).1 = 8)
    (h8 : ¬ (x1 < 0 ∨ (am_kd μ (am_F μ (am_F μ r0 2) 1)).2 ≤ x1.toNatClampNeg))
    (h9 : am_kd μ r0 = (1, 2))
    (h10 : ¬ am_F μ r0 2 = 15)
    (h11 : am_kd μ (am_F μ r0 2) = (1, 5))
    (h12 : ¬ am_F μ (am_F μ r0 2) 2 = 15)
    (h13 : (am_kd μ (am_F μ (am_F μ r0 2) 2)).1 = 2 ∨ (am_kd μ (am_F μ (am_F μ r0 2) 2)).1 = 8)
    (h14 : ¬ (x1 < 0 ∨ (am_kd μ (am_F μ (am_F μ r0 2) 2)).2 ≤ x1.toNatClampNeg))
    (hk : am_kd μ (am_F μ r0 1) = (1, 1))
    (hc : Wp d 29 (0, [some (.ref (am_F μ r0 1)), some (.int (am_A μ (am_F μ (am_F μ r0 2) 1) x1.toNatClampNeg)), some (.int (am_A μ (am_F μ (am_F μ r0 2) 2) x1.toNatClampNeg))], [], μ) (pI P X)) (hr : ∀ x μ', P x μ' → Wp (d + 1) 42 (52, [some (.ref r0), some (.int x1), some (.int x2), none], [.int x], (μ')) Q)
    (hx : ∀ x μ', X x μ' → Q (.inr x) μ') :
    Wp (d + 1) 42 (27, [some (.ref r0), some (.int x1), some (.int x2), none], [], μ) Q := wp_blk rfl e42_27 (And.intro h1 (And.intro h2 (And.intro h3 (And.intro h4 (And.intro h5 (And.intro h6 (And.intro h7 (And.intro h8 (And.intro h9 (And.intro h10 (And.intro h11 (And.intro h12 (And.intro h13 (And.intro h14 (wp_cv (as := [.int (am_A μ (am_F μ (am_F μ r0 2) 1) x1.toNatClampNeg), .int (am_A μ (am_F μ (am_F μ r0 2) 2) x1.toNatClampNeg)]) rfl e42_27_c rfl rfl rfl rfl rfl hk hc (fun v μ' hv => by obtain ⟨x, rfl, hp⟩ := pI_r hv; exact hr x μ' hp) hx)))))))))))))))
def q42_52 : List (Nat × Instr × Nat) := [(52, .istore_n 3, 1), (53, .aload_n 0, 1), (54, .getfield 78, 3), (57, .iload_n 2, 1)]
theorem e42_52 : am_dec am_M42 q42_52 = true := by decide +kernel
theorem e42_52_c : am_dc1 am_M42 58 (.invokevirtual 213) 3 = true := by decide +kernel
theorem b42_52 {d : Nat} {Q : Option Value ⊕ Nat → am_Mem → Prop} {μ : am_Mem} {r0 : Nat} {x1 x2 s0 : Int32} {P : am_Mem → Prop} {X : Nat → am_Mem → Prop}
    (h1 : am_kd μ r0 = (1, 2))
    (h2 : ¬ am_F μ r0 0 = 15)
    (hk : am_kd μ (am_F μ r0 0) = (1, 8))
    (hc : Wp d 90 (0, [some (.ref (am_F μ r0 0)), some (.int x2), none], [], μ) (pV P X)) (hr : ∀ μ', P μ' → Wp (d + 1) 42 (61, [some (.ref r0), some (.int x1), some (.int x2), some (.int s0)], [], (μ')) Q)
    (hx : ∀ x μ', X x μ' → Q (.inr x) μ') :
    Wp (d + 1) 42 (52, [some (.ref r0), some (.int x1), some (.int x2), none], [.int s0], μ) Q := wp_blk rfl e42_52 (And.intro h1 (And.intro h2 (wp_cv (as := [.int x2]) rfl e42_52_c rfl rfl rfl rfl rfl hk hc (fun v μ' hv => by obtain ⟨rfl, hp⟩ := pV_r hv; exact hr μ' hp) hx)))
def q42_61 : List (Nat × Instr × Nat) := [(61, .iload_n 3, 1)]
theorem e42_61 : am_dec am_M42 q42_61 = true := by decide +kernel
theorem e42_61_r : am_dec am_M42 [(62, .ireturn, 1)] = true := by decide +kernel
theorem b42_61 {d : Nat} {Q : Option Value ⊕ Nat → am_Mem → Prop} {μ : am_Mem} {r0 : Nat} {x1 x2 x3 : Int32}
    (k : Q (.inl (some (.int x3))) μ) :
    Wp d 42 (61, [some (.ref r0), some (.int x1), some (.int x2), some (.int x3)], [], μ) Q := wp_blk rfl e42_61 (wp_ri (ty := .int) rfl e42_61_r rfl ⟨rfl, rfl⟩ k)
/-! RuleSheets$Model.fits(II)Z -/
def q43_0 : List (Nat × Instr × Nat) := [(0, .iconst 0, 1), (1, .istore_n 3, 1)]
theorem e43_0 : am_dec am_M43 q43_0 = true := by decide +kernel
theorem b43_0 {d : Nat} {Q : Option Value ⊕ Nat → am_Mem → Prop} {μ : am_Mem} {r0 : Nat} {x1 x2 : Int32}
    (k : Wp d 43 (2, [some (.ref r0), some (.int x1), some (.int x2), some (.int (Int32.ofInt 0)), none, none, none], [], μ) Q) :
    Wp d 43 (0, [some (.ref r0), some (.int x1), some (.int x2), none, none, none, none], [], μ) Q := wp_blk rfl e43_0 k
def q43_2 : List (Nat × Instr × Nat) := [(2, .iload_n 3, 1), (3, .aload_n 0, 1), (4, .getfield 63, 3), (7, .getfield 95, 3), (10, .iload_n 1, 1), (11, .iaload, 1), (12, .if_icmp .ge 40, 3)]
theorem e43_2 : am_dec am_M43 q43_2 = true := by decide +kernel
theorem b43_2 {d : Nat} {Q : Option Value ⊕ Nat → am_Mem → Prop} {μ : am_Mem} {r0 : Nat} {x1 x2 x3 : Int32}
    (h1 : am_kd μ r0 = (1, 2))
    (h2 : ¬ am_F μ r0 2 = 15)
    (h3 : am_kd μ (am_F μ r0 2) = (1, 5))
    (h4 : ¬ am_F μ (am_F μ r0 2) 2 = 15)
    (h5 : (am_kd μ (am_F μ (am_F μ r0 2) 2)).1 = 2 ∨ (am_kd μ (am_F μ (am_F μ r0 2) 2)).1 = 8)
    (h6 : ¬ (x1 < 0 ∨ (am_kd μ (am_F μ (am_F μ r0 2) 2)).2 ≤ x1.toNatClampNeg))
    (k1 : (am_A μ (am_F μ (am_F μ r0 2) 2) x1.toNatClampNeg) ≤ x3 → Wp d 43 (52, [some (.ref r0), some (.int x1), some (.int x2), some (.int x3), none, none, none], [], μ) Q) (k2 : ¬ ((am_A μ (am_F μ (am_F μ r0 2) 2) x1.toNatClampNeg) ≤ x3) → Wp d 43 (15, [some (.ref r0), some (.int x1), some (.int x2), some (.int x3), none, none, none], [], μ) Q) :
    Wp d 43 (2, [some (.ref r0), some (.int x1), some (.int x2), some (.int x3), none, none, none], [], μ) Q := wp_blk rfl e43_2 (And.intro h1 (And.intro h2 (And.intro h3 (And.intro h4 (And.intro h5 (And.intro h6 (And.intro k1 k2)))))))
def q43_15 : List (Nat × Instr × Nat) := [(15, .aload_n 0, 1), (16, .getfield 29, 3), (19, .aload_n 0, 1), (20, .getfield 63, 3), (23, .getfield 101, 3), (26, .iconst 4, 1), (27, .iload_n 1, 1), (28, .imul, 1), (29, .iload_n 3, 1), (30, .iadd, 1), (31, .iaload, 1), (32, .aload_n 0, 1), (33, .getfield 12, 3), (36, .getfield 214, 3), (39, .iconst 4, 1), (40, .iload_n 2, 1), (41, .imul, 1), (42, .iload_n 3, 1), (43, .iadd, 1), (44, .iaload, 1), (45, .iastore, 1), (46, .iinc 3 1, 3), (49, .goto (-47), 3)]
theorem e43_15 : am_dec am_M43 q43_15 = true := by decide +kernel
theorem b43_15 {d : Nat} {Q : Option Value ⊕ Nat → am_Mem → Prop} {μ : am_Mem} {r0 : Nat} {x1 x2 x3 : Int32}
    (h1 : am_kd μ r0 = (1, 2))
    (h2 : ¬ am_F μ r0 6 = 15)
    (h3 : am_kd μ r0 = (1, 2))
    (h4 : ¬ am_F μ r0 2 = 15)
    (h5 : am_kd μ (am_F μ r0 2) = (1, 5))
    (h6 : ¬ am_F μ (am_F μ r0 2) 3 = 15)
    (h7 : (am_kd μ (am_F μ (am_F μ r0 2) 3)).1 = 2 ∨ (am_kd μ (am_F μ (am_F μ r0 2) 3)).1 = 8)
    (h8 : ¬ ((((Int32.ofInt 4) * x1) + x3) < 0 ∨ (am_kd μ (am_F μ (am_F μ r0 2) 3)).2 ≤ (((Int32.ofInt 4) * x1) + x3).toNatClampNeg))
    (h9 : am_kd μ r0 = (1, 2))
    (h10 : ¬ am_F μ r0 1 = 15)
    (h11 : am_kd μ (am_F μ r0 1) = (1, 1))
    (h12 : ¬ am_F μ (am_F μ r0 1) 1 = 15)
    (h13 : (am_kd μ (am_F μ (am_F μ r0 1) 1)).1 = 2 ∨ (am_kd μ (am_F μ (am_F μ r0 1) 1)).1 = 8)
    (h14 : ¬ ((((Int32.ofInt 4) * x2) + x3) < 0 ∨ (am_kd μ (am_F μ (am_F μ r0 1) 1)).2 ≤ (((Int32.ofInt 4) * x2) + x3).toNatClampNeg))
    (h15 : (am_kd μ (am_F μ r0 6)).1 = 2)
    (h16 : ¬ ((am_A μ (am_F μ (am_F μ r0 2) 3) (((Int32.ofInt 4) * x1) + x3).toNatClampNeg) < 0 ∨ (am_kd μ (am_F μ r0 6)).2 ≤ (am_A μ (am_F μ (am_F μ r0 2) 3) (((Int32.ofInt 4) * x1) + x3).toNatClampNeg).toNatClampNeg))
    (k : Wp d 43 (2, [some (.ref r0), some (.int x1), some (.int x2), some (.int (x3 + Int32.ofInt 1)), none, none, none], [], (am_pA μ (am_F μ r0 6) (am_A μ (am_F μ (am_F μ r0 2) 3) (((Int32.ofInt 4) * x1) + x3).toNatClampNeg).toNatClampNeg (am_A μ (am_F μ (am_F μ r0 1) 1) (((Int32.ofInt 4) * x2) + x3).toNatClampNeg))) Q) :
    Wp d 43 (15, [some (.ref r0), some (.int x1), some (.int x2), some (.int x3), none, none, none], [], μ) Q := wp_blk rfl e43_15 (And.intro h1 (And.intro h2 (And.intro h3 (And.intro h4 (And.intro h5 (And.intro h6 (And.intro h7 (And.intro h8 (And.intro h9 (And.intro h10 (And.intro h11 (And.intro h12 (And.intro h13 (And.intro h14 (And.intro h15 (And.intro h16 k))))))))))))))))
def q43_52 : List (Nat × Instr × Nat) := [(52, .iload_n 1, 1), (53, .iconst 1, 1), (54, .isub, 1), (55, .istore_n 3, 1)]
theorem e43_52 : am_dec am_M43 q43_52 = true := by decide +kernel
theorem b43_52 {d : Nat} {Q : Option Value ⊕ Nat → am_Mem → Prop} {μ : am_Mem} {r0 : Nat} {x1 x2 x3 : Int32}
    (k : Wp d 43 (56, [some (.ref r0), some (.int x1), some (.int x2), some (.int (x1 - (Int32.ofInt 1))), none, none, none], [], μ) Q) :
    Wp d 43 (52, [some (.ref r0), some (.int x1), some (.int x2), some (.int x3), none, none, none], [], μ) Q := wp_blk rfl e43_52 k
def q43_56 : List (Nat × Instr × Nat) := [(56, .iload_n 3, 1), (57, .aload_n 0, 1), (58, .getfield 63, 3), (61, .getfield 217, 3), (64, .iload_n 1, 1), (65, .iaload, 1), (66, .if_icmp .lt 227, 3)]
theorem e43_56 : am_dec am_M43 q43_56 = true := by decide +kernel
theorem b43_56 {d : Nat} {Q : Option Value ⊕ Nat → am_Mem → Prop} {μ : am_Mem} {r0 : Nat} {x1 x2 x3 : Int32} {o4 o5 o6 : Option Value}
    (h1 : am_kd μ r0 = (1, 2))
    (h2 : ¬ am_F μ r0 2 = 15)
    (h3 : am_kd μ (am_F μ r0 2) = (1, 5))
    (h4 : ¬ am_F μ (am_F μ r0 2) 4 = 15)
    (h5 : (am_kd μ (am_F μ (am_F μ r0 2) 4)).1 = 2 ∨ (am_kd μ (am_F μ (am_F μ r0 2) 4)).1 = 8)
    (h6 : ¬ (x1 < 0 ∨ (am_kd μ (am_F μ (am_F μ r0 2) 4)).2 ≤ x1.toNatClampNeg))
    (k1 : x3 < (am_A μ (am_F μ (am_F μ r0 2) 4) x1.toNatClampNeg) → Wp d 43 (293, [some (.ref r0), some (.int x1), some (.int x2), some (.int x3), o4, o5, o6], [], μ) Q) (k2 : ¬ (x3 < (am_A μ (am_F μ (am_F μ r0 2) 4) x1.toNatClampNeg)) → Wp d 43 (69, [some (.ref r0), some (.int x1), some (.int x2), some (.int x3), o4, o5, o6], [], μ) Q) :
    Wp d 43 (56, [some (.ref r0), some (.int x1), some (.int x2), some (.int x3), o4, o5, o6], [], μ) Q := wp_blk rfl e43_56 (And.intro h1 (And.intro h2 (And.intro h3 (And.intro h4 (And.intro h5 (And.intro h6 (And.intro k1 k2)))))))
def q43_69 : List (Nat × Instr × Nat) := [(69, .aload_n 0, 1), (70, .getfield 29, 3), (73, .iload_n 3, 1), (74, .iaload, 1), (75, .istore 4, 2), (77, .aload_n 0, 1), (78, .getfield 63, 3), (81, .getfield 104, 3), (84, .iload_n 3, 1), (85, .iaload, 1), (86, .istore 5, 2), (88, .aload_n 0, 1), (89, .getfield 63, 3), (92, .getfield 92, 3), (95, .iload_n 3, 1), (96, .iaload, 1), (97, .ifCond .ne 29, 3)]
theorem e43_69 : am_dec am_M43 q43_69 = true := by decide +kernel
theorem b43_69 {d : Nat} {Q : Option Value ⊕ Nat → am_Mem → Prop} {μ : am_Mem} {r0 : Nat} {x1 x2 x3 : Int32} {o4 o5 o6 : Option Value}
    (h1 : am_kd μ r0 = (1, 2))
    (h2 : ¬ am_F μ r0 6 = 15)
    (h3 : (am_kd μ (am_F μ r0 6)).1 = 2 ∨ (am_kd μ (am_F μ r0 6)).1 = 8)
    (h4 : ¬ (x3 < 0 ∨ (am_kd μ (am_F μ r0 6)).2 ≤ x3.toNatClampNeg))
    (h5 : am_kd μ r0 = (1, 2))
    (h6 : ¬ am_F μ r0 2 = 15)
    (h7 : am_kd μ (am_F μ r0 2) = (1, 5))
    (h8 : ¬ am_F μ (am_F μ r0 2) 1 = 15)
    (h9 : (am_kd μ (am_F μ (am_F μ r0 2) 1)).1 = 2 ∨ (am_kd μ (am_F μ (am_F μ r0 2) 1)).1 = 8)
    (h10 : ¬ (x3 < 0 ∨ (am_kd μ (am_F μ (am_F μ r0 2) 1)).2 ≤ x3.toNatClampNeg))
    (h11 : am_kd μ r0 = (1, 2))
    (h12 : ¬ am_F μ r0 2 = 15)
    (h13 : am_kd μ (am_F μ r0 2) = (1, 5))
    (h14 : ¬ am_F μ (am_F μ r0 2) 5 = 15)
    (h15 : (am_kd μ (am_F μ (am_F μ r0 2) 5)).1 = 2 ∨ (am_kd μ (am_F μ (am_F μ r0 2) 5)).1 = 8)
    (h16 : ¬ (x3 < 0 ∨ (am_kd μ (am_F μ (am_F μ r0 2) 5)).2 ≤ x3.toNatClampNeg))
    (k1 : ¬ (am_A μ (am_F μ (am_F μ r0 2) 5) x3.toNatClampNeg) = 0 → Wp d 43 (126, [some (.ref r0), some (.int x1), some (.int x2), some (.int x3), some (.int (am_A μ (am_F μ r0 6) x3.toNatClampNeg)), some (.int (am_A μ (am_F μ (am_F μ r0 2) 1) x3.toNatClampNeg)), o6], [], μ) Q) (k2 : ¬ (¬ (am_A μ (am_F μ (am_F μ r0 2) 5) x3.toNatClampNeg) = 0) → Wp d 43 (100, [some (.ref r0), some (.int x1), some (.int x2), some (.int x3), some (.int (am_A μ (am_F μ r0 6) x3.toNatClampNeg)), some (.int (am_A μ (am_F μ (am_F μ r0 2) 1) x3.toNatClampNeg)), o6], [], μ) Q) :
    Wp d 43 (69, [some (.ref r0), some (.int x1), some (.int x2), some (.int x3), o4, o5, o6], [], μ) Q := wp_blk rfl e43_69 (And.intro h1 (And.intro h2 (And.intro h3 (And.intro h4 (And.intro h5 (And.intro h6 (And.intro h7 (And.intro h8 (And.intro h9 (And.intro h10 (And.intro h11 (And.intro h12 (And.intro h13 (And.intro h14 (And.intro h15 (And.intro h16 (And.intro k1 k2)))))))))))))))))
def q43_100 : List (Nat × Instr × Nat) := [(100, .aload_n 0, 1), (101, .getfield 26, 3), (104, .iload_n 3, 1), (105, .iaload, 1), (106, .iload 4, 2), (108, .if_icmp .eq 5, 3)]
theorem e43_100 : am_dec am_M43 q43_100 = true := by decide +kernel
theorem b43_100 {d : Nat} {Q : Option Value ⊕ Nat → am_Mem → Prop} {μ : am_Mem} {r0 : Nat} {x1 x2 x3 x4 x5 : Int32} {o6 : Option Value}
    (h1 : am_kd μ r0 = (1, 2))
    (h2 : ¬ am_F μ r0 5 = 15)
    (h3 : (am_kd μ (am_F μ r0 5)).1 = 2 ∨ (am_kd μ (am_F μ r0 5)).1 = 8)
    (h4 : ¬ (x3 < 0 ∨ (am_kd μ (am_F μ r0 5)).2 ≤ x3.toNatClampNeg))
    (k1 : (am_A μ (am_F μ r0 5) x3.toNatClampNeg) = x4 → Wp d 43 (113, [some (.ref r0), some (.int x1), some (.int x2), some (.int x3), some (.int x4), some (.int x5), o6], [], μ) Q) (k2 : ¬ ((am_A μ (am_F μ r0 5) x3.toNatClampNeg) = x4) → Wp d 43 (111, [some (.ref r0), some (.int x1), some (.int x2), some (.int x3), some (.int x4), some (.int x5), o6], [], μ) Q) :
    Wp d 43 (100, [some (.ref r0), some (.int x1), some (.int x2), some (.int x3), some (.int x4), some (.int x5), o6], [], μ) Q := wp_blk rfl e43_100 (And.intro h1 (And.intro h2 (And.intro h3 (And.intro h4 (And.intro k1 k2)))))
def q43_111 : List (Nat × Instr × Nat) := [(111, .iconst 0, 1)]
theorem e43_111 : am_dec am_M43 q43_111 = true := by decide +kernel
theorem e43_111_r : am_dec am_M43 [(112, .ireturn, 1)] = true := by decide +kernel
theorem b43_111 {d : Nat} {Q : Option Value ⊕ Nat → am_Mem → Prop} {μ : am_Mem} {r0 : Nat} {x1 x2 x3 x4 x5 : Int32} {o6 : Option Value}
    (k : Q (.inl (some (.int (Int32.ofInt 0)))) μ) :
    Wp d 43 (111, [some (.ref r0), some (.int x1), some (.int x2), some (.int x3), some (.int x4), some (.int x5), o6], [], μ) Q := wp_blk rfl e43_111 (wp_ri (ty := .boolean) rfl e43_111_r rfl (by decide) k)
def q43_113 : List (Nat × Instr × Nat) := [(113, .aload_n 0, 1), (114, .getfield 63, 3), (117, .getfield 217, 3), (120, .iload_n 3, 1), (121, .iaload, 1), (122, .istore_n 3, 1), (123, .goto 164, 3)]
theorem e43_113 : am_dec am_M43 q43_113 = true := by decide +kernel
theorem b43_113 {d : Nat} {Q : Option Value ⊕ Nat → am_Mem → Prop} {μ : am_Mem} {r0 : Nat} {x1 x2 x3 x4 x5 : Int32} {o6 : Option Value}
    (h1 : am_kd μ r0 = (1, 2))
    (h2 : ¬ am_F μ r0 2 = 15)
    (h3 : am_kd μ (am_F μ r0 2) = (1, 5))
    (h4 : ¬ am_F μ (am_F μ r0 2) 4 = 15)
    (h5 : (am_kd μ (am_F μ (am_F μ r0 2) 4)).1 = 2 ∨ (am_kd μ (am_F μ (am_F μ r0 2) 4)).1 = 8)
    (h6 : ¬ (x3 < 0 ∨ (am_kd μ (am_F μ (am_F μ r0 2) 4)).2 ≤ x3.toNatClampNeg))
    (k : Wp d 43 (287, [some (.ref r0), some (.int x1), some (.int x2), some (.int (am_A μ (am_F μ (am_F μ r0 2) 4) x3.toNatClampNeg)), some (.int x4), some (.int x5), o6], [], μ) Q) :
    Wp d 43 (113, [some (.ref r0), some (.int x1), some (.int x2), some (.int x3), some (.int x4), some (.int x5), o6], [], μ) Q := wp_blk rfl e43_113 (And.intro h1 (And.intro h2 (And.intro h3 (And.intro h4 (And.intro h5 (And.intro h6 k))))))
def q43_126 : List (Nat × Instr × Nat) := [(126, .iload 5, 2), (128, .ifCond .ge 63, 3)]
theorem e43_126 : am_dec am_M43 q43_126 = true := by decide +kernel
theorem b43_126 {d : Nat} {Q : Option Value ⊕ Nat → am_Mem → Prop} {μ : am_Mem} {r0 : Nat} {x1 x2 x3 x4 x5 : Int32} {o6 : Option Value}
    (k1 : 0 ≤ x5 → Wp d 43 (191, [some (.ref r0), some (.int x1), some (.int x2), some (.int x3), some (.int x4), some (.int x5), o6], [], μ) Q) (k2 : ¬ (0 ≤ x5) → Wp d 43 (131, [some (.ref r0), some (.int x1), some (.int x2), some (.int x3), some (.int x4), some (.int x5), o6], [], μ) Q) :
    Wp d 43 (126, [some (.ref r0), some (.int x1), some (.int x2), some (.int x3), some (.int x4), some (.int x5), o6], [], μ) Q := wp_blk rfl e43_126 (And.intro k1 k2)
def q43_131 : List (Nat × Instr × Nat) := [(131, .iconst (-1), 1), (132, .iload 5, 2), (134, .isub, 1), (135, .istore 6, 2), (137, .aload_n 0, 1), (138, .getfield 35, 3), (141, .iload 6, 2), (143, .ishr, 1), (144, .iconst 1, 1), (145, .iand, 1), (146, .ifCond .ne 28, 3)]
theorem e43_131 : am_dec am_M43 q43_131 = true := by decide +kernel
theorem b43_131 {d : Nat} {Q : Option Value ⊕ Nat → am_Mem → Prop} {μ : am_Mem} {r0 : Nat} {x1 x2 x3 x4 x5 : Int32} {o6 : Option Value}
    (h1 : am_kd μ r0 = (1, 2))
    (k1 : ¬ (((am_A μ r0 8) >>> (((Int32.ofInt (-1)) - x5) &&& 31)) &&& (Int32.ofInt 1)) = 0 → Wp d 43 (174, [some (.ref r0), some (.int x1), some (.int x2), some (.int x3), some (.int x4), some (.int x5), some (.int ((Int32.ofInt (-1)) - x5))], [], μ) Q) (k2 : ¬ (¬ (((am_A μ r0 8) >>> (((Int32.ofInt (-1)) - x5) &&& 31)) &&& (Int32.ofInt 1)) = 0) → Wp d 43 (149, [some (.ref r0), some (.int x1), some (.int x2), some (.int x3), some (.int x4), some (.int x5), some (.int ((Int32.ofInt (-1)) - x5))], [], μ) Q) :
    Wp d 43 (131, [some (.ref r0), some (.int x1), some (.int x2), some (.int x3), some (.int x4), some (.int x5), o6], [], μ) Q := wp_blk rfl e43_131 (And.intro h1 (And.intro k1 k2))
def q43_149 : List (Nat × Instr × Nat) := [(149, .aload_n 0, 1), (150, .getfield 32, 3), (153, .iload 6, 2), (155, .iload 4, 2), (157, .iastore, 1), (158, .aload_n 0, 1), (159, .dup, 1), (160, .getfield 35, 3), (163, .iconst 1, 1), (164, .iload 6, 2), (166, .ishl, 1), (167, .ior, 1), (168, .putfield 35, 3)]
theorem e43_149 : am_dec am_M43 q43_149 = true := by decide +kernel
theorem b43_149 {d : Nat} {Q : Option Value ⊕ Nat → am_Mem → Prop} {μ : am_Mem} {r0 : Nat} {x1 x2 x3 x4 x5 x6 : Int32}
    (h1 : am_kd μ r0 = (1, 2))
    (h2 : ¬ am_F μ r0 7 = 15)
    (h3 : (am_kd μ (am_F μ r0 7)).1 = 2)
    (h4 : ¬ (x6 < 0 ∨ (am_kd μ (am_F μ r0 7)).2 ≤ x6.toNatClampNeg))
    (h5 : am_kd (am_pA μ (am_F μ r0 7) x6.toNatClampNeg x4) r0 = (1, 2))
    (h6 : am_kd (am_pA μ (am_F μ r0 7) x6.toNatClampNeg x4) r0 = (1, 2))
    (k : Wp d 43 (171, [some (.ref r0), some (.int x1), some (.int x2), some (.int x3), some (.int x4), some (.int x5), some (.int x6)], [], (am_pA (am_pA μ (am_F μ r0 7) x6.toNatClampNeg x4) r0 8 ((am_A (am_pA μ (am_F μ r0 7) x6.toNatClampNeg x4) r0 8) ||| ((Int32.ofInt 1) <<< (x6 &&& 31))))) Q) :
    Wp d 43 (149, [some (.ref r0), some (.int x1), some (.int x2), some (.int x3), some (.int x4), some (.int x5), some (.int x6)], [], μ) Q := wp_blk rfl e43_149 (And.intro h1 (And.intro h2 (And.intro h3 (And.intro h4 (And.intro h5 (And.intro h6 (And.intro ⟨rfl, rfl⟩ k)))))))
def q43_171 : List (Nat × Instr × Nat) := [(171, .goto 17, 3)]
theorem e43_171 : am_dec am_M43 q43_171 = true := by decide +kernel
theorem b43_171 {d : Nat} {Q : Option Value ⊕ Nat → am_Mem → Prop} {μ : am_Mem} {r0 : Nat} {x1 x2 x3 x4 x5 x6 : Int32}
    (k : Wp d 43 (188, [some (.ref r0), some (.int x1), some (.int x2), some (.int x3), some (.int x4), some (.int x5), some (.int x6)], [], μ) Q) :
    Wp d 43 (171, [some (.ref r0), some (.int x1), some (.int x2), some (.int x3), some (.int x4), some (.int x5), some (.int x6)], [], μ) Q := wp_blk rfl e43_171 k
def q43_174 : List (Nat × Instr × Nat) := [(174, .aload_n 0, 1), (175, .getfield 32, 3), (178, .iload 6, 2), (180, .iaload, 1), (181, .iload 4, 2), (183, .if_icmp .eq 5, 3)]
theorem e43_174 : am_dec am_M43 q43_174 = true := by decide +kernel
theorem b43_174 {d : Nat} {Q : Option Value ⊕ Nat → am_Mem → Prop} {μ : am_Mem} {r0 : Nat} {x1 x2 x3 x4 x5 x6 : Int32}
    (h1 : am_kd μ r0 = (1, 2))
    (h2 : ¬ am_F μ r0 7 = 15)
    (h3 : (am_kd μ (am_F μ r0 7)).1 = 2 ∨ (am_kd μ (am_F μ r0 7)).1 = 8)
    (h4 : ¬ (x6 < 0 ∨ (am_kd μ (am_F μ r0 7)).2 ≤ x6.toNatClampNeg))
    (k1 : (am_A μ (am_F μ r0 7) x6.toNatClampNeg) = x4 → Wp d 43 (188, [some (.ref r0), some (.int x1), some (.int x2), some (.int x3), some (.int x4), some (.int x5), some (.int x6)], [], μ) Q) (k2 : ¬ ((am_A μ (am_F μ r0 7) x6.toNatClampNeg) = x4) → Wp d 43 (186, [some (.ref r0), some (.int x1), some (.int x2), some (.int x3), some (.int x4), some (.int x5), some (.int x6)], [], μ) Q) :
    Wp d 43 (174, [some (.ref r0), some (.int x1), some (.int x2), some (.int x3), some (.int x4), some (.int x5), some (.int x6)], [], μ) Q := wp_blk rfl e43_174 (And.intro h1 (And.intro h2 (And.intro h3 (And.intro h4 (And.intro k1 k2)))))
def q43_186 : List (Nat × Instr × Nat) := [(186, .iconst 0, 1)]
theorem e43_186 : am_dec am_M43 q43_186 = true := by decide +kernel
theorem e43_186_r : am_dec am_M43 [(187, .ireturn, 1)] = true := by decide +kernel
theorem b43_186 {d : Nat} {Q : Option Value ⊕ Nat → am_Mem → Prop} {μ : am_Mem} {r0 : Nat} {x1 x2 x3 x4 x5 x6 : Int32}
    (k : Q (.inl (some (.int (Int32.ofInt 0)))) μ) :
    Wp d 43 (186, [some (.ref r0), some (.int x1), some (.int x2), some (.int x3), some (.int x4), some (.int x5), some (.int x6)], [], μ) Q := wp_blk rfl e43_186 (wp_ri (ty := .boolean) rfl e43_186_r rfl (by decide) k)
def q43_188 : List (Nat × Instr × Nat) := [(188, .goto 99, 3)]
theorem e43_188 : am_dec am_M43 q43_188 = true := by decide +kernel
theorem b43_188 {d : Nat} {Q : Option Value ⊕ Nat → am_Mem → Prop} {μ : am_Mem} {r0 : Nat} {x1 x2 x3 x4 x5 x6 : Int32}
    (k : Wp d 43 (287, [some (.ref r0), some (.int x1), some (.int x2), some (.int x3), some (.int x4), some (.int x5), some (.int x6)], [], μ) Q) :
    Wp d 43 (188, [some (.ref r0), some (.int x1), some (.int x2), some (.int x3), some (.int x4), some (.int x5), some (.int x6)], [], μ) Q := wp_blk rfl e43_188 k
def q43_191 : List (Nat × Instr × Nat) := [(191, .aload_n 0, 1), (192, .getfield 78, 3), (195, .getfield 220, 3), (198, .iload 4, 2), (200, .iaload, 1), (201, .iload 5, 2), (203, .if_icmp .ne 25, 3)]
theorem e43_191 : am_dec am_M43 q43_191 = true := by decide +kernel
theorem b43_191 {d : Nat} {Q : Option Value ⊕ Nat → am_Mem → Prop} {μ : am_Mem} {r0 : Nat} {x1 x2 x3 x4 x5 : Int32} {o6 : Option Value}
    (h1 : am_kd μ r0 = (1, 2))
    (h2 : ¬ am_F μ r0 0 = 15)
    (h3 : am_kd μ (am_F μ r0 0) = (1, 8))
    (h4 : ¬ am_F μ (am_F μ r0 0) 1 = 15)
    (h5 : (am_kd μ (am_F μ (am_F μ r0 0) 1)).1 = 2 ∨ (am_kd μ (am_F μ (am_F μ r0 0) 1)).1 = 8)
    (h6 : ¬ (x4 < 0 ∨ (am_kd μ (am_F μ (am_F μ r0 0) 1)).2 ≤ x4.toNatClampNeg))
    (k1 : ¬ (am_A μ (am_F μ (am_F μ r0 0) 1) x4.toNatClampNeg) = x5 → Wp d 43 (228, [some (.ref r0), some (.int x1), some (.int x2), some (.int x3), some (.int x4), some (.int x5), o6], [], μ) Q) (k2 : ¬ (¬ (am_A μ (am_F μ (am_F μ r0 0) 1) x4.toNatClampNeg) = x5) → Wp d 43 (206, [some (.ref r0), some (.int x1), some (.int x2), some (.int x3), some (.int x4), some (.int x5), o6], [], μ) Q) :
    Wp d 43 (191, [some (.ref r0), some (.int x1), some (.int x2), some (.int x3), some (.int x4), some (.int x5), o6], [], μ) Q := wp_blk rfl e43_191 (And.intro h1 (And.intro h2 (And.intro h3 (And.intro h4 (And.intro h5 (And.intro h6 (And.intro k1 k2)))))))
def q43_206 : List (Nat × Instr × Nat) := [(206, .aload_n 0, 1), (207, .getfield 78, 3), (210, .getfield 221, 3), (213, .iload 4, 2), (215, .iaload, 1), (216, .aload_n 0, 1), (217, .getfield 63, 3), (220, .getfield 95, 3), (223, .iload_n 3, 1), (224, .iaload, 1), (225, .if_icmp .eq 5, 3)]
theorem e43_206 : am_dec am_M43 q43_206 = true := by decide +kernel
theorem b43_206 {d : Nat} {Q : Option Value ⊕ Nat → am_Mem → Prop} {μ : am_Mem} {r0 : Nat} {x1 x2 x3 x4 x5 : Int32} {o6 : Option Value}
    (h1 : am_kd μ r0 = (1, 2))
    (h2 : ¬ am_F μ r0 0 = 15)
    (h3 : am_kd μ (am_F μ r0 0) = (1, 8))
    (h4 : ¬ am_F μ (am_F μ r0 0) 2 = 15)
    (h5 : (am_kd μ (am_F μ (am_F μ r0 0) 2)).1 = 2 ∨ (am_kd μ (am_F μ (am_F μ r0 0) 2)).1 = 8)
    (h6 : ¬ (x4 < 0 ∨ (am_kd μ (am_F μ (am_F μ r0 0) 2)).2 ≤ x4.toNatClampNeg))
    (h7 : am_kd μ r0 = (1, 2))
    (h8 : ¬ am_F μ r0 2 = 15)
    (h9 : am_kd μ (am_F μ r0 2) = (1, 5))
    (h10 : ¬ am_F μ (am_F μ r0 2) 2 = 15)
    (h11 : (am_kd μ (am_F μ (am_F μ r0 2) 2)).1 = 2 ∨ (am_kd μ (am_F μ (am_F μ r0 2) 2)).1 = 8)
    (h12 : ¬ (x3 < 0 ∨ (am_kd μ (am_F μ (am_F μ r0 2) 2)).2 ≤ x3.toNatClampNeg))
    (k1 : (am_A μ (am_F μ (am_F μ r0 0) 2) x4.toNatClampNeg) = (am_A μ (am_F μ (am_F μ r0 2) 2) x3.toNatClampNeg) → Wp d 43 (230, [some (.ref r0), some (.int x1), some (.int x2), some (.int x3), some (.int x4), some (.int x5), o6], [], μ) Q) (k2 : ¬ ((am_A μ (am_F μ (am_F μ r0 0) 2) x4.toNatClampNeg) = (am_A μ (am_F μ (am_F μ r0 2) 2) x3.toNatClampNeg)) → Wp d 43 (228, [some (.ref r0), some (.int x1), some (.int x2), some (.int x3), some (.int x4), some (.int x5), o6], [], μ) Q) :
    Wp d 43 (206, [some (.ref r0), some (.int x1), some (.int x2), some (.int x3), some (.int x4), some (.int x5), o6], [], μ) Q := wp_blk rfl e43_206 (And.intro h1 (And.intro h2 (And.intro h3 (And.intro h4 (And.intro h5 (And.intro h6 (And.intro h7 (And.intro h8 (And.intro h9 (And.intro h10 (And.intro h11 (And.intro h12 (And.intro k1 k2)))))))))))))
def q43_228 : List (Nat × Instr × Nat) := [(228, .iconst 0, 1)]
theorem e43_228 : am_dec am_M43 q43_228 = true := by decide +kernel
theorem e43_228_r : am_dec am_M43 [(229, .ireturn, 1)] = true := by decide +kernel
theorem b43_228 {d : Nat} {Q : Option Value ⊕ Nat → am_Mem → Prop} {μ : am_Mem} {r0 : Nat} {x1 x2 x3 x4 x5 : Int32} {o6 : Option Value}
    (k : Q (.inl (some (.int (Int32.ofInt 0)))) μ) :
    Wp d 43 (228, [some (.ref r0), some (.int x1), some (.int x2), some (.int x3), some (.int x4), some (.int x5), o6], [], μ) Q := wp_blk rfl e43_228 (wp_ri (ty := .boolean) rfl e43_228_r rfl (by decide) k)
def q43_230 : List (Nat × Instr × Nat) := [(230, .iconst 0, 1), (231, .istore 6, 2)]
theorem e43_230 : am_dec am_M43 q43_230 = true := by decide +kernel
theorem b43_230 {d : Nat} {Q : Option Value ⊕ Nat → am_Mem → Prop} {μ : am_Mem} {r0 : Nat} {x1 x2 x3 x4 x5 : Int32} {o6 : Option Value}
    (k : Wp d 43 (233, [some (.ref r0), some (.int x1), some (.int x2), some (.int x3), some (.int x4), some (.int x5), some (.int (Int32.ofInt 0))], [], μ) Q) :
    Wp d 43 (230, [some (.ref r0), some (.int x1), some (.int x2), some (.int x3), some (.int x4), some (.int x5), o6], [], μ) Q := wp_blk rfl e43_230 k
def q43_233 : List (Nat × Instr × Nat) := [(233, .iload 6, 2), (235, .aload_n 0, 1), (236, .getfield 63, 3), (239, .getfield 95, 3), (242, .iload_n 3, 1), (243, .iaload, 1), (244, .if_icmp .ge 43, 3)]
theorem e43_233 : am_dec am_M43 q43_233 = true := by decide +kernel
theorem b43_233 {d : Nat} {Q : Option Value ⊕ Nat → am_Mem → Prop} {μ : am_Mem} {r0 : Nat} {x1 x2 x3 x4 x5 x6 : Int32}
    (h1 : am_kd μ r0 = (1, 2))
    (h2 : ¬ am_F μ r0 2 = 15)
    (h3 : am_kd μ (am_F μ r0 2) = (1, 5))
    (h4 : ¬ am_F μ (am_F μ r0 2) 2 = 15)
    (h5 : (am_kd μ (am_F μ (am_F μ r0 2) 2)).1 = 2 ∨ (am_kd μ (am_F μ (am_F μ r0 2) 2)).1 = 8)
    (h6 : ¬ (x3 < 0 ∨ (am_kd μ (am_F μ (am_F μ r0 2) 2)).2 ≤ x3.toNatClampNeg))
    (k1 : (am_A μ (am_F μ (am_F μ r0 2) 2) x3.toNatClampNeg) ≤ x6 → Wp d 43 (287, [some (.ref r0), some (.int x1), some (.int x2), some (.int x3), some (.int x4), some (.int x5), some (.int x6)], [], μ) Q) (k2 : ¬ ((am_A μ (am_F μ (am_F μ r0 2) 2) x3.toNatClampNeg) ≤ x6) → Wp d 43 (247, [some (.ref r0), some (.int x1), some (.int x2), some (.int x3), some (.int x4), some (.int x5), some (.int x6)], [], μ) Q) :
    Wp d 43 (233, [some (.ref r0), some (.int x1), some (.int x2), some (.int x3), some (.int x4), some (.int x5), some (.int x6)], [], μ) Q := wp_blk rfl e43_233 (And.intro h1 (And.intro h2 (And.intro h3 (And.intro h4 (And.intro h5 (And.intro h6 (And.intro k1 k2)))))))
def q43_247 : List (Nat × Instr × Nat) := [(247, .aload_n 0, 1), (248, .getfield 29, 3), (251, .aload_n 0, 1), (252, .getfield 63, 3), (255, .getfield 101, 3), (258, .iconst 4, 1), (259, .iload_n 3, 1), (260, .imul, 1), (261, .iload 6, 2), (263, .iadd, 1), (264, .iaload, 1), (265, .aload_n 0, 1), (266, .getfield 78, 3), (269, .getfield 222, 3), (272, .iconst 4, 1), (273, .iload 4, 2), (275, .imul, 1), (276, .iload 6, 2), (278, .iadd, 1), (279, .iaload, 1), (280, .iastore, 1), (281, .iinc 6 1, 3), (284, .goto (-51), 3)]
theorem e43_247 : am_dec am_M43 q43_247 = true := by decide +kernel
theorem b43_247 {d : Nat} {Q : Option Value ⊕ Nat → am_Mem → Prop} {μ : am_Mem} {r0 : Nat} {x1 x2 x3 x4 x5 x6 : Int32}
    (h1 : am_kd μ r0 = (1, 2))
    (h2 : ¬ am_F μ r0 6 = 15)
    (h3 : am_kd μ r0 = (1, 2))
    (h4 : ¬ am_F μ r0 2 = 15)
    (h5 : am_kd μ (am_F μ r0 2) = (1, 5))
    (h6 : ¬ am_F μ (am_F μ r0 2) 3 = 15)
    (h7 : (am_kd μ (am_F μ (am_F μ r0 2) 3)).1 = 2 ∨ (am_kd μ (am_F μ (am_F μ r0 2) 3)).1 = 8)
    (h8 : ¬ ((((Int32.ofInt 4) * x3) + x6) < 0 ∨ (am_kd μ (am_F μ (am_F μ r0 2) 3)).2 ≤ (((Int32.ofInt 4) * x3) + x6).toNatClampNeg))
    (h9 : am_kd μ r0 = (1, 2))
    (h10 : ¬ am_F μ r0 0 = 15)
    (h11 : am_kd μ (am_F μ r0 0) = (1, 8))
    (h12 : ¬ am_F μ (am_F μ r0 0) 3 = 15)
    (h13 : (am_kd μ (am_F μ (am_F μ r0 0) 3)).1 = 2 ∨ (am_kd μ (am_F μ (am_F μ r0 0) 3)).1 = 8)
    (h14 : ¬ ((((Int32.ofInt 4) * x4) + x6) < 0 ∨ (am_kd μ (am_F μ (am_F μ r0 0) 3)).2 ≤ (((Int32.ofInt 4) * x4) + x6).toNatClampNeg))
    (h15 : (am_kd μ (am_F μ r0 6)).1 = 2)
    (h16 : ¬ ((am_A μ (am_F μ (am_F μ r0 2) 3) (((Int32.ofInt 4) * x3) + x6).toNatClampNeg) < 0 ∨ (am_kd μ (am_F μ r0 6)).2 ≤ (am_A μ (am_F μ (am_F μ r0 2) 3) (((Int32.ofInt 4) * x3) + x6).toNatClampNeg).toNatClampNeg))
    (k : Wp d 43 (233, [some (.ref r0), some (.int x1), some (.int x2), some (.int x3), some (.int x4), some (.int x5), some (.int (x6 + Int32.ofInt 1))], [], (am_pA μ (am_F μ r0 6) (am_A μ (am_F μ (am_F μ r0 2) 3) (((Int32.ofInt 4) * x3) + x6).toNatClampNeg).toNatClampNeg (am_A μ (am_F μ (am_F μ r0 0) 3) (((Int32.ofInt 4) * x4) + x6).toNatClampNeg))) Q) :
    Wp d 43 (247, [some (.ref r0), some (.int x1), some (.int x2), some (.int x3), some (.int x4), some (.int x5), some (.int x6)], [], μ) Q := wp_blk rfl e43_247 (And.intro h1 (And.intro h2 (And.intro h3 (And.intro h4 (And.intro h5 (And.intro h6 (And.intro h7 (And.intro h8 (And.intro h9 (And.intro h10 (And.intro h11 (And.intro h12 (And.intro h13 (And.intro h14 (And.intro h15 (And.intro h16 k))))))))))))))))
def q43_287 : List (Nat × Instr × Nat) := [(287, .iinc 3 (-1), 3), (290, .goto (-234), 3)]
theorem e43_287 : am_dec am_M43 q43_287 = true := by decide +kernel
theorem b43_287 {d : Nat} {Q : Option Value ⊕ Nat → am_Mem → Prop} {μ : am_Mem} {r0 : Nat} {x1 x2 x3 x4 x5 : Int32} {o6 : Option Value}
    (k : Wp d 43 (56, [some (.ref r0), some (.int x1), some (.int x2), some (.int (x3 + Int32.ofInt (-1))), some (.int x4), some (.int x5), o6], [], μ) Q) :
    Wp d 43 (287, [some (.ref r0), some (.int x1), some (.int x2), some (.int x3), some (.int x4), some (.int x5), o6], [], μ) Q := wp_blk rfl e43_287 k
def q43_293 : List (Nat × Instr × Nat) := [(293, .iconst 1, 1)]
theorem e43_293 : am_dec am_M43 q43_293 = true := by decide +kernel
theorem e43_293_r : am_dec am_M43 [(294, .ireturn, 1)] = true := by decide +kernel
theorem b43_293 {d : Nat} {Q : Option Value ⊕ Nat → am_Mem → Prop} {μ : am_Mem} {r0 : Nat} {x1 x2 x3 : Int32} {o4 o5 o6 : Option Value}
    (k : Q (.inl (some (.int (Int32.ofInt 1)))) μ) :
    Wp d 43 (293, [some (.ref r0), some (.int x1), some (.int x2), some (.int x3), o4, o5, o6], [], μ) Q := wp_blk rfl e43_293 (wp_ri (ty := .boolean) rfl e43_293_r rfl (by decide) k)
/-! RuleSheets$Model.runRecursive(II)V -/
def q44_0 : List (Nat × Instr × Nat) := [(0, .iload_n 2, 1), (1, .istore_n 3, 1)]
theorem e44_0 : am_dec am_M44 q44_0 = true := by decide +kernel
theorem b44_0 {d : Nat} {Q : Option Value ⊕ Nat → am_Mem → Prop} {μ : am_Mem} {r0 : Nat} {x1 x2 : Int32}
    (k : Wp d 44 (2, [some (.ref r0), some (.int x1), some (.int x2), some (.int x2), none, none, none], [], μ) Q) :
    Wp d 44 (0, [some (.ref r0), some (.int x1), some (.int x2), none, none, none, none], [], μ) Q := wp_blk rfl e44_0 k
def q44_2 : List (Nat × Instr × Nat) := [(2, .iload_n 3, 1), (3, .aload_n 0, 1), (4, .getfield 12, 3), (7, .getfield 130, 3), (10, .if_icmp .ge 170, 3)]
theorem e44_2 : am_dec am_M44 q44_2 = true := by decide +kernel
theorem b44_2 {d : Nat} {Q : Option Value ⊕ Nat → am_Mem → Prop} {μ : am_Mem} {r0 : Nat} {x1 x2 x3 : Int32} {o4 o5 o6 : Option Value}
    (h1 : am_kd μ r0 = (1, 2))
    (h2 : ¬ am_F μ r0 1 = 15)
    (h3 : am_kd μ (am_F μ r0 1) = (1, 1))
    (k1 : (am_A μ (am_F μ r0 1) 7) ≤ x3 → Wp d 44 (180, [some (.ref r0), some (.int x1), some (.int x2), some (.int x3), o4, o5, o6], [], μ) Q) (k2 : ¬ ((am_A μ (am_F μ r0 1) 7) ≤ x3) → Wp d 44 (13, [some (.ref r0), some (.int x1), some (.int x2), some (.int x3), o4, o5, o6], [], μ) Q) :
    Wp d 44 (2, [some (.ref r0), some (.int x1), some (.int x2), some (.int x3), o4, o5, o6], [], μ) Q := wp_blk rfl e44_2 (And.intro h1 (And.intro h2 (And.intro h3 (And.intro k1 k2))))
def q44_13 : List (Nat × Instr × Nat) := [(13, .iload_n 3, 1), (14, .sipush 1000, 3), (17, .if_icmp .ge 163, 3)]
theorem e44_13 : am_dec am_M44 q44_13 = true := by decide +kernel
theorem b44_13 {d : Nat} {Q : Option Value ⊕ Nat → am_Mem → Prop} {μ : am_Mem} {r0 : Nat} {x1 x2 x3 : Int32} {o4 o5 o6 : Option Value}
    (k1 : ((Int16.ofInt 1000).toInt32) ≤ x3 → Wp d 44 (180, [some (.ref r0), some (.int x1), some (.int x2), some (.int x3), o4, o5, o6], [], μ) Q) (k2 : ¬ (((Int16.ofInt 1000).toInt32) ≤ x3) → Wp d 44 (20, [some (.ref r0), some (.int x1), some (.int x2), some (.int x3), o4, o5, o6], [], μ) Q) :
    Wp d 44 (13, [some (.ref r0), some (.int x1), some (.int x2), some (.int x3), o4, o5, o6], [], μ) Q := wp_blk rfl e44_13 (And.intro k1 k2)
def q44_20 : List (Nat × Instr × Nat) := [(20, .aload_n 0, 1), (21, .iload_n 3, 1), (22, .putfield 44, 3), (25, .aload_n 0, 1), (26, .getfield 63, 3), (29, .getfield 172, 3), (32, .iload_n 1, 1), (33, .iaload, 1), (34, .istore 4, 2)]
theorem e44_20 : am_dec am_M44 q44_20 = true := by decide +kernel
theorem b44_20 {d : Nat} {Q : Option Value ⊕ Nat → am_Mem → Prop} {μ : am_Mem} {r0 : Nat} {x1 x2 x3 : Int32} {o4 o5 o6 : Option Value}
    (h1 : am_kd μ r0 = (1, 2))
    (h2 : am_kd (am_pA μ r0 11 x3) r0 = (1, 2))
    (h3 : ¬ am_F (am_pA μ r0 11 x3) r0 2 = 15)
    (h4 : am_kd (am_pA μ r0 11 x3) (am_F (am_pA μ r0 11 x3) r0 2) = (1, 5))
    (h5 : ¬ am_F (am_pA μ r0 11 x3) (am_F (am_pA μ r0 11 x3) r0 2) 16 = 15)
    (h6 : (am_kd (am_pA μ r0 11 x3) (am_F (am_pA μ r0 11 x3) (am_F (am_pA μ r0 11 x3) r0 2) 16)).1 = 2 ∨ (am_kd (am_pA μ r0 11 x3) (am_F (am_pA μ r0 11 x3) (am_F (am_pA μ r0 11 x3) r0 2) 16)).1 = 8)
    (h7 : ¬ (x1 < 0 ∨ (am_kd (am_pA μ r0 11 x3) (am_F (am_pA μ r0 11 x3) (am_F (am_pA μ r0 11 x3) r0 2) 16)).2 ≤ x1.toNatClampNeg))
    (k : Wp d 44 (36, [some (.ref r0), some (.int x1), some (.int x2), some (.int x3), some (.int (am_A (am_pA μ r0 11 x3) (am_F (am_pA μ r0 11 x3) (am_F (am_pA μ r0 11 x3) r0 2) 16) x1.toNatClampNeg)), o5, o6], [], (am_pA μ r0 11 x3)) Q) :
    Wp d 44 (20, [some (.ref r0), some (.int x1), some (.int x2), some (.int x3), o4, o5, o6], [], μ) Q := wp_blk rfl e44_20 (And.intro h1 (And.intro ⟨rfl, rfl⟩ (And.intro h2 (And.intro h3 (And.intro h4 (And.intro h5 (And.intro h6 (And.intro h7 k))))))))
def q44_36 : List (Nat × Instr × Nat) := [(36, .iload 4, 2), (38, .aload_n 0, 1), (39, .getfield 63, 3), (42, .getfield 169, 3), (45, .iload_n 1, 1), (46, .iconst 1, 1), (47, .iadd, 1), (48, .iaload, 1), (49, .if_icmp .ge 125, 3)]
theorem e44_36 : am_dec am_M44 q44_36 = true := by decide +kernel
theorem b44_36 {d : Nat} {Q : Option Value ⊕ Nat → am_Mem → Prop} {μ : am_Mem} {r0 : Nat} {x1 x2 x3 x4 : Int32} {o5 o6 : Option Value}
    (h1 : am_kd μ r0 = (1, 2))
    (h2 : ¬ am_F μ r0 2 = 15)
    (h3 : am_kd μ (am_F μ r0 2) = (1, 5))
    (h4 : ¬ am_F μ (am_F μ r0 2) 15 = 15)
    (h5 : (am_kd μ (am_F μ (am_F μ r0 2) 15)).1 = 2 ∨ (am_kd μ (am_F μ (am_F μ r0 2) 15)).1 = 8)
    (h6 : ¬ ((x1 + (Int32.ofInt 1)) < 0 ∨ (am_kd μ (am_F μ (am_F μ r0 2) 15)).2 ≤ (x1 + (Int32.ofInt 1)).toNatClampNeg))
    (k1 : (am_A μ (am_F μ (am_F μ r0 2) 15) (x1 + (Int32.ofInt 1)).toNatClampNeg) ≤ x4 → Wp d 44 (174, [some (.ref r0), some (.int x1), some (.int x2), some (.int x3), some (.int x4), o5, o6], [], μ) Q) (k2 : ¬ ((am_A μ (am_F μ (am_F μ r0 2) 15) (x1 + (Int32.ofInt 1)).toNatClampNeg) ≤ x4) → Wp d 44 (52, [some (.ref r0), some (.int x1), some (.int x2), some (.int x3), some (.int x4), o5, o6], [], μ) Q) :
    Wp d 44 (36, [some (.ref r0), some (.int x1), some (.int x2), some (.int x3), some (.int x4), o5, o6], [], μ) Q := wp_blk rfl e44_36 (And.intro h1 (And.intro h2 (And.intro h3 (And.intro h4 (And.intro h5 (And.intro h6 (And.intro k1 k2)))))))
def q44_52 : List (Nat × Instr × Nat) := [(52, .aload_n 0, 1), (53, .aload_n 0, 1), (54, .getfield 63, 3), (57, .getfield 175, 3), (60, .iload 4, 2), (62, .iaload, 1), (63, .putfield 38, 3), (66, .iconst 0, 1), (67, .istore 5, 2)]
theorem e44_52 : am_dec am_M44 q44_52 = true := by decide +kernel
theorem b44_52 {d : Nat} {Q : Option Value ⊕ Nat → am_Mem → Prop} {μ : am_Mem} {r0 : Nat} {x1 x2 x3 x4 : Int32} {o5 o6 : Option Value}
    (h1 : am_kd μ r0 = (1, 2))
    (h2 : ¬ am_F μ r0 2 = 15)
    (h3 : am_kd μ (am_F μ r0 2) = (1, 5))
    (h4 : ¬ am_F μ (am_F μ r0 2) 14 = 15)
    (h5 : (am_kd μ (am_F μ (am_F μ r0 2) 14)).1 = 2 ∨ (am_kd μ (am_F μ (am_F μ r0 2) 14)).1 = 8)
    (h6 : ¬ (x4 < 0 ∨ (am_kd μ (am_F μ (am_F μ r0 2) 14)).2 ≤ x4.toNatClampNeg))
    (h7 : am_kd μ r0 = (1, 2))
    (k : Wp d 44 (69, [some (.ref r0), some (.int x1), some (.int x2), some (.int x3), some (.int x4), some (.int (Int32.ofInt 0)), o6], [], (am_pA μ r0 9 (am_A μ (am_F μ (am_F μ r0 2) 14) x4.toNatClampNeg))) Q) :
    Wp d 44 (52, [some (.ref r0), some (.int x1), some (.int x2), some (.int x3), some (.int x4), o5, o6], [], μ) Q := wp_blk rfl e44_52 (And.intro h1 (And.intro h2 (And.intro h3 (And.intro h4 (And.intro h5 (And.intro h6 (And.intro h7 (And.intro ⟨rfl, rfl⟩ k))))))))
def q44_69 : List (Nat × Instr × Nat) := [(69, .iload 5, 2), (71, .aload_n 0, 1), (72, .getfield 63, 3), (75, .getfield 156, 3), (78, .aload_n 0, 1), (79, .getfield 38, 3), (82, .iaload, 1), (83, .if_icmp .ge 85, 3)]
theorem e44_69 : am_dec am_M44 q44_69 = true := by decide +kernel
theorem b44_69 {d : Nat} {Q : Option Value ⊕ Nat → am_Mem → Prop} {μ : am_Mem} {r0 : Nat} {x1 x2 x3 x4 x5 : Int32} {o6 : Option Value}
    (h1 : am_kd μ r0 = (1, 2))
    (h2 : ¬ am_F μ r0 2 = 15)
    (h3 : am_kd μ (am_F μ r0 2) = (1, 5))
    (h4 : ¬ am_F μ (am_F μ r0 2) 9 = 15)
    (h5 : am_kd μ r0 = (1, 2))
    (h6 : (am_kd μ (am_F μ (am_F μ r0 2) 9)).1 = 2 ∨ (am_kd μ (am_F μ (am_F μ r0 2) 9)).1 = 8)
    (h7 : ¬ ((am_A μ r0 9) < 0 ∨ (am_kd μ (am_F μ (am_F μ r0 2) 9)).2 ≤ (am_A μ r0 9).toNatClampNeg))
    (k1 : (am_A μ (am_F μ (am_F μ r0 2) 9) (am_A μ r0 9).toNatClampNeg) ≤ x5 → Wp d 44 (168, [some (.ref r0), some (.int x1), some (.int x2), some (.int x3), some (.int x4), some (.int x5), o6], [], μ) Q) (k2 : ¬ ((am_A μ (am_F μ (am_F μ r0 2) 9) (am_A μ r0 9).toNatClampNeg) ≤ x5) → Wp d 44 (86, [some (.ref r0), some (.int x1), some (.int x2), some (.int x3), some (.int x4), some (.int x5), o6], [], μ) Q) :
    Wp d 44 (69, [some (.ref r0), some (.int x1), some (.int x2), some (.int x3), some (.int x4), some (.int x5), o6], [], μ) Q := wp_blk rfl e44_69 (And.intro h1 (And.intro h2 (And.intro h3 (And.intro h4 (And.intro h5 (And.intro h6 (And.intro h7 (And.intro k1 k2))))))))
def q44_86 : List (Nat × Instr × Nat) := [(86, .aload_n 0, 1), (87, .iload 5, 2), (89, .putfield 41, 3), (92, .aload_n 0, 1), (93, .iconst 0, 1), (94, .putfield 35, 3), (97, .aload_n 0, 1), (98, .getfield 63, 3), (101, .aload_n 0, 1), (102, .getfield 38, 3), (105, .iload 5, 2)]
theorem e44_86 : am_dec am_M44 q44_86 = true := by decide +kernel
theorem e44_86_c : am_dc1 am_M44 107 (.invokevirtual 162) 3 = true := by decide +kernel
theorem b44_86 {d : Nat} {Q : Option Value ⊕ Nat → am_Mem → Prop} {μ : am_Mem} {r0 : Nat} {x1 x2 x3 x4 x5 : Int32} {o6 : Option Value} {P : Int32 → am_Mem → Prop} {X : Nat → am_Mem → Prop}
    (h1 : am_kd μ r0 = (1, 2))
    (h2 : am_kd (am_pA μ r0 10 x5) r0 = (1, 2))
    (h3 : am_kd (am_pA (am_pA μ r0 10 x5) r0 8 (Int32.ofInt 0)) r0 = (1, 2))
    (h4 : ¬ am_F (am_pA (am_pA μ r0 10 x5) r0 8 (Int32.ofInt 0)) r0 2 = 15)
    (h5 : am_kd (am_pA (am_pA μ r0 10 x5) r0 8 (Int32.ofInt 0)) r0 = (1, 2))
    (hk : am_kd (am_pA (am_pA μ r0 10 x5) r0 8 (Int32.ofInt 0)) (am_F (am_pA (am_pA μ r0 10 x5) r0 8 (Int32.ofInt 0)) r0 2) = (1, 5))
    (hc : Wp d 69 (0, [some (.ref (am_F (am_pA (am_pA μ r0 10 x5) r0 8 (Int32.ofInt 0)) r0 2)), some (.int (am_A (am_pA (am_pA μ r0 10 x5) r0 8 (Int32.ofInt 0)) r0 9)), some (.int x5)], [], (am_pA (am_pA μ r0 10 x5) r0 8 (Int32.ofInt 0))) (pI P X)) (hr : ∀ x μ', P x μ' → Wp (d + 1) 44 (110, [some (.ref r0), some (.int x1), some (.int x2), some (.int x3), some (.int x4), some (.int x5), o6], [.int x], (μ')) Q)
    (hx : ∀ x μ', X x μ' → Q (.inr x) μ') :
    Wp (d + 1) 44 (86, [some (.ref r0), some (.int x1), some (.int x2), some (.int x3), some (.int x4), some (.int x5), o6], [], μ) Q := wp_blk rfl e44_86 (And.intro h1 (And.intro ⟨rfl, rfl⟩ (And.intro h2 (And.intro ⟨rfl, rfl⟩ (And.intro h3 (And.intro h4 (And.intro h5 (wp_cv (as := [.int (am_A (am_pA (am_pA μ r0 10 x5) r0 8 (Int32.ofInt 0)) r0 9), .int x5]) rfl e44_86_c rfl rfl rfl rfl rfl hk hc (fun v μ' hv => by obtain ⟨x, rfl, hp⟩ := pI_r hv; exact hr x μ' hp) hx))))))))
def q44_110 : List (Nat × Instr × Nat) := [(110, .istore 6, 2), (112, .aload_n 0, 1), (113, .getfield 63, 3), (116, .getfield 104, 3), (119, .iload 6, 2), (121, .iaload, 1), (122, .aload_n 0, 1), (123, .getfield 12, 3), (126, .getfield 181, 3), (129, .iload_n 3, 1), (130, .iaload, 1), (131, .if_icmp .ne 31, 3)]
theorem e44_110 : am_dec am_M44 q44_110 = true := by decide +kernel
theorem b44_110 {d : Nat} {Q : Option Value ⊕ Nat → am_Mem → Prop} {μ : am_Mem} {r0 : Nat} {x1 x2 x3 x4 x5 s0 : Int32} {o6 : Option Value}
    (h1 : am_kd μ r0 = (1, 2))
    (h2 : ¬ am_F μ r0 2 = 15)
    (h3 : am_kd μ (am_F μ r0 2) = (1, 5))
    (h4 : ¬ am_F μ (am_F μ r0 2) 1 = 15)
    (h5 : (am_kd μ (am_F μ (am_F μ r0 2) 1)).1 = 2 ∨ (am_kd μ (am_F μ (am_F μ r0 2) 1)).1 = 8)
    (h6 : ¬ (s0 < 0 ∨ (am_kd μ (am_F μ (am_F μ r0 2) 1)).2 ≤ s0.toNatClampNeg))
    (h7 : am_kd μ r0 = (1, 2))
    (h8 : ¬ am_F μ r0 1 = 15)
    (h9 : am_kd μ (am_F μ r0 1) = (1, 1))
    (h10 : ¬ am_F μ (am_F μ r0 1) 0 = 15)
    (h11 : (am_kd μ (am_F μ (am_F μ r0 1) 0)).1 = 2 ∨ (am_kd μ (am_F μ (am_F μ r0 1) 0)).1 = 8)
    (h12 : ¬ (x3 < 0 ∨ (am_kd μ (am_F μ (am_F μ r0 1) 0)).2 ≤ x3.toNatClampNeg))
    (k1 : ¬ (am_A μ (am_F μ (am_F μ r0 2) 1) s0.toNatClampNeg) = (am_A μ (am_F μ (am_F μ r0 1) 0) x3.toNatClampNeg) → Wp d 44 (162, [some (.ref r0), some (.int x1), some (.int x2), some (.int x3), some (.int x4), some (.int x5), some (.int s0)], [], μ) Q) (k2 : ¬ (¬ (am_A μ (am_F μ (am_F μ r0 2) 1) s0.toNatClampNeg) = (am_A μ (am_F μ (am_F μ r0 1) 0) x3.toNatClampNeg)) → Wp d 44 (134, [some (.ref r0), some (.int x1), some (.int x2), some (.int x3), some (.int x4), some (.int x5), some (.int s0)], [], μ) Q) :
    Wp d 44 (110, [some (.ref r0), some (.int x1), some (.int x2), some (.int x3), some (.int x4), some (.int x5), o6], [.int s0], μ) Q := wp_blk rfl e44_110 (And.intro h1 (And.intro h2 (And.intro h3 (And.intro h4 (And.intro h5 (And.intro h6 (And.intro h7 (And.intro h8 (And.intro h9 (And.intro h10 (And.intro h11 (And.intro h12 (And.intro k1 k2)))))))))))))
def q44_134 : List (Nat × Instr × Nat) := [(134, .aload_n 0, 1), (135, .aload_n 0, 1), (136, .getfield 38, 3)]
theorem e44_134 : am_dec am_M44 q44_134 = true := by decide +kernel
theorem e44_134_c : am_dc1 am_M44 139 (.invokevirtual 152) 3 = true := by decide +kernel
theorem b44_134 {d : Nat} {Q : Option Value ⊕ Nat → am_Mem → Prop} {μ : am_Mem} {r0 : Nat} {x1 x2 x3 x4 x5 x6 : Int32} {P : Int64 → am_Mem → Prop} {X : Nat → am_Mem → Prop}
    (h1 : am_kd μ r0 = (1, 2))
    (hk : am_kd μ r0 = (1, 2))
    (hc : Wp d 38 (0, [some (.ref r0), some (.int (am_A μ r0 9)), none, none, none], [], μ) (pL P X)) (hr : ∀ x μ', P x μ' → Wp (d + 1) 44 (142, [some (.ref r0), some (.int x1), some (.int x2), some (.int x3), some (.int x4), some (.int x5), some (.int x6)], [.long x], (μ')) Q)
    (hx : ∀ x μ', X x μ' → Q (.inr x) μ') :
    Wp (d + 1) 44 (134, [some (.ref r0), some (.int x1), some (.int x2), some (.int x3), some (.int x4), some (.int x5), some (.int x6)], [], μ) Q := wp_blk rfl e44_134 (And.intro h1 (wp_cv (as := [.int (am_A μ r0 9)]) rfl e44_134_c rfl rfl rfl rfl rfl hk hc (fun v μ' hv => by obtain ⟨x, rfl, hp⟩ := pL_r hv; exact hr x μ' hp) hx))
def q44_142 : List (Nat × Instr × Nat) := [(142, .lconst 0, 1), (143, .lcmp, 1), (144, .ifCond .le 18, 3)]
theorem e44_142 : am_dec am_M44 q44_142 = true := by decide +kernel
theorem b44_142 {d : Nat} {Q : Option Value ⊕ Nat → am_Mem → Prop} {μ : am_Mem} {r0 : Nat} {x1 x2 x3 x4 x5 x6 : Int32} {y90 : Int64}
    (k1 : (lg_cmp y90 (Int64.ofNat 0)) ≤ 0 → Wp d 44 (162, [some (.ref r0), some (.int x1), some (.int x2), some (.int x3), some (.int x4), some (.int x5), some (.int x6)], [], μ) Q) (k2 : ¬ ((lg_cmp y90 (Int64.ofNat 0)) ≤ 0) → Wp d 44 (147, [some (.ref r0), some (.int x1), some (.int x2), some (.int x3), some (.int x4), some (.int x5), some (.int x6)], [], μ) Q) :
    Wp d 44 (142, [some (.ref r0), some (.int x1), some (.int x2), some (.int x3), some (.int x4), some (.int x5), some (.int x6)], [.long y90], μ) Q := wp_blk rfl e44_142 (And.intro k1 k2)
def q44_147 : List (Nat × Instr × Nat) := [(147, .aload_n 0, 1), (148, .iload 6, 2), (150, .iload_n 3, 1)]
theorem e44_147 : am_dec am_M44 q44_147 = true := by decide +kernel
theorem e44_147_c : am_dc1 am_M44 151 (.invokevirtual 184) 3 = true := by decide +kernel
theorem b44_147 {d : Nat} {Q : Option Value ⊕ Nat → am_Mem → Prop} {μ : am_Mem} {r0 : Nat} {x1 x2 x3 x4 x5 x6 : Int32} {P : Int32 → am_Mem → Prop} {X : Nat → am_Mem → Prop}
    (hk : am_kd μ r0 = (1, 2))
    (hc : Wp d 43 (0, [some (.ref r0), some (.int x6), some (.int x3), none, none, none, none], [], μ) (pI P X)) (hr : ∀ x μ', P x μ' → Wp (d + 1) 44 (154, [some (.ref r0), some (.int x1), some (.int x2), some (.int x3), some (.int x4), some (.int x5), some (.int x6)], [.int x], (μ')) Q)
    (hx : ∀ x μ', X x μ' → Q (.inr x) μ') :
    Wp (d + 1) 44 (147, [some (.ref r0), some (.int x1), some (.int x2), some (.int x3), some (.int x4), some (.int x5), some (.int x6)], [], μ) Q := wp_blk rfl e44_147 (wp_cv (as := [.int x6, .int x3]) rfl e44_147_c rfl rfl rfl rfl rfl hk hc (fun v μ' hv => by obtain ⟨x, rfl, hp⟩ := pI_r hv; exact hr x μ' hp) hx)
def q44_154 : List (Nat × Instr × Nat) := [(154, .ifCond .eq 8, 3)]
theorem e44_154 : am_dec am_M44 q44_154 = true := by decide +kernel
theorem b44_154 {d : Nat} {Q : Option Value ⊕ Nat → am_Mem → Prop} {μ : am_Mem} {r0 : Nat} {x1 x2 x3 x4 x5 x6 s0 : Int32}
    (k1 : s0 = 0 → Wp d 44 (162, [some (.ref r0), some (.int x1), some (.int x2), some (.int x3), some (.int x4), some (.int x5), some (.int x6)], [], μ) Q) (k2 : ¬ (s0 = 0) → Wp d 44 (157, [some (.ref r0), some (.int x1), some (.int x2), some (.int x3), some (.int x4), some (.int x5), some (.int x6)], [], μ) Q) :
    Wp d 44 (154, [some (.ref r0), some (.int x1), some (.int x2), some (.int x3), some (.int x4), some (.int x5), some (.int x6)], [.int s0], μ) Q := wp_blk rfl e44_154 (And.intro k1 k2)
def q44_157 : List (Nat × Instr × Nat) := [(157, .aload_n 0, 1), (158, .iconst 0, 1)]
theorem e44_157 : am_dec am_M44 q44_157 = true := by decide +kernel
theorem e44_157_c : am_dc1 am_M44 159 (.invokevirtual 178) 3 = true := by decide +kernel
theorem b44_157 {d : Nat} {Q : Option Value ⊕ Nat → am_Mem → Prop} {μ : am_Mem} {r0 : Nat} {x1 x2 x3 x4 x5 x6 : Int32} {P : am_Mem → Prop} {X : Nat → am_Mem → Prop}
    (hk : am_kd μ r0 = (1, 2))
    (hc : Wp d 39 (0, [some (.ref r0), some (.int (Int32.ofInt 0)), none, none, none, none, none, none, none, none, none], [], μ) (pV P X)) (hr : ∀ μ', P μ' → Wp (d + 1) 44 (162, [some (.ref r0), some (.int x1), some (.int x2), some (.int x3), some (.int x4), some (.int x5), some (.int x6)], [], (μ')) Q)
    (hx : ∀ x μ', X x μ' → Q (.inr x) μ') :
    Wp (d + 1) 44 (157, [some (.ref r0), some (.int x1), some (.int x2), some (.int x3), some (.int x4), some (.int x5), some (.int x6)], [], μ) Q := wp_blk rfl e44_157 (wp_cv (as := [.int (Int32.ofInt 0)]) rfl e44_157_c rfl rfl rfl rfl rfl hk hc (fun v μ' hv => by obtain ⟨rfl, hp⟩ := pV_r hv; exact hr μ' hp) hx)
def q44_162 : List (Nat × Instr × Nat) := [(162, .iinc 5 1, 3), (165, .goto (-96), 3)]
theorem e44_162 : am_dec am_M44 q44_162 = true := by decide +kernel
theorem b44_162 {d : Nat} {Q : Option Value ⊕ Nat → am_Mem → Prop} {μ : am_Mem} {r0 : Nat} {x1 x2 x3 x4 x5 x6 : Int32}
    (k : Wp d 44 (69, [some (.ref r0), some (.int x1), some (.int x2), some (.int x3), some (.int x4), some (.int (x5 + Int32.ofInt 1)), some (.int x6)], [], μ) Q) :
    Wp d 44 (162, [some (.ref r0), some (.int x1), some (.int x2), some (.int x3), some (.int x4), some (.int x5), some (.int x6)], [], μ) Q := wp_blk rfl e44_162 k
def q44_168 : List (Nat × Instr × Nat) := [(168, .iinc 4 1, 3), (171, .goto (-135), 3)]
theorem e44_168 : am_dec am_M44 q44_168 = true := by decide +kernel
theorem b44_168 {d : Nat} {Q : Option Value ⊕ Nat → am_Mem → Prop} {μ : am_Mem} {r0 : Nat} {x1 x2 x3 x4 x5 : Int32} {o6 : Option Value}
    (k : Wp d 44 (36, [some (.ref r0), some (.int x1), some (.int x2), some (.int x3), some (.int (x4 + Int32.ofInt 1)), some (.int x5), o6], [], μ) Q) :
    Wp d 44 (168, [some (.ref r0), some (.int x1), some (.int x2), some (.int x3), some (.int x4), some (.int x5), o6], [], μ) Q := wp_blk rfl e44_168 k
def q44_174 : List (Nat × Instr × Nat) := [(174, .iinc 3 1, 3), (177, .goto (-175), 3)]
theorem e44_174 : am_dec am_M44 q44_174 = true := by decide +kernel
theorem b44_174 {d : Nat} {Q : Option Value ⊕ Nat → am_Mem → Prop} {μ : am_Mem} {r0 : Nat} {x1 x2 x3 x4 : Int32} {o5 o6 : Option Value}
    (k : Wp d 44 (2, [some (.ref r0), some (.int x1), some (.int x2), some (.int (x3 + Int32.ofInt 1)), some (.int x4), o5, o6], [], μ) Q) :
    Wp d 44 (174, [some (.ref r0), some (.int x1), some (.int x2), some (.int x3), some (.int x4), o5, o6], [], μ) Q := wp_blk rfl e44_174 k
theorem e44_180_r : am_dec am_M44 [(180, .return_, 1)] = true := by decide +kernel
theorem b44_180 {d : Nat} {Q : Option Value ⊕ Nat → am_Mem → Prop} {μ : am_Mem} {r0 : Nat} {x1 x2 x3 : Int32} {o4 o5 o6 : Option Value}
    (k : Q (.inl none) μ) :
    Wp d 44 (180, [some (.ref r0), some (.int x1), some (.int x2), some (.int x3), o4, o5, o6], [], μ) Q := (wp_rv rfl e44_180_r rfl k)
/-! RuleSheets$Model.workOut([II[II)V -/
def q45_0 : List (Nat × Instr × Nat) := [(0, .aload_n 0, 1), (1, .getfield 12, 3), (4, .aload_n 0, 1), (5, .getfield 50, 3)]
theorem e45_0 : am_dec am_M45 q45_0 = true := by decide +kernel
theorem e45_0_c : am_dc1 am_M45 8 (.invokevirtual 82) 3 = true := by decide +kernel
theorem b45_0 {d : Nat} {Q : Option Value ⊕ Nat → am_Mem → Prop} {μ : am_Mem} {r0 r1 r3 : Nat} {x2 x4 : Int32} {P : am_Mem → Prop} {X : Nat → am_Mem → Prop}
    (h1 : am_kd μ r0 = (1, 2))
    (h2 : ¬ am_F μ r0 1 = 15)
    (h3 : am_kd μ r0 = (1, 2))
    (hk : am_kd μ (am_F μ r0 1) = (1, 1))
    (hc : Wp d 28 (0, [some (.ref (am_F μ r0 1)), some (.int (am_A μ r0 13)), none], [], μ) (pV P X)) (hr : ∀ μ', P μ' → Wp (d + 1) 45 (11, [some (.ref r0), some (.ref r1), some (.int x2), some (.ref r3), some (.int x4), none, none], [], (μ')) Q)
    (hx : ∀ x μ', X x μ' → Q (.inr x) μ') :
    Wp (d + 1) 45 (0, [some (.ref r0), some (.ref r1), some (.int x2), some (.ref r3), some (.int x4), none, none], [], μ) Q := wp_blk rfl e45_0 (And.intro h1 (And.intro h2 (And.intro h3 (wp_cv (as := [.int (am_A μ r0 13)]) rfl e45_0_c rfl rfl rfl rfl rfl hk hc (fun v μ' hv => by obtain ⟨rfl, hp⟩ := pV_r hv; exact hr μ' hp) hx))))
def q45_11 : List (Nat × Instr × Nat) := [(11, .iconst 0, 1), (12, .istore 5, 2)]
theorem e45_11 : am_dec am_M45 q45_11 = true := by decide +kernel
theorem b45_11 {d : Nat} {Q : Option Value ⊕ Nat → am_Mem → Prop} {μ : am_Mem} {r0 r1 r3 : Nat} {x2 x4 : Int32}
    (k : Wp d 45 (14, [some (.ref r0), some (.ref r1), some (.int x2), some (.ref r3), some (.int x4), some (.int (Int32.ofInt 0)), none], [], μ) Q) :
    Wp d 45 (11, [some (.ref r0), some (.ref r1), some (.int x2), some (.ref r3), some (.int x4), none, none], [], μ) Q := wp_blk rfl e45_11 k
def q45_14 : List (Nat × Instr × Nat) := [(14, .iload 5, 2), (16, .iload_n 2, 1), (17, .if_icmp .ge 31, 3)]
theorem e45_14 : am_dec am_M45 q45_14 = true := by decide +kernel
theorem b45_14 {d : Nat} {Q : Option Value ⊕ Nat → am_Mem → Prop} {μ : am_Mem} {r0 r1 r3 : Nat} {x2 x4 x5 : Int32}
    (k1 : x2 ≤ x5 → Wp d 45 (48, [some (.ref r0), some (.ref r1), some (.int x2), some (.ref r3), some (.int x4), some (.int x5), none], [], μ) Q) (k2 : ¬ (x2 ≤ x5) → Wp d 45 (20, [some (.ref r0), some (.ref r1), some (.int x2), some (.ref r3), some (.int x4), some (.int x5), none], [], μ) Q) :
    Wp d 45 (14, [some (.ref r0), some (.ref r1), some (.int x2), some (.ref r3), some (.int x4), some (.int x5), none], [], μ) Q := wp_blk rfl e45_14 (And.intro k1 k2)
def q45_20 : List (Nat × Instr × Nat) := [(20, .aload_n 0, 1), (21, .getfield 12, 3), (24, .getfield 145, 3), (27, .iconst 0, 1), (28, .aload_n 1, 1), (29, .iload 5, 2), (31, .iaload, 1), (32, .iastore, 1), (33, .aload_n 0, 1), (34, .getfield 12, 3), (37, .iconst 2, 1), (38, .iconst 1, 1)]
theorem e45_20 : am_dec am_M45 q45_20 = true := by decide +kernel
theorem e45_20_c : am_dc1 am_M45 39 (.invokevirtual 146) 3 = true := by decide +kernel
theorem b45_20 {d : Nat} {Q : Option Value ⊕ Nat → am_Mem → Prop} {μ : am_Mem} {r0 r1 r3 : Nat} {x2 x4 x5 : Int32} {P : am_Mem → Prop} {X : Nat → am_Mem → Prop}
    (h1 : am_kd μ r0 = (1, 2))
    (h2 : ¬ am_F μ r0 1 = 15)
    (h3 : am_kd μ (am_F μ r0 1) = (1, 1))
    (h4 : ¬ am_F μ (am_F μ r0 1) 8 = 15)
    (h5 : (am_kd μ r1).1 = 2 ∨ (am_kd μ r1).1 = 8)
    (h6 : ¬ (x5 < 0 ∨ (am_kd μ r1).2 ≤ x5.toNatClampNeg))
    (h7 : (am_kd μ (am_F μ (am_F μ r0 1) 8)).1 = 2)
    (h8 : ¬ ((Int32.ofInt 0) < 0 ∨ (am_kd μ (am_F μ (am_F μ r0 1) 8)).2 ≤ (Int32.ofInt 0).toNatClampNeg))
    (h9 : am_kd (am_pA μ (am_F μ (am_F μ r0 1) 8) (Int32.ofInt 0).toNatClampNeg (am_A μ r1 x5.toNatClampNeg)) r0 = (1, 2))
    (h10 : ¬ am_F (am_pA μ (am_F μ (am_F μ r0 1) 8) (Int32.ofInt 0).toNatClampNeg (am_A μ r1 x5.toNatClampNeg)) r0 1 = 15)
    (hk : am_kd (am_pA μ (am_F μ (am_F μ r0 1) 8) (Int32.ofInt 0).toNatClampNeg (am_A μ r1 x5.toNatClampNeg)) (am_F (am_pA μ (am_F μ (am_F μ r0 1) 8) (Int32.ofInt 0).toNatClampNeg (am_A μ r1 x5.toNatClampNeg)) r0 1) = (1, 1))
    (hc : Wp d 31 (0, [some (.ref (am_F (am_pA μ (am_F μ (am_F μ r0 1) 8) (Int32.ofInt 0).toNatClampNeg (am_A μ r1 x5.toNatClampNeg)) r0 1)), some (.int (Int32.ofInt 2)), some (.int (Int32.ofInt 1)), none, none], [], (am_pA μ (am_F μ (am_F μ r0 1) 8) (Int32.ofInt 0).toNatClampNeg (am_A μ r1 x5.toNatClampNeg))) (pV P X)) (hr : ∀ μ', P μ' → Wp (d + 1) 45 (42, [some (.ref r0), some (.ref r1), some (.int x2), some (.ref r3), some (.int x4), some (.int x5), none], [], (μ')) Q)
    (hx : ∀ x μ', X x μ' → Q (.inr x) μ') :
    Wp (d + 1) 45 (20, [some (.ref r0), some (.ref r1), some (.int x2), some (.ref r3), some (.int x4), some (.int x5), none], [], μ) Q := wp_blk rfl e45_20 (And.intro h1 (And.intro h2 (And.intro h3 (And.intro h4 (And.intro h5 (And.intro h6 (And.intro h7 (And.intro h8 (And.intro h9 (And.intro h10 (wp_cv (as := [.int (Int32.ofInt 2), .int (Int32.ofInt 1)]) rfl e45_20_c rfl rfl rfl rfl rfl hk hc (fun v μ' hv => by obtain ⟨rfl, hp⟩ := pV_r hv; exact hr μ' hp) hx)))))))))))
def q45_42 : List (Nat × Instr × Nat) := [(42, .iinc 5 1, 3), (45, .goto (-31), 3)]
theorem e45_42 : am_dec am_M45 q45_42 = true := by decide +kernel
theorem b45_42 {d : Nat} {Q : Option Value ⊕ Nat → am_Mem → Prop} {μ : am_Mem} {r0 r1 r3 : Nat} {x2 x4 x5 : Int32}
    (k : Wp d 45 (14, [some (.ref r0), some (.ref r1), some (.int x2), some (.ref r3), some (.int x4), some (.int (x5 + Int32.ofInt 1)), none], [], μ) Q) :
    Wp d 45 (42, [some (.ref r0), some (.ref r1), some (.int x2), some (.ref r3), some (.int x4), some (.int x5), none], [], μ) Q := wp_blk rfl e45_42 k
def q45_48 : List (Nat × Instr × Nat) := [(48, .iconst 0, 1), (49, .istore 5, 2)]
theorem e45_48 : am_dec am_M45 q45_48 = true := by decide +kernel
theorem b45_48 {d : Nat} {Q : Option Value ⊕ Nat → am_Mem → Prop} {μ : am_Mem} {r0 r1 r3 : Nat} {x2 x4 x5 : Int32}
    (k : Wp d 45 (51, [some (.ref r0), some (.ref r1), some (.int x2), some (.ref r3), some (.int x4), some (.int (Int32.ofInt 0)), none], [], μ) Q) :
    Wp d 45 (48, [some (.ref r0), some (.ref r1), some (.int x2), some (.ref r3), some (.int x4), some (.int x5), none], [], μ) Q := wp_blk rfl e45_48 k
def q45_51 : List (Nat × Instr × Nat) := [(51, .iload 5, 2), (53, .iload 4, 2), (55, .if_icmp .ge 47, 3)]
theorem e45_51 : am_dec am_M45 q45_51 = true := by decide +kernel
theorem b45_51 {d : Nat} {Q : Option Value ⊕ Nat → am_Mem → Prop} {μ : am_Mem} {r0 r1 r3 : Nat} {x2 x4 x5 : Int32}
    (k1 : x4 ≤ x5 → Wp d 45 (102, [some (.ref r0), some (.ref r1), some (.int x2), some (.ref r3), some (.int x4), some (.int x5), none], [], μ) Q) (k2 : ¬ (x4 ≤ x5) → Wp d 45 (58, [some (.ref r0), some (.ref r1), some (.int x2), some (.ref r3), some (.int x4), some (.int x5), none], [], μ) Q) :
    Wp d 45 (51, [some (.ref r0), some (.ref r1), some (.int x2), some (.ref r3), some (.int x4), some (.int x5), none], [], μ) Q := wp_blk rfl e45_51 (And.intro k1 k2)
def q45_58 : List (Nat × Instr × Nat) := [(58, .aload_n 0, 1), (59, .getfield 12, 3), (62, .getfield 145, 3), (65, .iconst 0, 1), (66, .aload_n 0, 1), (67, .getfield 18, 3), (70, .iload 5, 2), (72, .iaload, 1), (73, .iastore, 1), (74, .aload_n 0, 1), (75, .getfield 12, 3), (78, .getfield 145, 3), (81, .iconst 1, 1), (82, .aload_n 3, 1), (83, .iload 5, 2), (85, .iaload, 1), (86, .iastore, 1)]
theorem e45_58 : am_dec am_M45 q45_58 = true := by decide +kernel
theorem b45_58 {d : Nat} {Q : Option Value ⊕ Nat → am_Mem → Prop} {μ : am_Mem} {r0 r1 r3 : Nat} {x2 x4 x5 : Int32}
    (h1 : am_kd μ r0 = (1, 2))
    (h2 : ¬ am_F μ r0 1 = 15)
    (h3 : am_kd μ (am_F μ r0 1) = (1, 1))
    (h4 : ¬ am_F μ (am_F μ r0 1) 8 = 15)
    (h5 : am_kd μ r0 = (1, 2))
    (h6 : ¬ am_F μ r0 3 = 15)
    (h7 : (am_kd μ (am_F μ r0 3)).1 = 2 ∨ (am_kd μ (am_F μ r0 3)).1 = 8)
    (h8 : ¬ (x5 < 0 ∨ (am_kd μ (am_F μ r0 3)).2 ≤ x5.toNatClampNeg))
    (h9 : (am_kd μ (am_F μ (am_F μ r0 1) 8)).1 = 2)
    (h10 : ¬ ((Int32.ofInt 0) < 0 ∨ (am_kd μ (am_F μ (am_F μ r0 1) 8)).2 ≤ (Int32.ofInt 0).toNatClampNeg))
    (h11 : am_kd (am_pA μ (am_F μ (am_F μ r0 1) 8) (Int32.ofInt 0).toNatClampNeg (am_A μ (am_F μ r0 3) x5.toNatClampNeg)) r0 = (1, 2))
    (h12 : ¬ am_F (am_pA μ (am_F μ (am_F μ r0 1) 8) (Int32.ofInt 0).toNatClampNeg (am_A μ (am_F μ r0 3) x5.toNatClampNeg)) r0 1 = 15)
    (h13 : am_kd (am_pA μ (am_F μ (am_F μ r0 1) 8) (Int32.ofInt 0).toNatClampNeg (am_A μ (am_F μ r0 3) x5.toNatClampNeg)) (am_F (am_pA μ (am_F μ (am_F μ r0 1) 8) (Int32.ofInt 0).toNatClampNeg (am_A μ (am_F μ r0 3) x5.toNatClampNeg)) r0 1) = (1, 1))
    (h14 : ¬ am_F (am_pA μ (am_F μ (am_F μ r0 1) 8) (Int32.ofInt 0).toNatClampNeg (am_A μ (am_F μ r0 3) x5.toNatClampNeg)) (am_F (am_pA μ (am_F μ (am_F μ r0 1) 8) (Int32.ofInt 0).toNatClampNeg (am_A μ (am_F μ r0 3) x5.toNatClampNeg)) r0 1) 8 = 15)
    (h15 : (am_kd (am_pA μ (am_F μ (am_F μ r0 1) 8) (Int32.ofInt 0).toNatClampNeg (am_A μ (am_F μ r0 3) x5.toNatClampNeg)) r3).1 = 2 ∨ (am_kd (am_pA μ (am_F μ (am_F μ r0 1) 8) (Int32.ofInt 0).toNatClampNeg (am_A μ (am_F μ r0 3) x5.toNatClampNeg)) r3).1 = 8)
    (h16 : ¬ (x5 < 0 ∨ (am_kd (am_pA μ (am_F μ (am_F μ r0 1) 8) (Int32.ofInt 0).toNatClampNeg (am_A μ (am_F μ r0 3) x5.toNatClampNeg)) r3).2 ≤ x5.toNatClampNeg))
    (h17 : (am_kd (am_pA μ (am_F μ (am_F μ r0 1) 8) (Int32.ofInt 0).toNatClampNeg (am_A μ (am_F μ r0 3) x5.toNatClampNeg)) (am_F (am_pA μ (am_F μ (am_F μ r0 1) 8) (Int32.ofInt 0).toNatClampNeg (am_A μ (am_F μ r0 3) x5.toNatClampNeg)) (am_F (am_pA μ (am_F μ (am_F μ r0 1) 8) (Int32.ofInt 0).toNatClampNeg (am_A μ (am_F μ r0 3) x5.toNatClampNeg)) r0 1) 8)).1 = 2)
    (h18 : ¬ ((Int32.ofInt 1) < 0 ∨ (am_kd (am_pA μ (am_F μ (am_F μ r0 1) 8) (Int32.ofInt 0).toNatClampNeg (am_A μ (am_F μ r0 3) x5.toNatClampNeg)) (am_F (am_pA μ (am_F μ (am_F μ r0 1) 8) (Int32.ofInt 0).toNatClampNeg (am_A μ (am_F μ r0 3) x5.toNatClampNeg)) (am_F (am_pA μ (am_F μ (am_F μ r0 1) 8) (Int32.ofInt 0).toNatClampNeg (am_A μ (am_F μ r0 3) x5.toNatClampNeg)) r0 1) 8)).2 ≤ (Int32.ofInt 1).toNatClampNeg))
    (k : Wp d 45 (87, [some (.ref r0), some (.ref r1), some (.int x2), some (.ref r3), some (.int x4), some (.int x5), none], [], (am_pA (am_pA μ (am_F μ (am_F μ r0 1) 8) (Int32.ofInt 0).toNatClampNeg (am_A μ (am_F μ r0 3) x5.toNatClampNeg)) (am_F (am_pA μ (am_F μ (am_F μ r0 1) 8) (Int32.ofInt 0).toNatClampNeg (am_A μ (am_F μ r0 3) x5.toNatClampNeg)) (am_F (am_pA μ (am_F μ (am_F μ r0 1) 8) (Int32.ofInt 0).toNatClampNeg (am_A μ (am_F μ r0 3) x5.toNatClampNeg)) r0 1) 8) (Int32.ofInt 1).toNatClampNeg (am_A (am_pA μ (am_F μ (am_F μ r0 1) 8) (Int32.ofInt 0).toNatClampNeg (am_A μ (am_F μ r0 3) x5.toNatClampNeg)) r3 x5.toNatClampNeg))) Q) :
    Wp d 45 (58, [some (.ref r0), some (.ref r1), some (.int x2), some (.ref r3), some (.int x4), some (.int x5), none], [], μ) Q := wp_blk rfl e45_58 (And.intro h1 (And.intro h2 (And.intro h3 (And.intro h4 (And.intro h5 (And.intro h6 (And.intro h7 (And.intro h8 (And.intro h9 (And.intro h10 (And.intro h11 (And.intro h12 (And.intro h13 (And.intro h14 (And.intro h15 (And.intro h16 (And.intro h17 (And.intro h18 k))))))))))))))))))
def q45_87 : List (Nat × Instr × Nat) := [(87, .aload_n 0, 1), (88, .getfield 12, 3), (91, .iconst 4, 1), (92, .iconst 2, 1)]
theorem e45_87 : am_dec am_M45 q45_87 = true := by decide +kernel
theorem e45_87_c : am_dc1 am_M45 93 (.invokevirtual 146) 3 = true := by decide +kernel
theorem b45_87 {d : Nat} {Q : Option Value ⊕ Nat → am_Mem → Prop} {μ : am_Mem} {r0 r1 r3 : Nat} {x2 x4 x5 : Int32} {P : am_Mem → Prop} {X : Nat → am_Mem → Prop}
    (h1 : am_kd μ r0 = (1, 2))
    (h2 : ¬ am_F μ r0 1 = 15)
    (hk : am_kd μ (am_F μ r0 1) = (1, 1))
    (hc : Wp d 31 (0, [some (.ref (am_F μ r0 1)), some (.int (Int32.ofInt 4)), some (.int (Int32.ofInt 2)), none, none], [], μ) (pV P X)) (hr : ∀ μ', P μ' → Wp (d + 1) 45 (96, [some (.ref r0), some (.ref r1), some (.int x2), some (.ref r3), some (.int x4), some (.int x5), none], [], (μ')) Q)
    (hx : ∀ x μ', X x μ' → Q (.inr x) μ') :
    Wp (d + 1) 45 (87, [some (.ref r0), some (.ref r1), some (.int x2), some (.ref r3), some (.int x4), some (.int x5), none], [], μ) Q := wp_blk rfl e45_87 (And.intro h1 (And.intro h2 (wp_cv (as := [.int (Int32.ofInt 4), .int (Int32.ofInt 2)]) rfl e45_87_c rfl rfl rfl rfl rfl hk hc (fun v μ' hv => by obtain ⟨rfl, hp⟩ := pV_r hv; exact hr μ' hp) hx)))
def q45_96 : List (Nat × Instr × Nat) := [(96, .iinc 5 1, 3), (99, .goto (-48), 3)]
theorem e45_96 : am_dec am_M45 q45_96 = true := by decide +kernel
theorem b45_96 {d : Nat} {Q : Option Value ⊕ Nat → am_Mem → Prop} {μ : am_Mem} {r0 r1 r3 : Nat} {x2 x4 x5 : Int32}
    (k : Wp d 45 (51, [some (.ref r0), some (.ref r1), some (.int x2), some (.ref r3), some (.int x4), some (.int (x5 + Int32.ofInt 1)), none], [], μ) Q) :
    Wp d 45 (96, [some (.ref r0), some (.ref r1), some (.int x2), some (.ref r3), some (.int x4), some (.int x5), none], [], μ) Q := wp_blk rfl e45_96 k
def q45_102 : List (Nat × Instr × Nat) := [(102, .aload_n 0, 1), (103, .getfield 63, 3), (106, .getfield 127, 3), (109, .istore 5, 2)]
theorem e45_102 : am_dec am_M45 q45_102 = true := by decide +kernel
theorem b45_102 {d : Nat} {Q : Option Value ⊕ Nat → am_Mem → Prop} {μ : am_Mem} {r0 r1 r3 : Nat} {x2 x4 x5 : Int32}
    (h1 : am_kd μ r0 = (1, 2))
    (h2 : ¬ am_F μ r0 2 = 15)
    (h3 : am_kd μ (am_F μ r0 2) = (1, 5))
    (k : Wp d 45 (111, [some (.ref r0), some (.ref r1), some (.int x2), some (.ref r3), some (.int x4), some (.int (am_A μ (am_F μ r0 2) 18)), none], [], μ) Q) :
    Wp d 45 (102, [some (.ref r0), some (.ref r1), some (.int x2), some (.ref r3), some (.int x4), some (.int x5), none], [], μ) Q := wp_blk rfl e45_102 (And.intro h1 (And.intro h2 (And.intro h3 k)))
def q45_111 : List (Nat × Instr × Nat) := [(111, .iload 5, 2), (113, .aload_n 0, 1), (114, .getfield 63, 3), (117, .getfield 149, 3), (120, .if_icmp .ge 32, 3)]
theorem e45_111 : am_dec am_M45 q45_111 = true := by decide +kernel
theorem b45_111 {d : Nat} {Q : Option Value ⊕ Nat → am_Mem → Prop} {μ : am_Mem} {r0 r1 r3 : Nat} {x2 x4 x5 : Int32} {o6 : Option Value}
    (h1 : am_kd μ r0 = (1, 2))
    (h2 : ¬ am_F μ r0 2 = 15)
    (h3 : am_kd μ (am_F μ r0 2) = (1, 5))
    (k1 : (am_A μ (am_F μ r0 2) 17) ≤ x5 → Wp d 45 (152, [some (.ref r0), some (.ref r1), some (.int x2), some (.ref r3), some (.int x4), some (.int x5), o6], [], μ) Q) (k2 : ¬ ((am_A μ (am_F μ r0 2) 17) ≤ x5) → Wp d 45 (123, [some (.ref r0), some (.ref r1), some (.int x2), some (.ref r3), some (.int x4), some (.int x5), o6], [], μ) Q) :
    Wp d 45 (111, [some (.ref r0), some (.ref r1), some (.int x2), some (.ref r3), some (.int x4), some (.int x5), o6], [], μ) Q := wp_blk rfl e45_111 (And.intro h1 (And.intro h2 (And.intro h3 (And.intro k1 k2))))
def q45_123 : List (Nat × Instr × Nat) := [(123, .aload_n 0, 1), (124, .getfield 12, 3), (127, .getfield 130, 3), (130, .istore 6, 2), (132, .aload_n 0, 1), (133, .iload 5, 2)]
theorem e45_123 : am_dec am_M45 q45_123 = true := by decide +kernel
theorem e45_123_c : am_dc1 am_M45 135 (.invokevirtual 131) 3 = true := by decide +kernel
theorem b45_123 {d : Nat} {Q : Option Value ⊕ Nat → am_Mem → Prop} {μ : am_Mem} {r0 r1 r3 : Nat} {x2 x4 x5 : Int32} {o6 : Option Value} {P : am_Mem → Prop} {X : Nat → am_Mem → Prop}
    (h1 : am_kd μ r0 = (1, 2))
    (h2 : ¬ am_F μ r0 1 = 15)
    (h3 : am_kd μ (am_F μ r0 1) = (1, 1))
    (hk : am_kd μ r0 = (1, 2))
    (hc : Wp d 37 (0, [some (.ref r0), some (.int x5), none], [], μ) (pV P X)) (hr : ∀ μ', P μ' → Wp (d + 1) 45 (138, [some (.ref r0), some (.ref r1), some (.int x2), some (.ref r3), some (.int x4), some (.int x5), some (.int (am_A μ (am_F μ r0 1) 7))], [], (μ')) Q)
    (hx : ∀ x μ', X x μ' → Q (.inr x) μ') :
    Wp (d + 1) 45 (123, [some (.ref r0), some (.ref r1), some (.int x2), some (.ref r3), some (.int x4), some (.int x5), o6], [], μ) Q := wp_blk rfl e45_123 (And.intro h1 (And.intro h2 (And.intro h3 (wp_cv (as := [.int x5]) rfl e45_123_c rfl rfl rfl rfl rfl hk hc (fun v μ' hv => by obtain ⟨rfl, hp⟩ := pV_r hv; exact hr μ' hp) hx))))
def q45_138 : List (Nat × Instr × Nat) := [(138, .aload_n 0, 1), (139, .iload 5, 2), (141, .iload 6, 2)]
theorem e45_138 : am_dec am_M45 q45_138 = true := by decide +kernel
theorem e45_138_c : am_dc1 am_M45 143 (.invokevirtual 134) 3 = true := by decide +kernel
theorem b45_138 {d : Nat} {Q : Option Value ⊕ Nat → am_Mem → Prop} {μ : am_Mem} {r0 r1 r3 : Nat} {x2 x4 x5 x6 : Int32} {P : am_Mem → Prop} {X : Nat → am_Mem → Prop}
    (hk : am_kd μ r0 = (1, 2))
    (hc : Wp d 44 (0, [some (.ref r0), some (.int x5), some (.int x6), none, none, none, none], [], μ) (pV P X)) (hr : ∀ μ', P μ' → Wp (d + 1) 45 (146, [some (.ref r0), some (.ref r1), some (.int x2), some (.ref r3), some (.int x4), some (.int x5), some (.int x6)], [], (μ')) Q)
    (hx : ∀ x μ', X x μ' → Q (.inr x) μ') :
    Wp (d + 1) 45 (138, [some (.ref r0), some (.ref r1), some (.int x2), some (.ref r3), some (.int x4), some (.int x5), some (.int x6)], [], μ) Q := wp_blk rfl e45_138 (wp_cv (as := [.int x5, .int x6]) rfl e45_138_c rfl rfl rfl rfl rfl hk hc (fun v μ' hv => by obtain ⟨rfl, hp⟩ := pV_r hv; exact hr μ' hp) hx)
def q45_146 : List (Nat × Instr × Nat) := [(146, .iinc 5 1, 3), (149, .goto (-38), 3)]
theorem e45_146 : am_dec am_M45 q45_146 = true := by decide +kernel
theorem b45_146 {d : Nat} {Q : Option Value ⊕ Nat → am_Mem → Prop} {μ : am_Mem} {r0 r1 r3 : Nat} {x2 x4 x5 x6 : Int32}
    (k : Wp d 45 (111, [some (.ref r0), some (.ref r1), some (.int x2), some (.ref r3), some (.int x4), some (.int (x5 + Int32.ofInt 1)), some (.int x6)], [], μ) Q) :
    Wp d 45 (146, [some (.ref r0), some (.ref r1), some (.int x2), some (.ref r3), some (.int x4), some (.int x5), some (.int x6)], [], μ) Q := wp_blk rfl e45_146 k
def q45_152 : List (Nat × Instr × Nat) := [(152, .aload_n 0, 1), (153, .lconst 0, 1), (154, .putfield 59, 3), (157, .iconst 0, 1), (158, .istore 5, 2)]
theorem e45_152 : am_dec am_M45 q45_152 = true := by decide +kernel
theorem b45_152 {d : Nat} {Q : Option Value ⊕ Nat → am_Mem → Prop} {μ : am_Mem} {r0 r1 r3 : Nat} {x2 x4 x5 : Int32} {o6 : Option Value}
    (h1 : am_kd μ r0 = (1, 2))
    (k : Wp d 45 (160, [some (.ref r0), some (.ref r1), some (.int x2), some (.ref r3), some (.int x4), some (.int (Int32.ofInt 0)), o6], [], (am_pL μ r0 16 (Int64.ofNat 0))) Q) :
    Wp d 45 (152, [some (.ref r0), some (.ref r1), some (.int x2), some (.ref r3), some (.int x4), some (.int x5), o6], [], μ) Q := wp_blk rfl e45_152 (And.intro h1 (And.intro ⟨rfl, rfl⟩ k))
def q45_160 : List (Nat × Instr × Nat) := [(160, .iload 5, 2), (162, .aload_n 0, 1), (163, .getfield 63, 3), (166, .getfield 117, 3), (169, .if_icmp .ge 24, 3)]
theorem e45_160 : am_dec am_M45 q45_160 = true := by decide +kernel
theorem b45_160 {d : Nat} {Q : Option Value ⊕ Nat → am_Mem → Prop} {μ : am_Mem} {r0 r1 r3 : Nat} {x2 x4 x5 : Int32} {o6 : Option Value}
    (h1 : am_kd μ r0 = (1, 2))
    (h2 : ¬ am_F μ r0 2 = 15)
    (h3 : am_kd μ (am_F μ r0 2) = (1, 5))
    (k1 : (am_A μ (am_F μ r0 2) 13) ≤ x5 → Wp d 45 (193, [some (.ref r0), some (.ref r1), some (.int x2), some (.ref r3), some (.int x4), some (.int x5), o6], [], μ) Q) (k2 : ¬ ((am_A μ (am_F μ r0 2) 13) ≤ x5) → Wp d 45 (172, [some (.ref r0), some (.ref r1), some (.int x2), some (.ref r3), some (.int x4), some (.int x5), o6], [], μ) Q) :
    Wp d 45 (160, [some (.ref r0), some (.ref r1), some (.int x2), some (.ref r3), some (.int x4), some (.int x5), o6], [], μ) Q := wp_blk rfl e45_160 (And.intro h1 (And.intro h2 (And.intro h3 (And.intro k1 k2))))
def q45_172 : List (Nat × Instr × Nat) := [(172, .aload_n 0, 1), (173, .dup, 1), (174, .getfield 59, 3), (177, .aload_n 0, 1), (178, .iload 5, 2)]
theorem e45_172 : am_dec am_M45 q45_172 = true := by decide +kernel
theorem e45_172_c : am_dc1 am_M45 180 (.invokevirtual 152) 3 = true := by decide +kernel
theorem b45_172 {d : Nat} {Q : Option Value ⊕ Nat → am_Mem → Prop} {μ : am_Mem} {r0 r1 r3 : Nat} {x2 x4 x5 : Int32} {o6 : Option Value} {P : Int64 → am_Mem → Prop} {X : Nat → am_Mem → Prop}
    (h1 : am_kd μ r0 = (1, 2))
    (hk : am_kd μ r0 = (1, 2))
    (hc : Wp d 38 (0, [some (.ref r0), some (.int x5), none, none, none], [], μ) (pL P X)) (hr : ∀ x μ', P x μ' → Wp (d + 1) 45 (183, [some (.ref r0), some (.ref r1), some (.int x2), some (.ref r3), some (.int x4), some (.int x5), o6], [.long x, .long (am_L μ r0 16), .ref r0], (μ')) Q)
    (hx : ∀ x μ', X x μ' → Q (.inr x) μ') :
    Wp (d + 1) 45 (172, [some (.ref r0), some (.ref r1), some (.int x2), some (.ref r3), some (.int x4), some (.int x5), o6], [], μ) Q := wp_blk rfl e45_172 (And.intro h1 (wp_cv (as := [.int x5]) rfl e45_172_c rfl rfl rfl rfl rfl hk hc (fun v μ' hv => by obtain ⟨x, rfl, hp⟩ := pL_r hv; exact hr x μ' hp) hx))
def q45_183 : List (Nat × Instr × Nat) := [(183, .ladd, 1), (184, .putfield 59, 3), (187, .iinc 5 1, 3), (190, .goto (-30), 3)]
theorem e45_183 : am_dec am_M45 q45_183 = true := by decide +kernel
theorem b45_183 {d : Nat} {Q : Option Value ⊕ Nat → am_Mem → Prop} {μ : am_Mem} {r0 r1 r3 r90 : Nat} {x2 x4 x5 : Int32} {o6 : Option Value} {y91 y92 : Int64}
    (h1 : am_kd μ r90 = (1, 2))
    (k : Wp d 45 (160, [some (.ref r0), some (.ref r1), some (.int x2), some (.ref r3), some (.int x4), some (.int (x5 + Int32.ofInt 1)), o6], [], (am_pL μ r90 16 (y91 + y92))) Q) :
    Wp d 45 (183, [some (.ref r0), some (.ref r1), some (.int x2), some (.ref r3), some (.int x4), some (.int x5), o6], [.long y92, .long y91, .ref r90], μ) Q := wp_blk rfl e45_183 (And.intro h1 (And.intro ⟨rfl, rfl⟩ k))
theorem e45_193_r : am_dec am_M45 [(193, .return_, 1)] = true := by decide +kernel
theorem b45_193 {d : Nat} {Q : Option Value ⊕ Nat → am_Mem → Prop} {μ : am_Mem} {r0 r1 r3 : Nat} {x2 x4 x5 : Int32} {o6 : Option Value}
    (k : Q (.inl none) μ) :
    Wp d 45 (193, [some (.ref r0), some (.ref r1), some (.int x2), some (.ref r3), some (.int x4), some (.int x5), o6], [], μ) Q := (wp_rv rfl e45_193_r rfl k)
/-! RuleSheets$Model.collect(I[I)I -/
def q46_0 : List (Nat × Instr × Nat) := [(0, .aload_n 0, 1), (1, .getfield 12, 3), (4, .getfield 159, 3), (7, .iload_n 1, 1), (8, .iaload, 1), (9, .istore_n 3, 1), (10, .iload_n 3, 1), (11, .bipush 60, 2), (13, .if_icmp .le 13, 3)]
theorem e46_0 : am_dec am_M46 q46_0 = true := by decide +kernel
theorem b46_0 {d : Nat} {Q : Option Value ⊕ Nat → am_Mem → Prop} {μ : am_Mem} {r0 r2 : Nat} {x1 : Int32}
    (h1 : am_kd μ r0 = (1, 2))
    (h2 : ¬ am_F μ r0 1 = 15)
    (h3 : am_kd μ (am_F μ r0 1) = (1, 1))
    (h4 : ¬ am_F μ (am_F μ r0 1) 6 = 15)
    (h5 : (am_kd μ (am_F μ (am_F μ r0 1) 6)).1 = 2 ∨ (am_kd μ (am_F μ (am_F μ r0 1) 6)).1 = 8)
    (h6 : ¬ (x1 < 0 ∨ (am_kd μ (am_F μ (am_F μ r0 1) 6)).2 ≤ x1.toNatClampNeg))
    (k1 : (am_A μ (am_F μ (am_F μ r0 1) 6) x1.toNatClampNeg) ≤ ((Int8.ofInt 60).toInt32) → Wp d 46 (26, [some (.ref r0), some (.int x1), some (.ref r2), some (.int (am_A μ (am_F μ (am_F μ r0 1) 6) x1.toNatClampNeg)), none, none], [], μ) Q) (k2 : ¬ ((am_A μ (am_F μ (am_F μ r0 1) 6) x1.toNatClampNeg) ≤ ((Int8.ofInt 60).toInt32)) → Wp d 46 (16, [some (.ref r0), some (.int x1), some (.ref r2), some (.int (am_A μ (am_F μ (am_F μ r0 1) 6) x1.toNatClampNeg)), none, none], [], μ) Q) :
    Wp d 46 (0, [some (.ref r0), some (.int x1), some (.ref r2), none, none, none], [], μ) Q := wp_blk rfl e46_0 (And.intro h1 (And.intro h2 (And.intro h3 (And.intro h4 (And.intro h5 (And.intro h6 (And.intro k1 k2)))))))
theorem e46_16_t : am_dc1 am_M46 16 (.new 138) 3 = true ∧ am_throw GG 2 46 16 (.new 138) = some 3 := by decide +kernel
theorem b46_16 {d : Nat} {Q : Option Value ⊕ Nat → am_Mem → Prop} {μ : am_Mem} {r0 r2 : Nat} {x1 x3 : Int32}
    (k : Q (.inr 3) (am_nX μ)) :
    Wp d 46 (16, [some (.ref r0), some (.int x1), some (.ref r2), some (.int x3), none, none], [], μ) Q := (wp_throw rfl e46_16_t.1 ⟨_, rfl⟩ rfl e46_16_t.2 rfl k)
def q46_26 : List (Nat × Instr × Nat) := [(26, .aload_n 0, 1), (27, .getfield 12, 3), (30, .getfield 198, 3), (33, .iload_n 1, 1), (34, .iaload, 1), (35, .istore 4, 2), (37, .iconst 0, 1), (38, .istore 5, 2)]
theorem e46_26 : am_dec am_M46 q46_26 = true := by decide +kernel
theorem b46_26 {d : Nat} {Q : Option Value ⊕ Nat → am_Mem → Prop} {μ : am_Mem} {r0 r2 : Nat} {x1 x3 : Int32}
    (h1 : am_kd μ r0 = (1, 2))
    (h2 : ¬ am_F μ r0 1 = 15)
    (h3 : am_kd μ (am_F μ r0 1) = (1, 1))
    (h4 : ¬ am_F μ (am_F μ r0 1) 5 = 15)
    (h5 : (am_kd μ (am_F μ (am_F μ r0 1) 5)).1 = 2 ∨ (am_kd μ (am_F μ (am_F μ r0 1) 5)).1 = 8)
    (h6 : ¬ (x1 < 0 ∨ (am_kd μ (am_F μ (am_F μ r0 1) 5)).2 ≤ x1.toNatClampNeg))
    (k : Wp d 46 (40, [some (.ref r0), some (.int x1), some (.ref r2), some (.int x3), some (.int (am_A μ (am_F μ (am_F μ r0 1) 5) x1.toNatClampNeg)), some (.int (Int32.ofInt 0))], [], μ) Q) :
    Wp d 46 (26, [some (.ref r0), some (.int x1), some (.ref r2), some (.int x3), none, none], [], μ) Q := wp_blk rfl e46_26 (And.intro h1 (And.intro h2 (And.intro h3 (And.intro h4 (And.intro h5 (And.intro h6 k))))))
def q46_40 : List (Nat × Instr × Nat) := [(40, .iload 5, 2), (42, .iload_n 3, 1), (43, .if_icmp .ge 37, 3)]
theorem e46_40 : am_dec am_M46 q46_40 = true := by decide +kernel
theorem b46_40 {d : Nat} {Q : Option Value ⊕ Nat → am_Mem → Prop} {μ : am_Mem} {r0 r2 : Nat} {x1 x3 x4 x5 : Int32}
    (k1 : x3 ≤ x5 → Wp d 46 (80, [some (.ref r0), some (.int x1), some (.ref r2), some (.int x3), some (.int x4), some (.int x5)], [], μ) Q) (k2 : ¬ (x3 ≤ x5) → Wp d 46 (46, [some (.ref r0), some (.int x1), some (.ref r2), some (.int x3), some (.int x4), some (.int x5)], [], μ) Q) :
    Wp d 46 (40, [some (.ref r0), some (.int x1), some (.ref r2), some (.int x3), some (.int x4), some (.int x5)], [], μ) Q := wp_blk rfl e46_40 (And.intro k1 k2)
def q46_46 : List (Nat × Instr × Nat) := [(46, .aload_n 2, 1), (47, .iload 5, 2), (49, .aload_n 0, 1), (50, .getfield 12, 3), (53, .getfield 214, 3), (56, .iconst 4, 1), (57, .iload 4, 2), (59, .imul, 1), (60, .iaload, 1), (61, .iastore, 1), (62, .aload_n 0, 1), (63, .getfield 12, 3), (66, .getfield 201, 3), (69, .iload 4, 2), (71, .iaload, 1), (72, .istore 4, 2), (74, .iinc 5 1, 3), (77, .goto (-37), 3)]
theorem e46_46 : am_dec am_M46 q46_46 = true := by decide +kernel
theorem b46_46 {d : Nat} {Q : Option Value ⊕ Nat → am_Mem → Prop} {μ : am_Mem} {r0 r2 : Nat} {x1 x3 x4 x5 : Int32}
    (h1 : am_kd μ r0 = (1, 2))
    (h2 : ¬ am_F μ r0 1 = 15)
    (h3 : am_kd μ (am_F μ r0 1) = (1, 1))
    (h4 : ¬ am_F μ (am_F μ r0 1) 1 = 15)
    (h5 : (am_kd μ (am_F μ (am_F μ r0 1) 1)).1 = 2 ∨ (am_kd μ (am_F μ (am_F μ r0 1) 1)).1 = 8)
    (h6 : ¬ (((Int32.ofInt 4) * x4) < 0 ∨ (am_kd μ (am_F μ (am_F μ r0 1) 1)).2 ≤ ((Int32.ofInt 4) * x4).toNatClampNeg))
    (h7 : (am_kd μ r2).1 = 2)
    (h8 : ¬ (x5 < 0 ∨ (am_kd μ r2).2 ≤ x5.toNatClampNeg))
    (h9 : am_kd (am_pA μ r2 x5.toNatClampNeg (am_A μ (am_F μ (am_F μ r0 1) 1) ((Int32.ofInt 4) * x4).toNatClampNeg)) r0 = (1, 2))
    (h10 : ¬ am_F (am_pA μ r2 x5.toNatClampNeg (am_A μ (am_F μ (am_F μ r0 1) 1) ((Int32.ofInt 4) * x4).toNatClampNeg)) r0 1 = 15)
    (h11 : am_kd (am_pA μ r2 x5.toNatClampNeg (am_A μ (am_F μ (am_F μ r0 1) 1) ((Int32.ofInt 4) * x4).toNatClampNeg)) (am_F (am_pA μ r2 x5.toNatClampNeg (am_A μ (am_F μ (am_F μ r0 1) 1) ((Int32.ofInt 4) * x4).toNatClampNeg)) r0 1) = (1, 1))
    (h12 : ¬ am_F (am_pA μ r2 x5.toNatClampNeg (am_A μ (am_F μ (am_F μ r0 1) 1) ((Int32.ofInt 4) * x4).toNatClampNeg)) (am_F (am_pA μ r2 x5.toNatClampNeg (am_A μ (am_F μ (am_F μ r0 1) 1) ((Int32.ofInt 4) * x4).toNatClampNeg)) r0 1) 2 = 15)
    (h13 : (am_kd (am_pA μ r2 x5.toNatClampNeg (am_A μ (am_F μ (am_F μ r0 1) 1) ((Int32.ofInt 4) * x4).toNatClampNeg)) (am_F (am_pA μ r2 x5.toNatClampNeg (am_A μ (am_F μ (am_F μ r0 1) 1) ((Int32.ofInt 4) * x4).toNatClampNeg)) (am_F (am_pA μ r2 x5.toNatClampNeg (am_A μ (am_F μ (am_F μ r0 1) 1) ((Int32.ofInt 4) * x4).toNatClampNeg)) r0 1) 2)).1 = 2 ∨ (am_kd (am_pA μ r2 x5.toNatClampNeg (am_A μ (am_F μ (am_F μ r0 1) 1) ((Int32.ofInt 4) * x4).toNatClampNeg)) (am_F (am_pA μ r2 x5.toNatClampNeg (am_A μ (am_F μ (am_F μ r0 1) 1) ((Int32.ofInt 4) * x4).toNatClampNeg)) (am_F (am_pA μ r2 x5.toNatClampNeg (am_A μ (am_F μ (am_F μ r0 1) 1) ((Int32.ofInt 4) * x4).toNatClampNeg)) r0 1) 2)).1 = 8)
    (h14 : ¬ (x4 < 0 ∨ (am_kd (am_pA μ r2 x5.toNatClampNeg (am_A μ (am_F μ (am_F μ r0 1) 1) ((Int32.ofInt 4) * x4).toNatClampNeg)) (am_F (am_pA μ r2 x5.toNatClampNeg (am_A μ (am_F μ (am_F μ r0 1) 1) ((Int32.ofInt 4) * x4).toNatClampNeg)) (am_F (am_pA μ r2 x5.toNatClampNeg (am_A μ (am_F μ (am_F μ r0 1) 1) ((Int32.ofInt 4) * x4).toNatClampNeg)) r0 1) 2)).2 ≤ x4.toNatClampNeg))
    (k : Wp d 46 (40, [some (.ref r0), some (.int x1), some (.ref r2), some (.int x3), some (.int (am_A (am_pA μ r2 x5.toNatClampNeg (am_A μ (am_F μ (am_F μ r0 1) 1) ((Int32.ofInt 4) * x4).toNatClampNeg)) (am_F (am_pA μ r2 x5.toNatClampNeg (am_A μ (am_F μ (am_F μ r0 1) 1) ((Int32.ofInt 4) * x4).toNatClampNeg)) (am_F (am_pA μ r2 x5.toNatClampNeg (am_A μ (am_F μ (am_F μ r0 1) 1) ((Int32.ofInt 4) * x4).toNatClampNeg)) r0 1) 2) x4.toNatClampNeg)), some (.int (x5 + Int32.ofInt 1))], [], (am_pA μ r2 x5.toNatClampNeg (am_A μ (am_F μ (am_F μ r0 1) 1) ((Int32.ofInt 4) * x4).toNatClampNeg))) Q) :
    Wp d 46 (46, [some (.ref r0), some (.int x1), some (.ref r2), some (.int x3), some (.int x4), some (.int x5)], [], μ) Q := wp_blk rfl e46_46 (And.intro h1 (And.intro h2 (And.intro h3 (And.intro h4 (And.intro h5 (And.intro h6 (And.intro h7 (And.intro h8 (And.intro h9 (And.intro h10 (And.intro h11 (And.intro h12 (And.intro h13 (And.intro h14 k))))))))))))))
def q46_80 : List (Nat × Instr × Nat) := [(80, .iload_n 3, 1)]
theorem e46_80 : am_dec am_M46 q46_80 = true := by decide +kernel
theorem e46_80_r : am_dec am_M46 [(81, .ireturn, 1)] = true := by decide +kernel
theorem b46_80 {d : Nat} {Q : Option Value ⊕ Nat → am_Mem → Prop} {μ : am_Mem} {r0 r2 : Nat} {x1 x3 x4 x5 : Int32}
    (k : Q (.inl (some (.int x3))) μ) :
    Wp d 46 (80, [some (.ref r0), some (.int x1), some (.ref r2), some (.int x3), some (.int x4), some (.int x5)], [], μ) Q := wp_blk rfl e46_80 (wp_ri (ty := .int) rfl e46_80_r rfl ⟨rfl, rfl⟩ k)
