/-! ===== printed: the blocks of ref3 ===== -/
/-! RuleSheetsModel.moves(I)I -/
def q240_0 : List (Nat × Instr × Nat) := [(0, .aload_n 0, 1), (1, .getfield 590, 3), (4, .ifCond .eq 15, 3)]
theorem e240_0 : am_dec am_M240 q240_0 = true := by decide +kernel
theorem b240_0 {d : Nat} {Q : Option Value ⊕ Nat → am_Mem → Prop} {μ : am_Mem} {r0 : Nat} {x1 : Int32}
    (h1 : am_kd μ r0 = (1, 12))
    (k1 : (am_A μ r0 72) = 0 → Wp d 240 (19, [some (.ref r0), some (.int x1), none, none], [], μ) Q) (k2 : ¬ ((am_A μ r0 72) = 0) → Wp d 240 (7, [some (.ref r0), some (.int x1), none, none], [], μ) Q) :
    Wp d 240 (0, [some (.ref r0), some (.int x1), none, none], [], μ) Q := wp_blk rfl e240_0 (And.intro h1 (And.intro k1 k2))
def q240_7 : List (Nat × Instr × Nat) := [(7, .aload_n 0, 1), (8, .iload_n 1, 1)]
theorem e240_7 : am_dec am_M240 q240_7 = true := by decide +kernel
theorem e240_7_c : am_dc1 am_M240 9 (.invokevirtual 609) 3 = true := by decide +kernel
theorem b240_7 {d : Nat} {Q : Option Value ⊕ Nat → am_Mem → Prop} {μ : am_Mem} {r0 : Nat} {x1 : Int32} {P : Int32 → am_Mem → Prop} {X : Nat → am_Mem → Prop}
    (hk : am_kd μ r0 = (1, 12))
    (hc : Wp d 241 (0, [some (.ref r0), some (.int x1)], [], μ) (pI P X)) (hr : ∀ x μ', P x μ' → Wp (d + 1) 240 (12, [some (.ref r0), some (.int x1), none, none], [.int x], (μ')) Q)
    (hx : ∀ x μ', X x μ' → Q (.inr x) μ') :
    Wp (d + 1) 240 (7, [some (.ref r0), some (.int x1), none, none], [], μ) Q := wp_blk rfl e240_7 (wp_cv (as := [.int x1]) rfl e240_7_c rfl rfl rfl rfl rfl hk hc (fun v μ' hv => by obtain ⟨x, rfl, hp⟩ := pI_r hv; exact hr x μ' hp) hx)
def q240_12 : List (Nat × Instr × Nat) := [(12, .ifCond .eq 7, 3)]
theorem e240_12 : am_dec am_M240 q240_12 = true := by decide +kernel
theorem b240_12 {d : Nat} {Q : Option Value ⊕ Nat → am_Mem → Prop} {μ : am_Mem} {r0 : Nat} {x1 s0 : Int32}
    (k1 : s0 = 0 → Wp d 240 (19, [some (.ref r0), some (.int x1), none, none], [], μ) Q) (k2 : ¬ (s0 = 0) → Wp d 240 (15, [some (.ref r0), some (.int x1), none, none], [], μ) Q) :
    Wp d 240 (12, [some (.ref r0), some (.int x1), none, none], [.int s0], μ) Q := wp_blk rfl e240_12 (And.intro k1 k2)
def q240_15 : List (Nat × Instr × Nat) := [(15, .iconst 1, 1), (16, .goto 4, 3)]
theorem e240_15 : am_dec am_M240 q240_15 = true := by decide +kernel
theorem b240_15 {d : Nat} {Q : Option Value ⊕ Nat → am_Mem → Prop} {μ : am_Mem} {r0 : Nat} {x1 : Int32}
    (k : Wp d 240 (20, [some (.ref r0), some (.int x1), none, none], [.int (Int32.ofInt 1)], μ) Q) :
    Wp d 240 (15, [some (.ref r0), some (.int x1), none, none], [], μ) Q := wp_blk rfl e240_15 k
def q240_19 : List (Nat × Instr × Nat) := [(19, .iconst 0, 1)]
theorem e240_19 : am_dec am_M240 q240_19 = true := by decide +kernel
theorem b240_19 {d : Nat} {Q : Option Value ⊕ Nat → am_Mem → Prop} {μ : am_Mem} {r0 : Nat} {x1 : Int32}
    (k : Wp d 240 (20, [some (.ref r0), some (.int x1), none, none], [.int (Int32.ofInt 0)], μ) Q) :
    Wp d 240 (19, [some (.ref r0), some (.int x1), none, none], [], μ) Q := wp_blk rfl e240_19 k
def q240_20 : List (Nat × Instr × Nat) := [(20, .istore_n 2, 1), (21, .iload_n 2, 1), (22, .ifCond .eq 14, 3)]
theorem e240_20 : am_dec am_M240 q240_20 = true := by decide +kernel
theorem b240_20 {d : Nat} {Q : Option Value ⊕ Nat → am_Mem → Prop} {μ : am_Mem} {r0 : Nat} {x1 s0 : Int32}
    (k1 : s0 = 0 → Wp d 240 (36, [some (.ref r0), some (.int x1), some (.int s0), none], [], μ) Q) (k2 : ¬ (s0 = 0) → Wp d 240 (25, [some (.ref r0), some (.int x1), some (.int s0), none], [], μ) Q) :
    Wp d 240 (20, [some (.ref r0), some (.int x1), none, none], [.int s0], μ) Q := wp_blk rfl e240_20 (And.intro k1 k2)
def q240_25 : List (Nat × Instr × Nat) := [(25, .aload_n 0, 1)]
theorem e240_25 : am_dec am_M240 q240_25 = true := by decide +kernel
theorem e240_25_c : am_dc1 am_M240 26 (.invokevirtual 612) 3 = true := by decide +kernel
theorem b240_25 {d : Nat} {Q : Option Value ⊕ Nat → am_Mem → Prop} {μ : am_Mem} {r0 : Nat} {x1 x2 : Int32} {P : Int32 → am_Mem → Prop} {X : Nat → am_Mem → Prop}
    (hk : am_kd μ r0 = (1, 12))
    (hc : Wp d 242 (0, [some (.ref r0)], [], μ) (pI P X)) (hr : ∀ x μ', P x μ' → Wp (d + 1) 240 (29, [some (.ref r0), some (.int x1), some (.int x2), none], [.int x], (μ')) Q)
    (hx : ∀ x μ', X x μ' → Q (.inr x) μ') :
    Wp (d + 1) 240 (25, [some (.ref r0), some (.int x1), some (.int x2), none], [], μ) Q := wp_blk rfl e240_25 (wp_cv (as := []) rfl e240_25_c rfl rfl rfl rfl rfl hk hc (fun v μ' hv => by obtain ⟨x, rfl, hp⟩ := pI_r hv; exact hr x μ' hp) hx)
def q240_29 : List (Nat × Instr × Nat) := [(29, .ifCond .eq 7, 3)]
theorem e240_29 : am_dec am_M240 q240_29 = true := by decide +kernel
theorem b240_29 {d : Nat} {Q : Option Value ⊕ Nat → am_Mem → Prop} {μ : am_Mem} {r0 : Nat} {x1 x2 s0 : Int32}
    (k1 : s0 = 0 → Wp d 240 (36, [some (.ref r0), some (.int x1), some (.int x2), none], [], μ) Q) (k2 : ¬ (s0 = 0) → Wp d 240 (32, [some (.ref r0), some (.int x1), some (.int x2), none], [], μ) Q) :
    Wp d 240 (29, [some (.ref r0), some (.int x1), some (.int x2), none], [.int s0], μ) Q := wp_blk rfl e240_29 (And.intro k1 k2)
def q240_32 : List (Nat × Instr × Nat) := [(32, .iconst 1, 1), (33, .goto 4, 3)]
theorem e240_32 : am_dec am_M240 q240_32 = true := by decide +kernel
theorem b240_32 {d : Nat} {Q : Option Value ⊕ Nat → am_Mem → Prop} {μ : am_Mem} {r0 : Nat} {x1 x2 : Int32}
    (k : Wp d 240 (37, [some (.ref r0), some (.int x1), some (.int x2), none], [.int (Int32.ofInt 1)], μ) Q) :
    Wp d 240 (32, [some (.ref r0), some (.int x1), some (.int x2), none], [], μ) Q := wp_blk rfl e240_32 k
def q240_36 : List (Nat × Instr × Nat) := [(36, .iconst 0, 1)]
theorem e240_36 : am_dec am_M240 q240_36 = true := by decide +kernel
theorem b240_36 {d : Nat} {Q : Option Value ⊕ Nat → am_Mem → Prop} {μ : am_Mem} {r0 : Nat} {x1 x2 : Int32}
    (k : Wp d 240 (37, [some (.ref r0), some (.int x1), some (.int x2), none], [.int (Int32.ofInt 0)], μ) Q) :
    Wp d 240 (36, [some (.ref r0), some (.int x1), some (.int x2), none], [], μ) Q := wp_blk rfl e240_36 k
def q240_37 : List (Nat × Instr × Nat) := [(37, .istore_n 3, 1), (38, .aload_n 0, 1), (39, .aload_n 0, 1), (40, .getfield 590, 3), (43, .ifCond .ne 7, 3)]
theorem e240_37 : am_dec am_M240 q240_37 = true := by decide +kernel
theorem b240_37 {d : Nat} {Q : Option Value ⊕ Nat → am_Mem → Prop} {μ : am_Mem} {r0 : Nat} {x1 x2 s0 : Int32}
    (h1 : am_kd μ r0 = (1, 12))
    (k1 : ¬ (am_A μ r0 72) = 0 → Wp d 240 (50, [some (.ref r0), some (.int x1), some (.int x2), some (.int s0)], [.ref r0], μ) Q) (k2 : ¬ (¬ (am_A μ r0 72) = 0) → Wp d 240 (46, [some (.ref r0), some (.int x1), some (.int x2), some (.int s0)], [.ref r0], μ) Q) :
    Wp d 240 (37, [some (.ref r0), some (.int x1), some (.int x2), none], [.int s0], μ) Q := wp_blk rfl e240_37 (And.intro h1 (And.intro k1 k2))
def q240_46 : List (Nat × Instr × Nat) := [(46, .iconst 1, 1), (47, .goto 4, 3)]
theorem e240_46 : am_dec am_M240 q240_46 = true := by decide +kernel
theorem b240_46 {d : Nat} {Q : Option Value ⊕ Nat → am_Mem → Prop} {μ : am_Mem} {r0 r90 : Nat} {x1 x2 x3 : Int32}
    (k : Wp d 240 (51, [some (.ref r0), some (.int x1), some (.int x2), some (.int x3)], [.int (Int32.ofInt 1), .ref r90], μ) Q) :
    Wp d 240 (46, [some (.ref r0), some (.int x1), some (.int x2), some (.int x3)], [.ref r90], μ) Q := wp_blk rfl e240_46 k
def q240_50 : List (Nat × Instr × Nat) := [(50, .iconst 0, 1)]
theorem e240_50 : am_dec am_M240 q240_50 = true := by decide +kernel
theorem b240_50 {d : Nat} {Q : Option Value ⊕ Nat → am_Mem → Prop} {μ : am_Mem} {r0 r90 : Nat} {x1 x2 x3 : Int32}
    (k : Wp d 240 (51, [some (.ref r0), some (.int x1), some (.int x2), some (.int x3)], [.int (Int32.ofInt 0), .ref r90], μ) Q) :
    Wp d 240 (50, [some (.ref r0), some (.int x1), some (.int x2), some (.int x3)], [.ref r90], μ) Q := wp_blk rfl e240_50 k
def q240_51 : List (Nat × Instr × Nat) := [(51, .aload_n 0, 1), (52, .getfield 590, 3), (55, .ifCond .eq 11, 3)]
theorem e240_51 : am_dec am_M240 q240_51 = true := by decide +kernel
theorem b240_51 {d : Nat} {Q : Option Value ⊕ Nat → am_Mem → Prop} {μ : am_Mem} {r0 r90 : Nat} {x1 x2 x3 s1 : Int32}
    (h1 : am_kd μ r0 = (1, 12))
    (k1 : (am_A μ r0 72) = 0 → Wp d 240 (66, [some (.ref r0), some (.int x1), some (.int x2), some (.int x3)], [.int s1, .ref r90], μ) Q) (k2 : ¬ ((am_A μ r0 72) = 0) → Wp d 240 (58, [some (.ref r0), some (.int x1), some (.int x2), some (.int x3)], [.int s1, .ref r90], μ) Q) :
    Wp d 240 (51, [some (.ref r0), some (.int x1), some (.int x2), some (.int x3)], [.int s1, .ref r90], μ) Q := wp_blk rfl e240_51 (And.intro h1 (And.intro k1 k2))
def q240_58 : List (Nat × Instr × Nat) := [(58, .iload_n 2, 1), (59, .ifCond .ne 7, 3)]
theorem e240_58 : am_dec am_M240 q240_58 = true := by decide +kernel
theorem b240_58 {d : Nat} {Q : Option Value ⊕ Nat → am_Mem → Prop} {μ : am_Mem} {r0 r90 : Nat} {x1 x2 x3 s1 : Int32}
    (k1 : ¬ x2 = 0 → Wp d 240 (66, [some (.ref r0), some (.int x1), some (.int x2), some (.int x3)], [.int s1, .ref r90], μ) Q) (k2 : ¬ (¬ x2 = 0) → Wp d 240 (62, [some (.ref r0), some (.int x1), some (.int x2), some (.int x3)], [.int s1, .ref r90], μ) Q) :
    Wp d 240 (58, [some (.ref r0), some (.int x1), some (.int x2), some (.int x3)], [.int s1, .ref r90], μ) Q := wp_blk rfl e240_58 (And.intro k1 k2)
def q240_62 : List (Nat × Instr × Nat) := [(62, .iconst 1, 1), (63, .goto 4, 3)]
theorem e240_62 : am_dec am_M240 q240_62 = true := by decide +kernel
theorem b240_62 {d : Nat} {Q : Option Value ⊕ Nat → am_Mem → Prop} {μ : am_Mem} {r0 r90 : Nat} {x1 x2 x3 s1 : Int32}
    (k : Wp d 240 (67, [some (.ref r0), some (.int x1), some (.int x2), some (.int x3)], [.int (Int32.ofInt 1), .int s1, .ref r90], μ) Q) :
    Wp d 240 (62, [some (.ref r0), some (.int x1), some (.int x2), some (.int x3)], [.int s1, .ref r90], μ) Q := wp_blk rfl e240_62 k
def q240_66 : List (Nat × Instr × Nat) := [(66, .iconst 0, 1)]
theorem e240_66 : am_dec am_M240 q240_66 = true := by decide +kernel
theorem b240_66 {d : Nat} {Q : Option Value ⊕ Nat → am_Mem → Prop} {μ : am_Mem} {r0 r90 : Nat} {x1 x2 x3 s1 : Int32}
    (k : Wp d 240 (67, [some (.ref r0), some (.int x1), some (.int x2), some (.int x3)], [.int (Int32.ofInt 0), .int s1, .ref r90], μ) Q) :
    Wp d 240 (66, [some (.ref r0), some (.int x1), some (.int x2), some (.int x3)], [.int s1, .ref r90], μ) Q := wp_blk rfl e240_66 k
def q240_67 : List (Nat × Instr × Nat) := [(67, .iload_n 3, 1), (68, .ifCond .ne 7, 3)]
theorem e240_67 : am_dec am_M240 q240_67 = true := by decide +kernel
theorem b240_67 {d : Nat} {Q : Option Value ⊕ Nat → am_Mem → Prop} {μ : am_Mem} {r0 r90 : Nat} {x1 x2 x3 s1 s2 : Int32}
    (k1 : ¬ x3 = 0 → Wp d 240 (75, [some (.ref r0), some (.int x1), some (.int x2), some (.int x3)], [.int s2, .int s1, .ref r90], μ) Q) (k2 : ¬ (¬ x3 = 0) → Wp d 240 (71, [some (.ref r0), some (.int x1), some (.int x2), some (.int x3)], [.int s2, .int s1, .ref r90], μ) Q) :
    Wp d 240 (67, [some (.ref r0), some (.int x1), some (.int x2), some (.int x3)], [.int s2, .int s1, .ref r90], μ) Q := wp_blk rfl e240_67 (And.intro k1 k2)
def q240_71 : List (Nat × Instr × Nat) := [(71, .iconst 1, 1), (72, .goto 4, 3)]
theorem e240_71 : am_dec am_M240 q240_71 = true := by decide +kernel
theorem b240_71 {d : Nat} {Q : Option Value ⊕ Nat → am_Mem → Prop} {μ : am_Mem} {r0 r90 : Nat} {x1 x2 x3 s1 s2 : Int32}
    (k : Wp d 240 (76, [some (.ref r0), some (.int x1), some (.int x2), some (.int x3)], [.int (Int32.ofInt 1), .int s2, .int s1, .ref r90], μ) Q) :
    Wp d 240 (71, [some (.ref r0), some (.int x1), some (.int x2), some (.int x3)], [.int s2, .int s1, .ref r90], μ) Q := wp_blk rfl e240_71 k
def q240_75 : List (Nat × Instr × Nat) := [(75, .iconst 0, 1)]
theorem e240_75 : am_dec am_M240 q240_75 = true := by decide +kernel
theorem b240_75 {d : Nat} {Q : Option Value ⊕ Nat → am_Mem → Prop} {μ : am_Mem} {r0 r90 : Nat} {x1 x2 x3 s1 s2 : Int32}
    (k : Wp d 240 (76, [some (.ref r0), some (.int x1), some (.int x2), some (.int x3)], [.int (Int32.ofInt 0), .int s2, .int s1, .ref r90], μ) Q) :
    Wp d 240 (75, [some (.ref r0), some (.int x1), some (.int x2), some (.int x3)], [.int s2, .int s1, .ref r90], μ) Q := wp_blk rfl e240_75 k
theorem e240_76_c : am_dc1 am_M240 76 (.invokevirtual 212) 3 = true := by decide +kernel
theorem b240_76 {d : Nat} {Q : Option Value ⊕ Nat → am_Mem → Prop} {μ : am_Mem} {r0 r90 : Nat} {x1 x2 x3 s1 s2 s3 : Int32} {P : Int32 → am_Mem → Prop} {X : Nat → am_Mem → Prop}
    (hk : am_kd μ r90 = (1, 12))
    (hc : Wp d 151 (0, [some (.ref r90), some (.int s1), some (.int s2), some (.int s3)], [], μ) (pI P X)) (hr : ∀ x μ', P x μ' → Wp (d + 1) 240 (79, [some (.ref r0), some (.int x1), some (.int x2), some (.int x3)], [.int x], (μ')) Q)
    (hx : ∀ x μ', X x μ' → Q (.inr x) μ') :
    Wp (d + 1) 240 (76, [some (.ref r0), some (.int x1), some (.int x2), some (.int x3)], [.int s3, .int s2, .int s1, .ref r90], μ) Q := (wp_cv (as := [.int s1, .int s2, .int s3]) rfl e240_76_c rfl rfl rfl rfl rfl hk hc (fun v μ' hv => by obtain ⟨x, rfl, hp⟩ := pI_r hv; exact hr x μ' hp) hx)
def q240_79 : List (Nat × Instr × Nat) := [(79, .ifCond .eq 5, 3)]
theorem e240_79 : am_dec am_M240 q240_79 = true := by decide +kernel
theorem b240_79 {d : Nat} {Q : Option Value ⊕ Nat → am_Mem → Prop} {μ : am_Mem} {r0 : Nat} {x1 x2 x3 s0 : Int32}
    (k1 : s0 = 0 → Wp d 240 (84, [some (.ref r0), some (.int x1), some (.int x2), some (.int x3)], [], μ) Q) (k2 : ¬ (s0 = 0) → Wp d 240 (82, [some (.ref r0), some (.int x1), some (.int x2), some (.int x3)], [], μ) Q) :
    Wp d 240 (79, [some (.ref r0), some (.int x1), some (.int x2), some (.int x3)], [.int s0], μ) Q := wp_blk rfl e240_79 (And.intro k1 k2)
def q240_82 : List (Nat × Instr × Nat) := [(82, .iconst 0, 1)]
theorem e240_82 : am_dec am_M240 q240_82 = true := by decide +kernel
theorem e240_82_r : am_dec am_M240 [(83, .ireturn, 1)] = true := by decide +kernel
theorem b240_82 {d : Nat} {Q : Option Value ⊕ Nat → am_Mem → Prop} {μ : am_Mem} {r0 : Nat} {x1 x2 x3 : Int32}
    (k : Q (.inl (some (.int (Int32.ofInt 0)))) μ) :
    Wp d 240 (82, [some (.ref r0), some (.int x1), some (.int x2), some (.int x3)], [], μ) Q := wp_blk rfl e240_82 (wp_ri (ty := .int) rfl e240_82_r rfl ⟨rfl, rfl⟩ k)
def q240_84 : List (Nat × Instr × Nat) := [(84, .aload_n 0, 1), (85, .getfield 161, 3), (88, .iload_n 1, 1), (89, .iaload, 1)]
theorem e240_84 : am_dec am_M240 q240_84 = true := by decide +kernel
theorem e240_84_r : am_dec am_M240 [(90, .ireturn, 1)] = true := by decide +kernel
theorem b240_84 {d : Nat} {Q : Option Value ⊕ Nat → am_Mem → Prop} {μ : am_Mem} {r0 : Nat} {x1 x2 x3 : Int32}
    (h1 : am_kd μ r0 = (1, 12))
    (h2 : ¬ am_F μ r0 76 = 15)
    (h3 : (am_kd μ (am_F μ r0 76)).1 = 2 ∨ (am_kd μ (am_F μ r0 76)).1 = 8)
    (h4 : ¬ (x1 < 0 ∨ (am_kd μ (am_F μ r0 76)).2 ≤ x1.toNatClampNeg))
    (k : Q (.inl (some (.int (am_A μ (am_F μ r0 76) x1.toNatClampNeg)))) μ) :
    Wp d 240 (84, [some (.ref r0), some (.int x1), some (.int x2), some (.int x3)], [], μ) Q := wp_blk rfl e240_84 (And.intro h1 (And.intro h2 (And.intro h3 (And.intro h4 (wp_ri (ty := .int) rfl e240_84_r rfl ⟨rfl, rfl⟩ k)))))
/-! RuleSheetsModel.isRole(I)Z -/
def q241_0 : List (Nat × Instr × Nat) := [(0, .iload_n 1, 1), (1, .i2l, 1), (2, .lconst 0, 1), (3, .aload_n 0, 1), (4, .getfield 551, 3), (7, .iconst 1, 1), (8, .isub, 1), (9, .i2l, 1)]
theorem e241_0 : am_dec am_M241 q241_0 = true := by decide +kernel
theorem e241_0_c : am_dc1 am_M241 10 (.invokestatic 205) 3 = true := by decide +kernel
theorem b241_0 {d : Nat} {Q : Option Value ⊕ Nat → am_Mem → Prop} {μ : am_Mem} {r0 : Nat} {x1 : Int32} {P : Int32 → am_Mem → Prop} {X : Nat → am_Mem → Prop}
    (h1 : am_kd μ r0 = (1, 12))
    (hc : Wp d 150 (0, [some (.long x1.toInt64), none, some (.long (Int64.ofNat 0)), none, some (.long (((am_A μ r0 70) - (Int32.ofInt 1)).toInt64)), none], [], μ) (pI P X)) (hr : ∀ x μ', P x μ' → Wp (d + 1) 241 (13, [some (.ref r0), some (.int x1)], [.int x], (μ')) Q)
    (hx : ∀ x μ', X x μ' → Q (.inr x) μ') :
    Wp (d + 1) 241 (0, [some (.ref r0), some (.int x1)], [], μ) Q := wp_blk rfl e241_0 (And.intro h1 (wp_cs (vs := [.long x1.toInt64, .long (Int64.ofNat 0), .long (((am_A μ r0 70) - (Int32.ofInt 1)).toInt64)]) rfl e241_0_c rfl rfl rfl rfl rfl hc (fun v μ' hv => by obtain ⟨x, rfl, hp⟩ := pI_r hv; exact hr x μ' hp) hx))
theorem e241_13_r : am_dec am_M241 [(13, .ireturn, 1)] = true := by decide +kernel
theorem b241_13 {d : Nat} {Q : Option Value ⊕ Nat → am_Mem → Prop} {μ : am_Mem} {r0 : Nat} {x1 s0 : Int32}
    (hn : narrow .boolean (.int s0) = .int s0 ∧ fits .boolean (.int s0) = true)
    (k : Q (.inl (some (.int s0))) μ) :
    Wp d 241 (13, [some (.ref r0), some (.int x1)], [.int s0], μ) Q := (wp_ri (ty := .boolean) rfl e241_13_r rfl hn k)
/-! RuleSheetsModel.works()Z -/
def q242_0 : List (Nat × Instr × Nat) := [(0, .aload_n 0, 1), (1, .getfield 542, 3), (4, .ifCond .ne 25, 3)]
theorem e242_0 : am_dec am_M242 q242_0 = true := by decide +kernel
theorem b242_0 {d : Nat} {Q : Option Value ⊕ Nat → am_Mem → Prop} {μ : am_Mem} {r0 : Nat}
    (h1 : am_kd μ r0 = (1, 12))
    (k1 : ¬ (am_A μ r0 75) = 0 → Wp d 242 (29, [some (.ref r0)], [], μ) Q) (k2 : ¬ (¬ (am_A μ r0 75) = 0) → Wp d 242 (7, [some (.ref r0)], [], μ) Q) :
    Wp d 242 (0, [some (.ref r0)], [], μ) Q := wp_blk rfl e242_0 (And.intro h1 (And.intro k1 k2))
def q242_7 : List (Nat × Instr × Nat) := [(7, .aload_n 0, 1), (8, .sipush 300, 3), (11, .iconst 0, 1)]
theorem e242_7 : am_dec am_M242 q242_7 = true := by decide +kernel
theorem e242_7_c : am_dc1 am_M242 12 (.invokevirtual 596) 3 = true := by decide +kernel
theorem b242_7 {d : Nat} {Q : Option Value ⊕ Nat → am_Mem → Prop} {μ : am_Mem} {r0 : Nat} {P : Int32 → am_Mem → Prop} {X : Nat → am_Mem → Prop}
    (hk : am_kd μ r0 = (1, 12))
    (hc : Wp d 212 (0, [some (.ref r0), some (.int ((Int16.ofInt 300).toInt32)), some (.int (Int32.ofInt 0)), none, none, none, none], [], μ) (pI P X)) (hr : ∀ x μ', P x μ' → Wp (d + 1) 242 (15, [some (.ref r0)], [.int x], (μ')) Q)
    (hx : ∀ x μ', X x μ' → Q (.inr x) μ') :
    Wp (d + 1) 242 (7, [some (.ref r0)], [], μ) Q := wp_blk rfl e242_7 (wp_cv (as := [.int ((Int16.ofInt 300).toInt32), .int (Int32.ofInt 0)]) rfl e242_7_c rfl rfl rfl rfl rfl hk hc (fun v μ' hv => by obtain ⟨x, rfl, hp⟩ := pI_r hv; exact hr x μ' hp) hx)
def q242_15 : List (Nat × Instr × Nat) := [(15, .ifCond .ne 5, 3)]
theorem e242_15 : am_dec am_M242 q242_15 = true := by decide +kernel
theorem b242_15 {d : Nat} {Q : Option Value ⊕ Nat → am_Mem → Prop} {μ : am_Mem} {r0 : Nat} {s0 : Int32}
    (k1 : ¬ s0 = 0 → Wp d 242 (20, [some (.ref r0)], [], μ) Q) (k2 : ¬ (¬ s0 = 0) → Wp d 242 (18, [some (.ref r0)], [], μ) Q) :
    Wp d 242 (15, [some (.ref r0)], [.int s0], μ) Q := wp_blk rfl e242_15 (And.intro k1 k2)
def q242_18 : List (Nat × Instr × Nat) := [(18, .iconst 0, 1)]
theorem e242_18 : am_dec am_M242 q242_18 = true := by decide +kernel
theorem e242_18_r : am_dec am_M242 [(19, .ireturn, 1)] = true := by decide +kernel
theorem b242_18 {d : Nat} {Q : Option Value ⊕ Nat → am_Mem → Prop} {μ : am_Mem} {r0 : Nat}
    (k : Q (.inl (some (.int (Int32.ofInt 0)))) μ) :
    Wp d 242 (18, [some (.ref r0)], [], μ) Q := wp_blk rfl e242_18 (wp_ri (ty := .boolean) rfl e242_18_r rfl (by decide) k)
def q242_20 : List (Nat × Instr × Nat) := [(20, .aload_n 0, 1)]
theorem e242_20 : am_dec am_M242 q242_20 = true := by decide +kernel
theorem e242_20_c : am_dc1 am_M242 21 (.invokevirtual 606) 3 = true := by decide +kernel
theorem b242_20 {d : Nat} {Q : Option Value ⊕ Nat → am_Mem → Prop} {μ : am_Mem} {r0 : Nat} {P : am_Mem → Prop} {X : Nat → am_Mem → Prop}
    (hk : am_kd μ r0 = (1, 12))
    (hc : Wp d 243 (0, [some (.ref r0), none, none, none], [], μ) (pV P X)) (hr : ∀ μ', P μ' → Wp (d + 1) 242 (24, [some (.ref r0)], [], (μ')) Q)
    (hx : ∀ x μ', X x μ' → Q (.inr x) μ') :
    Wp (d + 1) 242 (20, [some (.ref r0)], [], μ) Q := wp_blk rfl e242_20 (wp_cv (as := []) rfl e242_20_c rfl rfl rfl rfl rfl hk hc (fun v μ' hv => by obtain ⟨rfl, hp⟩ := pV_r hv; exact hr μ' hp) hx)
def q242_24 : List (Nat × Instr × Nat) := [(24, .aload_n 0, 1), (25, .iconst 1, 1), (26, .putfield 542, 3)]
theorem e242_24 : am_dec am_M242 q242_24 = true := by decide +kernel
theorem b242_24 {d : Nat} {Q : Option Value ⊕ Nat → am_Mem → Prop} {μ : am_Mem} {r0 : Nat}
    (h1 : am_kd μ r0 = (1, 12))
    (k : Wp d 242 (29, [some (.ref r0)], [], (am_pA μ r0 75 (Int32.ofInt 1))) Q) :
    Wp d 242 (24, [some (.ref r0)], [], μ) Q := wp_blk rfl e242_24 (And.intro h1 (And.intro (by decide) k))
def q242_29 : List (Nat × Instr × Nat) := [(29, .iconst 1, 1)]
theorem e242_29 : am_dec am_M242 q242_29 = true := by decide +kernel
theorem e242_29_r : am_dec am_M242 [(30, .ireturn, 1)] = true := by decide +kernel
theorem b242_29 {d : Nat} {Q : Option Value ⊕ Nat → am_Mem → Prop} {μ : am_Mem} {r0 : Nat}
    (k : Q (.inl (some (.int (Int32.ofInt 1)))) μ) :
    Wp d 242 (29, [some (.ref r0)], [], μ) Q := wp_blk rfl e242_29 (wp_ri (ty := .boolean) rfl e242_29_r rfl (by decide) k)
/-! RuleSheetsModel.gatherMoves()V -/
def q243_0 : List (Nat × Instr × Nat) := [(0, .iconst 0, 1), (1, .istore_n 1, 1)]
theorem e243_0 : am_dec am_M243 q243_0 = true := by decide +kernel
theorem b243_0 {d : Nat} {Q : Option Value ⊕ Nat → am_Mem → Prop} {μ : am_Mem} {r0 : Nat}
    (k : Wp d 243 (2, [some (.ref r0), some (.int (Int32.ofInt 0)), none, none], [], μ) Q) :
    Wp d 243 (0, [some (.ref r0), none, none, none], [], μ) Q := wp_blk rfl e243_0 k
def q243_2 : List (Nat × Instr × Nat) := [(2, .iload_n 1, 1), (3, .aload_n 0, 1), (4, .getfield 551, 3), (7, .if_icmp .ge 100, 3)]
theorem e243_2 : am_dec am_M243 q243_2 = true := by decide +kernel
theorem b243_2 {d : Nat} {Q : Option Value ⊕ Nat → am_Mem → Prop} {μ : am_Mem} {r0 : Nat} {x1 : Int32} {o2 o3 : Option Value}
    (h1 : am_kd μ r0 = (1, 12))
    (k1 : (am_A μ r0 70) ≤ x1 → Wp d 243 (107, [some (.ref r0), some (.int x1), o2, o3], [], μ) Q) (k2 : ¬ ((am_A μ r0 70) ≤ x1) → Wp d 243 (10, [some (.ref r0), some (.int x1), o2, o3], [], μ) Q) :
    Wp d 243 (2, [some (.ref r0), some (.int x1), o2, o3], [], μ) Q := wp_blk rfl e243_2 (And.intro h1 (And.intro k1 k2))
def q243_10 : List (Nat × Instr × Nat) := [(10, .aload_n 0, 1), (11, .iload_n 1, 1)]
theorem e243_10 : am_dec am_M243 q243_10 = true := by decide +kernel
theorem e243_10_c : am_dc1 am_M243 12 (.invokevirtual 554) 3 = true := by decide +kernel
theorem b243_10 {d : Nat} {Q : Option Value ⊕ Nat → am_Mem → Prop} {μ : am_Mem} {r0 : Nat} {x1 : Int32} {o2 o3 : Option Value} {P : Int32 → am_Mem → Prop} {X : Nat → am_Mem → Prop}
    (hk : am_kd μ r0 = (1, 12))
    (hc : Wp d 220 (0, [some (.ref r0), some (.int x1)], [], μ) (pI P X)) (hr : ∀ x μ', P x μ' → Wp (d + 1) 243 (15, [some (.ref r0), some (.int x1), o2, o3], [.int x], (μ')) Q)
    (hx : ∀ x μ', X x μ' → Q (.inr x) μ') :
    Wp (d + 1) 243 (10, [some (.ref r0), some (.int x1), o2, o3], [], μ) Q := wp_blk rfl e243_10 (wp_cv (as := [.int x1]) rfl e243_10_c rfl rfl rfl rfl rfl hk hc (fun v μ' hv => by obtain ⟨x, rfl, hp⟩ := pI_r hv; exact hr x μ' hp) hx)
def q243_15 : List (Nat × Instr × Nat) := [(15, .istore_n 2, 1), (16, .aload_n 0, 1), (17, .getfield 161, 3), (20, .iload_n 1, 1), (21, .iconst 0, 1), (22, .iastore, 1), (23, .aload_n 0, 1), (24, .getfield 114, 3), (27, .bipush 6, 2), (29, .iaload, 1), (30, .istore_n 3, 1)]
theorem e243_15 : am_dec am_M243 q243_15 = true := by decide +kernel
theorem b243_15 {d : Nat} {Q : Option Value ⊕ Nat → am_Mem → Prop} {μ : am_Mem} {r0 : Nat} {x1 s0 : Int32} {o2 o3 : Option Value}
    (h1 : am_kd μ r0 = (1, 12))
    (h2 : ¬ am_F μ r0 76 = 15)
    (h3 : (am_kd μ (am_F μ r0 76)).1 = 2)
    (h4 : ¬ (x1 < 0 ∨ (am_kd μ (am_F μ r0 76)).2 ≤ x1.toNatClampNeg))
    (h5 : am_kd (am_pA μ (am_F μ r0 76) x1.toNatClampNeg (Int32.ofInt 0)) r0 = (1, 12))
    (h6 : ¬ am_F (am_pA μ (am_F μ r0 76) x1.toNatClampNeg (Int32.ofInt 0)) r0 53 = 15)
    (h7 : (am_kd (am_pA μ (am_F μ r0 76) x1.toNatClampNeg (Int32.ofInt 0)) (am_F (am_pA μ (am_F μ r0 76) x1.toNatClampNeg (Int32.ofInt 0)) r0 53)).1 = 2 ∨ (am_kd (am_pA μ (am_F μ r0 76) x1.toNatClampNeg (Int32.ofInt 0)) (am_F (am_pA μ (am_F μ r0 76) x1.toNatClampNeg (Int32.ofInt 0)) r0 53)).1 = 8)
    (h8 : ¬ (((Int8.ofInt 6).toInt32) < 0 ∨ (am_kd (am_pA μ (am_F μ r0 76) x1.toNatClampNeg (Int32.ofInt 0)) (am_F (am_pA μ (am_F μ r0 76) x1.toNatClampNeg (Int32.ofInt 0)) r0 53)).2 ≤ ((Int8.ofInt 6).toInt32).toNatClampNeg))
    (k : Wp d 243 (31, [some (.ref r0), some (.int x1), some (.int s0), some (.int (am_A (am_pA μ (am_F μ r0 76) x1.toNatClampNeg (Int32.ofInt 0)) (am_F (am_pA μ (am_F μ r0 76) x1.toNatClampNeg (Int32.ofInt 0)) r0 53) ((Int8.ofInt 6).toInt32).toNatClampNeg))], [], (am_pA μ (am_F μ r0 76) x1.toNatClampNeg (Int32.ofInt 0))) Q) :
    Wp d 243 (15, [some (.ref r0), some (.int x1), o2, o3], [.int s0], μ) Q := wp_blk rfl e243_15 (And.intro h1 (And.intro h2 (And.intro h3 (And.intro h4 (And.intro h5 (And.intro h6 (And.intro h7 (And.intro h8 k))))))))
def q243_31 : List (Nat × Instr × Nat) := [(31, .iload_n 3, 1), (32, .ifCond .lt 69, 3)]
theorem e243_31 : am_dec am_M243 q243_31 = true := by decide +kernel
theorem b243_31 {d : Nat} {Q : Option Value ⊕ Nat → am_Mem → Prop} {μ : am_Mem} {r0 : Nat} {x1 x2 x3 : Int32}
    (k1 : x3 < 0 → Wp d 243 (101, [some (.ref r0), some (.int x1), some (.int x2), some (.int x3)], [], μ) Q) (k2 : ¬ (x3 < 0) → Wp d 243 (35, [some (.ref r0), some (.int x1), some (.int x2), some (.int x3)], [], μ) Q) :
    Wp d 243 (31, [some (.ref r0), some (.int x1), some (.int x2), some (.int x3)], [], μ) Q := wp_blk rfl e243_31 (And.intro k1 k2)
def q243_35 : List (Nat × Instr × Nat) := [(35, .aload_n 0, 1), (36, .getfield 105, 3), (39, .iconst 4, 1), (40, .iload_n 3, 1), (41, .imul, 1), (42, .iaload, 1), (43, .iload_n 2, 1), (44, .if_icmp .ne 47, 3)]
theorem e243_35 : am_dec am_M243 q243_35 = true := by decide +kernel
theorem b243_35 {d : Nat} {Q : Option Value ⊕ Nat → am_Mem → Prop} {μ : am_Mem} {r0 : Nat} {x1 x2 x3 : Int32}
    (h1 : am_kd μ r0 = (1, 12))
    (h2 : ¬ am_F μ r0 50 = 15)
    (h3 : (am_kd μ (am_F μ r0 50)).1 = 2 ∨ (am_kd μ (am_F μ r0 50)).1 = 8)
    (h4 : ¬ (((Int32.ofInt 4) * x3) < 0 ∨ (am_kd μ (am_F μ r0 50)).2 ≤ ((Int32.ofInt 4) * x3).toNatClampNeg))
    (k1 : ¬ (am_A μ (am_F μ r0 50) ((Int32.ofInt 4) * x3).toNatClampNeg) = x2 → Wp d 243 (91, [some (.ref r0), some (.int x1), some (.int x2), some (.int x3)], [], μ) Q) (k2 : ¬ (¬ (am_A μ (am_F μ r0 50) ((Int32.ofInt 4) * x3).toNatClampNeg) = x2) → Wp d 243 (47, [some (.ref r0), some (.int x1), some (.int x2), some (.int x3)], [], μ) Q) :
    Wp d 243 (35, [some (.ref r0), some (.int x1), some (.int x2), some (.int x3)], [], μ) Q := wp_blk rfl e243_35 (And.intro h1 (And.intro h2 (And.intro h3 (And.intro h4 (And.intro k1 k2)))))
def q243_47 : List (Nat × Instr × Nat) := [(47, .aload_n 0, 1), (48, .aload_n 0, 1), (49, .getfield 105, 3), (52, .iconst 4, 1), (53, .iload_n 3, 1), (54, .imul, 1), (55, .iconst 1, 1), (56, .iadd, 1), (57, .iaload, 1)]
theorem e243_47 : am_dec am_M243 q243_47 = true := by decide +kernel
theorem e243_47_c : am_dc1 am_M243 58 (.invokevirtual 561) 3 = true := by decide +kernel
theorem b243_47 {d : Nat} {Q : Option Value ⊕ Nat → am_Mem → Prop} {μ : am_Mem} {r0 : Nat} {x1 x2 x3 : Int32} {P : am_Mem → Prop} {X : Nat → am_Mem → Prop}
    (h1 : am_kd μ r0 = (1, 12))
    (h2 : ¬ am_F μ r0 50 = 15)
    (h3 : (am_kd μ (am_F μ r0 50)).1 = 2 ∨ (am_kd μ (am_F μ r0 50)).1 = 8)
    (h4 : ¬ ((((Int32.ofInt 4) * x3) + (Int32.ofInt 1)) < 0 ∨ (am_kd μ (am_F μ r0 50)).2 ≤ (((Int32.ofInt 4) * x3) + (Int32.ofInt 1)).toNatClampNeg))
    (hk : am_kd μ r0 = (1, 12))
    (hc : Wp d 208 (0, [some (.ref r0), some (.int (am_A μ (am_F μ r0 50) (((Int32.ofInt 4) * x3) + (Int32.ofInt 1)).toNatClampNeg)), none, none, none], [], μ) (pV P X)) (hr : ∀ μ', P μ' → Wp (d + 1) 243 (61, [some (.ref r0), some (.int x1), some (.int x2), some (.int x3)], [], (μ')) Q)
    (hx : ∀ x μ', X x μ' → Q (.inr x) μ') :
    Wp (d + 1) 243 (47, [some (.ref r0), some (.int x1), some (.int x2), some (.int x3)], [], μ) Q := wp_blk rfl e243_47 (And.intro h1 (And.intro h2 (And.intro h3 (And.intro h4 (wp_cv (as := [.int (am_A μ (am_F μ r0 50) (((Int32.ofInt 4) * x3) + (Int32.ofInt 1)).toNatClampNeg)]) rfl e243_47_c rfl rfl rfl rfl rfl hk hc (fun v μ' hv => by obtain ⟨rfl, hp⟩ := pV_r hv; exact hr μ' hp) hx)))))
def q243_61 : List (Nat × Instr × Nat) := [(61, .aload_n 0, 1), (62, .aload_n 0, 1), (63, .getfield 165, 3), (66, .ldc_w 557, 3), (69, .iload_n 1, 1), (70, .imul, 1), (71, .aload_n 0, 1), (72, .getfield 161, 3), (75, .iload_n 1, 1), (76, .iaload, 1)]
theorem e243_61 : am_dec am_M243 q243_61 = true := by decide +kernel
theorem e243_61_c : am_dc1 am_M243 77 (.invokevirtual 564) 3 = true := by decide +kernel
theorem b243_61 {d : Nat} {Q : Option Value ⊕ Nat → am_Mem → Prop} {μ : am_Mem} {r0 : Nat} {x1 x2 x3 : Int32} {P : Int32 → am_Mem → Prop} {X : Nat → am_Mem → Prop}
    (h1 : am_kd μ r0 = (1, 12))
    (h2 : ¬ am_F μ r0 77 = 15)
    (h3 : am_kd μ r0 = (1, 12))
    (h4 : ¬ am_F μ r0 76 = 15)
    (h5 : (am_kd μ (am_F μ r0 76)).1 = 2 ∨ (am_kd μ (am_F μ r0 76)).1 = 8)
    (h6 : ¬ (x1 < 0 ∨ (am_kd μ (am_F μ r0 76)).2 ≤ x1.toNatClampNeg))
    (hk : am_kd μ r0 = (1, 12))
    (hc : Wp d 236 (0, [some (.ref r0), some (.ref (am_F μ r0 77)), some (.int ((49049 : Int32) * x1)), some (.int (am_A μ (am_F μ r0 76) x1.toNatClampNeg)), none, none], [], μ) (pI P X)) (hr : ∀ x μ', P x μ' → Wp (d + 1) 243 (80, [some (.ref r0), some (.int x1), some (.int x2), some (.int x3)], [.int x], (μ')) Q)
    (hx : ∀ x μ', X x μ' → Q (.inr x) μ') :
    Wp (d + 1) 243 (61, [some (.ref r0), some (.int x1), some (.int x2), some (.int x3)], [], μ) Q := wp_blk rfl e243_61 (And.intro h1 (And.intro h2 (And.intro h3 (And.intro h4 (And.intro h5 (And.intro h6 (wp_cv (as := [.ref (am_F μ r0 77), .int ((49049 : Int32) * x1), .int (am_A μ (am_F μ r0 76) x1.toNatClampNeg)]) rfl e243_61_c rfl rfl rfl rfl rfl hk hc (fun v μ' hv => by obtain ⟨x, rfl, hp⟩ := pI_r hv; exact hr x μ' hp) hx)))))))
def q243_80 : List (Nat × Instr × Nat) := [(80, .pop, 1), (81, .aload_n 0, 1), (82, .getfield 161, 3), (85, .iload_n 1, 1), (86, .dup2, 1), (87, .iaload, 1), (88, .iconst 1, 1), (89, .iadd, 1), (90, .iastore, 1)]
theorem e243_80 : am_dec am_M243 q243_80 = true := by decide +kernel
theorem b243_80 {d : Nat} {Q : Option Value ⊕ Nat → am_Mem → Prop} {μ : am_Mem} {r0 : Nat} {x1 x2 x3 s0 : Int32}
    (h1 : am_kd μ r0 = (1, 12))
    (h2 : ¬ am_F μ r0 76 = 15)
    (h3 : (am_kd μ (am_F μ r0 76)).1 = 2 ∨ (am_kd μ (am_F μ r0 76)).1 = 8)
    (h4 : ¬ (x1 < 0 ∨ (am_kd μ (am_F μ r0 76)).2 ≤ x1.toNatClampNeg))
    (h5 : (am_kd μ (am_F μ r0 76)).1 = 2)
    (h6 : ¬ (x1 < 0 ∨ (am_kd μ (am_F μ r0 76)).2 ≤ x1.toNatClampNeg))
    (k : Wp d 243 (91, [some (.ref r0), some (.int x1), some (.int x2), some (.int x3)], [], (am_pA μ (am_F μ r0 76) x1.toNatClampNeg ((am_A μ (am_F μ r0 76) x1.toNatClampNeg) + (Int32.ofInt 1)))) Q) :
    Wp d 243 (80, [some (.ref r0), some (.int x1), some (.int x2), some (.int x3)], [.int s0], μ) Q := wp_blk rfl e243_80 (And.intro h1 (And.intro h2 (And.intro h3 (And.intro h4 (And.intro h5 (And.intro h6 k))))))
def q243_91 : List (Nat × Instr × Nat) := [(91, .aload_n 0, 1), (92, .getfield 108, 3), (95, .iload_n 3, 1), (96, .iaload, 1), (97, .istore_n 3, 1), (98, .goto (-67), 3)]
theorem e243_91 : am_dec am_M243 q243_91 = true := by decide +kernel
theorem b243_91 {d : Nat} {Q : Option Value ⊕ Nat → am_Mem → Prop} {μ : am_Mem} {r0 : Nat} {x1 x2 x3 : Int32}
    (h1 : am_kd μ r0 = (1, 12))
    (h2 : ¬ am_F μ r0 51 = 15)
    (h3 : (am_kd μ (am_F μ r0 51)).1 = 2 ∨ (am_kd μ (am_F μ r0 51)).1 = 8)
    (h4 : ¬ (x3 < 0 ∨ (am_kd μ (am_F μ r0 51)).2 ≤ x3.toNatClampNeg))
    (k : Wp d 243 (31, [some (.ref r0), some (.int x1), some (.int x2), some (.int (am_A μ (am_F μ r0 51) x3.toNatClampNeg))], [], μ) Q) :
    Wp d 243 (91, [some (.ref r0), some (.int x1), some (.int x2), some (.int x3)], [], μ) Q := wp_blk rfl e243_91 (And.intro h1 (And.intro h2 (And.intro h3 (And.intro h4 k))))
def q243_101 : List (Nat × Instr × Nat) := [(101, .iinc 1 1, 3), (104, .goto (-102), 3)]
theorem e243_101 : am_dec am_M243 q243_101 = true := by decide +kernel
theorem b243_101 {d : Nat} {Q : Option Value ⊕ Nat → am_Mem → Prop} {μ : am_Mem} {r0 : Nat} {x1 x2 x3 : Int32}
    (k : Wp d 243 (2, [some (.ref r0), some (.int (x1 + Int32.ofInt 1)), some (.int x2), some (.int x3)], [], μ) Q) :
    Wp d 243 (101, [some (.ref r0), some (.int x1), some (.int x2), some (.int x3)], [], μ) Q := wp_blk rfl e243_101 k
theorem e243_107_r : am_dec am_M243 [(107, .return_, 1)] = true := by decide +kernel
theorem b243_107 {d : Nat} {Q : Option Value ⊕ Nat → am_Mem → Prop} {μ : am_Mem} {r0 : Nat} {x1 : Int32} {o2 o3 : Option Value}
    (k : Q (.inl none) μ) :
    Wp d 243 (107, [some (.ref r0), some (.int x1), o2, o3], [], μ) Q := (wp_rv rfl e243_107_r rfl k)
/-! RuleSheetsModel.terminal()Z -/
def q244_0 : List (Nat × Instr × Nat) := [(0, .aload_n 0, 1), (1, .getfield 590, 3), (4, .ifCond .eq 14, 3)]
theorem e244_0 : am_dec am_M244 q244_0 = true := by decide +kernel
theorem b244_0 {d : Nat} {Q : Option Value ⊕ Nat → am_Mem → Prop} {μ : am_Mem} {r0 : Nat}
    (h1 : am_kd μ r0 = (1, 12))
    (k1 : (am_A μ r0 72) = 0 → Wp d 244 (18, [some (.ref r0), none], [], μ) Q) (k2 : ¬ ((am_A μ r0 72) = 0) → Wp d 244 (7, [some (.ref r0), none], [], μ) Q) :
    Wp d 244 (0, [some (.ref r0), none], [], μ) Q := wp_blk rfl e244_0 (And.intro h1 (And.intro k1 k2))
def q244_7 : List (Nat × Instr × Nat) := [(7, .aload_n 0, 1)]
theorem e244_7 : am_dec am_M244 q244_7 = true := by decide +kernel
theorem e244_7_c : am_dc1 am_M244 8 (.invokevirtual 612) 3 = true := by decide +kernel
theorem b244_7 {d : Nat} {Q : Option Value ⊕ Nat → am_Mem → Prop} {μ : am_Mem} {r0 : Nat} {P : Int32 → am_Mem → Prop} {X : Nat → am_Mem → Prop}
    (hk : am_kd μ r0 = (1, 12))
    (hc : Wp d 242 (0, [some (.ref r0)], [], μ) (pI P X)) (hr : ∀ x μ', P x μ' → Wp (d + 1) 244 (11, [some (.ref r0), none], [.int x], (μ')) Q)
    (hx : ∀ x μ', X x μ' → Q (.inr x) μ') :
    Wp (d + 1) 244 (7, [some (.ref r0), none], [], μ) Q := wp_blk rfl e244_7 (wp_cv (as := []) rfl e244_7_c rfl rfl rfl rfl rfl hk hc (fun v μ' hv => by obtain ⟨x, rfl, hp⟩ := pI_r hv; exact hr x μ' hp) hx)
def q244_11 : List (Nat × Instr × Nat) := [(11, .ifCond .eq 7, 3)]
theorem e244_11 : am_dec am_M244 q244_11 = true := by decide +kernel
theorem b244_11 {d : Nat} {Q : Option Value ⊕ Nat → am_Mem → Prop} {μ : am_Mem} {r0 : Nat} {s0 : Int32}
    (k1 : s0 = 0 → Wp d 244 (18, [some (.ref r0), none], [], μ) Q) (k2 : ¬ (s0 = 0) → Wp d 244 (14, [some (.ref r0), none], [], μ) Q) :
    Wp d 244 (11, [some (.ref r0), none], [.int s0], μ) Q := wp_blk rfl e244_11 (And.intro k1 k2)
def q244_14 : List (Nat × Instr × Nat) := [(14, .iconst 1, 1), (15, .goto 4, 3)]
theorem e244_14 : am_dec am_M244 q244_14 = true := by decide +kernel
theorem b244_14 {d : Nat} {Q : Option Value ⊕ Nat → am_Mem → Prop} {μ : am_Mem} {r0 : Nat}
    (k : Wp d 244 (19, [some (.ref r0), none], [.int (Int32.ofInt 1)], μ) Q) :
    Wp d 244 (14, [some (.ref r0), none], [], μ) Q := wp_blk rfl e244_14 k
def q244_18 : List (Nat × Instr × Nat) := [(18, .iconst 0, 1)]
theorem e244_18 : am_dec am_M244 q244_18 = true := by decide +kernel
theorem b244_18 {d : Nat} {Q : Option Value ⊕ Nat → am_Mem → Prop} {μ : am_Mem} {r0 : Nat}
    (k : Wp d 244 (19, [some (.ref r0), none], [.int (Int32.ofInt 0)], μ) Q) :
    Wp d 244 (18, [some (.ref r0), none], [], μ) Q := wp_blk rfl e244_18 k
def q244_19 : List (Nat × Instr × Nat) := [(19, .istore_n 1, 1), (20, .aload_n 0, 1), (21, .aload_n 0, 1), (22, .getfield 590, 3), (25, .ifCond .ne 7, 3)]
theorem e244_19 : am_dec am_M244 q244_19 = true := by decide +kernel
theorem b244_19 {d : Nat} {Q : Option Value ⊕ Nat → am_Mem → Prop} {μ : am_Mem} {r0 : Nat} {s0 : Int32}
    (h1 : am_kd μ r0 = (1, 12))
    (k1 : ¬ (am_A μ r0 72) = 0 → Wp d 244 (32, [some (.ref r0), some (.int s0)], [.ref r0], μ) Q) (k2 : ¬ (¬ (am_A μ r0 72) = 0) → Wp d 244 (28, [some (.ref r0), some (.int s0)], [.ref r0], μ) Q) :
    Wp d 244 (19, [some (.ref r0), none], [.int s0], μ) Q := wp_blk rfl e244_19 (And.intro h1 (And.intro k1 k2))
def q244_28 : List (Nat × Instr × Nat) := [(28, .iconst 1, 1), (29, .goto 4, 3)]
theorem e244_28 : am_dec am_M244 q244_28 = true := by decide +kernel
theorem b244_28 {d : Nat} {Q : Option Value ⊕ Nat → am_Mem → Prop} {μ : am_Mem} {r0 r90 : Nat} {x1 : Int32}
    (k : Wp d 244 (33, [some (.ref r0), some (.int x1)], [.int (Int32.ofInt 1), .ref r90], μ) Q) :
    Wp d 244 (28, [some (.ref r0), some (.int x1)], [.ref r90], μ) Q := wp_blk rfl e244_28 k
def q244_32 : List (Nat × Instr × Nat) := [(32, .iconst 0, 1)]
theorem e244_32 : am_dec am_M244 q244_32 = true := by decide +kernel
theorem b244_32 {d : Nat} {Q : Option Value ⊕ Nat → am_Mem → Prop} {μ : am_Mem} {r0 r90 : Nat} {x1 : Int32}
    (k : Wp d 244 (33, [some (.ref r0), some (.int x1)], [.int (Int32.ofInt 0), .ref r90], μ) Q) :
    Wp d 244 (32, [some (.ref r0), some (.int x1)], [.ref r90], μ) Q := wp_blk rfl e244_32 k
def q244_33 : List (Nat × Instr × Nat) := [(33, .iload_n 1, 1), (34, .ifCond .ne 7, 3)]
theorem e244_33 : am_dec am_M244 q244_33 = true := by decide +kernel
theorem b244_33 {d : Nat} {Q : Option Value ⊕ Nat → am_Mem → Prop} {μ : am_Mem} {r0 r90 : Nat} {x1 s1 : Int32}
    (k1 : ¬ x1 = 0 → Wp d 244 (41, [some (.ref r0), some (.int x1)], [.int s1, .ref r90], μ) Q) (k2 : ¬ (¬ x1 = 0) → Wp d 244 (37, [some (.ref r0), some (.int x1)], [.int s1, .ref r90], μ) Q) :
    Wp d 244 (33, [some (.ref r0), some (.int x1)], [.int s1, .ref r90], μ) Q := wp_blk rfl e244_33 (And.intro k1 k2)
def q244_37 : List (Nat × Instr × Nat) := [(37, .iconst 1, 1), (38, .goto 4, 3)]
theorem e244_37 : am_dec am_M244 q244_37 = true := by decide +kernel
theorem b244_37 {d : Nat} {Q : Option Value ⊕ Nat → am_Mem → Prop} {μ : am_Mem} {r0 r90 : Nat} {x1 s1 : Int32}
    (k : Wp d 244 (42, [some (.ref r0), some (.int x1)], [.int (Int32.ofInt 1), .int s1, .ref r90], μ) Q) :
    Wp d 244 (37, [some (.ref r0), some (.int x1)], [.int s1, .ref r90], μ) Q := wp_blk rfl e244_37 k
def q244_41 : List (Nat × Instr × Nat) := [(41, .iconst 0, 1)]
theorem e244_41 : am_dec am_M244 q244_41 = true := by decide +kernel
theorem b244_41 {d : Nat} {Q : Option Value ⊕ Nat → am_Mem → Prop} {μ : am_Mem} {r0 r90 : Nat} {x1 s1 : Int32}
    (k : Wp d 244 (42, [some (.ref r0), some (.int x1)], [.int (Int32.ofInt 0), .int s1, .ref r90], μ) Q) :
    Wp d 244 (41, [some (.ref r0), some (.int x1)], [.int s1, .ref r90], μ) Q := wp_blk rfl e244_41 k
def q244_42 : List (Nat × Instr × Nat) := [(42, .iconst 0, 1)]
theorem e244_42 : am_dec am_M244 q244_42 = true := by decide +kernel
theorem e244_42_c : am_dc1 am_M244 43 (.invokevirtual 212) 3 = true := by decide +kernel
theorem b244_42 {d : Nat} {Q : Option Value ⊕ Nat → am_Mem → Prop} {μ : am_Mem} {r0 r90 : Nat} {x1 s1 s2 : Int32} {P : Int32 → am_Mem → Prop} {X : Nat → am_Mem → Prop}
    (hk : am_kd μ r90 = (1, 12))
    (hc : Wp d 151 (0, [some (.ref r90), some (.int s1), some (.int s2), some (.int (Int32.ofInt 0))], [], μ) (pI P X)) (hr : ∀ x μ', P x μ' → Wp (d + 1) 244 (46, [some (.ref r0), some (.int x1)], [.int x], (μ')) Q)
    (hx : ∀ x μ', X x μ' → Q (.inr x) μ') :
    Wp (d + 1) 244 (42, [some (.ref r0), some (.int x1)], [.int s2, .int s1, .ref r90], μ) Q := wp_blk rfl e244_42 (wp_cv (as := [.int s1, .int s2, .int (Int32.ofInt 0)]) rfl e244_42_c rfl rfl rfl rfl rfl hk hc (fun v μ' hv => by obtain ⟨x, rfl, hp⟩ := pI_r hv; exact hr x μ' hp) hx)
def q244_46 : List (Nat × Instr × Nat) := [(46, .ifCond .eq 5, 3)]
theorem e244_46 : am_dec am_M244 q244_46 = true := by decide +kernel
theorem b244_46 {d : Nat} {Q : Option Value ⊕ Nat → am_Mem → Prop} {μ : am_Mem} {r0 : Nat} {x1 s0 : Int32}
    (k1 : s0 = 0 → Wp d 244 (51, [some (.ref r0), some (.int x1)], [], μ) Q) (k2 : ¬ (s0 = 0) → Wp d 244 (49, [some (.ref r0), some (.int x1)], [], μ) Q) :
    Wp d 244 (46, [some (.ref r0), some (.int x1)], [.int s0], μ) Q := wp_blk rfl e244_46 (And.intro k1 k2)
def q244_49 : List (Nat × Instr × Nat) := [(49, .iconst 0, 1)]
theorem e244_49 : am_dec am_M244 q244_49 = true := by decide +kernel
theorem e244_49_r : am_dec am_M244 [(50, .ireturn, 1)] = true := by decide +kernel
theorem b244_49 {d : Nat} {Q : Option Value ⊕ Nat → am_Mem → Prop} {μ : am_Mem} {r0 : Nat} {x1 : Int32}
    (k : Q (.inl (some (.int (Int32.ofInt 0)))) μ) :
    Wp d 244 (49, [some (.ref r0), some (.int x1)], [], μ) Q := wp_blk rfl e244_49 (wp_ri (ty := .boolean) rfl e244_49_r rfl (by decide) k)
def q244_51 : List (Nat × Instr × Nat) := [(51, .aload_n 0, 1)]
theorem e244_51 : am_dec am_M244 q244_51 = true := by decide +kernel
theorem e244_51_c : am_dc1 am_M244 52 (.invokevirtual 615) 3 = true := by decide +kernel
theorem b244_51 {d : Nat} {Q : Option Value ⊕ Nat → am_Mem → Prop} {μ : am_Mem} {r0 : Nat} {x1 : Int32} {P : Int32 → am_Mem → Prop} {X : Nat → am_Mem → Prop}
    (hk : am_kd μ r0 = (1, 12))
    (hc : Wp d 245 (0, [some (.ref r0)], [], μ) (pI P X)) (hr : ∀ x μ', P x μ' → Wp (d + 1) 244 (55, [some (.ref r0), some (.int x1)], [.int x], (μ')) Q)
    (hx : ∀ x μ', X x μ' → Q (.inr x) μ') :
    Wp (d + 1) 244 (51, [some (.ref r0), some (.int x1)], [], μ) Q := wp_blk rfl e244_51 (wp_cv (as := []) rfl e244_51_c rfl rfl rfl rfl rfl hk hc (fun v μ' hv => by obtain ⟨x, rfl, hp⟩ := pI_r hv; exact hr x μ' hp) hx)
theorem e244_55_r : am_dec am_M244 [(55, .ireturn, 1)] = true := by decide +kernel
theorem b244_55 {d : Nat} {Q : Option Value ⊕ Nat → am_Mem → Prop} {μ : am_Mem} {r0 : Nat} {x1 s0 : Int32}
    (hn : narrow .boolean (.int s0) = .int s0 ∧ fits .boolean (.int s0) = true)
    (k : Q (.inl (some (.int s0))) μ) :
    Wp d 244 (55, [some (.ref r0), some (.int x1)], [.int s0], μ) Q := (wp_ri (ty := .boolean) rfl e244_55_r rfl hn k)
/-! RuleSheetsModel.isOver()Z -/
def q245_0 : List (Nat × Instr × Nat) := [(0, .aload_n 0, 1), (1, .getfield 120, 3), (4, .bipush 9, 2), (6, .iaload, 1), (7, .ifCond .le 7, 3)]
theorem e245_0 : am_dec am_M245 q245_0 = true := by decide +kernel
theorem b245_0 {d : Nat} {Q : Option Value ⊕ Nat → am_Mem → Prop} {μ : am_Mem} {r0 : Nat}
    (h1 : am_kd μ r0 = (1, 12))
    (h2 : ¬ am_F μ r0 55 = 15)
    (h3 : (am_kd μ (am_F μ r0 55)).1 = 2 ∨ (am_kd μ (am_F μ r0 55)).1 = 8)
    (h4 : ¬ (((Int8.ofInt 9).toInt32) < 0 ∨ (am_kd μ (am_F μ r0 55)).2 ≤ ((Int8.ofInt 9).toInt32).toNatClampNeg))
    (k1 : (am_A μ (am_F μ r0 55) ((Int8.ofInt 9).toInt32).toNatClampNeg) ≤ 0 → Wp d 245 (14, [some (.ref r0)], [], μ) Q) (k2 : ¬ ((am_A μ (am_F μ r0 55) ((Int8.ofInt 9).toInt32).toNatClampNeg) ≤ 0) → Wp d 245 (10, [some (.ref r0)], [], μ) Q) :
    Wp d 245 (0, [some (.ref r0)], [], μ) Q := wp_blk rfl e245_0 (And.intro h1 (And.intro h2 (And.intro h3 (And.intro h4 (And.intro k1 k2)))))
def q245_10 : List (Nat × Instr × Nat) := [(10, .iconst 1, 1), (11, .goto 4, 3)]
theorem e245_10 : am_dec am_M245 q245_10 = true := by decide +kernel
theorem b245_10 {d : Nat} {Q : Option Value ⊕ Nat → am_Mem → Prop} {μ : am_Mem} {r0 : Nat}
    (k : Wp d 245 (15, [some (.ref r0)], [.int (Int32.ofInt 1)], μ) Q) :
    Wp d 245 (10, [some (.ref r0)], [], μ) Q := wp_blk rfl e245_10 k
def q245_14 : List (Nat × Instr × Nat) := [(14, .iconst 0, 1)]
theorem e245_14 : am_dec am_M245 q245_14 = true := by decide +kernel
theorem b245_14 {d : Nat} {Q : Option Value ⊕ Nat → am_Mem → Prop} {μ : am_Mem} {r0 : Nat}
    (k : Wp d 245 (15, [some (.ref r0)], [.int (Int32.ofInt 0)], μ) Q) :
    Wp d 245 (14, [some (.ref r0)], [], μ) Q := wp_blk rfl e245_14 k
theorem e245_15_r : am_dec am_M245 [(15, .ireturn, 1)] = true := by decide +kernel
theorem b245_15 {d : Nat} {Q : Option Value ⊕ Nat → am_Mem → Prop} {μ : am_Mem} {r0 : Nat} {s0 : Int32}
    (hn : narrow .boolean (.int s0) = .int s0 ∧ fits .boolean (.int s0) = true)
    (k : Q (.inl (some (.int s0))) μ) :
    Wp d 245 (15, [some (.ref r0)], [.int s0], μ) Q := (wp_ri (ty := .boolean) rfl e245_15_r rfl hn k)
/-! RuleSheetsModel.goal(I)I -/
def q246_0 : List (Nat × Instr × Nat) := [(0, .aload_n 0, 1), (1, .getfield 590, 3), (4, .ifCond .eq 15, 3)]
theorem e246_0 : am_dec am_M246 q246_0 = true := by decide +kernel
theorem b246_0 {d : Nat} {Q : Option Value ⊕ Nat → am_Mem → Prop} {μ : am_Mem} {r0 : Nat} {x1 : Int32}
    (h1 : am_kd μ r0 = (1, 12))
    (k1 : (am_A μ r0 72) = 0 → Wp d 246 (19, [some (.ref r0), some (.int x1), none, none], [], μ) Q) (k2 : ¬ ((am_A μ r0 72) = 0) → Wp d 246 (7, [some (.ref r0), some (.int x1), none, none], [], μ) Q) :
    Wp d 246 (0, [some (.ref r0), some (.int x1), none, none], [], μ) Q := wp_blk rfl e246_0 (And.intro h1 (And.intro k1 k2))
def q246_7 : List (Nat × Instr × Nat) := [(7, .aload_n 0, 1), (8, .iload_n 1, 1)]
theorem e246_7 : am_dec am_M246 q246_7 = true := by decide +kernel
theorem e246_7_c : am_dc1 am_M246 9 (.invokevirtual 609) 3 = true := by decide +kernel
theorem b246_7 {d : Nat} {Q : Option Value ⊕ Nat → am_Mem → Prop} {μ : am_Mem} {r0 : Nat} {x1 : Int32} {P : Int32 → am_Mem → Prop} {X : Nat → am_Mem → Prop}
    (hk : am_kd μ r0 = (1, 12))
    (hc : Wp d 241 (0, [some (.ref r0), some (.int x1)], [], μ) (pI P X)) (hr : ∀ x μ', P x μ' → Wp (d + 1) 246 (12, [some (.ref r0), some (.int x1), none, none], [.int x], (μ')) Q)
    (hx : ∀ x μ', X x μ' → Q (.inr x) μ') :
    Wp (d + 1) 246 (7, [some (.ref r0), some (.int x1), none, none], [], μ) Q := wp_blk rfl e246_7 (wp_cv (as := [.int x1]) rfl e246_7_c rfl rfl rfl rfl rfl hk hc (fun v μ' hv => by obtain ⟨x, rfl, hp⟩ := pI_r hv; exact hr x μ' hp) hx)
def q246_12 : List (Nat × Instr × Nat) := [(12, .ifCond .eq 7, 3)]
theorem e246_12 : am_dec am_M246 q246_12 = true := by decide +kernel
theorem b246_12 {d : Nat} {Q : Option Value ⊕ Nat → am_Mem → Prop} {μ : am_Mem} {r0 : Nat} {x1 s0 : Int32}
    (k1 : s0 = 0 → Wp d 246 (19, [some (.ref r0), some (.int x1), none, none], [], μ) Q) (k2 : ¬ (s0 = 0) → Wp d 246 (15, [some (.ref r0), some (.int x1), none, none], [], μ) Q) :
    Wp d 246 (12, [some (.ref r0), some (.int x1), none, none], [.int s0], μ) Q := wp_blk rfl e246_12 (And.intro k1 k2)
def q246_15 : List (Nat × Instr × Nat) := [(15, .iconst 1, 1), (16, .goto 4, 3)]
theorem e246_15 : am_dec am_M246 q246_15 = true := by decide +kernel
theorem b246_15 {d : Nat} {Q : Option Value ⊕ Nat → am_Mem → Prop} {μ : am_Mem} {r0 : Nat} {x1 : Int32}
    (k : Wp d 246 (20, [some (.ref r0), some (.int x1), none, none], [.int (Int32.ofInt 1)], μ) Q) :
    Wp d 246 (15, [some (.ref r0), some (.int x1), none, none], [], μ) Q := wp_blk rfl e246_15 k
def q246_19 : List (Nat × Instr × Nat) := [(19, .iconst 0, 1)]
theorem e246_19 : am_dec am_M246 q246_19 = true := by decide +kernel
theorem b246_19 {d : Nat} {Q : Option Value ⊕ Nat → am_Mem → Prop} {μ : am_Mem} {r0 : Nat} {x1 : Int32}
    (k : Wp d 246 (20, [some (.ref r0), some (.int x1), none, none], [.int (Int32.ofInt 0)], μ) Q) :
    Wp d 246 (19, [some (.ref r0), some (.int x1), none, none], [], μ) Q := wp_blk rfl e246_19 k
def q246_20 : List (Nat × Instr × Nat) := [(20, .istore_n 2, 1), (21, .iload_n 2, 1), (22, .ifCond .eq 14, 3)]
theorem e246_20 : am_dec am_M246 q246_20 = true := by decide +kernel
theorem b246_20 {d : Nat} {Q : Option Value ⊕ Nat → am_Mem → Prop} {μ : am_Mem} {r0 : Nat} {x1 s0 : Int32}
    (k1 : s0 = 0 → Wp d 246 (36, [some (.ref r0), some (.int x1), some (.int s0), none], [], μ) Q) (k2 : ¬ (s0 = 0) → Wp d 246 (25, [some (.ref r0), some (.int x1), some (.int s0), none], [], μ) Q) :
    Wp d 246 (20, [some (.ref r0), some (.int x1), none, none], [.int s0], μ) Q := wp_blk rfl e246_20 (And.intro k1 k2)
def q246_25 : List (Nat × Instr × Nat) := [(25, .aload_n 0, 1)]
theorem e246_25 : am_dec am_M246 q246_25 = true := by decide +kernel
theorem e246_25_c : am_dc1 am_M246 26 (.invokevirtual 612) 3 = true := by decide +kernel
theorem b246_25 {d : Nat} {Q : Option Value ⊕ Nat → am_Mem → Prop} {μ : am_Mem} {r0 : Nat} {x1 x2 : Int32} {P : Int32 → am_Mem → Prop} {X : Nat → am_Mem → Prop}
    (hk : am_kd μ r0 = (1, 12))
    (hc : Wp d 242 (0, [some (.ref r0)], [], μ) (pI P X)) (hr : ∀ x μ', P x μ' → Wp (d + 1) 246 (29, [some (.ref r0), some (.int x1), some (.int x2), none], [.int x], (μ')) Q)
    (hx : ∀ x μ', X x μ' → Q (.inr x) μ') :
    Wp (d + 1) 246 (25, [some (.ref r0), some (.int x1), some (.int x2), none], [], μ) Q := wp_blk rfl e246_25 (wp_cv (as := []) rfl e246_25_c rfl rfl rfl rfl rfl hk hc (fun v μ' hv => by obtain ⟨x, rfl, hp⟩ := pI_r hv; exact hr x μ' hp) hx)
def q246_29 : List (Nat × Instr × Nat) := [(29, .ifCond .eq 7, 3)]
theorem e246_29 : am_dec am_M246 q246_29 = true := by decide +kernel
theorem b246_29 {d : Nat} {Q : Option Value ⊕ Nat → am_Mem → Prop} {μ : am_Mem} {r0 : Nat} {x1 x2 s0 : Int32}
    (k1 : s0 = 0 → Wp d 246 (36, [some (.ref r0), some (.int x1), some (.int x2), none], [], μ) Q) (k2 : ¬ (s0 = 0) → Wp d 246 (32, [some (.ref r0), some (.int x1), some (.int x2), none], [], μ) Q) :
    Wp d 246 (29, [some (.ref r0), some (.int x1), some (.int x2), none], [.int s0], μ) Q := wp_blk rfl e246_29 (And.intro k1 k2)
def q246_32 : List (Nat × Instr × Nat) := [(32, .iconst 1, 1), (33, .goto 4, 3)]
theorem e246_32 : am_dec am_M246 q246_32 = true := by decide +kernel
theorem b246_32 {d : Nat} {Q : Option Value ⊕ Nat → am_Mem → Prop} {μ : am_Mem} {r0 : Nat} {x1 x2 : Int32}
    (k : Wp d 246 (37, [some (.ref r0), some (.int x1), some (.int x2), none], [.int (Int32.ofInt 1)], μ) Q) :
    Wp d 246 (32, [some (.ref r0), some (.int x1), some (.int x2), none], [], μ) Q := wp_blk rfl e246_32 k
def q246_36 : List (Nat × Instr × Nat) := [(36, .iconst 0, 1)]
theorem e246_36 : am_dec am_M246 q246_36 = true := by decide +kernel
theorem b246_36 {d : Nat} {Q : Option Value ⊕ Nat → am_Mem → Prop} {μ : am_Mem} {r0 : Nat} {x1 x2 : Int32}
    (k : Wp d 246 (37, [some (.ref r0), some (.int x1), some (.int x2), none], [.int (Int32.ofInt 0)], μ) Q) :
    Wp d 246 (36, [some (.ref r0), some (.int x1), some (.int x2), none], [], μ) Q := wp_blk rfl e246_36 k
def q246_37 : List (Nat × Instr × Nat) := [(37, .istore_n 3, 1), (38, .aload_n 0, 1), (39, .aload_n 0, 1), (40, .getfield 590, 3), (43, .ifCond .ne 7, 3)]
theorem e246_37 : am_dec am_M246 q246_37 = true := by decide +kernel
theorem b246_37 {d : Nat} {Q : Option Value ⊕ Nat → am_Mem → Prop} {μ : am_Mem} {r0 : Nat} {x1 x2 s0 : Int32}
    (h1 : am_kd μ r0 = (1, 12))
    (k1 : ¬ (am_A μ r0 72) = 0 → Wp d 246 (50, [some (.ref r0), some (.int x1), some (.int x2), some (.int s0)], [.ref r0], μ) Q) (k2 : ¬ (¬ (am_A μ r0 72) = 0) → Wp d 246 (46, [some (.ref r0), some (.int x1), some (.int x2), some (.int s0)], [.ref r0], μ) Q) :
    Wp d 246 (37, [some (.ref r0), some (.int x1), some (.int x2), none], [.int s0], μ) Q := wp_blk rfl e246_37 (And.intro h1 (And.intro k1 k2))
def q246_46 : List (Nat × Instr × Nat) := [(46, .iconst 1, 1), (47, .goto 4, 3)]
theorem e246_46 : am_dec am_M246 q246_46 = true := by decide +kernel
theorem b246_46 {d : Nat} {Q : Option Value ⊕ Nat → am_Mem → Prop} {μ : am_Mem} {r0 r90 : Nat} {x1 x2 x3 : Int32}
    (k : Wp d 246 (51, [some (.ref r0), some (.int x1), some (.int x2), some (.int x3)], [.int (Int32.ofInt 1), .ref r90], μ) Q) :
    Wp d 246 (46, [some (.ref r0), some (.int x1), some (.int x2), some (.int x3)], [.ref r90], μ) Q := wp_blk rfl e246_46 k
def q246_50 : List (Nat × Instr × Nat) := [(50, .iconst 0, 1)]
theorem e246_50 : am_dec am_M246 q246_50 = true := by decide +kernel
theorem b246_50 {d : Nat} {Q : Option Value ⊕ Nat → am_Mem → Prop} {μ : am_Mem} {r0 r90 : Nat} {x1 x2 x3 : Int32}
    (k : Wp d 246 (51, [some (.ref r0), some (.int x1), some (.int x2), some (.int x3)], [.int (Int32.ofInt 0), .ref r90], μ) Q) :
    Wp d 246 (50, [some (.ref r0), some (.int x1), some (.int x2), some (.int x3)], [.ref r90], μ) Q := wp_blk rfl e246_50 k
def q246_51 : List (Nat × Instr × Nat) := [(51, .aload_n 0, 1), (52, .getfield 590, 3), (55, .ifCond .eq 11, 3)]
theorem e246_51 : am_dec am_M246 q246_51 = true := by decide +kernel
theorem b246_51 {d : Nat} {Q : Option Value ⊕ Nat → am_Mem → Prop} {μ : am_Mem} {r0 r90 : Nat} {x1 x2 x3 s1 : Int32}
    (h1 : am_kd μ r0 = (1, 12))
    (k1 : (am_A μ r0 72) = 0 → Wp d 246 (66, [some (.ref r0), some (.int x1), some (.int x2), some (.int x3)], [.int s1, .ref r90], μ) Q) (k2 : ¬ ((am_A μ r0 72) = 0) → Wp d 246 (58, [some (.ref r0), some (.int x1), some (.int x2), some (.int x3)], [.int s1, .ref r90], μ) Q) :
    Wp d 246 (51, [some (.ref r0), some (.int x1), some (.int x2), some (.int x3)], [.int s1, .ref r90], μ) Q := wp_blk rfl e246_51 (And.intro h1 (And.intro k1 k2))
def q246_58 : List (Nat × Instr × Nat) := [(58, .iload_n 2, 1), (59, .ifCond .ne 7, 3)]
theorem e246_58 : am_dec am_M246 q246_58 = true := by decide +kernel
theorem b246_58 {d : Nat} {Q : Option Value ⊕ Nat → am_Mem → Prop} {μ : am_Mem} {r0 r90 : Nat} {x1 x2 x3 s1 : Int32}
    (k1 : ¬ x2 = 0 → Wp d 246 (66, [some (.ref r0), some (.int x1), some (.int x2), some (.int x3)], [.int s1, .ref r90], μ) Q) (k2 : ¬ (¬ x2 = 0) → Wp d 246 (62, [some (.ref r0), some (.int x1), some (.int x2), some (.int x3)], [.int s1, .ref r90], μ) Q) :
    Wp d 246 (58, [some (.ref r0), some (.int x1), some (.int x2), some (.int x3)], [.int s1, .ref r90], μ) Q := wp_blk rfl e246_58 (And.intro k1 k2)
def q246_62 : List (Nat × Instr × Nat) := [(62, .iconst 1, 1), (63, .goto 4, 3)]
theorem e246_62 : am_dec am_M246 q246_62 = true := by decide +kernel
theorem b246_62 {d : Nat} {Q : Option Value ⊕ Nat → am_Mem → Prop} {μ : am_Mem} {r0 r90 : Nat} {x1 x2 x3 s1 : Int32}
    (k : Wp d 246 (67, [some (.ref r0), some (.int x1), some (.int x2), some (.int x3)], [.int (Int32.ofInt 1), .int s1, .ref r90], μ) Q) :
    Wp d 246 (62, [some (.ref r0), some (.int x1), some (.int x2), some (.int x3)], [.int s1, .ref r90], μ) Q := wp_blk rfl e246_62 k
def q246_66 : List (Nat × Instr × Nat) := [(66, .iconst 0, 1)]
theorem e246_66 : am_dec am_M246 q246_66 = true := by decide +kernel
theorem b246_66 {d : Nat} {Q : Option Value ⊕ Nat → am_Mem → Prop} {μ : am_Mem} {r0 r90 : Nat} {x1 x2 x3 s1 : Int32}
    (k : Wp d 246 (67, [some (.ref r0), some (.int x1), some (.int x2), some (.int x3)], [.int (Int32.ofInt 0), .int s1, .ref r90], μ) Q) :
    Wp d 246 (66, [some (.ref r0), some (.int x1), some (.int x2), some (.int x3)], [.int s1, .ref r90], μ) Q := wp_blk rfl e246_66 k
def q246_67 : List (Nat × Instr × Nat) := [(67, .iload_n 3, 1), (68, .ifCond .ne 7, 3)]
theorem e246_67 : am_dec am_M246 q246_67 = true := by decide +kernel
theorem b246_67 {d : Nat} {Q : Option Value ⊕ Nat → am_Mem → Prop} {μ : am_Mem} {r0 r90 : Nat} {x1 x2 x3 s1 s2 : Int32}
    (k1 : ¬ x3 = 0 → Wp d 246 (75, [some (.ref r0), some (.int x1), some (.int x2), some (.int x3)], [.int s2, .int s1, .ref r90], μ) Q) (k2 : ¬ (¬ x3 = 0) → Wp d 246 (71, [some (.ref r0), some (.int x1), some (.int x2), some (.int x3)], [.int s2, .int s1, .ref r90], μ) Q) :
    Wp d 246 (67, [some (.ref r0), some (.int x1), some (.int x2), some (.int x3)], [.int s2, .int s1, .ref r90], μ) Q := wp_blk rfl e246_67 (And.intro k1 k2)
def q246_71 : List (Nat × Instr × Nat) := [(71, .iconst 1, 1), (72, .goto 4, 3)]
theorem e246_71 : am_dec am_M246 q246_71 = true := by decide +kernel
theorem b246_71 {d : Nat} {Q : Option Value ⊕ Nat → am_Mem → Prop} {μ : am_Mem} {r0 r90 : Nat} {x1 x2 x3 s1 s2 : Int32}
    (k : Wp d 246 (76, [some (.ref r0), some (.int x1), some (.int x2), some (.int x3)], [.int (Int32.ofInt 1), .int s2, .int s1, .ref r90], μ) Q) :
    Wp d 246 (71, [some (.ref r0), some (.int x1), some (.int x2), some (.int x3)], [.int s2, .int s1, .ref r90], μ) Q := wp_blk rfl e246_71 k
def q246_75 : List (Nat × Instr × Nat) := [(75, .iconst 0, 1)]
theorem e246_75 : am_dec am_M246 q246_75 = true := by decide +kernel
theorem b246_75 {d : Nat} {Q : Option Value ⊕ Nat → am_Mem → Prop} {μ : am_Mem} {r0 r90 : Nat} {x1 x2 x3 s1 s2 : Int32}
    (k : Wp d 246 (76, [some (.ref r0), some (.int x1), some (.int x2), some (.int x3)], [.int (Int32.ofInt 0), .int s2, .int s1, .ref r90], μ) Q) :
    Wp d 246 (75, [some (.ref r0), some (.int x1), some (.int x2), some (.int x3)], [.int s2, .int s1, .ref r90], μ) Q := wp_blk rfl e246_75 k
theorem e246_76_c : am_dc1 am_M246 76 (.invokevirtual 212) 3 = true := by decide +kernel
theorem b246_76 {d : Nat} {Q : Option Value ⊕ Nat → am_Mem → Prop} {μ : am_Mem} {r0 r90 : Nat} {x1 x2 x3 s1 s2 s3 : Int32} {P : Int32 → am_Mem → Prop} {X : Nat → am_Mem → Prop}
    (hk : am_kd μ r90 = (1, 12))
    (hc : Wp d 151 (0, [some (.ref r90), some (.int s1), some (.int s2), some (.int s3)], [], μ) (pI P X)) (hr : ∀ x μ', P x μ' → Wp (d + 1) 246 (79, [some (.ref r0), some (.int x1), some (.int x2), some (.int x3)], [.int x], (μ')) Q)
    (hx : ∀ x μ', X x μ' → Q (.inr x) μ') :
    Wp (d + 1) 246 (76, [some (.ref r0), some (.int x1), some (.int x2), some (.int x3)], [.int s3, .int s2, .int s1, .ref r90], μ) Q := (wp_cv (as := [.int s1, .int s2, .int s3]) rfl e246_76_c rfl rfl rfl rfl rfl hk hc (fun v μ' hv => by obtain ⟨x, rfl, hp⟩ := pI_r hv; exact hr x μ' hp) hx)
def q246_79 : List (Nat × Instr × Nat) := [(79, .ifCond .eq 5, 3)]
theorem e246_79 : am_dec am_M246 q246_79 = true := by decide +kernel
theorem b246_79 {d : Nat} {Q : Option Value ⊕ Nat → am_Mem → Prop} {μ : am_Mem} {r0 : Nat} {x1 x2 x3 s0 : Int32}
    (k1 : s0 = 0 → Wp d 246 (84, [some (.ref r0), some (.int x1), some (.int x2), some (.int x3)], [], μ) Q) (k2 : ¬ (s0 = 0) → Wp d 246 (82, [some (.ref r0), some (.int x1), some (.int x2), some (.int x3)], [], μ) Q) :
    Wp d 246 (79, [some (.ref r0), some (.int x1), some (.int x2), some (.int x3)], [.int s0], μ) Q := wp_blk rfl e246_79 (And.intro k1 k2)
def q246_82 : List (Nat × Instr × Nat) := [(82, .iconst 0, 1)]
theorem e246_82 : am_dec am_M246 q246_82 = true := by decide +kernel
theorem e246_82_r : am_dec am_M246 [(83, .ireturn, 1)] = true := by decide +kernel
theorem b246_82 {d : Nat} {Q : Option Value ⊕ Nat → am_Mem → Prop} {μ : am_Mem} {r0 : Nat} {x1 x2 x3 : Int32}
    (k : Q (.inl (some (.int (Int32.ofInt 0)))) μ) :
    Wp d 246 (82, [some (.ref r0), some (.int x1), some (.int x2), some (.int x3)], [], μ) Q := wp_blk rfl e246_82 (wp_ri (ty := .int) rfl e246_82_r rfl ⟨rfl, rfl⟩ k)
def q246_84 : List (Nat × Instr × Nat) := [(84, .aload_n 0, 1), (85, .iload_n 1, 1)]
theorem e246_84 : am_dec am_M246 q246_84 = true := by decide +kernel
theorem e246_84_c : am_dc1 am_M246 86 (.invokevirtual 618) 3 = true := by decide +kernel
theorem b246_84 {d : Nat} {Q : Option Value ⊕ Nat → am_Mem → Prop} {μ : am_Mem} {r0 : Nat} {x1 x2 x3 : Int32} {P : Int32 → am_Mem → Prop} {X : Nat → am_Mem → Prop}
    (hk : am_kd μ r0 = (1, 12))
    (hc : Wp d 247 (0, [some (.ref r0), some (.int x1), none, none, none, none], [], μ) (pI P X)) (hr : ∀ x μ', P x μ' → Wp (d + 1) 246 (89, [some (.ref r0), some (.int x1), some (.int x2), some (.int x3)], [.int x], (μ')) Q)
    (hx : ∀ x μ', X x μ' → Q (.inr x) μ') :
    Wp (d + 1) 246 (84, [some (.ref r0), some (.int x1), some (.int x2), some (.int x3)], [], μ) Q := wp_blk rfl e246_84 (wp_cv (as := [.int x1]) rfl e246_84_c rfl rfl rfl rfl rfl hk hc (fun v μ' hv => by obtain ⟨x, rfl, hp⟩ := pI_r hv; exact hr x μ' hp) hx)
theorem e246_89_r : am_dec am_M246 [(89, .ireturn, 1)] = true := by decide +kernel
theorem b246_89 {d : Nat} {Q : Option Value ⊕ Nat → am_Mem → Prop} {μ : am_Mem} {r0 : Nat} {x1 x2 x3 s0 : Int32}
    (k : Q (.inl (some (.int s0))) μ) :
    Wp d 246 (89, [some (.ref r0), some (.int x1), some (.int x2), some (.int x3)], [.int s0], μ) Q := (wp_ri (ty := .int) rfl e246_89_r rfl ⟨rfl, rfl⟩ k)
/-! RuleSheetsModel.goalNow(I)I -/
def q247_0 : List (Nat × Instr × Nat) := [(0, .aload_n 0, 1), (1, .iload_n 1, 1)]
theorem e247_0 : am_dec am_M247 q247_0 = true := by decide +kernel
theorem e247_0_c : am_dc1 am_M247 2 (.invokevirtual 554) 3 = true := by decide +kernel
theorem b247_0 {d : Nat} {Q : Option Value ⊕ Nat → am_Mem → Prop} {μ : am_Mem} {r0 : Nat} {x1 : Int32} {P : Int32 → am_Mem → Prop} {X : Nat → am_Mem → Prop}
    (hk : am_kd μ r0 = (1, 12))
    (hc : Wp d 220 (0, [some (.ref r0), some (.int x1)], [], μ) (pI P X)) (hr : ∀ x μ', P x μ' → Wp (d + 1) 247 (5, [some (.ref r0), some (.int x1), none, none, none, none], [.int x], (μ')) Q)
    (hx : ∀ x μ', X x μ' → Q (.inr x) μ') :
    Wp (d + 1) 247 (0, [some (.ref r0), some (.int x1), none, none, none, none], [], μ) Q := wp_blk rfl e247_0 (wp_cv (as := [.int x1]) rfl e247_0_c rfl rfl rfl rfl rfl hk hc (fun v μ' hv => by obtain ⟨x, rfl, hp⟩ := pI_r hv; exact hr x μ' hp) hx)
def q247_5 : List (Nat × Instr × Nat) := [(5, .istore_n 2, 1), (6, .iconst (-1), 1), (7, .istore_n 3, 1), (8, .aload_n 0, 1), (9, .getfield 114, 3), (12, .bipush 8, 2), (14, .iaload, 1), (15, .istore 4, 2)]
theorem e247_5 : am_dec am_M247 q247_5 = true := by decide +kernel
theorem b247_5 {d : Nat} {Q : Option Value ⊕ Nat → am_Mem → Prop} {μ : am_Mem} {r0 : Nat} {x1 s0 : Int32}
    (h1 : am_kd μ r0 = (1, 12))
    (h2 : ¬ am_F μ r0 53 = 15)
    (h3 : (am_kd μ (am_F μ r0 53)).1 = 2 ∨ (am_kd μ (am_F μ r0 53)).1 = 8)
    (h4 : ¬ (((Int8.ofInt 8).toInt32) < 0 ∨ (am_kd μ (am_F μ r0 53)).2 ≤ ((Int8.ofInt 8).toInt32).toNatClampNeg))
    (k : Wp d 247 (17, [some (.ref r0), some (.int x1), some (.int s0), some (.int (Int32.ofInt (-1))), some (.int (am_A μ (am_F μ r0 53) ((Int8.ofInt 8).toInt32).toNatClampNeg)), none], [], μ) Q) :
    Wp d 247 (5, [some (.ref r0), some (.int x1), none, none, none, none], [.int s0], μ) Q := wp_blk rfl e247_5 (And.intro h1 (And.intro h2 (And.intro h3 (And.intro h4 k))))
def q247_17 : List (Nat × Instr × Nat) := [(17, .iload 4, 2), (19, .ifCond .lt 77, 3)]
theorem e247_17 : am_dec am_M247 q247_17 = true := by decide +kernel
theorem b247_17 {d : Nat} {Q : Option Value ⊕ Nat → am_Mem → Prop} {μ : am_Mem} {r0 : Nat} {x1 x2 x3 x4 : Int32} {o5 : Option Value}
    (k1 : x4 < 0 → Wp d 247 (96, [some (.ref r0), some (.int x1), some (.int x2), some (.int x3), some (.int x4), o5], [], μ) Q) (k2 : ¬ (x4 < 0) → Wp d 247 (22, [some (.ref r0), some (.int x1), some (.int x2), some (.int x3), some (.int x4), o5], [], μ) Q) :
    Wp d 247 (17, [some (.ref r0), some (.int x1), some (.int x2), some (.int x3), some (.int x4), o5], [], μ) Q := wp_blk rfl e247_17 (And.intro k1 k2)
def q247_22 : List (Nat × Instr × Nat) := [(22, .aload_n 0, 1), (23, .getfield 105, 3), (26, .iconst 4, 1), (27, .iload 4, 2), (29, .imul, 1), (30, .iaload, 1), (31, .iload_n 2, 1), (32, .if_icmp .ne 21, 3)]
theorem e247_22 : am_dec am_M247 q247_22 = true := by decide +kernel
theorem b247_22 {d : Nat} {Q : Option Value ⊕ Nat → am_Mem → Prop} {μ : am_Mem} {r0 : Nat} {x1 x2 x3 x4 : Int32} {o5 : Option Value}
    (h1 : am_kd μ r0 = (1, 12))
    (h2 : ¬ am_F μ r0 50 = 15)
    (h3 : (am_kd μ (am_F μ r0 50)).1 = 2 ∨ (am_kd μ (am_F μ r0 50)).1 = 8)
    (h4 : ¬ (((Int32.ofInt 4) * x4) < 0 ∨ (am_kd μ (am_F μ r0 50)).2 ≤ ((Int32.ofInt 4) * x4).toNatClampNeg))
    (k1 : ¬ (am_A μ (am_F μ r0 50) ((Int32.ofInt 4) * x4).toNatClampNeg) = x2 → Wp d 247 (53, [some (.ref r0), some (.int x1), some (.int x2), some (.int x3), some (.int x4), o5], [], μ) Q) (k2 : ¬ (¬ (am_A μ (am_F μ r0 50) ((Int32.ofInt 4) * x4).toNatClampNeg) = x2) → Wp d 247 (35, [some (.ref r0), some (.int x1), some (.int x2), some (.int x3), some (.int x4), o5], [], μ) Q) :
    Wp d 247 (22, [some (.ref r0), some (.int x1), some (.int x2), some (.int x3), some (.int x4), o5], [], μ) Q := wp_blk rfl e247_22 (And.intro h1 (And.intro h2 (And.intro h3 (And.intro h4 (And.intro k1 k2)))))
def q247_35 : List (Nat × Instr × Nat) := [(35, .aload_n 0, 1), (36, .aload_n 0, 1), (37, .getfield 105, 3), (40, .iconst 4, 1), (41, .iload 4, 2), (43, .imul, 1), (44, .iconst 1, 1), (45, .iadd, 1), (46, .iaload, 1)]
theorem e247_35 : am_dec am_M247 q247_35 = true := by decide +kernel
theorem e247_35_c : am_dc1 am_M247 47 (.invokevirtual 568) 3 = true := by decide +kernel
theorem b247_35 {d : Nat} {Q : Option Value ⊕ Nat → am_Mem → Prop} {μ : am_Mem} {r0 : Nat} {x1 x2 x3 x4 : Int32} {o5 : Option Value} {P : Int32 → am_Mem → Prop} {X : Nat → am_Mem → Prop}
    (h1 : am_kd μ r0 = (1, 12))
    (h2 : ¬ am_F μ r0 50 = 15)
    (h3 : (am_kd μ (am_F μ r0 50)).1 = 2 ∨ (am_kd μ (am_F μ r0 50)).1 = 8)
    (h4 : ¬ ((((Int32.ofInt 4) * x4) + (Int32.ofInt 1)) < 0 ∨ (am_kd μ (am_F μ r0 50)).2 ≤ (((Int32.ofInt 4) * x4) + (Int32.ofInt 1)).toNatClampNeg))
    (hk : am_kd μ r0 = (1, 12))
    (hc : Wp d 248 (0, [some (.ref r0), some (.int (am_A μ (am_F μ r0 50) (((Int32.ofInt 4) * x4) + (Int32.ofInt 1)).toNatClampNeg)), none, none, none, none], [], μ) (pI P X)) (hr : ∀ x μ', P x μ' → Wp (d + 1) 247 (50, [some (.ref r0), some (.int x1), some (.int x2), some (.int x3), some (.int x4), o5], [.int x], (μ')) Q)
    (hx : ∀ x μ', X x μ' → Q (.inr x) μ') :
    Wp (d + 1) 247 (35, [some (.ref r0), some (.int x1), some (.int x2), some (.int x3), some (.int x4), o5], [], μ) Q := wp_blk rfl e247_35 (And.intro h1 (And.intro h2 (And.intro h3 (And.intro h4 (wp_cv (as := [.int (am_A μ (am_F μ r0 50) (((Int32.ofInt 4) * x4) + (Int32.ofInt 1)).toNatClampNeg)]) rfl e247_35_c rfl rfl rfl rfl rfl hk hc (fun v μ' hv => by obtain ⟨x, rfl, hp⟩ := pI_r hv; exact hr x μ' hp) hx)))))
def q247_50 : List (Nat × Instr × Nat) := [(50, .goto 4, 3)]
theorem e247_50 : am_dec am_M247 q247_50 = true := by decide +kernel
theorem b247_50 {d : Nat} {Q : Option Value ⊕ Nat → am_Mem → Prop} {μ : am_Mem} {r0 : Nat} {x1 x2 x3 x4 s0 : Int32} {o5 : Option Value}
    (k : Wp d 247 (54, [some (.ref r0), some (.int x1), some (.int x2), some (.int x3), some (.int x4), o5], [.int s0], μ) Q) :
    Wp d 247 (50, [some (.ref r0), some (.int x1), some (.int x2), some (.int x3), some (.int x4), o5], [.int s0], μ) Q := wp_blk rfl e247_50 k
def q247_53 : List (Nat × Instr × Nat) := [(53, .iconst (-1), 1)]
theorem e247_53 : am_dec am_M247 q247_53 = true := by decide +kernel
theorem b247_53 {d : Nat} {Q : Option Value ⊕ Nat → am_Mem → Prop} {μ : am_Mem} {r0 : Nat} {x1 x2 x3 x4 : Int32} {o5 : Option Value}
    (k : Wp d 247 (54, [some (.ref r0), some (.int x1), some (.int x2), some (.int x3), some (.int x4), o5], [.int (Int32.ofInt (-1))], μ) Q) :
    Wp d 247 (53, [some (.ref r0), some (.int x1), some (.int x2), some (.int x3), some (.int x4), o5], [], μ) Q := wp_blk rfl e247_53 k
def q247_54 : List (Nat × Instr × Nat) := [(54, .istore 5, 2), (56, .iload 5, 2), (58, .ifCond .lt 9, 3)]
theorem e247_54 : am_dec am_M247 q247_54 = true := by decide +kernel
theorem b247_54 {d : Nat} {Q : Option Value ⊕ Nat → am_Mem → Prop} {μ : am_Mem} {r0 : Nat} {x1 x2 x3 x4 s0 : Int32} {o5 : Option Value}
    (k1 : s0 < 0 → Wp d 247 (67, [some (.ref r0), some (.int x1), some (.int x2), some (.int x3), some (.int x4), some (.int s0)], [], μ) Q) (k2 : ¬ (s0 < 0) → Wp d 247 (61, [some (.ref r0), some (.int x1), some (.int x2), some (.int x3), some (.int x4), some (.int s0)], [], μ) Q) :
    Wp d 247 (54, [some (.ref r0), some (.int x1), some (.int x2), some (.int x3), some (.int x4), o5], [.int s0], μ) Q := wp_blk rfl e247_54 (And.intro k1 k2)
def q247_61 : List (Nat × Instr × Nat) := [(61, .iload 5, 2), (63, .iload_n 3, 1), (64, .if_icmp .ne 7, 3)]
theorem e247_61 : am_dec am_M247 q247_61 = true := by decide +kernel
theorem b247_61 {d : Nat} {Q : Option Value ⊕ Nat → am_Mem → Prop} {μ : am_Mem} {r0 : Nat} {x1 x2 x3 x4 x5 : Int32}
    (k1 : ¬ x5 = x3 → Wp d 247 (71, [some (.ref r0), some (.int x1), some (.int x2), some (.int x3), some (.int x4), some (.int x5)], [], μ) Q) (k2 : ¬ (¬ x5 = x3) → Wp d 247 (67, [some (.ref r0), some (.int x1), some (.int x2), some (.int x3), some (.int x4), some (.int x5)], [], μ) Q) :
    Wp d 247 (61, [some (.ref r0), some (.int x1), some (.int x2), some (.int x3), some (.int x4), some (.int x5)], [], μ) Q := wp_blk rfl e247_61 (And.intro k1 k2)
def q247_67 : List (Nat × Instr × Nat) := [(67, .iload_n 3, 1), (68, .goto 15, 3)]
theorem e247_67 : am_dec am_M247 q247_67 = true := by decide +kernel
theorem b247_67 {d : Nat} {Q : Option Value ⊕ Nat → am_Mem → Prop} {μ : am_Mem} {r0 : Nat} {x1 x2 x3 x4 x5 : Int32}
    (k : Wp d 247 (83, [some (.ref r0), some (.int x1), some (.int x2), some (.int x3), some (.int x4), some (.int x5)], [.int x3], μ) Q) :
    Wp d 247 (67, [some (.ref r0), some (.int x1), some (.int x2), some (.int x3), some (.int x4), some (.int x5)], [], μ) Q := wp_blk rfl e247_67 k
def q247_71 : List (Nat × Instr × Nat) := [(71, .iload_n 3, 1), (72, .iconst (-1), 1), (73, .if_icmp .ne 8, 3)]
theorem e247_71 : am_dec am_M247 q247_71 = true := by decide +kernel
theorem b247_71 {d : Nat} {Q : Option Value ⊕ Nat → am_Mem → Prop} {μ : am_Mem} {r0 : Nat} {x1 x2 x3 x4 x5 : Int32}
    (k1 : ¬ x3 = (Int32.ofInt (-1)) → Wp d 247 (81, [some (.ref r0), some (.int x1), some (.int x2), some (.int x3), some (.int x4), some (.int x5)], [], μ) Q) (k2 : ¬ (¬ x3 = (Int32.ofInt (-1))) → Wp d 247 (76, [some (.ref r0), some (.int x1), some (.int x2), some (.int x3), some (.int x4), some (.int x5)], [], μ) Q) :
    Wp d 247 (71, [some (.ref r0), some (.int x1), some (.int x2), some (.int x3), some (.int x4), some (.int x5)], [], μ) Q := wp_blk rfl e247_71 (And.intro k1 k2)
def q247_76 : List (Nat × Instr × Nat) := [(76, .iload 5, 2), (78, .goto 5, 3)]
theorem e247_76 : am_dec am_M247 q247_76 = true := by decide +kernel
theorem b247_76 {d : Nat} {Q : Option Value ⊕ Nat → am_Mem → Prop} {μ : am_Mem} {r0 : Nat} {x1 x2 x3 x4 x5 : Int32}
    (k : Wp d 247 (83, [some (.ref r0), some (.int x1), some (.int x2), some (.int x3), some (.int x4), some (.int x5)], [.int x5], μ) Q) :
    Wp d 247 (76, [some (.ref r0), some (.int x1), some (.int x2), some (.int x3), some (.int x4), some (.int x5)], [], μ) Q := wp_blk rfl e247_76 k
def q247_81 : List (Nat × Instr × Nat) := [(81, .bipush (-2), 2)]
theorem e247_81 : am_dec am_M247 q247_81 = true := by decide +kernel
theorem b247_81 {d : Nat} {Q : Option Value ⊕ Nat → am_Mem → Prop} {μ : am_Mem} {r0 : Nat} {x1 x2 x3 x4 x5 : Int32}
    (k : Wp d 247 (83, [some (.ref r0), some (.int x1), some (.int x2), some (.int x3), some (.int x4), some (.int x5)], [.int ((Int8.ofInt (-2)).toInt32)], μ) Q) :
    Wp d 247 (81, [some (.ref r0), some (.int x1), some (.int x2), some (.int x3), some (.int x4), some (.int x5)], [], μ) Q := wp_blk rfl e247_81 k
def q247_83 : List (Nat × Instr × Nat) := [(83, .istore_n 3, 1), (84, .aload_n 0, 1), (85, .getfield 108, 3), (88, .iload 4, 2), (90, .iaload, 1), (91, .istore 4, 2), (93, .goto (-76), 3)]
theorem e247_83 : am_dec am_M247 q247_83 = true := by decide +kernel
theorem b247_83 {d : Nat} {Q : Option Value ⊕ Nat → am_Mem → Prop} {μ : am_Mem} {r0 : Nat} {x1 x2 x3 x4 x5 s0 : Int32}
    (h1 : am_kd μ r0 = (1, 12))
    (h2 : ¬ am_F μ r0 51 = 15)
    (h3 : (am_kd μ (am_F μ r0 51)).1 = 2 ∨ (am_kd μ (am_F μ r0 51)).1 = 8)
    (h4 : ¬ (x4 < 0 ∨ (am_kd μ (am_F μ r0 51)).2 ≤ x4.toNatClampNeg))
    (k : Wp d 247 (17, [some (.ref r0), some (.int x1), some (.int x2), some (.int s0), some (.int (am_A μ (am_F μ r0 51) x4.toNatClampNeg)), some (.int x5)], [], μ) Q) :
    Wp d 247 (83, [some (.ref r0), some (.int x1), some (.int x2), some (.int x3), some (.int x4), some (.int x5)], [.int s0], μ) Q := wp_blk rfl e247_83 (And.intro h1 (And.intro h2 (And.intro h3 (And.intro h4 k))))
def q247_96 : List (Nat × Instr × Nat) := [(96, .iload_n 3, 1)]
theorem e247_96 : am_dec am_M247 q247_96 = true := by decide +kernel
theorem e247_96_r : am_dec am_M247 [(97, .ireturn, 1)] = true := by decide +kernel
theorem b247_96 {d : Nat} {Q : Option Value ⊕ Nat → am_Mem → Prop} {μ : am_Mem} {r0 : Nat} {x1 x2 x3 x4 : Int32} {o5 : Option Value}
    (k : Q (.inl (some (.int x3))) μ) :
    Wp d 247 (96, [some (.ref r0), some (.int x1), some (.int x2), some (.int x3), some (.int x4), o5], [], μ) Q := wp_blk rfl e247_96 (wp_ri (ty := .int) rfl e247_96_r rfl ⟨rfl, rfl⟩ k)
/-! RuleSheetsModel.goalOf(I)I -/
def q248_0 : List (Nat × Instr × Nat) := [(0, .aload_n 0, 1), (1, .getfield 85, 3), (4, .iload_n 1, 1), (5, .iaload, 1), (6, .istore_n 2, 1), (7, .aload_n 0, 1), (8, .getfield 88, 3), (11, .iload_n 1, 1), (12, .iaload, 1), (13, .ifCond .ne 17, 3)]
theorem e248_0 : am_dec am_M248 q248_0 = true := by decide +kernel
theorem b248_0 {d : Nat} {Q : Option Value ⊕ Nat → am_Mem → Prop} {μ : am_Mem} {r0 : Nat} {x1 : Int32}
    (h1 : am_kd μ r0 = (1, 12))
    (h2 : ¬ am_F μ r0 43 = 15)
    (h3 : (am_kd μ (am_F μ r0 43)).1 = 2 ∨ (am_kd μ (am_F μ r0 43)).1 = 8)
    (h4 : ¬ (x1 < 0 ∨ (am_kd μ (am_F μ r0 43)).2 ≤ x1.toNatClampNeg))
    (h5 : am_kd μ r0 = (1, 12))
    (h6 : ¬ am_F μ r0 44 = 15)
    (h7 : (am_kd μ (am_F μ r0 44)).1 = 2 ∨ (am_kd μ (am_F μ r0 44)).1 = 8)
    (h8 : ¬ (x1 < 0 ∨ (am_kd μ (am_F μ r0 44)).2 ≤ x1.toNatClampNeg))
    (k1 : ¬ (am_A μ (am_F μ r0 44) x1.toNatClampNeg) = 0 → Wp d 248 (30, [some (.ref r0), some (.int x1), some (.int (am_A μ (am_F μ r0 43) x1.toNatClampNeg)), none, none, none], [], μ) Q) (k2 : ¬ (¬ (am_A μ (am_F μ r0 44) x1.toNatClampNeg) = 0) → Wp d 248 (16, [some (.ref r0), some (.int x1), some (.int (am_A μ (am_F μ r0 43) x1.toNatClampNeg)), none, none, none], [], μ) Q) :
    Wp d 248 (0, [some (.ref r0), some (.int x1), none, none, none, none], [], μ) Q := wp_blk rfl e248_0 (And.intro h1 (And.intro h2 (And.intro h3 (And.intro h4 (And.intro h5 (And.intro h6 (And.intro h7 (And.intro h8 (And.intro k1 k2)))))))))
def q248_16 : List (Nat × Instr × Nat) := [(16, .aload_n 0, 1), (17, .getfield 26, 3), (20, .iload_n 2, 1), (21, .iaload, 1), (22, .iconst 4, 1), (23, .if_icmp .ge 7, 3)]
theorem e248_16 : am_dec am_M248 q248_16 = true := by decide +kernel
theorem b248_16 {d : Nat} {Q : Option Value ⊕ Nat → am_Mem → Prop} {μ : am_Mem} {r0 : Nat} {x1 x2 : Int32}
    (h1 : am_kd μ r0 = (1, 12))
    (h2 : ¬ am_F μ r0 11 = 15)
    (h3 : (am_kd μ (am_F μ r0 11)).1 = 2 ∨ (am_kd μ (am_F μ r0 11)).1 = 8)
    (h4 : ¬ (x2 < 0 ∨ (am_kd μ (am_F μ r0 11)).2 ≤ x2.toNatClampNeg))
    (k1 : (Int32.ofInt 4) ≤ (am_A μ (am_F μ r0 11) x2.toNatClampNeg) → Wp d 248 (30, [some (.ref r0), some (.int x1), some (.int x2), none, none, none], [], μ) Q) (k2 : ¬ ((Int32.ofInt 4) ≤ (am_A μ (am_F μ r0 11) x2.toNatClampNeg)) → Wp d 248 (26, [some (.ref r0), some (.int x1), some (.int x2), none, none, none], [], μ) Q) :
    Wp d 248 (16, [some (.ref r0), some (.int x1), some (.int x2), none, none, none], [], μ) Q := wp_blk rfl e248_16 (And.intro h1 (And.intro h2 (And.intro h3 (And.intro h4 (And.intro k1 k2)))))
def q248_26 : List (Nat × Instr × Nat) := [(26, .iconst 0, 1), (27, .goto 4, 3)]
theorem e248_26 : am_dec am_M248 q248_26 = true := by decide +kernel
theorem b248_26 {d : Nat} {Q : Option Value ⊕ Nat → am_Mem → Prop} {μ : am_Mem} {r0 : Nat} {x1 x2 : Int32}
    (k : Wp d 248 (31, [some (.ref r0), some (.int x1), some (.int x2), none, none, none], [.int (Int32.ofInt 0)], μ) Q) :
    Wp d 248 (26, [some (.ref r0), some (.int x1), some (.int x2), none, none, none], [], μ) Q := wp_blk rfl e248_26 k
def q248_30 : List (Nat × Instr × Nat) := [(30, .iconst (-1), 1)]
theorem e248_30 : am_dec am_M248 q248_30 = true := by decide +kernel
theorem b248_30 {d : Nat} {Q : Option Value ⊕ Nat → am_Mem → Prop} {μ : am_Mem} {r0 : Nat} {x1 x2 : Int32}
    (k : Wp d 248 (31, [some (.ref r0), some (.int x1), some (.int x2), none, none, none], [.int (Int32.ofInt (-1))], μ) Q) :
    Wp d 248 (30, [some (.ref r0), some (.int x1), some (.int x2), none, none, none], [], μ) Q := wp_blk rfl e248_30 k
def q248_31 : List (Nat × Instr × Nat) := [(31, .istore_n 3, 1), (32, .iconst 0, 1), (33, .istore 4, 2)]
theorem e248_31 : am_dec am_M248 q248_31 = true := by decide +kernel
theorem b248_31 {d : Nat} {Q : Option Value ⊕ Nat → am_Mem → Prop} {μ : am_Mem} {r0 : Nat} {x1 x2 s0 : Int32}
    (k : Wp d 248 (35, [some (.ref r0), some (.int x1), some (.int x2), some (.int s0), some (.int (Int32.ofInt 0)), none], [], μ) Q) :
    Wp d 248 (31, [some (.ref r0), some (.int x1), some (.int x2), none, none, none], [.int s0], μ) Q := wp_blk rfl e248_31 k
def q248_35 : List (Nat × Instr × Nat) := [(35, .iload 4, 2), (37, .aload_n 0, 1), (38, .getfield 26, 3), (41, .iload_n 2, 1), (42, .iaload, 1), (43, .if_icmp .ge 57, 3)]
theorem e248_35 : am_dec am_M248 q248_35 = true := by decide +kernel
theorem b248_35 {d : Nat} {Q : Option Value ⊕ Nat → am_Mem → Prop} {μ : am_Mem} {r0 : Nat} {x1 x2 x3 x4 : Int32} {o5 : Option Value}
    (h1 : am_kd μ r0 = (1, 12))
    (h2 : ¬ am_F μ r0 11 = 15)
    (h3 : (am_kd μ (am_F μ r0 11)).1 = 2 ∨ (am_kd μ (am_F μ r0 11)).1 = 8)
    (h4 : ¬ (x2 < 0 ∨ (am_kd μ (am_F μ r0 11)).2 ≤ x2.toNatClampNeg))
    (k1 : (am_A μ (am_F μ r0 11) x2.toNatClampNeg) ≤ x4 → Wp d 248 (100, [some (.ref r0), some (.int x1), some (.int x2), some (.int x3), some (.int x4), o5], [], μ) Q) (k2 : ¬ ((am_A μ (am_F μ r0 11) x2.toNatClampNeg) ≤ x4) → Wp d 248 (46, [some (.ref r0), some (.int x1), some (.int x2), some (.int x3), some (.int x4), o5], [], μ) Q) :
    Wp d 248 (35, [some (.ref r0), some (.int x1), some (.int x2), some (.int x3), some (.int x4), o5], [], μ) Q := wp_blk rfl e248_35 (And.intro h1 (And.intro h2 (And.intro h3 (And.intro h4 (And.intro k1 k2)))))
def q248_46 : List (Nat × Instr × Nat) := [(46, .iload_n 3, 1), (47, .ifCond .lt 53, 3)]
theorem e248_46 : am_dec am_M248 q248_46 = true := by decide +kernel
theorem b248_46 {d : Nat} {Q : Option Value ⊕ Nat → am_Mem → Prop} {μ : am_Mem} {r0 : Nat} {x1 x2 x3 x4 : Int32} {o5 : Option Value}
    (k1 : x3 < 0 → Wp d 248 (100, [some (.ref r0), some (.int x1), some (.int x2), some (.int x3), some (.int x4), o5], [], μ) Q) (k2 : ¬ (x3 < 0) → Wp d 248 (50, [some (.ref r0), some (.int x1), some (.int x2), some (.int x3), some (.int x4), o5], [], μ) Q) :
    Wp d 248 (46, [some (.ref r0), some (.int x1), some (.int x2), some (.int x3), some (.int x4), o5], [], μ) Q := wp_blk rfl e248_46 (And.intro k1 k2)
def q248_50 : List (Nat × Instr × Nat) := [(50, .aload_n 0, 1), (51, .getfield 23, 3), (54, .bipush 16, 2), (56, .iload_n 2, 1), (57, .imul, 1), (58, .iload 4, 2), (60, .iadd, 1), (61, .iaload, 1), (62, .istore 5, 2), (64, .iload 5, 2), (66, .i2l, 1), (67, .ldc2_w 223, 3), (70, .ldc2_w 225, 3)]
theorem e248_50 : am_dec am_M248 q248_50 = true := by decide +kernel
theorem e248_50_c : am_dc1 am_M248 73 (.invokestatic 205) 3 = true := by decide +kernel
theorem b248_50 {d : Nat} {Q : Option Value ⊕ Nat → am_Mem → Prop} {μ : am_Mem} {r0 : Nat} {x1 x2 x3 x4 : Int32} {o5 : Option Value} {P : Int32 → am_Mem → Prop} {X : Nat → am_Mem → Prop}
    (h1 : am_kd μ r0 = (1, 12))
    (h2 : ¬ am_F μ r0 10 = 15)
    (h3 : (am_kd μ (am_F μ r0 10)).1 = 2 ∨ (am_kd μ (am_F μ r0 10)).1 = 8)
    (h4 : ¬ (((((Int8.ofInt 16).toInt32) * x2) + x4) < 0 ∨ (am_kd μ (am_F μ r0 10)).2 ≤ ((((Int8.ofInt 16).toInt32) * x2) + x4).toNatClampNeg))
    (hc : Wp d 150 (0, [some (.long ((am_A μ (am_F μ r0 10) ((((Int8.ofInt 16).toInt32) * x2) + x4).toNatClampNeg).toInt64)), none, some (.long (48 : Int64)), none, some (.long (57 : Int64)), none], [], μ) (pI P X)) (hr : ∀ x μ', P x μ' → Wp (d + 1) 248 (76, [some (.ref r0), some (.int x1), some (.int x2), some (.int x3), some (.int x4), some (.int (am_A μ (am_F μ r0 10) ((((Int8.ofInt 16).toInt32) * x2) + x4).toNatClampNeg))], [.int x], (μ')) Q)
    (hx : ∀ x μ', X x μ' → Q (.inr x) μ') :
    Wp (d + 1) 248 (50, [some (.ref r0), some (.int x1), some (.int x2), some (.int x3), some (.int x4), o5], [], μ) Q := wp_blk rfl e248_50 (And.intro h1 (And.intro h2 (And.intro h3 (And.intro h4 (wp_cs (vs := [.long ((am_A μ (am_F μ r0 10) ((((Int8.ofInt 16).toInt32) * x2) + x4).toNatClampNeg).toInt64), .long (48 : Int64), .long (57 : Int64)]) rfl e248_50_c rfl rfl rfl rfl rfl hc (fun v μ' hv => by obtain ⟨x, rfl, hp⟩ := pI_r hv; exact hr x μ' hp) hx)))))
def q248_76 : List (Nat × Instr × Nat) := [(76, .ifCond .eq 16, 3)]
theorem e248_76 : am_dec am_M248 q248_76 = true := by decide +kernel
theorem b248_76 {d : Nat} {Q : Option Value ⊕ Nat → am_Mem → Prop} {μ : am_Mem} {r0 : Nat} {x1 x2 x3 x4 x5 s0 : Int32}
    (k1 : s0 = 0 → Wp d 248 (92, [some (.ref r0), some (.int x1), some (.int x2), some (.int x3), some (.int x4), some (.int x5)], [], μ) Q) (k2 : ¬ (s0 = 0) → Wp d 248 (79, [some (.ref r0), some (.int x1), some (.int x2), some (.int x3), some (.int x4), some (.int x5)], [], μ) Q) :
    Wp d 248 (76, [some (.ref r0), some (.int x1), some (.int x2), some (.int x3), some (.int x4), some (.int x5)], [.int s0], μ) Q := wp_blk rfl e248_76 (And.intro k1 k2)
def q248_79 : List (Nat × Instr × Nat) := [(79, .bipush 10, 2), (81, .iload_n 3, 1), (82, .imul, 1), (83, .iload 5, 2), (85, .iadd, 1), (86, .bipush 48, 2), (88, .isub, 1), (89, .goto 4, 3)]
theorem e248_79 : am_dec am_M248 q248_79 = true := by decide +kernel
theorem b248_79 {d : Nat} {Q : Option Value ⊕ Nat → am_Mem → Prop} {μ : am_Mem} {r0 : Nat} {x1 x2 x3 x4 x5 : Int32}
    (k : Wp d 248 (93, [some (.ref r0), some (.int x1), some (.int x2), some (.int x3), some (.int x4), some (.int x5)], [.int (((((Int8.ofInt 10).toInt32) * x3) + x5) - ((Int8.ofInt 48).toInt32))], μ) Q) :
    Wp d 248 (79, [some (.ref r0), some (.int x1), some (.int x2), some (.int x3), some (.int x4), some (.int x5)], [], μ) Q := wp_blk rfl e248_79 k
def q248_92 : List (Nat × Instr × Nat) := [(92, .iconst (-1), 1)]
theorem e248_92 : am_dec am_M248 q248_92 = true := by decide +kernel
theorem b248_92 {d : Nat} {Q : Option Value ⊕ Nat → am_Mem → Prop} {μ : am_Mem} {r0 : Nat} {x1 x2 x3 x4 x5 : Int32}
    (k : Wp d 248 (93, [some (.ref r0), some (.int x1), some (.int x2), some (.int x3), some (.int x4), some (.int x5)], [.int (Int32.ofInt (-1))], μ) Q) :
    Wp d 248 (92, [some (.ref r0), some (.int x1), some (.int x2), some (.int x3), some (.int x4), some (.int x5)], [], μ) Q := wp_blk rfl e248_92 k
def q248_93 : List (Nat × Instr × Nat) := [(93, .istore_n 3, 1), (94, .iinc 4 1, 3), (97, .goto (-62), 3)]
theorem e248_93 : am_dec am_M248 q248_93 = true := by decide +kernel
theorem b248_93 {d : Nat} {Q : Option Value ⊕ Nat → am_Mem → Prop} {μ : am_Mem} {r0 : Nat} {x1 x2 x3 x4 x5 s0 : Int32}
    (k : Wp d 248 (35, [some (.ref r0), some (.int x1), some (.int x2), some (.int s0), some (.int (x4 + Int32.ofInt 1)), some (.int x5)], [], μ) Q) :
    Wp d 248 (93, [some (.ref r0), some (.int x1), some (.int x2), some (.int x3), some (.int x4), some (.int x5)], [.int s0], μ) Q := wp_blk rfl e248_93 k
def q248_100 : List (Nat × Instr × Nat) := [(100, .iload_n 3, 1), (101, .bipush 100, 2), (103, .if_icmp .le 7, 3)]
theorem e248_100 : am_dec am_M248 q248_100 = true := by decide +kernel
theorem b248_100 {d : Nat} {Q : Option Value ⊕ Nat → am_Mem → Prop} {μ : am_Mem} {r0 : Nat} {x1 x2 x3 x4 : Int32} {o5 : Option Value}
    (k1 : x3 ≤ ((Int8.ofInt 100).toInt32) → Wp d 248 (110, [some (.ref r0), some (.int x1), some (.int x2), some (.int x3), some (.int x4), o5], [], μ) Q) (k2 : ¬ (x3 ≤ ((Int8.ofInt 100).toInt32)) → Wp d 248 (106, [some (.ref r0), some (.int x1), some (.int x2), some (.int x3), some (.int x4), o5], [], μ) Q) :
    Wp d 248 (100, [some (.ref r0), some (.int x1), some (.int x2), some (.int x3), some (.int x4), o5], [], μ) Q := wp_blk rfl e248_100 (And.intro k1 k2)
def q248_106 : List (Nat × Instr × Nat) := [(106, .iconst (-1), 1), (107, .goto 4, 3)]
theorem e248_106 : am_dec am_M248 q248_106 = true := by decide +kernel
theorem b248_106 {d : Nat} {Q : Option Value ⊕ Nat → am_Mem → Prop} {μ : am_Mem} {r0 : Nat} {x1 x2 x3 x4 : Int32} {o5 : Option Value}
    (k : Wp d 248 (111, [some (.ref r0), some (.int x1), some (.int x2), some (.int x3), some (.int x4), o5], [.int (Int32.ofInt (-1))], μ) Q) :
    Wp d 248 (106, [some (.ref r0), some (.int x1), some (.int x2), some (.int x3), some (.int x4), o5], [], μ) Q := wp_blk rfl e248_106 k
def q248_110 : List (Nat × Instr × Nat) := [(110, .iload_n 3, 1)]
theorem e248_110 : am_dec am_M248 q248_110 = true := by decide +kernel
theorem b248_110 {d : Nat} {Q : Option Value ⊕ Nat → am_Mem → Prop} {μ : am_Mem} {r0 : Nat} {x1 x2 x3 x4 : Int32} {o5 : Option Value}
    (k : Wp d 248 (111, [some (.ref r0), some (.int x1), some (.int x2), some (.int x3), some (.int x4), o5], [.int x3], μ) Q) :
    Wp d 248 (110, [some (.ref r0), some (.int x1), some (.int x2), some (.int x3), some (.int x4), o5], [], μ) Q := wp_blk rfl e248_110 k
theorem e248_111_r : am_dec am_M248 [(111, .ireturn, 1)] = true := by decide +kernel
theorem b248_111 {d : Nat} {Q : Option Value ⊕ Nat → am_Mem → Prop} {μ : am_Mem} {r0 : Nat} {x1 x2 x3 x4 s0 : Int32} {o5 : Option Value}
    (k : Q (.inl (some (.int s0))) μ) :
    Wp d 248 (111, [some (.ref r0), some (.int x1), some (.int x2), some (.int x3), some (.int x4), o5], [.int s0], μ) Q := (wp_ri (ty := .int) rfl e248_111_r rfl ⟨rfl, rfl⟩ k)
/-! RuleSheetsModel.play(I)I -/
def q249_0 : List (Nat × Instr × Nat) := [(0, .aload_n 0, 1), (1, .getfield 590, 3), (4, .ifCond .eq 18, 3)]
theorem e249_0 : am_dec am_M249 q249_0 = true := by decide +kernel
theorem b249_0 {d : Nat} {Q : Option Value ⊕ Nat → am_Mem → Prop} {μ : am_Mem} {r0 : Nat} {x1 : Int32}
    (h1 : am_kd μ r0 = (1, 12))
    (k1 : (am_A μ r0 72) = 0 → Wp d 249 (22, [some (.ref r0), some (.int x1), none, none, none], [], μ) Q) (k2 : ¬ ((am_A μ r0 72) = 0) → Wp d 249 (7, [some (.ref r0), some (.int x1), none, none, none], [], μ) Q) :
    Wp d 249 (0, [some (.ref r0), some (.int x1), none, none, none], [], μ) Q := wp_blk rfl e249_0 (And.intro h1 (And.intro k1 k2))
def q249_7 : List (Nat × Instr × Nat) := [(7, .aload_n 0, 1), (8, .getfield 551, 3), (11, .ifCond .le 11, 3)]
theorem e249_7 : am_dec am_M249 q249_7 = true := by decide +kernel
theorem b249_7 {d : Nat} {Q : Option Value ⊕ Nat → am_Mem → Prop} {μ : am_Mem} {r0 : Nat} {x1 : Int32}
    (h1 : am_kd μ r0 = (1, 12))
    (k1 : (am_A μ r0 70) ≤ 0 → Wp d 249 (22, [some (.ref r0), some (.int x1), none, none, none], [], μ) Q) (k2 : ¬ ((am_A μ r0 70) ≤ 0) → Wp d 249 (14, [some (.ref r0), some (.int x1), none, none, none], [], μ) Q) :
    Wp d 249 (7, [some (.ref r0), some (.int x1), none, none, none], [], μ) Q := wp_blk rfl e249_7 (And.intro h1 (And.intro k1 k2))
def q249_14 : List (Nat × Instr × Nat) := [(14, .iload_n 1, 1), (15, .ifCond .lt 7, 3)]
theorem e249_14 : am_dec am_M249 q249_14 = true := by decide +kernel
theorem b249_14 {d : Nat} {Q : Option Value ⊕ Nat → am_Mem → Prop} {μ : am_Mem} {r0 : Nat} {x1 : Int32}
    (k1 : x1 < 0 → Wp d 249 (22, [some (.ref r0), some (.int x1), none, none, none], [], μ) Q) (k2 : ¬ (x1 < 0) → Wp d 249 (18, [some (.ref r0), some (.int x1), none, none, none], [], μ) Q) :
    Wp d 249 (14, [some (.ref r0), some (.int x1), none, none, none], [], μ) Q := wp_blk rfl e249_14 (And.intro k1 k2)
def q249_18 : List (Nat × Instr × Nat) := [(18, .iconst 1, 1), (19, .goto 4, 3)]
theorem e249_18 : am_dec am_M249 q249_18 = true := by decide +kernel
theorem b249_18 {d : Nat} {Q : Option Value ⊕ Nat → am_Mem → Prop} {μ : am_Mem} {r0 : Nat} {x1 : Int32}
    (k : Wp d 249 (23, [some (.ref r0), some (.int x1), none, none, none], [.int (Int32.ofInt 1)], μ) Q) :
    Wp d 249 (18, [some (.ref r0), some (.int x1), none, none, none], [], μ) Q := wp_blk rfl e249_18 k
def q249_22 : List (Nat × Instr × Nat) := [(22, .iconst 0, 1)]
theorem e249_22 : am_dec am_M249 q249_22 = true := by decide +kernel
theorem b249_22 {d : Nat} {Q : Option Value ⊕ Nat → am_Mem → Prop} {μ : am_Mem} {r0 : Nat} {x1 : Int32}
    (k : Wp d 249 (23, [some (.ref r0), some (.int x1), none, none, none], [.int (Int32.ofInt 0)], μ) Q) :
    Wp d 249 (22, [some (.ref r0), some (.int x1), none, none, none], [], μ) Q := wp_blk rfl e249_22 k
def q249_23 : List (Nat × Instr × Nat) := [(23, .istore_n 2, 1), (24, .iload_n 2, 1), (25, .ifCond .eq 14, 3)]
theorem e249_23 : am_dec am_M249 q249_23 = true := by decide +kernel
theorem b249_23 {d : Nat} {Q : Option Value ⊕ Nat → am_Mem → Prop} {μ : am_Mem} {r0 : Nat} {x1 s0 : Int32}
    (k1 : s0 = 0 → Wp d 249 (39, [some (.ref r0), some (.int x1), some (.int s0), none, none], [], μ) Q) (k2 : ¬ (s0 = 0) → Wp d 249 (28, [some (.ref r0), some (.int x1), some (.int s0), none, none], [], μ) Q) :
    Wp d 249 (23, [some (.ref r0), some (.int x1), none, none, none], [.int s0], μ) Q := wp_blk rfl e249_23 (And.intro k1 k2)
def q249_28 : List (Nat × Instr × Nat) := [(28, .aload_n 0, 1)]
theorem e249_28 : am_dec am_M249 q249_28 = true := by decide +kernel
theorem e249_28_c : am_dc1 am_M249 29 (.invokevirtual 612) 3 = true := by decide +kernel
theorem b249_28 {d : Nat} {Q : Option Value ⊕ Nat → am_Mem → Prop} {μ : am_Mem} {r0 : Nat} {x1 x2 : Int32} {P : Int32 → am_Mem → Prop} {X : Nat → am_Mem → Prop}
    (hk : am_kd μ r0 = (1, 12))
    (hc : Wp d 242 (0, [some (.ref r0)], [], μ) (pI P X)) (hr : ∀ x μ', P x μ' → Wp (d + 1) 249 (32, [some (.ref r0), some (.int x1), some (.int x2), none, none], [.int x], (μ')) Q)
    (hx : ∀ x μ', X x μ' → Q (.inr x) μ') :
    Wp (d + 1) 249 (28, [some (.ref r0), some (.int x1), some (.int x2), none, none], [], μ) Q := wp_blk rfl e249_28 (wp_cv (as := []) rfl e249_28_c rfl rfl rfl rfl rfl hk hc (fun v μ' hv => by obtain ⟨x, rfl, hp⟩ := pI_r hv; exact hr x μ' hp) hx)
def q249_32 : List (Nat × Instr × Nat) := [(32, .ifCond .eq 7, 3)]
theorem e249_32 : am_dec am_M249 q249_32 = true := by decide +kernel
theorem b249_32 {d : Nat} {Q : Option Value ⊕ Nat → am_Mem → Prop} {μ : am_Mem} {r0 : Nat} {x1 x2 s0 : Int32}
    (k1 : s0 = 0 → Wp d 249 (39, [some (.ref r0), some (.int x1), some (.int x2), none, none], [], μ) Q) (k2 : ¬ (s0 = 0) → Wp d 249 (35, [some (.ref r0), some (.int x1), some (.int x2), none, none], [], μ) Q) :
    Wp d 249 (32, [some (.ref r0), some (.int x1), some (.int x2), none, none], [.int s0], μ) Q := wp_blk rfl e249_32 (And.intro k1 k2)
def q249_35 : List (Nat × Instr × Nat) := [(35, .iconst 1, 1), (36, .goto 4, 3)]
theorem e249_35 : am_dec am_M249 q249_35 = true := by decide +kernel
theorem b249_35 {d : Nat} {Q : Option Value ⊕ Nat → am_Mem → Prop} {μ : am_Mem} {r0 : Nat} {x1 x2 : Int32}
    (k : Wp d 249 (40, [some (.ref r0), some (.int x1), some (.int x2), none, none], [.int (Int32.ofInt 1)], μ) Q) :
    Wp d 249 (35, [some (.ref r0), some (.int x1), some (.int x2), none, none], [], μ) Q := wp_blk rfl e249_35 k
def q249_39 : List (Nat × Instr × Nat) := [(39, .iconst 0, 1)]
theorem e249_39 : am_dec am_M249 q249_39 = true := by decide +kernel
theorem b249_39 {d : Nat} {Q : Option Value ⊕ Nat → am_Mem → Prop} {μ : am_Mem} {r0 : Nat} {x1 x2 : Int32}
    (k : Wp d 249 (40, [some (.ref r0), some (.int x1), some (.int x2), none, none], [.int (Int32.ofInt 0)], μ) Q) :
    Wp d 249 (39, [some (.ref r0), some (.int x1), some (.int x2), none, none], [], μ) Q := wp_blk rfl e249_39 k
def q249_40 : List (Nat × Instr × Nat) := [(40, .istore_n 3, 1), (41, .iload_n 3, 1), (42, .ifCond .eq 22, 3)]
theorem e249_40 : am_dec am_M249 q249_40 = true := by decide +kernel
theorem b249_40 {d : Nat} {Q : Option Value ⊕ Nat → am_Mem → Prop} {μ : am_Mem} {r0 : Nat} {x1 x2 s0 : Int32}
    (k1 : s0 = 0 → Wp d 249 (64, [some (.ref r0), some (.int x1), some (.int x2), some (.int s0), none], [], μ) Q) (k2 : ¬ (s0 = 0) → Wp d 249 (45, [some (.ref r0), some (.int x1), some (.int x2), some (.int s0), none], [], μ) Q) :
    Wp d 249 (40, [some (.ref r0), some (.int x1), some (.int x2), none, none], [.int s0], μ) Q := wp_blk rfl e249_40 (And.intro k1 k2)
def q249_45 : List (Nat × Instr × Nat) := [(45, .iload_n 1, 1), (46, .i2l, 1), (47, .lconst 0, 1), (48, .aload_n 0, 1)]
theorem e249_45 : am_dec am_M249 q249_45 = true := by decide +kernel
theorem e249_45_c : am_dc1 am_M249 49 (.invokevirtual 621) 3 = true := by decide +kernel
theorem b249_45 {d : Nat} {Q : Option Value ⊕ Nat → am_Mem → Prop} {μ : am_Mem} {r0 : Nat} {x1 x2 x3 : Int32} {P : Int64 → am_Mem → Prop} {X : Nat → am_Mem → Prop}
    (hk : am_kd μ r0 = (1, 12))
    (hc : Wp d 250 (0, [some (.ref r0), none, none, none], [], μ) (pL P X)) (hr : ∀ x μ', P x μ' → Wp (d + 1) 249 (52, [some (.ref r0), some (.int x1), some (.int x2), some (.int x3), none], [.long x, .long (Int64.ofNat 0), .long x1.toInt64], (μ')) Q)
    (hx : ∀ x μ', X x μ' → Q (.inr x) μ') :
    Wp (d + 1) 249 (45, [some (.ref r0), some (.int x1), some (.int x2), some (.int x3), none], [], μ) Q := wp_blk rfl e249_45 (wp_cv (as := []) rfl e249_45_c rfl rfl rfl rfl rfl hk hc (fun v μ' hv => by obtain ⟨x, rfl, hp⟩ := pL_r hv; exact hr x μ' hp) hx)
def q249_52 : List (Nat × Instr × Nat) := [(52, .lconst 1, 1), (53, .lsub, 1)]
theorem e249_52 : am_dec am_M249 q249_52 = true := by decide +kernel
theorem e249_52_c : am_dc1 am_M249 54 (.invokestatic 205) 3 = true := by decide +kernel
theorem b249_52 {d : Nat} {Q : Option Value ⊕ Nat → am_Mem → Prop} {μ : am_Mem} {r0 : Nat} {x1 x2 x3 : Int32} {y90 y91 y92 : Int64} {P : Int32 → am_Mem → Prop} {X : Nat → am_Mem → Prop}
    (hc : Wp d 150 (0, [some (.long y90), none, some (.long y91), none, some (.long (y92 - (Int64.ofNat 1))), none], [], μ) (pI P X)) (hr : ∀ x μ', P x μ' → Wp (d + 1) 249 (57, [some (.ref r0), some (.int x1), some (.int x2), some (.int x3), none], [.int x], (μ')) Q)
    (hx : ∀ x μ', X x μ' → Q (.inr x) μ') :
    Wp (d + 1) 249 (52, [some (.ref r0), some (.int x1), some (.int x2), some (.int x3), none], [.long y92, .long y91, .long y90], μ) Q := wp_blk rfl e249_52 (wp_cs (vs := [.long y90, .long y91, .long (y92 - (Int64.ofNat 1))]) rfl e249_52_c rfl rfl rfl rfl rfl hc (fun v μ' hv => by obtain ⟨x, rfl, hp⟩ := pI_r hv; exact hr x μ' hp) hx)
def q249_57 : List (Nat × Instr × Nat) := [(57, .ifCond .eq 7, 3)]
theorem e249_57 : am_dec am_M249 q249_57 = true := by decide +kernel
theorem b249_57 {d : Nat} {Q : Option Value ⊕ Nat → am_Mem → Prop} {μ : am_Mem} {r0 : Nat} {x1 x2 x3 s0 : Int32}
    (k1 : s0 = 0 → Wp d 249 (64, [some (.ref r0), some (.int x1), some (.int x2), some (.int x3), none], [], μ) Q) (k2 : ¬ (s0 = 0) → Wp d 249 (60, [some (.ref r0), some (.int x1), some (.int x2), some (.int x3), none], [], μ) Q) :
    Wp d 249 (57, [some (.ref r0), some (.int x1), some (.int x2), some (.int x3), none], [.int s0], μ) Q := wp_blk rfl e249_57 (And.intro k1 k2)
def q249_60 : List (Nat × Instr × Nat) := [(60, .iconst 1, 1), (61, .goto 4, 3)]
theorem e249_60 : am_dec am_M249 q249_60 = true := by decide +kernel
theorem b249_60 {d : Nat} {Q : Option Value ⊕ Nat → am_Mem → Prop} {μ : am_Mem} {r0 : Nat} {x1 x2 x3 : Int32}
    (k : Wp d 249 (65, [some (.ref r0), some (.int x1), some (.int x2), some (.int x3), none], [.int (Int32.ofInt 1)], μ) Q) :
    Wp d 249 (60, [some (.ref r0), some (.int x1), some (.int x2), some (.int x3), none], [], μ) Q := wp_blk rfl e249_60 k
def q249_64 : List (Nat × Instr × Nat) := [(64, .iconst 0, 1)]
theorem e249_64 : am_dec am_M249 q249_64 = true := by decide +kernel
theorem b249_64 {d : Nat} {Q : Option Value ⊕ Nat → am_Mem → Prop} {μ : am_Mem} {r0 : Nat} {x1 x2 x3 : Int32}
    (k : Wp d 249 (65, [some (.ref r0), some (.int x1), some (.int x2), some (.int x3), none], [.int (Int32.ofInt 0)], μ) Q) :
    Wp d 249 (64, [some (.ref r0), some (.int x1), some (.int x2), some (.int x3), none], [], μ) Q := wp_blk rfl e249_64 k
def q249_65 : List (Nat × Instr × Nat) := [(65, .istore 4, 2), (67, .iload 4, 2), (69, .ifCond .eq 38, 3)]
theorem e249_65 : am_dec am_M249 q249_65 = true := by decide +kernel
theorem b249_65 {d : Nat} {Q : Option Value ⊕ Nat → am_Mem → Prop} {μ : am_Mem} {r0 : Nat} {x1 x2 x3 s0 : Int32}
    (k1 : s0 = 0 → Wp d 249 (107, [some (.ref r0), some (.int x1), some (.int x2), some (.int x3), some (.int s0)], [], μ) Q) (k2 : ¬ (s0 = 0) → Wp d 249 (72, [some (.ref r0), some (.int x1), some (.int x2), some (.int x3), some (.int s0)], [], μ) Q) :
    Wp d 249 (65, [some (.ref r0), some (.int x1), some (.int x2), some (.int x3), none], [.int s0], μ) Q := wp_blk rfl e249_65 (And.intro k1 k2)
def q249_72 : List (Nat × Instr × Nat) := [(72, .aload_n 0, 1), (73, .iload_n 1, 1), (74, .i2l, 1)]
theorem e249_72 : am_dec am_M249 q249_72 = true := by decide +kernel
theorem e249_72_c : am_dc1 am_M249 75 (.invokevirtual 625) 3 = true := by decide +kernel
theorem b249_72 {d : Nat} {Q : Option Value ⊕ Nat → am_Mem → Prop} {μ : am_Mem} {r0 : Nat} {x1 x2 x3 x4 : Int32} {P : am_Mem → Prop} {X : Nat → am_Mem → Prop}
    (hk : am_kd μ r0 = (1, 12))
    (hc : Wp d 251 (0, [some (.ref r0), some (.long x1.toInt64), none, none, none, none], [], μ) (pV P X)) (hr : ∀ μ', P μ' → Wp (d + 1) 249 (78, [some (.ref r0), some (.int x1), some (.int x2), some (.int x3), some (.int x4)], [], (μ')) Q)
    (hx : ∀ x μ', X x μ' → Q (.inr x) μ') :
    Wp (d + 1) 249 (72, [some (.ref r0), some (.int x1), some (.int x2), some (.int x3), some (.int x4)], [], μ) Q := wp_blk rfl e249_72 (wp_cv (as := [.long x1.toInt64]) rfl e249_72_c rfl rfl rfl rfl rfl hk hc (fun v μ' hv => by obtain ⟨rfl, hp⟩ := pV_r hv; exact hr μ' hp) hx)
def q249_78 : List (Nat × Instr × Nat) := [(78, .aload_n 0, 1), (79, .sipush 300, 3), (82, .iconst 1, 1)]
theorem e249_78 : am_dec am_M249 q249_78 = true := by decide +kernel
theorem e249_78_c : am_dc1 am_M249 83 (.invokevirtual 596) 3 = true := by decide +kernel
theorem b249_78 {d : Nat} {Q : Option Value ⊕ Nat → am_Mem → Prop} {μ : am_Mem} {r0 : Nat} {x1 x2 x3 x4 : Int32} {P : Int32 → am_Mem → Prop} {X : Nat → am_Mem → Prop}
    (hk : am_kd μ r0 = (1, 12))
    (hc : Wp d 212 (0, [some (.ref r0), some (.int ((Int16.ofInt 300).toInt32)), some (.int (Int32.ofInt 1)), none, none, none, none], [], μ) (pI P X)) (hr : ∀ x μ', P x μ' → Wp (d + 1) 249 (86, [some (.ref r0), some (.int x1), some (.int x2), some (.int x3), some (.int x4)], [.int x], (μ')) Q)
    (hx : ∀ x μ', X x μ' → Q (.inr x) μ') :
    Wp (d + 1) 249 (78, [some (.ref r0), some (.int x1), some (.int x2), some (.int x3), some (.int x4)], [], μ) Q := wp_blk rfl e249_78 (wp_cv (as := [.int ((Int16.ofInt 300).toInt32), .int (Int32.ofInt 1)]) rfl e249_78_c rfl rfl rfl rfl rfl hk hc (fun v μ' hv => by obtain ⟨x, rfl, hp⟩ := pI_r hv; exact hr x μ' hp) hx)
def q249_86 : List (Nat × Instr × Nat) := [(86, .ifCond .eq 19, 3)]
theorem e249_86 : am_dec am_M249 q249_86 = true := by decide +kernel
theorem b249_86 {d : Nat} {Q : Option Value ⊕ Nat → am_Mem → Prop} {μ : am_Mem} {r0 : Nat} {x1 x2 x3 x4 s0 : Int32}
    (k1 : s0 = 0 → Wp d 249 (105, [some (.ref r0), some (.int x1), some (.int x2), some (.int x3), some (.int x4)], [], μ) Q) (k2 : ¬ (s0 = 0) → Wp d 249 (89, [some (.ref r0), some (.int x1), some (.int x2), some (.int x3), some (.int x4)], [], μ) Q) :
    Wp d 249 (86, [some (.ref r0), some (.int x1), some (.int x2), some (.int x3), some (.int x4)], [.int s0], μ) Q := wp_blk rfl e249_86 (And.intro k1 k2)
def q249_89 : List (Nat × Instr × Nat) := [(89, .aload_n 0, 1), (90, .bipush 7, 2), (92, .sipush 301, 3)]
theorem e249_89 : am_dec am_M249 q249_89 = true := by decide +kernel
theorem e249_89_c : am_dc1 am_M249 95 (.invokevirtual 600) 3 = true := by decide +kernel
theorem b249_89 {d : Nat} {Q : Option Value ⊕ Nat → am_Mem → Prop} {μ : am_Mem} {r0 : Nat} {x1 x2 x3 x4 : Int32} {P : Int32 → am_Mem → Prop} {X : Nat → am_Mem → Prop}
    (hk : am_kd μ r0 = (1, 12))
    (hc : Wp d 235 (0, [some (.ref r0), some (.int ((Int8.ofInt 7).toInt32)), some (.int ((Int16.ofInt 301).toInt32)), none], [], μ) (pI P X)) (hr : ∀ x μ', P x μ' → Wp (d + 1) 249 (98, [some (.ref r0), some (.int x1), some (.int x2), some (.int x3), some (.int x4)], [.int x], (μ')) Q)
    (hx : ∀ x μ', X x μ' → Q (.inr x) μ') :
    Wp (d + 1) 249 (89, [some (.ref r0), some (.int x1), some (.int x2), some (.int x3), some (.int x4)], [], μ) Q := wp_blk rfl e249_89 (wp_cv (as := [.int ((Int8.ofInt 7).toInt32), .int ((Int16.ofInt 301).toInt32)]) rfl e249_89_c rfl rfl rfl rfl rfl hk hc (fun v μ' hv => by obtain ⟨x, rfl, hp⟩ := pI_r hv; exact hr x μ' hp) hx)
def q249_98 : List (Nat × Instr × Nat) := [(98, .ifCond .eq 7, 3)]
theorem e249_98 : am_dec am_M249 q249_98 = true := by decide +kernel
theorem b249_98 {d : Nat} {Q : Option Value ⊕ Nat → am_Mem → Prop} {μ : am_Mem} {r0 : Nat} {x1 x2 x3 x4 s0 : Int32}
    (k1 : s0 = 0 → Wp d 249 (105, [some (.ref r0), some (.int x1), some (.int x2), some (.int x3), some (.int x4)], [], μ) Q) (k2 : ¬ (s0 = 0) → Wp d 249 (101, [some (.ref r0), some (.int x1), some (.int x2), some (.int x3), some (.int x4)], [], μ) Q) :
    Wp d 249 (98, [some (.ref r0), some (.int x1), some (.int x2), some (.int x3), some (.int x4)], [.int s0], μ) Q := wp_blk rfl e249_98 (And.intro k1 k2)
def q249_101 : List (Nat × Instr × Nat) := [(101, .iconst 1, 1), (102, .goto 4, 3)]
theorem e249_101 : am_dec am_M249 q249_101 = true := by decide +kernel
theorem b249_101 {d : Nat} {Q : Option Value ⊕ Nat → am_Mem → Prop} {μ : am_Mem} {r0 : Nat} {x1 x2 x3 x4 : Int32}
    (k : Wp d 249 (106, [some (.ref r0), some (.int x1), some (.int x2), some (.int x3), some (.int x4)], [.int (Int32.ofInt 1)], μ) Q) :
    Wp d 249 (101, [some (.ref r0), some (.int x1), some (.int x2), some (.int x3), some (.int x4)], [], μ) Q := wp_blk rfl e249_101 k
def q249_105 : List (Nat × Instr × Nat) := [(105, .iconst 0, 1)]
theorem e249_105 : am_dec am_M249 q249_105 = true := by decide +kernel
theorem b249_105 {d : Nat} {Q : Option Value ⊕ Nat → am_Mem → Prop} {μ : am_Mem} {r0 : Nat} {x1 x2 x3 x4 : Int32}
    (k : Wp d 249 (106, [some (.ref r0), some (.int x1), some (.int x2), some (.int x3), some (.int x4)], [.int (Int32.ofInt 0)], μ) Q) :
    Wp d 249 (105, [some (.ref r0), some (.int x1), some (.int x2), some (.int x3), some (.int x4)], [], μ) Q := wp_blk rfl e249_105 k
def q249_106 : List (Nat × Instr × Nat) := [(106, .istore_n 3, 1)]
theorem e249_106 : am_dec am_M249 q249_106 = true := by decide +kernel
theorem b249_106 {d : Nat} {Q : Option Value ⊕ Nat → am_Mem → Prop} {μ : am_Mem} {r0 : Nat} {x1 x2 x3 x4 s0 : Int32}
    (k : Wp d 249 (107, [some (.ref r0), some (.int x1), some (.int x2), some (.int s0), some (.int x4)], [], μ) Q) :
    Wp d 249 (106, [some (.ref r0), some (.int x1), some (.int x2), some (.int x3), some (.int x4)], [.int s0], μ) Q := wp_blk rfl e249_106 k
def q249_107 : List (Nat × Instr × Nat) := [(107, .aload_n 0, 1), (108, .aload_n 0, 1), (109, .getfield 590, 3), (112, .ifCond .ne 7, 3)]
theorem e249_107 : am_dec am_M249 q249_107 = true := by decide +kernel
theorem b249_107 {d : Nat} {Q : Option Value ⊕ Nat → am_Mem → Prop} {μ : am_Mem} {r0 : Nat} {x1 x2 x3 x4 : Int32}
    (h1 : am_kd μ r0 = (1, 12))
    (k1 : ¬ (am_A μ r0 72) = 0 → Wp d 249 (119, [some (.ref r0), some (.int x1), some (.int x2), some (.int x3), some (.int x4)], [.ref r0], μ) Q) (k2 : ¬ (¬ (am_A μ r0 72) = 0) → Wp d 249 (115, [some (.ref r0), some (.int x1), some (.int x2), some (.int x3), some (.int x4)], [.ref r0], μ) Q) :
    Wp d 249 (107, [some (.ref r0), some (.int x1), some (.int x2), some (.int x3), some (.int x4)], [], μ) Q := wp_blk rfl e249_107 (And.intro h1 (And.intro k1 k2))
def q249_115 : List (Nat × Instr × Nat) := [(115, .iconst 1, 1), (116, .goto 4, 3)]
theorem e249_115 : am_dec am_M249 q249_115 = true := by decide +kernel
theorem b249_115 {d : Nat} {Q : Option Value ⊕ Nat → am_Mem → Prop} {μ : am_Mem} {r0 r90 : Nat} {x1 x2 x3 x4 : Int32}
    (k : Wp d 249 (120, [some (.ref r0), some (.int x1), some (.int x2), some (.int x3), some (.int x4)], [.int (Int32.ofInt 1), .ref r90], μ) Q) :
    Wp d 249 (115, [some (.ref r0), some (.int x1), some (.int x2), some (.int x3), some (.int x4)], [.ref r90], μ) Q := wp_blk rfl e249_115 k
def q249_119 : List (Nat × Instr × Nat) := [(119, .iconst 0, 1)]
theorem e249_119 : am_dec am_M249 q249_119 = true := by decide +kernel
theorem b249_119 {d : Nat} {Q : Option Value ⊕ Nat → am_Mem → Prop} {μ : am_Mem} {r0 r90 : Nat} {x1 x2 x3 x4 : Int32}
    (k : Wp d 249 (120, [some (.ref r0), some (.int x1), some (.int x2), some (.int x3), some (.int x4)], [.int (Int32.ofInt 0), .ref r90], μ) Q) :
    Wp d 249 (119, [some (.ref r0), some (.int x1), some (.int x2), some (.int x3), some (.int x4)], [.ref r90], μ) Q := wp_blk rfl e249_119 k
def q249_120 : List (Nat × Instr × Nat) := [(120, .aload_n 0, 1), (121, .getfield 590, 3), (124, .ifCond .eq 20, 3)]
theorem e249_120 : am_dec am_M249 q249_120 = true := by decide +kernel
theorem b249_120 {d : Nat} {Q : Option Value ⊕ Nat → am_Mem → Prop} {μ : am_Mem} {r0 r90 : Nat} {x1 x2 x3 x4 s1 : Int32}
    (h1 : am_kd μ r0 = (1, 12))
    (k1 : (am_A μ r0 72) = 0 → Wp d 249 (144, [some (.ref r0), some (.int x1), some (.int x2), some (.int x3), some (.int x4)], [.int s1, .ref r90], μ) Q) (k2 : ¬ ((am_A μ r0 72) = 0) → Wp d 249 (127, [some (.ref r0), some (.int x1), some (.int x2), some (.int x3), some (.int x4)], [.int s1, .ref r90], μ) Q) :
    Wp d 249 (120, [some (.ref r0), some (.int x1), some (.int x2), some (.int x3), some (.int x4)], [.int s1, .ref r90], μ) Q := wp_blk rfl e249_120 (And.intro h1 (And.intro k1 k2))
def q249_127 : List (Nat × Instr × Nat) := [(127, .iload_n 2, 1), (128, .ifCond .eq 12, 3)]
theorem e249_127 : am_dec am_M249 q249_127 = true := by decide +kernel
theorem b249_127 {d : Nat} {Q : Option Value ⊕ Nat → am_Mem → Prop} {μ : am_Mem} {r0 r90 : Nat} {x1 x2 x3 x4 s1 : Int32}
    (k1 : x2 = 0 → Wp d 249 (140, [some (.ref r0), some (.int x1), some (.int x2), some (.int x3), some (.int x4)], [.int s1, .ref r90], μ) Q) (k2 : ¬ (x2 = 0) → Wp d 249 (131, [some (.ref r0), some (.int x1), some (.int x2), some (.int x3), some (.int x4)], [.int s1, .ref r90], μ) Q) :
    Wp d 249 (127, [some (.ref r0), some (.int x1), some (.int x2), some (.int x3), some (.int x4)], [.int s1, .ref r90], μ) Q := wp_blk rfl e249_127 (And.intro k1 k2)
def q249_131 : List (Nat × Instr × Nat) := [(131, .iload_n 3, 1), (132, .ifCond .eq 12, 3)]
theorem e249_131 : am_dec am_M249 q249_131 = true := by decide +kernel
theorem b249_131 {d : Nat} {Q : Option Value ⊕ Nat → am_Mem → Prop} {μ : am_Mem} {r0 r90 : Nat} {x1 x2 x3 x4 s1 : Int32}
    (k1 : x3 = 0 → Wp d 249 (144, [some (.ref r0), some (.int x1), some (.int x2), some (.int x3), some (.int x4)], [.int s1, .ref r90], μ) Q) (k2 : ¬ (x3 = 0) → Wp d 249 (135, [some (.ref r0), some (.int x1), some (.int x2), some (.int x3), some (.int x4)], [.int s1, .ref r90], μ) Q) :
    Wp d 249 (131, [some (.ref r0), some (.int x1), some (.int x2), some (.int x3), some (.int x4)], [.int s1, .ref r90], μ) Q := wp_blk rfl e249_131 (And.intro k1 k2)
def q249_135 : List (Nat × Instr × Nat) := [(135, .iload 4, 2), (137, .ifCond .ne 7, 3)]
theorem e249_135 : am_dec am_M249 q249_135 = true := by decide +kernel
theorem b249_135 {d : Nat} {Q : Option Value ⊕ Nat → am_Mem → Prop} {μ : am_Mem} {r0 r90 : Nat} {x1 x2 x3 x4 s1 : Int32}
    (k1 : ¬ x4 = 0 → Wp d 249 (144, [some (.ref r0), some (.int x1), some (.int x2), some (.int x3), some (.int x4)], [.int s1, .ref r90], μ) Q) (k2 : ¬ (¬ x4 = 0) → Wp d 249 (140, [some (.ref r0), some (.int x1), some (.int x2), some (.int x3), some (.int x4)], [.int s1, .ref r90], μ) Q) :
    Wp d 249 (135, [some (.ref r0), some (.int x1), some (.int x2), some (.int x3), some (.int x4)], [.int s1, .ref r90], μ) Q := wp_blk rfl e249_135 (And.intro k1 k2)
def q249_140 : List (Nat × Instr × Nat) := [(140, .iconst 1, 1), (141, .goto 4, 3)]
theorem e249_140 : am_dec am_M249 q249_140 = true := by decide +kernel
theorem b249_140 {d : Nat} {Q : Option Value ⊕ Nat → am_Mem → Prop} {μ : am_Mem} {r0 r90 : Nat} {x1 x2 x3 x4 s1 : Int32}
    (k : Wp d 249 (145, [some (.ref r0), some (.int x1), some (.int x2), some (.int x3), some (.int x4)], [.int (Int32.ofInt 1), .int s1, .ref r90], μ) Q) :
    Wp d 249 (140, [some (.ref r0), some (.int x1), some (.int x2), some (.int x3), some (.int x4)], [.int s1, .ref r90], μ) Q := wp_blk rfl e249_140 k
def q249_144 : List (Nat × Instr × Nat) := [(144, .iconst 0, 1)]
theorem e249_144 : am_dec am_M249 q249_144 = true := by decide +kernel
theorem b249_144 {d : Nat} {Q : Option Value ⊕ Nat → am_Mem → Prop} {μ : am_Mem} {r0 r90 : Nat} {x1 x2 x3 x4 s1 : Int32}
    (k : Wp d 249 (145, [some (.ref r0), some (.int x1), some (.int x2), some (.int x3), some (.int x4)], [.int (Int32.ofInt 0), .int s1, .ref r90], μ) Q) :
    Wp d 249 (144, [some (.ref r0), some (.int x1), some (.int x2), some (.int x3), some (.int x4)], [.int s1, .ref r90], μ) Q := wp_blk rfl e249_144 k
def q249_145 : List (Nat × Instr × Nat) := [(145, .iload_n 3, 1), (146, .ifCond .ne 7, 3)]
theorem e249_145 : am_dec am_M249 q249_145 = true := by decide +kernel
theorem b249_145 {d : Nat} {Q : Option Value ⊕ Nat → am_Mem → Prop} {μ : am_Mem} {r0 r90 : Nat} {x1 x2 x3 x4 s1 s2 : Int32}
    (k1 : ¬ x3 = 0 → Wp d 249 (153, [some (.ref r0), some (.int x1), some (.int x2), some (.int x3), some (.int x4)], [.int s2, .int s1, .ref r90], μ) Q) (k2 : ¬ (¬ x3 = 0) → Wp d 249 (149, [some (.ref r0), some (.int x1), some (.int x2), some (.int x3), some (.int x4)], [.int s2, .int s1, .ref r90], μ) Q) :
    Wp d 249 (145, [some (.ref r0), some (.int x1), some (.int x2), some (.int x3), some (.int x4)], [.int s2, .int s1, .ref r90], μ) Q := wp_blk rfl e249_145 (And.intro k1 k2)
def q249_149 : List (Nat × Instr × Nat) := [(149, .iconst 1, 1), (150, .goto 4, 3)]
theorem e249_149 : am_dec am_M249 q249_149 = true := by decide +kernel
theorem b249_149 {d : Nat} {Q : Option Value ⊕ Nat → am_Mem → Prop} {μ : am_Mem} {r0 r90 : Nat} {x1 x2 x3 x4 s1 s2 : Int32}
    (k : Wp d 249 (154, [some (.ref r0), some (.int x1), some (.int x2), some (.int x3), some (.int x4)], [.int (Int32.ofInt 1), .int s2, .int s1, .ref r90], μ) Q) :
    Wp d 249 (149, [some (.ref r0), some (.int x1), some (.int x2), some (.int x3), some (.int x4)], [.int s2, .int s1, .ref r90], μ) Q := wp_blk rfl e249_149 k
def q249_153 : List (Nat × Instr × Nat) := [(153, .iconst 0, 1)]
theorem e249_153 : am_dec am_M249 q249_153 = true := by decide +kernel
theorem b249_153 {d : Nat} {Q : Option Value ⊕ Nat → am_Mem → Prop} {μ : am_Mem} {r0 r90 : Nat} {x1 x2 x3 x4 s1 s2 : Int32}
    (k : Wp d 249 (154, [some (.ref r0), some (.int x1), some (.int x2), some (.int x3), some (.int x4)], [.int (Int32.ofInt 0), .int s2, .int s1, .ref r90], μ) Q) :
    Wp d 249 (153, [some (.ref r0), some (.int x1), some (.int x2), some (.int x3), some (.int x4)], [.int s2, .int s1, .ref r90], μ) Q := wp_blk rfl e249_153 k
theorem e249_154_c : am_dc1 am_M249 154 (.invokevirtual 212) 3 = true := by decide +kernel
theorem b249_154 {d : Nat} {Q : Option Value ⊕ Nat → am_Mem → Prop} {μ : am_Mem} {r0 r90 : Nat} {x1 x2 x3 x4 s1 s2 s3 : Int32} {P : Int32 → am_Mem → Prop} {X : Nat → am_Mem → Prop}
    (hk : am_kd μ r90 = (1, 12))
    (hc : Wp d 151 (0, [some (.ref r90), some (.int s1), some (.int s2), some (.int s3)], [], μ) (pI P X)) (hr : ∀ x μ', P x μ' → Wp (d + 1) 249 (157, [some (.ref r0), some (.int x1), some (.int x2), some (.int x3), some (.int x4)], [.int x], (μ')) Q)
    (hx : ∀ x μ', X x μ' → Q (.inr x) μ') :
    Wp (d + 1) 249 (154, [some (.ref r0), some (.int x1), some (.int x2), some (.int x3), some (.int x4)], [.int s3, .int s2, .int s1, .ref r90], μ) Q := (wp_cv (as := [.int s1, .int s2, .int s3]) rfl e249_154_c rfl rfl rfl rfl rfl hk hc (fun v μ' hv => by obtain ⟨x, rfl, hp⟩ := pI_r hv; exact hr x μ' hp) hx)
def q249_157 : List (Nat × Instr × Nat) := [(157, .ifCond .eq 5, 3)]
theorem e249_157 : am_dec am_M249 q249_157 = true := by decide +kernel
theorem b249_157 {d : Nat} {Q : Option Value ⊕ Nat → am_Mem → Prop} {μ : am_Mem} {r0 : Nat} {x1 x2 x3 x4 s0 : Int32}
    (k1 : s0 = 0 → Wp d 249 (162, [some (.ref r0), some (.int x1), some (.int x2), some (.int x3), some (.int x4)], [], μ) Q) (k2 : ¬ (s0 = 0) → Wp d 249 (160, [some (.ref r0), some (.int x1), some (.int x2), some (.int x3), some (.int x4)], [], μ) Q) :
    Wp d 249 (157, [some (.ref r0), some (.int x1), some (.int x2), some (.int x3), some (.int x4)], [.int s0], μ) Q := wp_blk rfl e249_157 (And.intro k1 k2)
def q249_160 : List (Nat × Instr × Nat) := [(160, .iconst 0, 1)]
theorem e249_160 : am_dec am_M249 q249_160 = true := by decide +kernel
theorem e249_160_r : am_dec am_M249 [(161, .ireturn, 1)] = true := by decide +kernel
theorem b249_160 {d : Nat} {Q : Option Value ⊕ Nat → am_Mem → Prop} {μ : am_Mem} {r0 : Nat} {x1 x2 x3 x4 : Int32}
    (k : Q (.inl (some (.int (Int32.ofInt 0)))) μ) :
    Wp d 249 (160, [some (.ref r0), some (.int x1), some (.int x2), some (.int x3), some (.int x4)], [], μ) Q := wp_blk rfl e249_160 (wp_ri (ty := .int) rfl e249_160_r rfl ⟨rfl, rfl⟩ k)
def q249_162 : List (Nat × Instr × Nat) := [(162, .aload_n 0, 1), (163, .sipush 301, 3), (166, .sipush 300, 3)]
theorem e249_162 : am_dec am_M249 q249_162 = true := by decide +kernel
theorem e249_162_c : am_dc1 am_M249 169 (.invokevirtual 603) 3 = true := by decide +kernel
theorem b249_162 {d : Nat} {Q : Option Value ⊕ Nat → am_Mem → Prop} {μ : am_Mem} {r0 : Nat} {x1 x2 x3 x4 : Int32} {P : am_Mem → Prop} {X : Nat → am_Mem → Prop}
    (hk : am_kd μ r0 = (1, 12))
    (hc : Wp d 239 (0, [some (.ref r0), some (.int ((Int16.ofInt 301).toInt32)), some (.int ((Int16.ofInt 300).toInt32)), none], [], μ) (pV P X)) (hr : ∀ μ', P μ' → Wp (d + 1) 249 (172, [some (.ref r0), some (.int x1), some (.int x2), some (.int x3), some (.int x4)], [], (μ')) Q)
    (hx : ∀ x μ', X x μ' → Q (.inr x) μ') :
    Wp (d + 1) 249 (162, [some (.ref r0), some (.int x1), some (.int x2), some (.int x3), some (.int x4)], [], μ) Q := wp_blk rfl e249_162 (wp_cv (as := [.int ((Int16.ofInt 301).toInt32), .int ((Int16.ofInt 300).toInt32)]) rfl e249_162_c rfl rfl rfl rfl rfl hk hc (fun v μ' hv => by obtain ⟨rfl, hp⟩ := pV_r hv; exact hr μ' hp) hx)
def q249_172 : List (Nat × Instr × Nat) := [(172, .aload_n 0, 1), (173, .iconst 0, 1), (174, .putfield 542, 3), (177, .aload_n 0, 1), (178, .getfield 158, 3), (181, .sipush 300, 3), (184, .iaload, 1)]
theorem e249_172 : am_dec am_M249 q249_172 = true := by decide +kernel
theorem e249_172_r : am_dec am_M249 [(185, .ireturn, 1)] = true := by decide +kernel
theorem b249_172 {d : Nat} {Q : Option Value ⊕ Nat → am_Mem → Prop} {μ : am_Mem} {r0 : Nat} {x1 x2 x3 x4 : Int32}
    (h1 : am_kd μ r0 = (1, 12))
    (h2 : am_kd (am_pA μ r0 75 (Int32.ofInt 0)) r0 = (1, 12))
    (h3 : ¬ am_F (am_pA μ r0 75 (Int32.ofInt 0)) r0 74 = 15)
    (h4 : (am_kd (am_pA μ r0 75 (Int32.ofInt 0)) (am_F (am_pA μ r0 75 (Int32.ofInt 0)) r0 74)).1 = 2 ∨ (am_kd (am_pA μ r0 75 (Int32.ofInt 0)) (am_F (am_pA μ r0 75 (Int32.ofInt 0)) r0 74)).1 = 8)
    (h5 : ¬ (((Int16.ofInt 300).toInt32) < 0 ∨ (am_kd (am_pA μ r0 75 (Int32.ofInt 0)) (am_F (am_pA μ r0 75 (Int32.ofInt 0)) r0 74)).2 ≤ ((Int16.ofInt 300).toInt32).toNatClampNeg))
    (k : Q (.inl (some (.int (am_A (am_pA μ r0 75 (Int32.ofInt 0)) (am_F (am_pA μ r0 75 (Int32.ofInt 0)) r0 74) ((Int16.ofInt 300).toInt32).toNatClampNeg)))) (am_pA μ r0 75 (Int32.ofInt 0))) :
    Wp d 249 (172, [some (.ref r0), some (.int x1), some (.int x2), some (.int x3), some (.int x4)], [], μ) Q := wp_blk rfl e249_172 (And.intro h1 (And.intro (by decide) (And.intro h2 (And.intro h3 (And.intro h4 (And.intro h5 (wp_ri (ty := .int) rfl e249_172_r rfl ⟨rfl, rfl⟩ k)))))))
/-! RuleSheetsModel.jointMoves()J -/
def q250_0 : List (Nat × Instr × Nat) := [(0, .aload_n 0, 1), (1, .getfield 551, 3), (4, .ifCond .ne 7, 3)]
theorem e250_0 : am_dec am_M250 q250_0 = true := by decide +kernel
theorem b250_0 {d : Nat} {Q : Option Value ⊕ Nat → am_Mem → Prop} {μ : am_Mem} {r0 : Nat}
    (h1 : am_kd μ r0 = (1, 12))
    (k1 : ¬ (am_A μ r0 70) = 0 → Wp d 250 (11, [some (.ref r0), none, none, none], [], μ) Q) (k2 : ¬ (¬ (am_A μ r0 70) = 0) → Wp d 250 (7, [some (.ref r0), none, none, none], [], μ) Q) :
    Wp d 250 (0, [some (.ref r0), none, none, none], [], μ) Q := wp_blk rfl e250_0 (And.intro h1 (And.intro k1 k2))
def q250_7 : List (Nat × Instr × Nat) := [(7, .lconst 0, 1), (8, .goto 4, 3)]
theorem e250_7 : am_dec am_M250 q250_7 = true := by decide +kernel
theorem b250_7 {d : Nat} {Q : Option Value ⊕ Nat → am_Mem → Prop} {μ : am_Mem} {r0 : Nat}
    (k : Wp d 250 (12, [some (.ref r0), none, none, none], [.long (Int64.ofNat 0)], μ) Q) :
    Wp d 250 (7, [some (.ref r0), none, none, none], [], μ) Q := wp_blk rfl e250_7 k
def q250_11 : List (Nat × Instr × Nat) := [(11, .lconst 1, 1)]
theorem e250_11 : am_dec am_M250 q250_11 = true := by decide +kernel
theorem b250_11 {d : Nat} {Q : Option Value ⊕ Nat → am_Mem → Prop} {μ : am_Mem} {r0 : Nat}
    (k : Wp d 250 (12, [some (.ref r0), none, none, none], [.long (Int64.ofNat 1)], μ) Q) :
    Wp d 250 (11, [some (.ref r0), none, none, none], [], μ) Q := wp_blk rfl e250_11 k
def q250_12 : List (Nat × Instr × Nat) := [(12, .lstore_n 1, 1), (13, .iconst 0, 1), (14, .istore_n 3, 1)]
theorem e250_12 : am_dec am_M250 q250_12 = true := by decide +kernel
theorem b250_12 {d : Nat} {Q : Option Value ⊕ Nat → am_Mem → Prop} {μ : am_Mem} {r0 : Nat} {y90 : Int64}
    (k : Wp d 250 (15, [some (.ref r0), some (.long y90), none, some (.int (Int32.ofInt 0))], [], μ) Q) :
    Wp d 250 (12, [some (.ref r0), none, none, none], [.long y90], μ) Q := wp_blk rfl e250_12 k
def q250_15 : List (Nat × Instr × Nat) := [(15, .iload_n 3, 1), (16, .aload_n 0, 1), (17, .getfield 551, 3), (20, .if_icmp .ge 19, 3)]
theorem e250_15 : am_dec am_M250 q250_15 = true := by decide +kernel
theorem b250_15 {d : Nat} {Q : Option Value ⊕ Nat → am_Mem → Prop} {μ : am_Mem} {r0 : Nat} {y1 : Int64} {x3 : Int32}
    (h1 : am_kd μ r0 = (1, 12))
    (k1 : (am_A μ r0 70) ≤ x3 → Wp d 250 (39, [some (.ref r0), some (.long y1), none, some (.int x3)], [], μ) Q) (k2 : ¬ ((am_A μ r0 70) ≤ x3) → Wp d 250 (23, [some (.ref r0), some (.long y1), none, some (.int x3)], [], μ) Q) :
    Wp d 250 (15, [some (.ref r0), some (.long y1), none, some (.int x3)], [], μ) Q := wp_blk rfl e250_15 (And.intro h1 (And.intro k1 k2))
def q250_23 : List (Nat × Instr × Nat) := [(23, .lload_n 1, 1), (24, .aload_n 0, 1), (25, .getfield 161, 3), (28, .iload_n 3, 1), (29, .iaload, 1), (30, .i2l, 1), (31, .lmul, 1), (32, .lstore_n 1, 1), (33, .iinc 3 1, 3), (36, .goto (-21), 3)]
theorem e250_23 : am_dec am_M250 q250_23 = true := by decide +kernel
theorem b250_23 {d : Nat} {Q : Option Value ⊕ Nat → am_Mem → Prop} {μ : am_Mem} {r0 : Nat} {y1 : Int64} {x3 : Int32}
    (h1 : am_kd μ r0 = (1, 12))
    (h2 : ¬ am_F μ r0 76 = 15)
    (h3 : (am_kd μ (am_F μ r0 76)).1 = 2 ∨ (am_kd μ (am_F μ r0 76)).1 = 8)
    (h4 : ¬ (x3 < 0 ∨ (am_kd μ (am_F μ r0 76)).2 ≤ x3.toNatClampNeg))
    (k : Wp d 250 (15, [some (.ref r0), some (.long (y1 * ((am_A μ (am_F μ r0 76) x3.toNatClampNeg).toInt64))), none, some (.int (x3 + Int32.ofInt 1))], [], μ) Q) :
    Wp d 250 (23, [some (.ref r0), some (.long y1), none, some (.int x3)], [], μ) Q := wp_blk rfl e250_23 (And.intro h1 (And.intro h2 (And.intro h3 (And.intro h4 k))))
def q250_39 : List (Nat × Instr × Nat) := [(39, .lload_n 1, 1)]
theorem e250_39 : am_dec am_M250 q250_39 = true := by decide +kernel
theorem e250_39_r : am_dec am_M250 [(40, .lreturn, 1)] = true := by decide +kernel
theorem b250_39 {d : Nat} {Q : Option Value ⊕ Nat → am_Mem → Prop} {μ : am_Mem} {r0 : Nat} {y1 : Int64} {x3 : Int32}
    (k : Q (.inl (some (.long y1))) μ) :
    Wp d 250 (39, [some (.ref r0), some (.long y1), none, some (.int x3)], [], μ) Q := wp_blk rfl e250_39 (wp_rl rfl e250_39_r rfl k)
/-! RuleSheetsModel.choose(J)V -/
def q251_0 : List (Nat × Instr × Nat) := [(0, .lload_n 1, 1), (1, .lstore_n 3, 1), (2, .aload_n 0, 1), (3, .getfield 551, 3), (6, .iconst 1, 1), (7, .isub, 1), (8, .istore 5, 2)]
theorem e251_0 : am_dec am_M251 q251_0 = true := by decide +kernel
theorem b251_0 {d : Nat} {Q : Option Value ⊕ Nat → am_Mem → Prop} {μ : am_Mem} {r0 : Nat} {y1 : Int64}
    (h1 : am_kd μ r0 = (1, 12))
    (k : Wp d 251 (10, [some (.ref r0), some (.long y1), none, some (.long y1), none, some (.int ((am_A μ r0 70) - (Int32.ofInt 1)))], [], μ) Q) :
    Wp d 251 (0, [some (.ref r0), some (.long y1), none, none, none, none], [], μ) Q := wp_blk rfl e251_0 (And.intro h1 k)
def q251_10 : List (Nat × Instr × Nat) := [(10, .iload 5, 2), (12, .ifCond .lt 38, 3)]
theorem e251_10 : am_dec am_M251 q251_10 = true := by decide +kernel
theorem b251_10 {d : Nat} {Q : Option Value ⊕ Nat → am_Mem → Prop} {μ : am_Mem} {r0 : Nat} {y1 y3 : Int64} {x5 : Int32}
    (k1 : x5 < 0 → Wp d 251 (50, [some (.ref r0), some (.long y1), none, some (.long y3), none, some (.int x5)], [], μ) Q) (k2 : ¬ (x5 < 0) → Wp d 251 (15, [some (.ref r0), some (.long y1), none, some (.long y3), none, some (.int x5)], [], μ) Q) :
    Wp d 251 (10, [some (.ref r0), some (.long y1), none, some (.long y3), none, some (.int x5)], [], μ) Q := wp_blk rfl e251_10 (And.intro k1 k2)
def q251_15 : List (Nat × Instr × Nat) := [(15, .aload_n 0, 1), (16, .getfield 168, 3), (19, .iload 5, 2), (21, .lload_n 3, 1), (22, .aload_n 0, 1), (23, .getfield 161, 3), (26, .iload 5, 2), (28, .iaload, 1), (29, .i2l, 1), (30, .lrem, 1), (31, .l2i, 1), (32, .iastore, 1), (33, .lload_n 3, 1), (34, .aload_n 0, 1), (35, .getfield 161, 3), (38, .iload 5, 2), (40, .iaload, 1), (41, .i2l, 1), (42, .ldiv, 1), (43, .lstore_n 3, 1), (44, .iinc 5 (-1), 3), (47, .goto (-37), 3)]
theorem e251_15 : am_dec am_M251 q251_15 = true := by decide +kernel
theorem b251_15 {d : Nat} {Q : Option Value ⊕ Nat → am_Mem → Prop} {μ : am_Mem} {r0 : Nat} {y1 y3 : Int64} {x5 : Int32}
    (h1 : am_kd μ r0 = (1, 12))
    (h2 : ¬ am_F μ r0 78 = 15)
    (h3 : am_kd μ r0 = (1, 12))
    (h4 : ¬ am_F μ r0 76 = 15)
    (h5 : (am_kd μ (am_F μ r0 76)).1 = 2 ∨ (am_kd μ (am_F μ r0 76)).1 = 8)
    (h6 : ¬ (x5 < 0 ∨ (am_kd μ (am_F μ r0 76)).2 ≤ x5.toNatClampNeg))
    (h7 : ¬ ((am_A μ (am_F μ r0 76) x5.toNatClampNeg).toInt64) = 0)
    (h8 : (am_kd μ (am_F μ r0 78)).1 = 2)
    (h9 : ¬ (x5 < 0 ∨ (am_kd μ (am_F μ r0 78)).2 ≤ x5.toNatClampNeg))
    (h10 : am_kd (am_pA μ (am_F μ r0 78) x5.toNatClampNeg ((y3 - y3 / ((am_A μ (am_F μ r0 76) x5.toNatClampNeg).toInt64) * ((am_A μ (am_F μ r0 76) x5.toNatClampNeg).toInt64)).toInt32)) r0 = (1, 12))
    (h11 : ¬ am_F (am_pA μ (am_F μ r0 78) x5.toNatClampNeg ((y3 - y3 / ((am_A μ (am_F μ r0 76) x5.toNatClampNeg).toInt64) * ((am_A μ (am_F μ r0 76) x5.toNatClampNeg).toInt64)).toInt32)) r0 76 = 15)
    (h12 : (am_kd (am_pA μ (am_F μ r0 78) x5.toNatClampNeg ((y3 - y3 / ((am_A μ (am_F μ r0 76) x5.toNatClampNeg).toInt64) * ((am_A μ (am_F μ r0 76) x5.toNatClampNeg).toInt64)).toInt32)) (am_F (am_pA μ (am_F μ r0 78) x5.toNatClampNeg ((y3 - y3 / ((am_A μ (am_F μ r0 76) x5.toNatClampNeg).toInt64) * ((am_A μ (am_F μ r0 76) x5.toNatClampNeg).toInt64)).toInt32)) r0 76)).1 = 2 ∨ (am_kd (am_pA μ (am_F μ r0 78) x5.toNatClampNeg ((y3 - y3 / ((am_A μ (am_F μ r0 76) x5.toNatClampNeg).toInt64) * ((am_A μ (am_F μ r0 76) x5.toNatClampNeg).toInt64)).toInt32)) (am_F (am_pA μ (am_F μ r0 78) x5.toNatClampNeg ((y3 - y3 / ((am_A μ (am_F μ r0 76) x5.toNatClampNeg).toInt64) * ((am_A μ (am_F μ r0 76) x5.toNatClampNeg).toInt64)).toInt32)) r0 76)).1 = 8)
    (h13 : ¬ (x5 < 0 ∨ (am_kd (am_pA μ (am_F μ r0 78) x5.toNatClampNeg ((y3 - y3 / ((am_A μ (am_F μ r0 76) x5.toNatClampNeg).toInt64) * ((am_A μ (am_F μ r0 76) x5.toNatClampNeg).toInt64)).toInt32)) (am_F (am_pA μ (am_F μ r0 78) x5.toNatClampNeg ((y3 - y3 / ((am_A μ (am_F μ r0 76) x5.toNatClampNeg).toInt64) * ((am_A μ (am_F μ r0 76) x5.toNatClampNeg).toInt64)).toInt32)) r0 76)).2 ≤ x5.toNatClampNeg))
    (h14 : ¬ ((am_A (am_pA μ (am_F μ r0 78) x5.toNatClampNeg ((y3 - y3 / ((am_A μ (am_F μ r0 76) x5.toNatClampNeg).toInt64) * ((am_A μ (am_F μ r0 76) x5.toNatClampNeg).toInt64)).toInt32)) (am_F (am_pA μ (am_F μ r0 78) x5.toNatClampNeg ((y3 - y3 / ((am_A μ (am_F μ r0 76) x5.toNatClampNeg).toInt64) * ((am_A μ (am_F μ r0 76) x5.toNatClampNeg).toInt64)).toInt32)) r0 76) x5.toNatClampNeg).toInt64) = 0)
    (k : Wp d 251 (10, [some (.ref r0), some (.long y1), none, some (.long (y3 / ((am_A (am_pA μ (am_F μ r0 78) x5.toNatClampNeg ((y3 - y3 / ((am_A μ (am_F μ r0 76) x5.toNatClampNeg).toInt64) * ((am_A μ (am_F μ r0 76) x5.toNatClampNeg).toInt64)).toInt32)) (am_F (am_pA μ (am_F μ r0 78) x5.toNatClampNeg ((y3 - y3 / ((am_A μ (am_F μ r0 76) x5.toNatClampNeg).toInt64) * ((am_A μ (am_F μ r0 76) x5.toNatClampNeg).toInt64)).toInt32)) r0 76) x5.toNatClampNeg).toInt64))), none, some (.int (x5 + Int32.ofInt (-1)))], [], (am_pA μ (am_F μ r0 78) x5.toNatClampNeg ((y3 - y3 / ((am_A μ (am_F μ r0 76) x5.toNatClampNeg).toInt64) * ((am_A μ (am_F μ r0 76) x5.toNatClampNeg).toInt64)).toInt32))) Q) :
    Wp d 251 (15, [some (.ref r0), some (.long y1), none, some (.long y3), none, some (.int x5)], [], μ) Q := wp_blk rfl e251_15 (And.intro h1 (And.intro h2 (And.intro h3 (And.intro h4 (And.intro h5 (And.intro h6 (And.intro h7 (And.intro h8 (And.intro h9 (And.intro h10 (And.intro h11 (And.intro h12 (And.intro h13 (And.intro h14 k))))))))))))))
theorem e251_50_r : am_dec am_M251 [(50, .return_, 1)] = true := by decide +kernel
theorem b251_50 {d : Nat} {Q : Option Value ⊕ Nat → am_Mem → Prop} {μ : am_Mem} {r0 : Nat} {y1 y3 : Int64} {x5 : Int32}
    (k : Q (.inl none) μ) :
    Wp d 251 (50, [some (.ref r0), some (.long y1), none, some (.long y3), none, some (.int x5)], [], μ) Q := (wp_rv rfl e251_50_r rfl k)
/-! RuleSheetsModel.sign(III)I -/
def q252_0 : List (Nat × Instr × Nat) := [(0, .aload_n 0, 1), (1, .getfield 584, 3), (4, .ifCond .eq 19, 3)]
theorem e252_0 : am_dec am_M252 q252_0 = true := by decide +kernel
theorem b252_0 {d : Nat} {Q : Option Value ⊕ Nat → am_Mem → Prop} {μ : am_Mem} {r0 : Nat} {x1 x2 x3 : Int32}
    (h1 : am_kd μ r0 = (1, 12))
    (k1 : (am_A μ r0 4) = 0 → Wp d 252 (23, [some (.ref r0), some (.int x1), some (.int x2), some (.int x3), none, none, none], [], μ) Q) (k2 : ¬ ((am_A μ r0 4) = 0) → Wp d 252 (7, [some (.ref r0), some (.int x1), some (.int x2), some (.int x3), none, none, none], [], μ) Q) :
    Wp d 252 (0, [some (.ref r0), some (.int x1), some (.int x2), some (.int x3), none, none, none], [], μ) Q := wp_blk rfl e252_0 (And.intro h1 (And.intro k1 k2))
def q252_7 : List (Nat × Instr × Nat) := [(7, .iload_n 1, 1), (8, .i2l, 1), (9, .lconst 0, 1), (10, .ldc2_w 628, 3)]
theorem e252_7 : am_dec am_M252 q252_7 = true := by decide +kernel
theorem e252_7_c : am_dc1 am_M252 13 (.invokestatic 205) 3 = true := by decide +kernel
theorem b252_7 {d : Nat} {Q : Option Value ⊕ Nat → am_Mem → Prop} {μ : am_Mem} {r0 : Nat} {x1 x2 x3 : Int32} {P : Int32 → am_Mem → Prop} {X : Nat → am_Mem → Prop}
    (hc : Wp d 150 (0, [some (.long x1.toInt64), none, some (.long (Int64.ofNat 0)), none, some (.long (5 : Int64)), none], [], μ) (pI P X)) (hr : ∀ x μ', P x μ' → Wp (d + 1) 252 (16, [some (.ref r0), some (.int x1), some (.int x2), some (.int x3), none, none, none], [.int x], (μ')) Q)
    (hx : ∀ x μ', X x μ' → Q (.inr x) μ') :
    Wp (d + 1) 252 (7, [some (.ref r0), some (.int x1), some (.int x2), some (.int x3), none, none, none], [], μ) Q := wp_blk rfl e252_7 (wp_cs (vs := [.long x1.toInt64, .long (Int64.ofNat 0), .long (5 : Int64)]) rfl e252_7_c rfl rfl rfl rfl rfl hc (fun v μ' hv => by obtain ⟨x, rfl, hp⟩ := pI_r hv; exact hr x μ' hp) hx)
def q252_16 : List (Nat × Instr × Nat) := [(16, .ifCond .eq 7, 3)]
theorem e252_16 : am_dec am_M252 q252_16 = true := by decide +kernel
theorem b252_16 {d : Nat} {Q : Option Value ⊕ Nat → am_Mem → Prop} {μ : am_Mem} {r0 : Nat} {x1 x2 x3 s0 : Int32}
    (k1 : s0 = 0 → Wp d 252 (23, [some (.ref r0), some (.int x1), some (.int x2), some (.int x3), none, none, none], [], μ) Q) (k2 : ¬ (s0 = 0) → Wp d 252 (19, [some (.ref r0), some (.int x1), some (.int x2), some (.int x3), none, none, none], [], μ) Q) :
    Wp d 252 (16, [some (.ref r0), some (.int x1), some (.int x2), some (.int x3), none, none, none], [.int s0], μ) Q := wp_blk rfl e252_16 (And.intro k1 k2)
def q252_19 : List (Nat × Instr × Nat) := [(19, .iconst 1, 1), (20, .goto 4, 3)]
theorem e252_19 : am_dec am_M252 q252_19 = true := by decide +kernel
theorem b252_19 {d : Nat} {Q : Option Value ⊕ Nat → am_Mem → Prop} {μ : am_Mem} {r0 : Nat} {x1 x2 x3 : Int32}
    (k : Wp d 252 (24, [some (.ref r0), some (.int x1), some (.int x2), some (.int x3), none, none, none], [.int (Int32.ofInt 1)], μ) Q) :
    Wp d 252 (19, [some (.ref r0), some (.int x1), some (.int x2), some (.int x3), none, none, none], [], μ) Q := wp_blk rfl e252_19 k
def q252_23 : List (Nat × Instr × Nat) := [(23, .iconst 0, 1)]
theorem e252_23 : am_dec am_M252 q252_23 = true := by decide +kernel
theorem b252_23 {d : Nat} {Q : Option Value ⊕ Nat → am_Mem → Prop} {μ : am_Mem} {r0 : Nat} {x1 x2 x3 : Int32}
    (k : Wp d 252 (24, [some (.ref r0), some (.int x1), some (.int x2), some (.int x3), none, none, none], [.int (Int32.ofInt 0)], μ) Q) :
    Wp d 252 (23, [some (.ref r0), some (.int x1), some (.int x2), some (.int x3), none, none, none], [], μ) Q := wp_blk rfl e252_23 k
def q252_24 : List (Nat × Instr × Nat) := [(24, .istore 4, 2), (26, .iload_n 1, 1), (27, .iconst 5, 1), (28, .if_icmp .eq 10, 3)]
theorem e252_24 : am_dec am_M252 q252_24 = true := by decide +kernel
theorem b252_24 {d : Nat} {Q : Option Value ⊕ Nat → am_Mem → Prop} {μ : am_Mem} {r0 : Nat} {x1 x2 x3 s0 : Int32}
    (k1 : x1 = (Int32.ofInt 5) → Wp d 252 (38, [some (.ref r0), some (.int x1), some (.int x2), some (.int x3), some (.int s0), none, none], [], μ) Q) (k2 : ¬ (x1 = (Int32.ofInt 5)) → Wp d 252 (31, [some (.ref r0), some (.int x1), some (.int x2), some (.int x3), some (.int s0), none, none], [], μ) Q) :
    Wp d 252 (24, [some (.ref r0), some (.int x1), some (.int x2), some (.int x3), none, none, none], [.int s0], μ) Q := wp_blk rfl e252_24 (And.intro k1 k2)
def q252_31 : List (Nat × Instr × Nat) := [(31, .aload_n 0, 1), (32, .getfield 590, 3), (35, .ifCond .eq 7, 3)]
theorem e252_31 : am_dec am_M252 q252_31 = true := by decide +kernel
theorem b252_31 {d : Nat} {Q : Option Value ⊕ Nat → am_Mem → Prop} {μ : am_Mem} {r0 : Nat} {x1 x2 x3 x4 : Int32}
    (h1 : am_kd μ r0 = (1, 12))
    (k1 : (am_A μ r0 72) = 0 → Wp d 252 (42, [some (.ref r0), some (.int x1), some (.int x2), some (.int x3), some (.int x4), none, none], [], μ) Q) (k2 : ¬ ((am_A μ r0 72) = 0) → Wp d 252 (38, [some (.ref r0), some (.int x1), some (.int x2), some (.int x3), some (.int x4), none, none], [], μ) Q) :
    Wp d 252 (31, [some (.ref r0), some (.int x1), some (.int x2), some (.int x3), some (.int x4), none, none], [], μ) Q := wp_blk rfl e252_31 (And.intro h1 (And.intro k1 k2))
def q252_38 : List (Nat × Instr × Nat) := [(38, .iconst 1, 1), (39, .goto 4, 3)]
theorem e252_38 : am_dec am_M252 q252_38 = true := by decide +kernel
theorem b252_38 {d : Nat} {Q : Option Value ⊕ Nat → am_Mem → Prop} {μ : am_Mem} {r0 : Nat} {x1 x2 x3 x4 : Int32}
    (k : Wp d 252 (43, [some (.ref r0), some (.int x1), some (.int x2), some (.int x3), some (.int x4), none, none], [.int (Int32.ofInt 1)], μ) Q) :
    Wp d 252 (38, [some (.ref r0), some (.int x1), some (.int x2), some (.int x3), some (.int x4), none, none], [], μ) Q := wp_blk rfl e252_38 k
def q252_42 : List (Nat × Instr × Nat) := [(42, .iconst 0, 1)]
theorem e252_42 : am_dec am_M252 q252_42 = true := by decide +kernel
theorem b252_42 {d : Nat} {Q : Option Value ⊕ Nat → am_Mem → Prop} {μ : am_Mem} {r0 : Nat} {x1 x2 x3 x4 : Int32}
    (k : Wp d 252 (43, [some (.ref r0), some (.int x1), some (.int x2), some (.int x3), some (.int x4), none, none], [.int (Int32.ofInt 0)], μ) Q) :
    Wp d 252 (42, [some (.ref r0), some (.int x1), some (.int x2), some (.int x3), some (.int x4), none, none], [], μ) Q := wp_blk rfl e252_42 k
def q252_43 : List (Nat × Instr × Nat) := [(43, .istore 5, 2), (45, .aload_n 0, 1), (46, .aload_n 0, 1), (47, .getfield 584, 3), (50, .ifCond .ne 7, 3)]
theorem e252_43 : am_dec am_M252 q252_43 = true := by decide +kernel
theorem b252_43 {d : Nat} {Q : Option Value ⊕ Nat → am_Mem → Prop} {μ : am_Mem} {r0 : Nat} {x1 x2 x3 x4 s0 : Int32}
    (h1 : am_kd μ r0 = (1, 12))
    (k1 : ¬ (am_A μ r0 4) = 0 → Wp d 252 (57, [some (.ref r0), some (.int x1), some (.int x2), some (.int x3), some (.int x4), some (.int s0), none], [.ref r0], μ) Q) (k2 : ¬ (¬ (am_A μ r0 4) = 0) → Wp d 252 (53, [some (.ref r0), some (.int x1), some (.int x2), some (.int x3), some (.int x4), some (.int s0), none], [.ref r0], μ) Q) :
    Wp d 252 (43, [some (.ref r0), some (.int x1), some (.int x2), some (.int x3), some (.int x4), none, none], [.int s0], μ) Q := wp_blk rfl e252_43 (And.intro h1 (And.intro k1 k2))
def q252_53 : List (Nat × Instr × Nat) := [(53, .iconst 1, 1), (54, .goto 22, 3)]
theorem e252_53 : am_dec am_M252 q252_53 = true := by decide +kernel
theorem b252_53 {d : Nat} {Q : Option Value ⊕ Nat → am_Mem → Prop} {μ : am_Mem} {r0 r90 : Nat} {x1 x2 x3 x4 x5 : Int32}
    (k : Wp d 252 (76, [some (.ref r0), some (.int x1), some (.int x2), some (.int x3), some (.int x4), some (.int x5), none], [.int (Int32.ofInt 1), .ref r90], μ) Q) :
    Wp d 252 (53, [some (.ref r0), some (.int x1), some (.int x2), some (.int x3), some (.int x4), some (.int x5), none], [.ref r90], μ) Q := wp_blk rfl e252_53 k
def q252_57 : List (Nat × Instr × Nat) := [(57, .iload 4, 2), (59, .ifCond .ne 7, 3)]
theorem e252_57 : am_dec am_M252 q252_57 = true := by decide +kernel
theorem b252_57 {d : Nat} {Q : Option Value ⊕ Nat → am_Mem → Prop} {μ : am_Mem} {r0 r90 : Nat} {x1 x2 x3 x4 x5 : Int32}
    (k1 : ¬ x4 = 0 → Wp d 252 (66, [some (.ref r0), some (.int x1), some (.int x2), some (.int x3), some (.int x4), some (.int x5), none], [.ref r90], μ) Q) (k2 : ¬ (¬ x4 = 0) → Wp d 252 (62, [some (.ref r0), some (.int x1), some (.int x2), some (.int x3), some (.int x4), some (.int x5), none], [.ref r90], μ) Q) :
    Wp d 252 (57, [some (.ref r0), some (.int x1), some (.int x2), some (.int x3), some (.int x4), some (.int x5), none], [.ref r90], μ) Q := wp_blk rfl e252_57 (And.intro k1 k2)
def q252_62 : List (Nat × Instr × Nat) := [(62, .iconst 2, 1), (63, .goto 13, 3)]
theorem e252_62 : am_dec am_M252 q252_62 = true := by decide +kernel
theorem b252_62 {d : Nat} {Q : Option Value ⊕ Nat → am_Mem → Prop} {μ : am_Mem} {r0 r90 : Nat} {x1 x2 x3 x4 x5 : Int32}
    (k : Wp d 252 (76, [some (.ref r0), some (.int x1), some (.int x2), some (.int x3), some (.int x4), some (.int x5), none], [.int (Int32.ofInt 2), .ref r90], μ) Q) :
    Wp d 252 (62, [some (.ref r0), some (.int x1), some (.int x2), some (.int x3), some (.int x4), some (.int x5), none], [.ref r90], μ) Q := wp_blk rfl e252_62 k
def q252_66 : List (Nat × Instr × Nat) := [(66, .iload 5, 2), (68, .ifCond .ne 7, 3)]
theorem e252_66 : am_dec am_M252 q252_66 = true := by decide +kernel
theorem b252_66 {d : Nat} {Q : Option Value ⊕ Nat → am_Mem → Prop} {μ : am_Mem} {r0 r90 : Nat} {x1 x2 x3 x4 x5 : Int32}
    (k1 : ¬ x5 = 0 → Wp d 252 (75, [some (.ref r0), some (.int x1), some (.int x2), some (.int x3), some (.int x4), some (.int x5), none], [.ref r90], μ) Q) (k2 : ¬ (¬ x5 = 0) → Wp d 252 (71, [some (.ref r0), some (.int x1), some (.int x2), some (.int x3), some (.int x4), some (.int x5), none], [.ref r90], μ) Q) :
    Wp d 252 (66, [some (.ref r0), some (.int x1), some (.int x2), some (.int x3), some (.int x4), some (.int x5), none], [.ref r90], μ) Q := wp_blk rfl e252_66 (And.intro k1 k2)
def q252_71 : List (Nat × Instr × Nat) := [(71, .iconst 1, 1), (72, .goto 4, 3)]
theorem e252_71 : am_dec am_M252 q252_71 = true := by decide +kernel
theorem b252_71 {d : Nat} {Q : Option Value ⊕ Nat → am_Mem → Prop} {μ : am_Mem} {r0 r90 : Nat} {x1 x2 x3 x4 x5 : Int32}
    (k : Wp d 252 (76, [some (.ref r0), some (.int x1), some (.int x2), some (.int x3), some (.int x4), some (.int x5), none], [.int (Int32.ofInt 1), .ref r90], μ) Q) :
    Wp d 252 (71, [some (.ref r0), some (.int x1), some (.int x2), some (.int x3), some (.int x4), some (.int x5), none], [.ref r90], μ) Q := wp_blk rfl e252_71 k
def q252_75 : List (Nat × Instr × Nat) := [(75, .iconst 0, 1)]
theorem e252_75 : am_dec am_M252 q252_75 = true := by decide +kernel
theorem b252_75 {d : Nat} {Q : Option Value ⊕ Nat → am_Mem → Prop} {μ : am_Mem} {r0 r90 : Nat} {x1 x2 x3 x4 x5 : Int32}
    (k : Wp d 252 (76, [some (.ref r0), some (.int x1), some (.int x2), some (.int x3), some (.int x4), some (.int x5), none], [.int (Int32.ofInt 0), .ref r90], μ) Q) :
    Wp d 252 (75, [some (.ref r0), some (.int x1), some (.int x2), some (.int x3), some (.int x4), some (.int x5), none], [.ref r90], μ) Q := wp_blk rfl e252_75 k
def q252_76 : List (Nat × Instr × Nat) := [(76, .putfield 198, 3), (79, .aload_n 0, 1), (80, .getfield 198, 3), (83, .ifCond .le 5, 3)]
theorem e252_76 : am_dec am_M252 q252_76 = true := by decide +kernel
theorem b252_76 {d : Nat} {Q : Option Value ⊕ Nat → am_Mem → Prop} {μ : am_Mem} {r0 r90 : Nat} {x1 x2 x3 x4 x5 s1 : Int32}
    (h1 : am_kd μ r90 = (1, 12))
    (h2 : am_kd (am_pA μ r90 0 s1) r0 = (1, 12))
    (k1 : (am_A (am_pA μ r90 0 s1) r0 0) ≤ 0 → Wp d 252 (88, [some (.ref r0), some (.int x1), some (.int x2), some (.int x3), some (.int x4), some (.int x5), none], [], (am_pA μ r90 0 s1)) Q) (k2 : ¬ ((am_A (am_pA μ r90 0 s1) r0 0) ≤ 0) → Wp d 252 (86, [some (.ref r0), some (.int x1), some (.int x2), some (.int x3), some (.int x4), some (.int x5), none], [], (am_pA μ r90 0 s1)) Q) :
    Wp d 252 (76, [some (.ref r0), some (.int x1), some (.int x2), some (.int x3), some (.int x4), some (.int x5), none], [.int s1, .ref r90], μ) Q := wp_blk rfl e252_76 (And.intro h1 (And.intro ⟨rfl, rfl⟩ (And.intro h2 (And.intro k1 k2))))
def q252_86 : List (Nat × Instr × Nat) := [(86, .iconst 0, 1)]
theorem e252_86 : am_dec am_M252 q252_86 = true := by decide +kernel
theorem e252_86_r : am_dec am_M252 [(87, .ireturn, 1)] = true := by decide +kernel
theorem b252_86 {d : Nat} {Q : Option Value ⊕ Nat → am_Mem → Prop} {μ : am_Mem} {r0 : Nat} {x1 x2 x3 x4 x5 : Int32}
    (k : Q (.inl (some (.int (Int32.ofInt 0)))) μ) :
    Wp d 252 (86, [some (.ref r0), some (.int x1), some (.int x2), some (.int x3), some (.int x4), some (.int x5), none], [], μ) Q := wp_blk rfl e252_86 (wp_ri (ty := .int) rfl e252_86_r rfl ⟨rfl, rfl⟩ k)
def q252_88 : List (Nat × Instr × Nat) := [(88, .iload_n 1, 1), (89, .iconst 5, 1), (90, .if_icmp .ne 55, 3)]
theorem e252_88 : am_dec am_M252 q252_88 = true := by decide +kernel
theorem b252_88 {d : Nat} {Q : Option Value ⊕ Nat → am_Mem → Prop} {μ : am_Mem} {r0 : Nat} {x1 x2 x3 x4 x5 : Int32}
    (k1 : ¬ x1 = (Int32.ofInt 5) → Wp d 252 (145, [some (.ref r0), some (.int x1), some (.int x2), some (.int x3), some (.int x4), some (.int x5), none], [], μ) Q) (k2 : ¬ (¬ x1 = (Int32.ofInt 5)) → Wp d 252 (93, [some (.ref r0), some (.int x1), some (.int x2), some (.int x3), some (.int x4), some (.int x5), none], [], μ) Q) :
    Wp d 252 (88, [some (.ref r0), some (.int x1), some (.int x2), some (.int x3), some (.int x4), some (.int x5), none], [], μ) Q := wp_blk rfl e252_88 (And.intro k1 k2)
def q252_93 : List (Nat × Instr × Nat) := [(93, .aload_n 0, 1), (94, .aload_n 0, 1), (95, .iload_n 2, 1)]
theorem e252_93 : am_dec am_M252 q252_93 = true := by decide +kernel
theorem e252_93_c : am_dc1 am_M252 96 (.invokevirtual 609) 3 = true := by decide +kernel
theorem b252_93 {d : Nat} {Q : Option Value ⊕ Nat → am_Mem → Prop} {μ : am_Mem} {r0 : Nat} {x1 x2 x3 x4 x5 : Int32} {P : Int32 → am_Mem → Prop} {X : Nat → am_Mem → Prop}
    (hk : am_kd μ r0 = (1, 12))
    (hc : Wp d 241 (0, [some (.ref r0), some (.int x2)], [], μ) (pI P X)) (hr : ∀ x μ', P x μ' → Wp (d + 1) 252 (99, [some (.ref r0), some (.int x1), some (.int x2), some (.int x3), some (.int x4), some (.int x5), none], [.int x, .ref r0], (μ')) Q)
    (hx : ∀ x μ', X x μ' → Q (.inr x) μ') :
    Wp (d + 1) 252 (93, [some (.ref r0), some (.int x1), some (.int x2), some (.int x3), some (.int x4), some (.int x5), none], [], μ) Q := wp_blk rfl e252_93 (wp_cv (as := [.int x2]) rfl e252_93_c rfl rfl rfl rfl rfl hk hc (fun v μ' hv => by obtain ⟨x, rfl, hp⟩ := pI_r hv; exact hr x μ' hp) hx)
def q252_99 : List (Nat × Instr × Nat) := [(99, .ifCond .eq 11, 3)]
theorem e252_99 : am_dec am_M252 q252_99 = true := by decide +kernel
theorem b252_99 {d : Nat} {Q : Option Value ⊕ Nat → am_Mem → Prop} {μ : am_Mem} {r0 r90 : Nat} {x1 x2 x3 x4 x5 s1 : Int32}
    (k1 : s1 = 0 → Wp d 252 (110, [some (.ref r0), some (.int x1), some (.int x2), some (.int x3), some (.int x4), some (.int x5), none], [.ref r90], μ) Q) (k2 : ¬ (s1 = 0) → Wp d 252 (102, [some (.ref r0), some (.int x1), some (.int x2), some (.int x3), some (.int x4), some (.int x5), none], [.ref r90], μ) Q) :
    Wp d 252 (99, [some (.ref r0), some (.int x1), some (.int x2), some (.int x3), some (.int x4), some (.int x5), none], [.int s1, .ref r90], μ) Q := wp_blk rfl e252_99 (And.intro k1 k2)
def q252_102 : List (Nat × Instr × Nat) := [(102, .iload_n 3, 1), (103, .ifCond .lt 7, 3)]
theorem e252_102 : am_dec am_M252 q252_102 = true := by decide +kernel
theorem b252_102 {d : Nat} {Q : Option Value ⊕ Nat → am_Mem → Prop} {μ : am_Mem} {r0 r90 : Nat} {x1 x2 x3 x4 x5 : Int32}
    (k1 : x3 < 0 → Wp d 252 (110, [some (.ref r0), some (.int x1), some (.int x2), some (.int x3), some (.int x4), some (.int x5), none], [.ref r90], μ) Q) (k2 : ¬ (x3 < 0) → Wp d 252 (106, [some (.ref r0), some (.int x1), some (.int x2), some (.int x3), some (.int x4), some (.int x5), none], [.ref r90], μ) Q) :
    Wp d 252 (102, [some (.ref r0), some (.int x1), some (.int x2), some (.int x3), some (.int x4), some (.int x5), none], [.ref r90], μ) Q := wp_blk rfl e252_102 (And.intro k1 k2)
def q252_106 : List (Nat × Instr × Nat) := [(106, .iconst 0, 1), (107, .goto 4, 3)]
theorem e252_106 : am_dec am_M252 q252_106 = true := by decide +kernel
theorem b252_106 {d : Nat} {Q : Option Value ⊕ Nat → am_Mem → Prop} {μ : am_Mem} {r0 r90 : Nat} {x1 x2 x3 x4 x5 : Int32}
    (k : Wp d 252 (111, [some (.ref r0), some (.int x1), some (.int x2), some (.int x3), some (.int x4), some (.int x5), none], [.int (Int32.ofInt 0), .ref r90], μ) Q) :
    Wp d 252 (106, [some (.ref r0), some (.int x1), some (.int x2), some (.int x3), some (.int x4), some (.int x5), none], [.ref r90], μ) Q := wp_blk rfl e252_106 k
def q252_110 : List (Nat × Instr × Nat) := [(110, .iconst 3, 1)]
theorem e252_110 : am_dec am_M252 q252_110 = true := by decide +kernel
theorem b252_110 {d : Nat} {Q : Option Value ⊕ Nat → am_Mem → Prop} {μ : am_Mem} {r0 r90 : Nat} {x1 x2 x3 x4 x5 : Int32}
    (k : Wp d 252 (111, [some (.ref r0), some (.int x1), some (.int x2), some (.int x3), some (.int x4), some (.int x5), none], [.int (Int32.ofInt 3), .ref r90], μ) Q) :
    Wp d 252 (110, [some (.ref r0), some (.int x1), some (.int x2), some (.int x3), some (.int x4), some (.int x5), none], [.ref r90], μ) Q := wp_blk rfl e252_110 k
def q252_111 : List (Nat × Instr × Nat) := [(111, .putfield 198, 3), (114, .aload_n 0, 1), (115, .getfield 198, 3), (118, .ifCond .gt 10, 3)]
theorem e252_111 : am_dec am_M252 q252_111 = true := by decide +kernel
theorem b252_111 {d : Nat} {Q : Option Value ⊕ Nat → am_Mem → Prop} {μ : am_Mem} {r0 r90 : Nat} {x1 x2 x3 x4 x5 s1 : Int32}
    (h1 : am_kd μ r90 = (1, 12))
    (h2 : am_kd (am_pA μ r90 0 s1) r0 = (1, 12))
    (k1 : 0 < (am_A (am_pA μ r90 0 s1) r0 0) → Wp d 252 (128, [some (.ref r0), some (.int x1), some (.int x2), some (.int x3), some (.int x4), some (.int x5), none], [], (am_pA μ r90 0 s1)) Q) (k2 : ¬ (0 < (am_A (am_pA μ r90 0 s1) r0 0)) → Wp d 252 (121, [some (.ref r0), some (.int x1), some (.int x2), some (.int x3), some (.int x4), some (.int x5), none], [], (am_pA μ r90 0 s1)) Q) :
    Wp d 252 (111, [some (.ref r0), some (.int x1), some (.int x2), some (.int x3), some (.int x4), some (.int x5), none], [.int s1, .ref r90], μ) Q := wp_blk rfl e252_111 (And.intro h1 (And.intro ⟨rfl, rfl⟩ (And.intro h2 (And.intro k1 k2))))
def q252_121 : List (Nat × Instr × Nat) := [(121, .iload_n 3, 1), (122, .sipush 3000, 3), (125, .if_icmp .lt 7, 3)]
theorem e252_121 : am_dec am_M252 q252_121 = true := by decide +kernel
theorem b252_121 {d : Nat} {Q : Option Value ⊕ Nat → am_Mem → Prop} {μ : am_Mem} {r0 : Nat} {x1 x2 x3 x4 x5 : Int32}
    (k1 : x3 < ((Int16.ofInt 3000).toInt32) → Wp d 252 (132, [some (.ref r0), some (.int x1), some (.int x2), some (.int x3), some (.int x4), some (.int x5), none], [], μ) Q) (k2 : ¬ (x3 < ((Int16.ofInt 3000).toInt32)) → Wp d 252 (128, [some (.ref r0), some (.int x1), some (.int x2), some (.int x3), some (.int x4), some (.int x5), none], [], μ) Q) :
    Wp d 252 (121, [some (.ref r0), some (.int x1), some (.int x2), some (.int x3), some (.int x4), some (.int x5), none], [], μ) Q := wp_blk rfl e252_121 (And.intro k1 k2)
def q252_128 : List (Nat × Instr × Nat) := [(128, .iconst 0, 1), (129, .goto 15, 3)]
theorem e252_128 : am_dec am_M252 q252_128 = true := by decide +kernel
theorem b252_128 {d : Nat} {Q : Option Value ⊕ Nat → am_Mem → Prop} {μ : am_Mem} {r0 : Nat} {x1 x2 x3 x4 x5 : Int32}
    (k : Wp d 252 (144, [some (.ref r0), some (.int x1), some (.int x2), some (.int x3), some (.int x4), some (.int x5), none], [.int (Int32.ofInt 0)], μ) Q) :
    Wp d 252 (128, [some (.ref r0), some (.int x1), some (.int x2), some (.int x3), some (.int x4), some (.int x5), none], [], μ) Q := wp_blk rfl e252_128 k
def q252_132 : List (Nat × Instr × Nat) := [(132, .aload_n 0, 1), (133, .getfield 150, 3), (136, .sipush 3000, 3), (139, .iload_n 2, 1), (140, .imul, 1), (141, .iload_n 3, 1), (142, .iadd, 1), (143, .iaload, 1)]
theorem e252_132 : am_dec am_M252 q252_132 = true := by decide +kernel
theorem b252_132 {d : Nat} {Q : Option Value ⊕ Nat → am_Mem → Prop} {μ : am_Mem} {r0 : Nat} {x1 x2 x3 x4 x5 : Int32}
    (h1 : am_kd μ r0 = (1, 12))
    (h2 : ¬ am_F μ r0 71 = 15)
    (h3 : (am_kd μ (am_F μ r0 71)).1 = 2 ∨ (am_kd μ (am_F μ r0 71)).1 = 8)
    (h4 : ¬ (((((Int16.ofInt 3000).toInt32) * x2) + x3) < 0 ∨ (am_kd μ (am_F μ r0 71)).2 ≤ ((((Int16.ofInt 3000).toInt32) * x2) + x3).toNatClampNeg))
    (k : Wp d 252 (144, [some (.ref r0), some (.int x1), some (.int x2), some (.int x3), some (.int x4), some (.int x5), none], [.int (am_A μ (am_F μ r0 71) ((((Int16.ofInt 3000).toInt32) * x2) + x3).toNatClampNeg)], μ) Q) :
    Wp d 252 (132, [some (.ref r0), some (.int x1), some (.int x2), some (.int x3), some (.int x4), some (.int x5), none], [], μ) Q := wp_blk rfl e252_132 (And.intro h1 (And.intro h2 (And.intro h3 (And.intro h4 k))))
theorem e252_144_r : am_dec am_M252 [(144, .ireturn, 1)] = true := by decide +kernel
theorem b252_144 {d : Nat} {Q : Option Value ⊕ Nat → am_Mem → Prop} {μ : am_Mem} {r0 : Nat} {x1 x2 x3 x4 x5 s0 : Int32}
    (k : Q (.inl (some (.int s0))) μ) :
    Wp d 252 (144, [some (.ref r0), some (.int x1), some (.int x2), some (.int x3), some (.int x4), some (.int x5), none], [.int s0], μ) Q := (wp_ri (ty := .int) rfl e252_144_r rfl ⟨rfl, rfl⟩ k)
def q252_145 : List (Nat × Instr × Nat) := [(145, .iload_n 1, 1), (146, .ifCond .ne 69, 3)]
theorem e252_145 : am_dec am_M252 q252_145 = true := by decide +kernel
theorem b252_145 {d : Nat} {Q : Option Value ⊕ Nat → am_Mem → Prop} {μ : am_Mem} {r0 : Nat} {x1 x2 x3 x4 x5 : Int32}
    (k1 : ¬ x1 = 0 → Wp d 252 (215, [some (.ref r0), some (.int x1), some (.int x2), some (.int x3), some (.int x4), some (.int x5), none], [], μ) Q) (k2 : ¬ (¬ x1 = 0) → Wp d 252 (149, [some (.ref r0), some (.int x1), some (.int x2), some (.int x3), some (.int x4), some (.int x5), none], [], μ) Q) :
    Wp d 252 (145, [some (.ref r0), some (.int x1), some (.int x2), some (.int x3), some (.int x4), some (.int x5), none], [], μ) Q := wp_blk rfl e252_145 (And.intro k1 k2)
def q252_149 : List (Nat × Instr × Nat) := [(149, .aload_n 0, 1), (150, .iload_n 2, 1), (151, .i2l, 1), (152, .lconst 0, 1), (153, .aload_n 0, 1), (154, .getfield 158, 3), (157, .sipush 300, 3), (160, .iaload, 1), (161, .iconst 1, 1), (162, .isub, 1), (163, .i2l, 1)]
theorem e252_149 : am_dec am_M252 q252_149 = true := by decide +kernel
theorem e252_149_c : am_dc1 am_M252 164 (.invokestatic 205) 3 = true := by decide +kernel
theorem b252_149 {d : Nat} {Q : Option Value ⊕ Nat → am_Mem → Prop} {μ : am_Mem} {r0 : Nat} {x1 x2 x3 x4 x5 : Int32} {P : Int32 → am_Mem → Prop} {X : Nat → am_Mem → Prop}
    (h1 : am_kd μ r0 = (1, 12))
    (h2 : ¬ am_F μ r0 74 = 15)
    (h3 : (am_kd μ (am_F μ r0 74)).1 = 2 ∨ (am_kd μ (am_F μ r0 74)).1 = 8)
    (h4 : ¬ (((Int16.ofInt 300).toInt32) < 0 ∨ (am_kd μ (am_F μ r0 74)).2 ≤ ((Int16.ofInt 300).toInt32).toNatClampNeg))
    (hc : Wp d 150 (0, [some (.long x2.toInt64), none, some (.long (Int64.ofNat 0)), none, some (.long (((am_A μ (am_F μ r0 74) ((Int16.ofInt 300).toInt32).toNatClampNeg) - (Int32.ofInt 1)).toInt64)), none], [], μ) (pI P X)) (hr : ∀ x μ', P x μ' → Wp (d + 1) 252 (167, [some (.ref r0), some (.int x1), some (.int x2), some (.int x3), some (.int x4), some (.int x5), none], [.int x, .ref r0], (μ')) Q)
    (hx : ∀ x μ', X x μ' → Q (.inr x) μ') :
    Wp (d + 1) 252 (149, [some (.ref r0), some (.int x1), some (.int x2), some (.int x3), some (.int x4), some (.int x5), none], [], μ) Q := wp_blk rfl e252_149 (And.intro h1 (And.intro h2 (And.intro h3 (And.intro h4 (wp_cs (vs := [.long x2.toInt64, .long (Int64.ofNat 0), .long (((am_A μ (am_F μ r0 74) ((Int16.ofInt 300).toInt32).toNatClampNeg) - (Int32.ofInt 1)).toInt64)]) rfl e252_149_c rfl rfl rfl rfl rfl hc (fun v μ' hv => by obtain ⟨x, rfl, hp⟩ := pI_r hv; exact hr x μ' hp) hx)))))
def q252_167 : List (Nat × Instr × Nat) := [(167, .ifCond .eq 11, 3)]
theorem e252_167 : am_dec am_M252 q252_167 = true := by decide +kernel
theorem b252_167 {d : Nat} {Q : Option Value ⊕ Nat → am_Mem → Prop} {μ : am_Mem} {r0 r90 : Nat} {x1 x2 x3 x4 x5 s1 : Int32}
    (k1 : s1 = 0 → Wp d 252 (178, [some (.ref r0), some (.int x1), some (.int x2), some (.int x3), some (.int x4), some (.int x5), none], [.ref r90], μ) Q) (k2 : ¬ (s1 = 0) → Wp d 252 (170, [some (.ref r0), some (.int x1), some (.int x2), some (.int x3), some (.int x4), some (.int x5), none], [.ref r90], μ) Q) :
    Wp d 252 (167, [some (.ref r0), some (.int x1), some (.int x2), some (.int x3), some (.int x4), some (.int x5), none], [.int s1, .ref r90], μ) Q := wp_blk rfl e252_167 (And.intro k1 k2)
def q252_170 : List (Nat × Instr × Nat) := [(170, .iload_n 3, 1), (171, .ifCond .lt 7, 3)]
theorem e252_170 : am_dec am_M252 q252_170 = true := by decide +kernel
theorem b252_170 {d : Nat} {Q : Option Value ⊕ Nat → am_Mem → Prop} {μ : am_Mem} {r0 r90 : Nat} {x1 x2 x3 x4 x5 : Int32}
    (k1 : x3 < 0 → Wp d 252 (178, [some (.ref r0), some (.int x1), some (.int x2), some (.int x3), some (.int x4), some (.int x5), none], [.ref r90], μ) Q) (k2 : ¬ (x3 < 0) → Wp d 252 (174, [some (.ref r0), some (.int x1), some (.int x2), some (.int x3), some (.int x4), some (.int x5), none], [.ref r90], μ) Q) :
    Wp d 252 (170, [some (.ref r0), some (.int x1), some (.int x2), some (.int x3), some (.int x4), some (.int x5), none], [.ref r90], μ) Q := wp_blk rfl e252_170 (And.intro k1 k2)
def q252_174 : List (Nat × Instr × Nat) := [(174, .iconst 0, 1), (175, .goto 4, 3)]
theorem e252_174 : am_dec am_M252 q252_174 = true := by decide +kernel
theorem b252_174 {d : Nat} {Q : Option Value ⊕ Nat → am_Mem → Prop} {μ : am_Mem} {r0 r90 : Nat} {x1 x2 x3 x4 x5 : Int32}
    (k : Wp d 252 (179, [some (.ref r0), some (.int x1), some (.int x2), some (.int x3), some (.int x4), some (.int x5), none], [.int (Int32.ofInt 0), .ref r90], μ) Q) :
    Wp d 252 (174, [some (.ref r0), some (.int x1), some (.int x2), some (.int x3), some (.int x4), some (.int x5), none], [.ref r90], μ) Q := wp_blk rfl e252_174 k
def q252_178 : List (Nat × Instr × Nat) := [(178, .iconst 3, 1)]
theorem e252_178 : am_dec am_M252 q252_178 = true := by decide +kernel
theorem b252_178 {d : Nat} {Q : Option Value ⊕ Nat → am_Mem → Prop} {μ : am_Mem} {r0 r90 : Nat} {x1 x2 x3 x4 x5 : Int32}
    (k : Wp d 252 (179, [some (.ref r0), some (.int x1), some (.int x2), some (.int x3), some (.int x4), some (.int x5), none], [.int (Int32.ofInt 3), .ref r90], μ) Q) :
    Wp d 252 (178, [some (.ref r0), some (.int x1), some (.int x2), some (.int x3), some (.int x4), some (.int x5), none], [.ref r90], μ) Q := wp_blk rfl e252_178 k
def q252_179 : List (Nat × Instr × Nat) := [(179, .putfield 198, 3), (182, .aload_n 0, 1), (183, .getfield 198, 3), (186, .ifCond .gt 9, 3)]
theorem e252_179 : am_dec am_M252 q252_179 = true := by decide +kernel
theorem b252_179 {d : Nat} {Q : Option Value ⊕ Nat → am_Mem → Prop} {μ : am_Mem} {r0 r90 : Nat} {x1 x2 x3 x4 x5 s1 : Int32}
    (h1 : am_kd μ r90 = (1, 12))
    (h2 : am_kd (am_pA μ r90 0 s1) r0 = (1, 12))
    (k1 : 0 < (am_A (am_pA μ r90 0 s1) r0 0) → Wp d 252 (195, [some (.ref r0), some (.int x1), some (.int x2), some (.int x3), some (.int x4), some (.int x5), none], [], (am_pA μ r90 0 s1)) Q) (k2 : ¬ (0 < (am_A (am_pA μ r90 0 s1) r0 0)) → Wp d 252 (189, [some (.ref r0), some (.int x1), some (.int x2), some (.int x3), some (.int x4), some (.int x5), none], [], (am_pA μ r90 0 s1)) Q) :
    Wp d 252 (179, [some (.ref r0), some (.int x1), some (.int x2), some (.int x3), some (.int x4), some (.int x5), none], [.int s1, .ref r90], μ) Q := wp_blk rfl e252_179 (And.intro h1 (And.intro ⟨rfl, rfl⟩ (And.intro h2 (And.intro k1 k2))))
def q252_189 : List (Nat × Instr × Nat) := [(189, .iload_n 3, 1), (190, .bipush 49, 2), (192, .if_icmp .lt 7, 3)]
theorem e252_189 : am_dec am_M252 q252_189 = true := by decide +kernel
theorem b252_189 {d : Nat} {Q : Option Value ⊕ Nat → am_Mem → Prop} {μ : am_Mem} {r0 : Nat} {x1 x2 x3 x4 x5 : Int32}
    (k1 : x3 < ((Int8.ofInt 49).toInt32) → Wp d 252 (199, [some (.ref r0), some (.int x1), some (.int x2), some (.int x3), some (.int x4), some (.int x5), none], [], μ) Q) (k2 : ¬ (x3 < ((Int8.ofInt 49).toInt32)) → Wp d 252 (195, [some (.ref r0), some (.int x1), some (.int x2), some (.int x3), some (.int x4), some (.int x5), none], [], μ) Q) :
    Wp d 252 (189, [some (.ref r0), some (.int x1), some (.int x2), some (.int x3), some (.int x4), some (.int x5), none], [], μ) Q := wp_blk rfl e252_189 (And.intro k1 k2)
def q252_195 : List (Nat × Instr × Nat) := [(195, .iconst 0, 1), (196, .goto 18, 3)]
theorem e252_195 : am_dec am_M252 q252_195 = true := by decide +kernel
theorem b252_195 {d : Nat} {Q : Option Value ⊕ Nat → am_Mem → Prop} {μ : am_Mem} {r0 : Nat} {x1 x2 x3 x4 x5 : Int32}
    (k : Wp d 252 (214, [some (.ref r0), some (.int x1), some (.int x2), some (.int x3), some (.int x4), some (.int x5), none], [.int (Int32.ofInt 0)], μ) Q) :
    Wp d 252 (195, [some (.ref r0), some (.int x1), some (.int x2), some (.int x3), some (.int x4), some (.int x5), none], [], μ) Q := wp_blk rfl e252_195 k
def q252_199 : List (Nat × Instr × Nat) := [(199, .aload_n 0, 1), (200, .getfield 154, 3), (203, .ldc_w 630, 3), (206, .bipush 49, 2), (208, .iload_n 2, 1), (209, .imul, 1), (210, .iadd, 1), (211, .iload_n 3, 1), (212, .iadd, 1), (213, .baload, 1)]
theorem e252_199 : am_dec am_M252 q252_199 = true := by decide +kernel
theorem b252_199 {d : Nat} {Q : Option Value ⊕ Nat → am_Mem → Prop} {μ : am_Mem} {r0 : Nat} {x1 x2 x3 x4 x5 : Int32}
    (h1 : am_kd μ r0 = (1, 12))
    (h2 : ¬ am_F μ r0 73 = 15)
    (h3 : (am_kd μ (am_F μ r0 73)).1 = 3 ∨ (am_kd μ (am_F μ r0 73)).1 = 4 ∨ (am_kd μ (am_F μ r0 73)).1 = 10)
    (h4 : ¬ ((((882000 : Int32) + (((Int8.ofInt 49).toInt32) * x2)) + x3) < 0 ∨ (am_kd μ (am_F μ r0 73)).2 ≤ (((882000 : Int32) + (((Int8.ofInt 49).toInt32) * x2)) + x3).toNatClampNeg))
    (k : Wp d 252 (214, [some (.ref r0), some (.int x1), some (.int x2), some (.int x3), some (.int x4), some (.int x5), none], [.int (am_A μ (am_F μ r0 73) (((882000 : Int32) + (((Int8.ofInt 49).toInt32) * x2)) + x3).toNatClampNeg)], μ) Q) :
    Wp d 252 (199, [some (.ref r0), some (.int x1), some (.int x2), some (.int x3), some (.int x4), some (.int x5), none], [], μ) Q := wp_blk rfl e252_199 (And.intro h1 (And.intro h2 (And.intro h3 (And.intro h4 k))))
theorem e252_214_r : am_dec am_M252 [(214, .ireturn, 1)] = true := by decide +kernel
theorem b252_214 {d : Nat} {Q : Option Value ⊕ Nat → am_Mem → Prop} {μ : am_Mem} {r0 : Nat} {x1 x2 x3 x4 x5 s0 : Int32}
    (k : Q (.inl (some (.int s0))) μ) :
    Wp d 252 (214, [some (.ref r0), some (.int x1), some (.int x2), some (.int x3), some (.int x4), some (.int x5), none], [.int s0], μ) Q := (wp_ri (ty := .int) rfl e252_214_r rfl ⟨rfl, rfl⟩ k)
def q252_215 : List (Nat × Instr × Nat) := [(215, .iload_n 1, 1), (216, .iconst 1, 1), (217, .isub, 1), (218, .istore 6, 2), (220, .aload_n 0, 1), (221, .iload 6, 2)]
theorem e252_215 : am_dec am_M252 q252_215 = true := by decide +kernel
theorem e252_215_c : am_dc1 am_M252 223 (.invokevirtual 609) 3 = true := by decide +kernel
theorem b252_215 {d : Nat} {Q : Option Value ⊕ Nat → am_Mem → Prop} {μ : am_Mem} {r0 : Nat} {x1 x2 x3 x4 x5 : Int32} {P : Int32 → am_Mem → Prop} {X : Nat → am_Mem → Prop}
    (hk : am_kd μ r0 = (1, 12))
    (hc : Wp d 241 (0, [some (.ref r0), some (.int (x1 - (Int32.ofInt 1)))], [], μ) (pI P X)) (hr : ∀ x μ', P x μ' → Wp (d + 1) 252 (226, [some (.ref r0), some (.int x1), some (.int x2), some (.int x3), some (.int x4), some (.int x5), some (.int (x1 - (Int32.ofInt 1)))], [.int x], (μ')) Q)
    (hx : ∀ x μ', X x μ' → Q (.inr x) μ') :
    Wp (d + 1) 252 (215, [some (.ref r0), some (.int x1), some (.int x2), some (.int x3), some (.int x4), some (.int x5), none], [], μ) Q := wp_blk rfl e252_215 (wp_cv (as := [.int (x1 - (Int32.ofInt 1))]) rfl e252_215_c rfl rfl rfl rfl rfl hk hc (fun v μ' hv => by obtain ⟨x, rfl, hp⟩ := pI_r hv; exact hr x μ' hp) hx)
def q252_226 : List (Nat × Instr × Nat) := [(226, .ifCond .eq 11, 3)]
theorem e252_226 : am_dec am_M252 q252_226 = true := by decide +kernel
theorem b252_226 {d : Nat} {Q : Option Value ⊕ Nat → am_Mem → Prop} {μ : am_Mem} {r0 : Nat} {x1 x2 x3 x4 x5 x6 s0 : Int32}
    (k1 : s0 = 0 → Wp d 252 (237, [some (.ref r0), some (.int x1), some (.int x2), some (.int x3), some (.int x4), some (.int x5), some (.int x6)], [], μ) Q) (k2 : ¬ (s0 = 0) → Wp d 252 (229, [some (.ref r0), some (.int x1), some (.int x2), some (.int x3), some (.int x4), some (.int x5), some (.int x6)], [], μ) Q) :
    Wp d 252 (226, [some (.ref r0), some (.int x1), some (.int x2), some (.int x3), some (.int x4), some (.int x5), some (.int x6)], [.int s0], μ) Q := wp_blk rfl e252_226 (And.intro k1 k2)
def q252_229 : List (Nat × Instr × Nat) := [(229, .iload_n 2, 1), (230, .ifCond .lt 7, 3)]
theorem e252_229 : am_dec am_M252 q252_229 = true := by decide +kernel
theorem b252_229 {d : Nat} {Q : Option Value ⊕ Nat → am_Mem → Prop} {μ : am_Mem} {r0 : Nat} {x1 x2 x3 x4 x5 x6 : Int32}
    (k1 : x2 < 0 → Wp d 252 (237, [some (.ref r0), some (.int x1), some (.int x2), some (.int x3), some (.int x4), some (.int x5), some (.int x6)], [], μ) Q) (k2 : ¬ (x2 < 0) → Wp d 252 (233, [some (.ref r0), some (.int x1), some (.int x2), some (.int x3), some (.int x4), some (.int x5), some (.int x6)], [], μ) Q) :
    Wp d 252 (229, [some (.ref r0), some (.int x1), some (.int x2), some (.int x3), some (.int x4), some (.int x5), some (.int x6)], [], μ) Q := wp_blk rfl e252_229 (And.intro k1 k2)
def q252_233 : List (Nat × Instr × Nat) := [(233, .iload_n 3, 1), (234, .ifCond .ge 10, 3)]
theorem e252_233 : am_dec am_M252 q252_233 = true := by decide +kernel
theorem b252_233 {d : Nat} {Q : Option Value ⊕ Nat → am_Mem → Prop} {μ : am_Mem} {r0 : Nat} {x1 x2 x3 x4 x5 x6 : Int32}
    (k1 : 0 ≤ x3 → Wp d 252 (244, [some (.ref r0), some (.int x1), some (.int x2), some (.int x3), some (.int x4), some (.int x5), some (.int x6)], [], μ) Q) (k2 : ¬ (0 ≤ x3) → Wp d 252 (237, [some (.ref r0), some (.int x1), some (.int x2), some (.int x3), some (.int x4), some (.int x5), some (.int x6)], [], μ) Q) :
    Wp d 252 (233, [some (.ref r0), some (.int x1), some (.int x2), some (.int x3), some (.int x4), some (.int x5), some (.int x6)], [], μ) Q := wp_blk rfl e252_233 (And.intro k1 k2)
def q252_237 : List (Nat × Instr × Nat) := [(237, .aload_n 0, 1), (238, .iconst 3, 1), (239, .putfield 198, 3), (242, .iconst 0, 1)]
theorem e252_237 : am_dec am_M252 q252_237 = true := by decide +kernel
theorem e252_237_r : am_dec am_M252 [(243, .ireturn, 1)] = true := by decide +kernel
theorem b252_237 {d : Nat} {Q : Option Value ⊕ Nat → am_Mem → Prop} {μ : am_Mem} {r0 : Nat} {x1 x2 x3 x4 x5 x6 : Int32}
    (h1 : am_kd μ r0 = (1, 12))
    (k : Q (.inl (some (.int (Int32.ofInt 0)))) (am_pA μ r0 0 (Int32.ofInt 3))) :
    Wp d 252 (237, [some (.ref r0), some (.int x1), some (.int x2), some (.int x3), some (.int x4), some (.int x5), some (.int x6)], [], μ) Q := wp_blk rfl e252_237 (And.intro h1 (And.intro ⟨rfl, rfl⟩ (wp_ri (ty := .int) rfl e252_237_r rfl ⟨rfl, rfl⟩ k)))
def q252_244 : List (Nat × Instr × Nat) := [(244, .aload_n 0, 1)]
theorem e252_244 : am_dec am_M252 q252_244 = true := by decide +kernel
theorem e252_244_c : am_dc1 am_M252 245 (.invokevirtual 612) 3 = true := by decide +kernel
theorem b252_244 {d : Nat} {Q : Option Value ⊕ Nat → am_Mem → Prop} {μ : am_Mem} {r0 : Nat} {x1 x2 x3 x4 x5 x6 : Int32} {P : Int32 → am_Mem → Prop} {X : Nat → am_Mem → Prop}
    (hk : am_kd μ r0 = (1, 12))
    (hc : Wp d 242 (0, [some (.ref r0)], [], μ) (pI P X)) (hr : ∀ x μ', P x μ' → Wp (d + 1) 252 (248, [some (.ref r0), some (.int x1), some (.int x2), some (.int x3), some (.int x4), some (.int x5), some (.int x6)], [.int x], (μ')) Q)
    (hx : ∀ x μ', X x μ' → Q (.inr x) μ') :
    Wp (d + 1) 252 (244, [some (.ref r0), some (.int x1), some (.int x2), some (.int x3), some (.int x4), some (.int x5), some (.int x6)], [], μ) Q := wp_blk rfl e252_244 (wp_cv (as := []) rfl e252_244_c rfl rfl rfl rfl rfl hk hc (fun v μ' hv => by obtain ⟨x, rfl, hp⟩ := pI_r hv; exact hr x μ' hp) hx)
def q252_248 : List (Nat × Instr × Nat) := [(248, .ifCond .ne 10, 3)]
theorem e252_248 : am_dec am_M252 q252_248 = true := by decide +kernel
theorem b252_248 {d : Nat} {Q : Option Value ⊕ Nat → am_Mem → Prop} {μ : am_Mem} {r0 : Nat} {x1 x2 x3 x4 x5 x6 s0 : Int32}
    (k1 : ¬ s0 = 0 → Wp d 252 (258, [some (.ref r0), some (.int x1), some (.int x2), some (.int x3), some (.int x4), some (.int x5), some (.int x6)], [], μ) Q) (k2 : ¬ (¬ s0 = 0) → Wp d 252 (251, [some (.ref r0), some (.int x1), some (.int x2), some (.int x3), some (.int x4), some (.int x5), some (.int x6)], [], μ) Q) :
    Wp d 252 (248, [some (.ref r0), some (.int x1), some (.int x2), some (.int x3), some (.int x4), some (.int x5), some (.int x6)], [.int s0], μ) Q := wp_blk rfl e252_248 (And.intro k1 k2)
def q252_251 : List (Nat × Instr × Nat) := [(251, .aload_n 0, 1), (252, .iconst 4, 1), (253, .putfield 198, 3), (256, .iconst 0, 1)]
theorem e252_251 : am_dec am_M252 q252_251 = true := by decide +kernel
theorem e252_251_r : am_dec am_M252 [(257, .ireturn, 1)] = true := by decide +kernel
theorem b252_251 {d : Nat} {Q : Option Value ⊕ Nat → am_Mem → Prop} {μ : am_Mem} {r0 : Nat} {x1 x2 x3 x4 x5 x6 : Int32}
    (h1 : am_kd μ r0 = (1, 12))
    (k : Q (.inl (some (.int (Int32.ofInt 0)))) (am_pA μ r0 0 (Int32.ofInt 4))) :
    Wp d 252 (251, [some (.ref r0), some (.int x1), some (.int x2), some (.int x3), some (.int x4), some (.int x5), some (.int x6)], [], μ) Q := wp_blk rfl e252_251 (And.intro h1 (And.intro ⟨rfl, rfl⟩ (wp_ri (ty := .int) rfl e252_251_r rfl ⟨rfl, rfl⟩ k)))
def q252_258 : List (Nat × Instr × Nat) := [(258, .aload_n 0, 1), (259, .iload_n 2, 1), (260, .i2l, 1), (261, .lconst 0, 1), (262, .aload_n 0, 1), (263, .getfield 161, 3), (266, .iload 6, 2), (268, .iaload, 1), (269, .iconst 1, 1), (270, .isub, 1), (271, .i2l, 1)]
theorem e252_258 : am_dec am_M252 q252_258 = true := by decide +kernel
theorem e252_258_c : am_dc1 am_M252 272 (.invokestatic 205) 3 = true := by decide +kernel
theorem b252_258 {d : Nat} {Q : Option Value ⊕ Nat → am_Mem → Prop} {μ : am_Mem} {r0 : Nat} {x1 x2 x3 x4 x5 x6 : Int32} {P : Int32 → am_Mem → Prop} {X : Nat → am_Mem → Prop}
    (h1 : am_kd μ r0 = (1, 12))
    (h2 : ¬ am_F μ r0 76 = 15)
    (h3 : (am_kd μ (am_F μ r0 76)).1 = 2 ∨ (am_kd μ (am_F μ r0 76)).1 = 8)
    (h4 : ¬ (x6 < 0 ∨ (am_kd μ (am_F μ r0 76)).2 ≤ x6.toNatClampNeg))
    (hc : Wp d 150 (0, [some (.long x2.toInt64), none, some (.long (Int64.ofNat 0)), none, some (.long (((am_A μ (am_F μ r0 76) x6.toNatClampNeg) - (Int32.ofInt 1)).toInt64)), none], [], μ) (pI P X)) (hr : ∀ x μ', P x μ' → Wp (d + 1) 252 (275, [some (.ref r0), some (.int x1), some (.int x2), some (.int x3), some (.int x4), some (.int x5), some (.int x6)], [.int x, .ref r0], (μ')) Q)
    (hx : ∀ x μ', X x μ' → Q (.inr x) μ') :
    Wp (d + 1) 252 (258, [some (.ref r0), some (.int x1), some (.int x2), some (.int x3), some (.int x4), some (.int x5), some (.int x6)], [], μ) Q := wp_blk rfl e252_258 (And.intro h1 (And.intro h2 (And.intro h3 (And.intro h4 (wp_cs (vs := [.long x2.toInt64, .long (Int64.ofNat 0), .long (((am_A μ (am_F μ r0 76) x6.toNatClampNeg) - (Int32.ofInt 1)).toInt64)]) rfl e252_258_c rfl rfl rfl rfl rfl hc (fun v μ' hv => by obtain ⟨x, rfl, hp⟩ := pI_r hv; exact hr x μ' hp) hx)))))
def q252_275 : List (Nat × Instr × Nat) := [(275, .ifCond .eq 11, 3)]
theorem e252_275 : am_dec am_M252 q252_275 = true := by decide +kernel
theorem b252_275 {d : Nat} {Q : Option Value ⊕ Nat → am_Mem → Prop} {μ : am_Mem} {r0 r90 : Nat} {x1 x2 x3 x4 x5 x6 s1 : Int32}
    (k1 : s1 = 0 → Wp d 252 (286, [some (.ref r0), some (.int x1), some (.int x2), some (.int x3), some (.int x4), some (.int x5), some (.int x6)], [.ref r90], μ) Q) (k2 : ¬ (s1 = 0) → Wp d 252 (278, [some (.ref r0), some (.int x1), some (.int x2), some (.int x3), some (.int x4), some (.int x5), some (.int x6)], [.ref r90], μ) Q) :
    Wp d 252 (275, [some (.ref r0), some (.int x1), some (.int x2), some (.int x3), some (.int x4), some (.int x5), some (.int x6)], [.int s1, .ref r90], μ) Q := wp_blk rfl e252_275 (And.intro k1 k2)
def q252_278 : List (Nat × Instr × Nat) := [(278, .iload_n 3, 1), (279, .ifCond .lt 7, 3)]
theorem e252_278 : am_dec am_M252 q252_278 = true := by decide +kernel
theorem b252_278 {d : Nat} {Q : Option Value ⊕ Nat → am_Mem → Prop} {μ : am_Mem} {r0 r90 : Nat} {x1 x2 x3 x4 x5 x6 : Int32}
    (k1 : x3 < 0 → Wp d 252 (286, [some (.ref r0), some (.int x1), some (.int x2), some (.int x3), some (.int x4), some (.int x5), some (.int x6)], [.ref r90], μ) Q) (k2 : ¬ (x3 < 0) → Wp d 252 (282, [some (.ref r0), some (.int x1), some (.int x2), some (.int x3), some (.int x4), some (.int x5), some (.int x6)], [.ref r90], μ) Q) :
    Wp d 252 (278, [some (.ref r0), some (.int x1), some (.int x2), some (.int x3), some (.int x4), some (.int x5), some (.int x6)], [.ref r90], μ) Q := wp_blk rfl e252_278 (And.intro k1 k2)
def q252_282 : List (Nat × Instr × Nat) := [(282, .iconst 0, 1), (283, .goto 4, 3)]
theorem e252_282 : am_dec am_M252 q252_282 = true := by decide +kernel
theorem b252_282 {d : Nat} {Q : Option Value ⊕ Nat → am_Mem → Prop} {μ : am_Mem} {r0 r90 : Nat} {x1 x2 x3 x4 x5 x6 : Int32}
    (k : Wp d 252 (287, [some (.ref r0), some (.int x1), some (.int x2), some (.int x3), some (.int x4), some (.int x5), some (.int x6)], [.int (Int32.ofInt 0), .ref r90], μ) Q) :
    Wp d 252 (282, [some (.ref r0), some (.int x1), some (.int x2), some (.int x3), some (.int x4), some (.int x5), some (.int x6)], [.ref r90], μ) Q := wp_blk rfl e252_282 k
def q252_286 : List (Nat × Instr × Nat) := [(286, .iconst 3, 1)]
theorem e252_286 : am_dec am_M252 q252_286 = true := by decide +kernel
theorem b252_286 {d : Nat} {Q : Option Value ⊕ Nat → am_Mem → Prop} {μ : am_Mem} {r0 r90 : Nat} {x1 x2 x3 x4 x5 x6 : Int32}
    (k : Wp d 252 (287, [some (.ref r0), some (.int x1), some (.int x2), some (.int x3), some (.int x4), some (.int x5), some (.int x6)], [.int (Int32.ofInt 3), .ref r90], μ) Q) :
    Wp d 252 (286, [some (.ref r0), some (.int x1), some (.int x2), some (.int x3), some (.int x4), some (.int x5), some (.int x6)], [.ref r90], μ) Q := wp_blk rfl e252_286 k
def q252_287 : List (Nat × Instr × Nat) := [(287, .putfield 198, 3), (290, .aload_n 0, 1), (291, .getfield 198, 3), (294, .ifCond .gt 9, 3)]
theorem e252_287 : am_dec am_M252 q252_287 = true := by decide +kernel
theorem b252_287 {d : Nat} {Q : Option Value ⊕ Nat → am_Mem → Prop} {μ : am_Mem} {r0 r90 : Nat} {x1 x2 x3 x4 x5 x6 s1 : Int32}
    (h1 : am_kd μ r90 = (1, 12))
    (h2 : am_kd (am_pA μ r90 0 s1) r0 = (1, 12))
    (k1 : 0 < (am_A (am_pA μ r90 0 s1) r0 0) → Wp d 252 (303, [some (.ref r0), some (.int x1), some (.int x2), some (.int x3), some (.int x4), some (.int x5), some (.int x6)], [], (am_pA μ r90 0 s1)) Q) (k2 : ¬ (0 < (am_A (am_pA μ r90 0 s1) r0 0)) → Wp d 252 (297, [some (.ref r0), some (.int x1), some (.int x2), some (.int x3), some (.int x4), some (.int x5), some (.int x6)], [], (am_pA μ r90 0 s1)) Q) :
    Wp d 252 (287, [some (.ref r0), some (.int x1), some (.int x2), some (.int x3), some (.int x4), some (.int x5), some (.int x6)], [.int s1, .ref r90], μ) Q := wp_blk rfl e252_287 (And.intro h1 (And.intro ⟨rfl, rfl⟩ (And.intro h2 (And.intro k1 k2))))
def q252_297 : List (Nat × Instr × Nat) := [(297, .iload_n 3, 1), (298, .bipush 49, 2), (300, .if_icmp .lt 7, 3)]
theorem e252_297 : am_dec am_M252 q252_297 = true := by decide +kernel
theorem b252_297 {d : Nat} {Q : Option Value ⊕ Nat → am_Mem → Prop} {μ : am_Mem} {r0 : Nat} {x1 x2 x3 x4 x5 x6 : Int32}
    (k1 : x3 < ((Int8.ofInt 49).toInt32) → Wp d 252 (307, [some (.ref r0), some (.int x1), some (.int x2), some (.int x3), some (.int x4), some (.int x5), some (.int x6)], [], μ) Q) (k2 : ¬ (x3 < ((Int8.ofInt 49).toInt32)) → Wp d 252 (303, [some (.ref r0), some (.int x1), some (.int x2), some (.int x3), some (.int x4), some (.int x5), some (.int x6)], [], μ) Q) :
    Wp d 252 (297, [some (.ref r0), some (.int x1), some (.int x2), some (.int x3), some (.int x4), some (.int x5), some (.int x6)], [], μ) Q := wp_blk rfl e252_297 (And.intro k1 k2)
def q252_303 : List (Nat × Instr × Nat) := [(303, .iconst 0, 1), (304, .goto 21, 3)]
theorem e252_303 : am_dec am_M252 q252_303 = true := by decide +kernel
theorem b252_303 {d : Nat} {Q : Option Value ⊕ Nat → am_Mem → Prop} {μ : am_Mem} {r0 : Nat} {x1 x2 x3 x4 x5 x6 : Int32}
    (k : Wp d 252 (325, [some (.ref r0), some (.int x1), some (.int x2), some (.int x3), some (.int x4), some (.int x5), some (.int x6)], [.int (Int32.ofInt 0)], μ) Q) :
    Wp d 252 (303, [some (.ref r0), some (.int x1), some (.int x2), some (.int x3), some (.int x4), some (.int x5), some (.int x6)], [], μ) Q := wp_blk rfl e252_303 k
def q252_307 : List (Nat × Instr × Nat) := [(307, .aload_n 0, 1), (308, .getfield 165, 3), (311, .ldc_w 557, 3), (314, .iload 6, 2), (316, .imul, 1), (317, .bipush 49, 2), (319, .iload_n 2, 1), (320, .imul, 1), (321, .iadd, 1), (322, .iload_n 3, 1), (323, .iadd, 1), (324, .baload, 1)]
theorem e252_307 : am_dec am_M252 q252_307 = true := by decide +kernel
theorem b252_307 {d : Nat} {Q : Option Value ⊕ Nat → am_Mem → Prop} {μ : am_Mem} {r0 : Nat} {x1 x2 x3 x4 x5 x6 : Int32}
    (h1 : am_kd μ r0 = (1, 12))
    (h2 : ¬ am_F μ r0 77 = 15)
    (h3 : (am_kd μ (am_F μ r0 77)).1 = 3 ∨ (am_kd μ (am_F μ r0 77)).1 = 4 ∨ (am_kd μ (am_F μ r0 77)).1 = 10)
    (h4 : ¬ (((((49049 : Int32) * x6) + (((Int8.ofInt 49).toInt32) * x2)) + x3) < 0 ∨ (am_kd μ (am_F μ r0 77)).2 ≤ ((((49049 : Int32) * x6) + (((Int8.ofInt 49).toInt32) * x2)) + x3).toNatClampNeg))
    (k : Wp d 252 (325, [some (.ref r0), some (.int x1), some (.int x2), some (.int x3), some (.int x4), some (.int x5), some (.int x6)], [.int (am_A μ (am_F μ r0 77) ((((49049 : Int32) * x6) + (((Int8.ofInt 49).toInt32) * x2)) + x3).toNatClampNeg)], μ) Q) :
    Wp d 252 (307, [some (.ref r0), some (.int x1), some (.int x2), some (.int x3), some (.int x4), some (.int x5), some (.int x6)], [], μ) Q := wp_blk rfl e252_307 (And.intro h1 (And.intro h2 (And.intro h3 (And.intro h4 k))))
theorem e252_325_r : am_dec am_M252 [(325, .ireturn, 1)] = true := by decide +kernel
theorem b252_325 {d : Nat} {Q : Option Value ⊕ Nat → am_Mem → Prop} {μ : am_Mem} {r0 : Nat} {x1 x2 x3 x4 x5 x6 s0 : Int32}
    (k : Q (.inl (some (.int s0))) μ) :
    Wp d 252 (325, [some (.ref r0), some (.int x1), some (.int x2), some (.int x3), some (.int x4), some (.int x5), some (.int x6)], [.int s0], μ) Q := (wp_ri (ty := .int) rfl e252_325_r rfl ⟨rfl, rfl⟩ k)
/-! RuleSheetsModel.explore()I -/
def q253_0 : List (Nat × Instr × Nat) := [(0, .aload_n 0, 1), (1, .getfield 593, 3), (4, .istore_n 1, 1), (5, .aload_n 0, 1), (6, .getfield 648, 3), (9, .istore_n 2, 1), (10, .aload_n 0, 1), (11, .getfield 584, 3), (14, .ifCond .eq 18, 3)]
theorem e253_0 : am_dec am_M253 q253_0 = true := by decide +kernel
theorem b253_0 {d : Nat} {Q : Option Value ⊕ Nat → am_Mem → Prop} {μ : am_Mem} {r0 : Nat}
    (h1 : am_kd μ r0 = (1, 12))
    (h2 : am_kd μ r0 = (1, 12))
    (h3 : am_kd μ r0 = (1, 12))
    (k1 : (am_A μ r0 4) = 0 → Wp d 253 (32, [some (.ref r0), some (.int (am_A μ r0 81)), some (.int (am_A μ r0 82)), none], [], μ) Q) (k2 : ¬ ((am_A μ r0 4) = 0) → Wp d 253 (17, [some (.ref r0), some (.int (am_A μ r0 81)), some (.int (am_A μ r0 82)), none], [], μ) Q) :
    Wp d 253 (0, [some (.ref r0), none, none, none], [], μ) Q := wp_blk rfl e253_0 (And.intro h1 (And.intro h2 (And.intro h3 (And.intro k1 k2))))
def q253_17 : List (Nat × Instr × Nat) := [(17, .iload_n 1, 1), (18, .ifCond .ne 10, 3)]
theorem e253_17 : am_dec am_M253 q253_17 = true := by decide +kernel
theorem b253_17 {d : Nat} {Q : Option Value ⊕ Nat → am_Mem → Prop} {μ : am_Mem} {r0 : Nat} {x1 x2 : Int32}
    (k1 : ¬ x1 = 0 → Wp d 253 (28, [some (.ref r0), some (.int x1), some (.int x2), none], [], μ) Q) (k2 : ¬ (¬ x1 = 0) → Wp d 253 (21, [some (.ref r0), some (.int x1), some (.int x2), none], [], μ) Q) :
    Wp d 253 (17, [some (.ref r0), some (.int x1), some (.int x2), none], [], μ) Q := wp_blk rfl e253_17 (And.intro k1 k2)
def q253_21 : List (Nat × Instr × Nat) := [(21, .aload_n 0, 1)]
theorem e253_21 : am_dec am_M253 q253_21 = true := by decide +kernel
theorem e253_21_c : am_dc1 am_M253 22 (.invokevirtual 651) 3 = true := by decide +kernel
theorem b253_21 {d : Nat} {Q : Option Value ⊕ Nat → am_Mem → Prop} {μ : am_Mem} {r0 : Nat} {x1 x2 : Int32} {P : Int32 → am_Mem → Prop} {X : Nat → am_Mem → Prop}
    (hk : am_kd μ r0 = (1, 12))
    (hc : Wp d 254 (0, [some (.ref r0), none, none, none], [], μ) (pI P X)) (hr : ∀ x μ', P x μ' → Wp (d + 1) 253 (25, [some (.ref r0), some (.int x1), some (.int x2), none], [.int x], (μ')) Q)
    (hx : ∀ x μ', X x μ' → Q (.inr x) μ') :
    Wp (d + 1) 253 (21, [some (.ref r0), some (.int x1), some (.int x2), none], [], μ) Q := wp_blk rfl e253_21 (wp_cv (as := []) rfl e253_21_c rfl rfl rfl rfl rfl hk hc (fun v μ' hv => by obtain ⟨x, rfl, hp⟩ := pI_r hv; exact hr x μ' hp) hx)
def q253_25 : List (Nat × Instr × Nat) := [(25, .ifCond .eq 7, 3)]
theorem e253_25 : am_dec am_M253 q253_25 = true := by decide +kernel
theorem b253_25 {d : Nat} {Q : Option Value ⊕ Nat → am_Mem → Prop} {μ : am_Mem} {r0 : Nat} {x1 x2 s0 : Int32}
    (k1 : s0 = 0 → Wp d 253 (32, [some (.ref r0), some (.int x1), some (.int x2), none], [], μ) Q) (k2 : ¬ (s0 = 0) → Wp d 253 (28, [some (.ref r0), some (.int x1), some (.int x2), none], [], μ) Q) :
    Wp d 253 (25, [some (.ref r0), some (.int x1), some (.int x2), none], [.int s0], μ) Q := wp_blk rfl e253_25 (And.intro k1 k2)
def q253_28 : List (Nat × Instr × Nat) := [(28, .iconst 1, 1), (29, .goto 4, 3)]
theorem e253_28 : am_dec am_M253 q253_28 = true := by decide +kernel
theorem b253_28 {d : Nat} {Q : Option Value ⊕ Nat → am_Mem → Prop} {μ : am_Mem} {r0 : Nat} {x1 x2 : Int32}
    (k : Wp d 253 (33, [some (.ref r0), some (.int x1), some (.int x2), none], [.int (Int32.ofInt 1)], μ) Q) :
    Wp d 253 (28, [some (.ref r0), some (.int x1), some (.int x2), none], [], μ) Q := wp_blk rfl e253_28 k
def q253_32 : List (Nat × Instr × Nat) := [(32, .iconst 0, 1)]
theorem e253_32 : am_dec am_M253 q253_32 = true := by decide +kernel
theorem b253_32 {d : Nat} {Q : Option Value ⊕ Nat → am_Mem → Prop} {μ : am_Mem} {r0 : Nat} {x1 x2 : Int32}
    (k : Wp d 253 (33, [some (.ref r0), some (.int x1), some (.int x2), none], [.int (Int32.ofInt 0)], μ) Q) :
    Wp d 253 (32, [some (.ref r0), some (.int x1), some (.int x2), none], [], μ) Q := wp_blk rfl e253_32 k
def q253_33 : List (Nat × Instr × Nat) := [(33, .istore_n 3, 1), (34, .aload_n 0, 1), (35, .iconst 0, 1), (36, .putfield 542, 3), (39, .aload_n 0, 1), (40, .aload_n 0, 1), (41, .getfield 584, 3), (44, .ifCond .ne 7, 3)]
theorem e253_33 : am_dec am_M253 q253_33 = true := by decide +kernel
theorem b253_33 {d : Nat} {Q : Option Value ⊕ Nat → am_Mem → Prop} {μ : am_Mem} {r0 : Nat} {x1 x2 s0 : Int32}
    (h1 : am_kd μ r0 = (1, 12))
    (h2 : am_kd (am_pA μ r0 75 (Int32.ofInt 0)) r0 = (1, 12))
    (k1 : ¬ (am_A (am_pA μ r0 75 (Int32.ofInt 0)) r0 4) = 0 → Wp d 253 (51, [some (.ref r0), some (.int x1), some (.int x2), some (.int s0)], [.ref r0], (am_pA μ r0 75 (Int32.ofInt 0))) Q) (k2 : ¬ (¬ (am_A (am_pA μ r0 75 (Int32.ofInt 0)) r0 4) = 0) → Wp d 253 (47, [some (.ref r0), some (.int x1), some (.int x2), some (.int s0)], [.ref r0], (am_pA μ r0 75 (Int32.ofInt 0))) Q) :
    Wp d 253 (33, [some (.ref r0), some (.int x1), some (.int x2), none], [.int s0], μ) Q := wp_blk rfl e253_33 (And.intro h1 (And.intro (by decide) (And.intro h2 (And.intro k1 k2))))
def q253_47 : List (Nat × Instr × Nat) := [(47, .iconst 1, 1), (48, .goto 4, 3)]
theorem e253_47 : am_dec am_M253 q253_47 = true := by decide +kernel
theorem b253_47 {d : Nat} {Q : Option Value ⊕ Nat → am_Mem → Prop} {μ : am_Mem} {r0 r90 : Nat} {x1 x2 x3 : Int32}
    (k : Wp d 253 (52, [some (.ref r0), some (.int x1), some (.int x2), some (.int x3)], [.int (Int32.ofInt 1), .ref r90], μ) Q) :
    Wp d 253 (47, [some (.ref r0), some (.int x1), some (.int x2), some (.int x3)], [.ref r90], μ) Q := wp_blk rfl e253_47 k
def q253_51 : List (Nat × Instr × Nat) := [(51, .iconst 0, 1)]
theorem e253_51 : am_dec am_M253 q253_51 = true := by decide +kernel
theorem b253_51 {d : Nat} {Q : Option Value ⊕ Nat → am_Mem → Prop} {μ : am_Mem} {r0 r90 : Nat} {x1 x2 x3 : Int32}
    (k : Wp d 253 (52, [some (.ref r0), some (.int x1), some (.int x2), some (.int x3)], [.int (Int32.ofInt 0), .ref r90], μ) Q) :
    Wp d 253 (51, [some (.ref r0), some (.int x1), some (.int x2), some (.int x3)], [.ref r90], μ) Q := wp_blk rfl e253_51 k
def q253_52 : List (Nat × Instr × Nat) := [(52, .iload_n 3, 1), (53, .ifCond .ne 7, 3)]
theorem e253_52 : am_dec am_M253 q253_52 = true := by decide +kernel
theorem b253_52 {d : Nat} {Q : Option Value ⊕ Nat → am_Mem → Prop} {μ : am_Mem} {r0 r90 : Nat} {x1 x2 x3 s1 : Int32}
    (k1 : ¬ x3 = 0 → Wp d 253 (60, [some (.ref r0), some (.int x1), some (.int x2), some (.int x3)], [.int s1, .ref r90], μ) Q) (k2 : ¬ (¬ x3 = 0) → Wp d 253 (56, [some (.ref r0), some (.int x1), some (.int x2), some (.int x3)], [.int s1, .ref r90], μ) Q) :
    Wp d 253 (52, [some (.ref r0), some (.int x1), some (.int x2), some (.int x3)], [.int s1, .ref r90], μ) Q := wp_blk rfl e253_52 (And.intro k1 k2)
def q253_56 : List (Nat × Instr × Nat) := [(56, .iconst 1, 1), (57, .goto 4, 3)]
theorem e253_56 : am_dec am_M253 q253_56 = true := by decide +kernel
theorem b253_56 {d : Nat} {Q : Option Value ⊕ Nat → am_Mem → Prop} {μ : am_Mem} {r0 r90 : Nat} {x1 x2 x3 s1 : Int32}
    (k : Wp d 253 (61, [some (.ref r0), some (.int x1), some (.int x2), some (.int x3)], [.int (Int32.ofInt 1), .int s1, .ref r90], μ) Q) :
    Wp d 253 (56, [some (.ref r0), some (.int x1), some (.int x2), some (.int x3)], [.int s1, .ref r90], μ) Q := wp_blk rfl e253_56 k
def q253_60 : List (Nat × Instr × Nat) := [(60, .iconst 0, 1)]
theorem e253_60 : am_dec am_M253 q253_60 = true := by decide +kernel
theorem b253_60 {d : Nat} {Q : Option Value ⊕ Nat → am_Mem → Prop} {μ : am_Mem} {r0 r90 : Nat} {x1 x2 x3 s1 : Int32}
    (k : Wp d 253 (61, [some (.ref r0), some (.int x1), some (.int x2), some (.int x3)], [.int (Int32.ofInt 0), .int s1, .ref r90], μ) Q) :
    Wp d 253 (60, [some (.ref r0), some (.int x1), some (.int x2), some (.int x3)], [.int s1, .ref r90], μ) Q := wp_blk rfl e253_60 k
def q253_61 : List (Nat × Instr × Nat) := [(61, .iconst 0, 1)]
theorem e253_61 : am_dec am_M253 q253_61 = true := by decide +kernel
theorem e253_61_c : am_dc1 am_M253 62 (.invokevirtual 212) 3 = true := by decide +kernel
theorem b253_61 {d : Nat} {Q : Option Value ⊕ Nat → am_Mem → Prop} {μ : am_Mem} {r0 r90 : Nat} {x1 x2 x3 s1 s2 : Int32} {P : Int32 → am_Mem → Prop} {X : Nat → am_Mem → Prop}
    (hk : am_kd μ r90 = (1, 12))
    (hc : Wp d 151 (0, [some (.ref r90), some (.int s1), some (.int s2), some (.int (Int32.ofInt 0))], [], μ) (pI P X)) (hr : ∀ x μ', P x μ' → Wp (d + 1) 253 (65, [some (.ref r0), some (.int x1), some (.int x2), some (.int x3)], [.int x], (μ')) Q)
    (hx : ∀ x μ', X x μ' → Q (.inr x) μ') :
    Wp (d + 1) 253 (61, [some (.ref r0), some (.int x1), some (.int x2), some (.int x3)], [.int s2, .int s1, .ref r90], μ) Q := wp_blk rfl e253_61 (wp_cv (as := [.int s1, .int s2, .int (Int32.ofInt 0)]) rfl e253_61_c rfl rfl rfl rfl rfl hk hc (fun v μ' hv => by obtain ⟨x, rfl, hp⟩ := pI_r hv; exact hr x μ' hp) hx)
def q253_65 : List (Nat × Instr × Nat) := [(65, .ifCond .eq 5, 3)]
theorem e253_65 : am_dec am_M253 q253_65 = true := by decide +kernel
theorem b253_65 {d : Nat} {Q : Option Value ⊕ Nat → am_Mem → Prop} {μ : am_Mem} {r0 : Nat} {x1 x2 x3 s0 : Int32}
    (k1 : s0 = 0 → Wp d 253 (70, [some (.ref r0), some (.int x1), some (.int x2), some (.int x3)], [], μ) Q) (k2 : ¬ (s0 = 0) → Wp d 253 (68, [some (.ref r0), some (.int x1), some (.int x2), some (.int x3)], [], μ) Q) :
    Wp d 253 (65, [some (.ref r0), some (.int x1), some (.int x2), some (.int x3)], [.int s0], μ) Q := wp_blk rfl e253_65 (And.intro k1 k2)
def q253_68 : List (Nat × Instr × Nat) := [(68, .iconst 0, 1)]
theorem e253_68 : am_dec am_M253 q253_68 = true := by decide +kernel
theorem e253_68_r : am_dec am_M253 [(69, .ireturn, 1)] = true := by decide +kernel
theorem b253_68 {d : Nat} {Q : Option Value ⊕ Nat → am_Mem → Prop} {μ : am_Mem} {r0 : Nat} {x1 x2 x3 : Int32}
    (k : Q (.inl (some (.int (Int32.ofInt 0)))) μ) :
    Wp d 253 (68, [some (.ref r0), some (.int x1), some (.int x2), some (.int x3)], [], μ) Q := wp_blk rfl e253_68 (wp_ri (ty := .int) rfl e253_68_r rfl ⟨rfl, rfl⟩ k)
def q253_70 : List (Nat × Instr × Nat) := [(70, .iload_n 1, 1), (71, .ifCond .eq 5, 3)]
theorem e253_70 : am_dec am_M253 q253_70 = true := by decide +kernel
theorem b253_70 {d : Nat} {Q : Option Value ⊕ Nat → am_Mem → Prop} {μ : am_Mem} {r0 : Nat} {x1 x2 x3 : Int32}
    (k1 : x1 = 0 → Wp d 253 (76, [some (.ref r0), some (.int x1), some (.int x2), some (.int x3)], [], μ) Q) (k2 : ¬ (x1 = 0) → Wp d 253 (74, [some (.ref r0), some (.int x1), some (.int x2), some (.int x3)], [], μ) Q) :
    Wp d 253 (70, [some (.ref r0), some (.int x1), some (.int x2), some (.int x3)], [], μ) Q := wp_blk rfl e253_70 (And.intro k1 k2)
def q253_74 : List (Nat × Instr × Nat) := [(74, .iload_n 2, 1)]
theorem e253_74 : am_dec am_M253 q253_74 = true := by decide +kernel
theorem e253_74_r : am_dec am_M253 [(75, .ireturn, 1)] = true := by decide +kernel
theorem b253_74 {d : Nat} {Q : Option Value ⊕ Nat → am_Mem → Prop} {μ : am_Mem} {r0 : Nat} {x1 x2 x3 : Int32}
    (k : Q (.inl (some (.int x2))) μ) :
    Wp d 253 (74, [some (.ref r0), some (.int x1), some (.int x2), some (.int x3)], [], μ) Q := wp_blk rfl e253_74 (wp_ri (ty := .int) rfl e253_74_r rfl ⟨rfl, rfl⟩ k)
def q253_76 : List (Nat × Instr × Nat) := [(76, .aload_n 0, 1), (77, .aload_n 0, 1), (78, .getfield 631, 3), (81, .putfield 648, 3), (84, .aload_n 0, 1), (85, .iconst 1, 1), (86, .putfield 593, 3), (89, .aload_n 0, 1)]
theorem e253_76 : am_dec am_M253 q253_76 = true := by decide +kernel
theorem e253_76_c : am_dc1 am_M253 90 (.invokevirtual 654) 3 = true := by decide +kernel
theorem b253_76 {d : Nat} {Q : Option Value ⊕ Nat → am_Mem → Prop} {μ : am_Mem} {r0 : Nat} {x1 x2 x3 : Int32} {P : am_Mem → Prop} {X : Nat → am_Mem → Prop}
    (h1 : am_kd μ r0 = (1, 12))
    (h2 : am_kd μ r0 = (1, 12))
    (h3 : am_kd (am_pA μ r0 82 (am_A μ r0 83)) r0 = (1, 12))
    (hk : am_kd (am_pA (am_pA μ r0 82 (am_A μ r0 83)) r0 81 (Int32.ofInt 1)) r0 = (1, 12))
    (hc : Wp d 258 (0, [some (.ref r0), none, none, none], [], (am_pA (am_pA μ r0 82 (am_A μ r0 83)) r0 81 (Int32.ofInt 1))) (pV P X)) (hr : ∀ μ', P μ' → Wp (d + 1) 253 (93, [some (.ref r0), some (.int x1), some (.int x2), some (.int x3)], [], (μ')) Q)
    (hx : ∀ x μ', X x μ' → Q (.inr x) μ') :
    Wp (d + 1) 253 (76, [some (.ref r0), some (.int x1), some (.int x2), some (.int x3)], [], μ) Q := wp_blk rfl e253_76 (And.intro h1 (And.intro h2 (And.intro ⟨rfl, rfl⟩ (And.intro h3 (And.intro (by decide) (wp_cv (as := []) rfl e253_76_c rfl rfl rfl rfl rfl hk hc (fun v μ' hv => by obtain ⟨rfl, hp⟩ := pV_r hv; exact hr μ' hp) hx))))))
def q253_93 : List (Nat × Instr × Nat) := [(93, .aload_n 0, 1), (94, .getfield 657, 3), (97, .ifCond .ne 7, 3)]
theorem e253_93 : am_dec am_M253 q253_93 = true := by decide +kernel
theorem b253_93 {d : Nat} {Q : Option Value ⊕ Nat → am_Mem → Prop} {μ : am_Mem} {r0 : Nat} {x1 x2 x3 : Int32}
    (h1 : am_kd μ r0 = (1, 12))
    (k1 : ¬ (am_A μ r0 89) = 0 → Wp d 253 (104, [some (.ref r0), some (.int x1), some (.int x2), some (.int x3)], [], μ) Q) (k2 : ¬ (¬ (am_A μ r0 89) = 0) → Wp d 253 (100, [some (.ref r0), some (.int x1), some (.int x2), some (.int x3)], [], μ) Q) :
    Wp d 253 (93, [some (.ref r0), some (.int x1), some (.int x2), some (.int x3)], [], μ) Q := wp_blk rfl e253_93 (And.intro h1 (And.intro k1 k2))
def q253_100 : List (Nat × Instr × Nat) := [(100, .aload_n 0, 1)]
theorem e253_100 : am_dec am_M253 q253_100 = true := by decide +kernel
theorem e253_100_c : am_dc1 am_M253 101 (.invokevirtual 660) 3 = true := by decide +kernel
theorem b253_100 {d : Nat} {Q : Option Value ⊕ Nat → am_Mem → Prop} {μ : am_Mem} {r0 : Nat} {x1 x2 x3 : Int32} {P : am_Mem → Prop} {X : Nat → am_Mem → Prop}
    (hk : am_kd μ r0 = (1, 12))
    (hc : Wp d 261 (0, [some (.ref r0), none, none, none, none], [], μ) (pV P X)) (hr : ∀ μ', P μ' → Wp (d + 1) 253 (104, [some (.ref r0), some (.int x1), some (.int x2), some (.int x3)], [], (μ')) Q)
    (hx : ∀ x μ', X x μ' → Q (.inr x) μ') :
    Wp (d + 1) 253 (100, [some (.ref r0), some (.int x1), some (.int x2), some (.int x3)], [], μ) Q := wp_blk rfl e253_100 (wp_cv (as := []) rfl e253_100_c rfl rfl rfl rfl rfl hk hc (fun v μ' hv => by obtain ⟨rfl, hp⟩ := pV_r hv; exact hr μ' hp) hx)
def q253_104 : List (Nat × Instr × Nat) := [(104, .aload_n 0, 1), (105, .getfield 648, 3)]
theorem e253_104 : am_dec am_M253 q253_104 = true := by decide +kernel
theorem e253_104_r : am_dec am_M253 [(108, .ireturn, 1)] = true := by decide +kernel
theorem b253_104 {d : Nat} {Q : Option Value ⊕ Nat → am_Mem → Prop} {μ : am_Mem} {r0 : Nat} {x1 x2 x3 : Int32}
    (h1 : am_kd μ r0 = (1, 12))
    (k : Q (.inl (some (.int (am_A μ r0 82)))) μ) :
    Wp d 253 (104, [some (.ref r0), some (.int x1), some (.int x2), some (.int x3)], [], μ) Q := wp_blk rfl e253_104 (And.intro h1 (wp_ri (ty := .int) rfl e253_104_r rfl ⟨rfl, rfl⟩ k))
/-! RuleSheetsModel.exploreAll()Z -/
def q254_0 : List (Nat × Instr × Nat) := [(0, .aload_n 0, 1), (1, .iconst 0, 1), (2, .putfield 631, 3), (5, .aload_n 0, 1), (6, .iconst (-1), 1), (7, .iconst 0, 1)]
theorem e254_0 : am_dec am_M254 q254_0 = true := by decide +kernel
theorem e254_0_c : am_dc1 am_M254 8 (.invokevirtual 596) 3 = true := by decide +kernel
theorem b254_0 {d : Nat} {Q : Option Value ⊕ Nat → am_Mem → Prop} {μ : am_Mem} {r0 : Nat} {P : Int32 → am_Mem → Prop} {X : Nat → am_Mem → Prop}
    (h1 : am_kd μ r0 = (1, 12))
    (hk : am_kd (am_pA μ r0 83 (Int32.ofInt 0)) r0 = (1, 12))
    (hc : Wp d 212 (0, [some (.ref r0), some (.int (Int32.ofInt (-1))), some (.int (Int32.ofInt 0)), none, none, none, none], [], (am_pA μ r0 83 (Int32.ofInt 0))) (pI P X)) (hr : ∀ x μ', P x μ' → Wp (d + 1) 254 (11, [some (.ref r0), none, none, none], [.int x], (μ')) Q)
    (hx : ∀ x μ', X x μ' → Q (.inr x) μ') :
    Wp (d + 1) 254 (0, [some (.ref r0), none, none, none], [], μ) Q := wp_blk rfl e254_0 (And.intro h1 (And.intro ⟨rfl, rfl⟩ (wp_cv (as := [.int (Int32.ofInt (-1)), .int (Int32.ofInt 0)]) rfl e254_0_c rfl rfl rfl rfl rfl hk hc (fun v μ' hv => by obtain ⟨x, rfl, hp⟩ := pI_r hv; exact hr x μ' hp) hx)))
def q254_11 : List (Nat × Instr × Nat) := [(11, .ifCond .eq 14, 3)]
theorem e254_11 : am_dec am_M254 q254_11 = true := by decide +kernel
theorem b254_11 {d : Nat} {Q : Option Value ⊕ Nat → am_Mem → Prop} {μ : am_Mem} {r0 : Nat} {s0 : Int32}
    (k1 : s0 = 0 → Wp d 254 (25, [some (.ref r0), none, none, none], [], μ) Q) (k2 : ¬ (s0 = 0) → Wp d 254 (14, [some (.ref r0), none, none, none], [], μ) Q) :
    Wp d 254 (11, [some (.ref r0), none, none, none], [.int s0], μ) Q := wp_blk rfl e254_11 (And.intro k1 k2)
def q254_14 : List (Nat × Instr × Nat) := [(14, .aload_n 0, 1), (15, .iconst 3, 1), (16, .sipush 301, 3)]
theorem e254_14 : am_dec am_M254 q254_14 = true := by decide +kernel
theorem e254_14_c : am_dc1 am_M254 19 (.invokevirtual 600) 3 = true := by decide +kernel
theorem b254_14 {d : Nat} {Q : Option Value ⊕ Nat → am_Mem → Prop} {μ : am_Mem} {r0 : Nat} {P : Int32 → am_Mem → Prop} {X : Nat → am_Mem → Prop}
    (hk : am_kd μ r0 = (1, 12))
    (hc : Wp d 235 (0, [some (.ref r0), some (.int (Int32.ofInt 3)), some (.int ((Int16.ofInt 301).toInt32)), none], [], μ) (pI P X)) (hr : ∀ x μ', P x μ' → Wp (d + 1) 254 (22, [some (.ref r0), none, none, none], [.int x], (μ')) Q)
    (hx : ∀ x μ', X x μ' → Q (.inr x) μ') :
    Wp (d + 1) 254 (14, [some (.ref r0), none, none, none], [], μ) Q := wp_blk rfl e254_14 (wp_cv (as := [.int (Int32.ofInt 3), .int ((Int16.ofInt 301).toInt32)]) rfl e254_14_c rfl rfl rfl rfl rfl hk hc (fun v μ' hv => by obtain ⟨x, rfl, hp⟩ := pI_r hv; exact hr x μ' hp) hx)
def q254_22 : List (Nat × Instr × Nat) := [(22, .ifCond .ne 5, 3)]
theorem e254_22 : am_dec am_M254 q254_22 = true := by decide +kernel
theorem b254_22 {d : Nat} {Q : Option Value ⊕ Nat → am_Mem → Prop} {μ : am_Mem} {r0 : Nat} {s0 : Int32}
    (k1 : ¬ s0 = 0 → Wp d 254 (27, [some (.ref r0), none, none, none], [], μ) Q) (k2 : ¬ (¬ s0 = 0) → Wp d 254 (25, [some (.ref r0), none, none, none], [], μ) Q) :
    Wp d 254 (22, [some (.ref r0), none, none, none], [.int s0], μ) Q := wp_blk rfl e254_22 (And.intro k1 k2)
def q254_25 : List (Nat × Instr × Nat) := [(25, .iconst 0, 1)]
theorem e254_25 : am_dec am_M254 q254_25 = true := by decide +kernel
theorem e254_25_r : am_dec am_M254 [(26, .ireturn, 1)] = true := by decide +kernel
theorem b254_25 {d : Nat} {Q : Option Value ⊕ Nat → am_Mem → Prop} {μ : am_Mem} {r0 : Nat}
    (k : Q (.inl (some (.int (Int32.ofInt 0)))) μ) :
    Wp d 254 (25, [some (.ref r0), none, none, none], [], μ) Q := wp_blk rfl e254_25 (wp_ri (ty := .boolean) rfl e254_25_r rfl (by decide) k)
def q254_27 : List (Nat × Instr × Nat) := [(27, .aload_n 0, 1), (28, .getfield 518, 3), (31, .lstore_n 1, 1), (32, .aload_n 0, 1)]
theorem e254_27 : am_dec am_M254 q254_27 = true := by decide +kernel
theorem e254_27_c : am_dc1 am_M254 33 (.invokevirtual 641) 3 = true := by decide +kernel
theorem b254_27 {d : Nat} {Q : Option Value ⊕ Nat → am_Mem → Prop} {μ : am_Mem} {r0 : Nat} {P : Int32 → am_Mem → Prop} {X : Nat → am_Mem → Prop}
    (h1 : am_kd μ r0 = (1, 12))
    (hk : am_kd μ r0 = (1, 12))
    (hc : Wp d 255 (0, [some (.ref r0), none], [], μ) (pI P X)) (hr : ∀ x μ', P x μ' → Wp (d + 1) 254 (36, [some (.ref r0), some (.long (am_L μ r0 57)), none, none], [.int x], (μ')) Q)
    (hx : ∀ x μ', X x μ' → Q (.inr x) μ') :
    Wp (d + 1) 254 (27, [some (.ref r0), none, none, none], [], μ) Q := wp_blk rfl e254_27 (And.intro h1 (wp_cv (as := []) rfl e254_27_c rfl rfl rfl rfl rfl hk hc (fun v μ' hv => by obtain ⟨x, rfl, hp⟩ := pI_r hv; exact hr x μ' hp) hx))
def q254_36 : List (Nat × Instr × Nat) := [(36, .pop, 1), (37, .iconst 0, 1), (38, .istore_n 3, 1)]
theorem e254_36 : am_dec am_M254 q254_36 = true := by decide +kernel
theorem b254_36 {d : Nat} {Q : Option Value ⊕ Nat → am_Mem → Prop} {μ : am_Mem} {r0 : Nat} {y1 : Int64} {s0 : Int32}
    (k : Wp d 254 (39, [some (.ref r0), some (.long y1), none, some (.int (Int32.ofInt 0))], [], μ) Q) :
    Wp d 254 (36, [some (.ref r0), some (.long y1), none, none], [.int s0], μ) Q := wp_blk rfl e254_36 k
def q254_39 : List (Nat × Instr × Nat) := [(39, .iload_n 3, 1), (40, .aload_n 0, 1), (41, .getfield 631, 3), (44, .if_icmp .ge 25, 3)]
theorem e254_39 : am_dec am_M254 q254_39 = true := by decide +kernel
theorem b254_39 {d : Nat} {Q : Option Value ⊕ Nat → am_Mem → Prop} {μ : am_Mem} {r0 : Nat} {y1 : Int64} {x3 : Int32}
    (h1 : am_kd μ r0 = (1, 12))
    (k1 : (am_A μ r0 83) ≤ x3 → Wp d 254 (69, [some (.ref r0), some (.long y1), none, some (.int x3)], [], μ) Q) (k2 : ¬ ((am_A μ r0 83) ≤ x3) → Wp d 254 (47, [some (.ref r0), some (.long y1), none, some (.int x3)], [], μ) Q) :
    Wp d 254 (39, [some (.ref r0), some (.long y1), none, some (.int x3)], [], μ) Q := wp_blk rfl e254_39 (And.intro h1 (And.intro k1 k2))
def q254_47 : List (Nat × Instr × Nat) := [(47, .aload_n 0, 1), (48, .iload_n 3, 1), (49, .lload_n 1, 1)]
theorem e254_47 : am_dec am_M254 q254_47 = true := by decide +kernel
theorem e254_47_c : am_dc1 am_M254 50 (.invokevirtual 644) 3 = true := by decide +kernel
theorem b254_47 {d : Nat} {Q : Option Value ⊕ Nat → am_Mem → Prop} {μ : am_Mem} {r0 : Nat} {y1 : Int64} {x3 : Int32} {P : Int32 → am_Mem → Prop} {X : Nat → am_Mem → Prop}
    (hk : am_kd μ r0 = (1, 12))
    (hc : Wp d 257 (0, [some (.ref r0), some (.int x3), some (.long y1), none, none, none, none, none, none], [], μ) (pI P X)) (hr : ∀ x μ', P x μ' → Wp (d + 1) 254 (53, [some (.ref r0), some (.long y1), none, some (.int x3)], [.int x], (μ')) Q)
    (hx : ∀ x μ', X x μ' → Q (.inr x) μ') :
    Wp (d + 1) 254 (47, [some (.ref r0), some (.long y1), none, some (.int x3)], [], μ) Q := wp_blk rfl e254_47 (wp_cv (as := [.int x3, .long y1]) rfl e254_47_c rfl rfl rfl rfl rfl hk hc (fun v μ' hv => by obtain ⟨x, rfl, hp⟩ := pI_r hv; exact hr x μ' hp) hx)
def q254_53 : List (Nat × Instr × Nat) := [(53, .ifCond .ne 5, 3)]
theorem e254_53 : am_dec am_M254 q254_53 = true := by decide +kernel
theorem b254_53 {d : Nat} {Q : Option Value ⊕ Nat → am_Mem → Prop} {μ : am_Mem} {r0 : Nat} {y1 : Int64} {x3 s0 : Int32}
    (k1 : ¬ s0 = 0 → Wp d 254 (58, [some (.ref r0), some (.long y1), none, some (.int x3)], [], μ) Q) (k2 : ¬ (¬ s0 = 0) → Wp d 254 (56, [some (.ref r0), some (.long y1), none, some (.int x3)], [], μ) Q) :
    Wp d 254 (53, [some (.ref r0), some (.long y1), none, some (.int x3)], [.int s0], μ) Q := wp_blk rfl e254_53 (And.intro k1 k2)
def q254_56 : List (Nat × Instr × Nat) := [(56, .iconst 0, 1)]
theorem e254_56 : am_dec am_M254 q254_56 = true := by decide +kernel
theorem e254_56_r : am_dec am_M254 [(57, .ireturn, 1)] = true := by decide +kernel
theorem b254_56 {d : Nat} {Q : Option Value ⊕ Nat → am_Mem → Prop} {μ : am_Mem} {r0 : Nat} {y1 : Int64} {x3 : Int32}
    (k : Q (.inl (some (.int (Int32.ofInt 0)))) μ) :
    Wp d 254 (56, [some (.ref r0), some (.long y1), none, some (.int x3)], [], μ) Q := wp_blk rfl e254_56 (wp_ri (ty := .boolean) rfl e254_56_r rfl (by decide) k)
def q254_58 : List (Nat × Instr × Nat) := [(58, .aload_n 0, 1), (59, .getfield 518, 3), (62, .lstore_n 1, 1), (63, .iinc 3 1, 3), (66, .goto (-27), 3)]
theorem e254_58 : am_dec am_M254 q254_58 = true := by decide +kernel
theorem b254_58 {d : Nat} {Q : Option Value ⊕ Nat → am_Mem → Prop} {μ : am_Mem} {r0 : Nat} {y1 : Int64} {x3 : Int32}
    (h1 : am_kd μ r0 = (1, 12))
    (k : Wp d 254 (39, [some (.ref r0), some (.long (am_L μ r0 57)), none, some (.int (x3 + Int32.ofInt 1))], [], μ) Q) :
    Wp d 254 (58, [some (.ref r0), some (.long y1), none, some (.int x3)], [], μ) Q := wp_blk rfl e254_58 (And.intro h1 k)
def q254_69 : List (Nat × Instr × Nat) := [(69, .iconst 1, 1)]
theorem e254_69 : am_dec am_M254 q254_69 = true := by decide +kernel
theorem e254_69_r : am_dec am_M254 [(70, .ireturn, 1)] = true := by decide +kernel
theorem b254_69 {d : Nat} {Q : Option Value ⊕ Nat → am_Mem → Prop} {μ : am_Mem} {r0 : Nat} {y1 : Int64} {x3 : Int32}
    (k : Q (.inl (some (.int (Int32.ofInt 1)))) μ) :
    Wp d 254 (69, [some (.ref r0), some (.long y1), none, some (.int x3)], [], μ) Q := wp_blk rfl e254_69 (wp_ri (ty := .boolean) rfl e254_69_r rfl (by decide) k)
/-! RuleSheetsModel.number()I -/
def q255_0 : List (Nat × Instr × Nat) := [(0, .iconst 0, 1), (1, .istore_n 1, 1)]
theorem e255_0 : am_dec am_M255 q255_0 = true := by decide +kernel
theorem b255_0 {d : Nat} {Q : Option Value ⊕ Nat → am_Mem → Prop} {μ : am_Mem} {r0 : Nat}
    (k : Wp d 255 (2, [some (.ref r0), some (.int (Int32.ofInt 0))], [], μ) Q) :
    Wp d 255 (0, [some (.ref r0), none], [], μ) Q := wp_blk rfl e255_0 k
def q255_2 : List (Nat × Instr × Nat) := [(2, .iload_n 1, 1), (3, .aload_n 0, 1), (4, .getfield 631, 3), (7, .if_icmp .ge 22, 3)]
theorem e255_2 : am_dec am_M255 q255_2 = true := by decide +kernel
theorem b255_2 {d : Nat} {Q : Option Value ⊕ Nat → am_Mem → Prop} {μ : am_Mem} {r0 : Nat} {x1 : Int32}
    (h1 : am_kd μ r0 = (1, 12))
    (k1 : (am_A μ r0 83) ≤ x1 → Wp d 255 (29, [some (.ref r0), some (.int x1)], [], μ) Q) (k2 : ¬ ((am_A μ r0 83) ≤ x1) → Wp d 255 (10, [some (.ref r0), some (.int x1)], [], μ) Q) :
    Wp d 255 (2, [some (.ref r0), some (.int x1)], [], μ) Q := wp_blk rfl e255_2 (And.intro h1 (And.intro k1 k2))
def q255_10 : List (Nat × Instr × Nat) := [(10, .aload_n 0, 1), (11, .iload_n 1, 1), (12, .sipush 301, 3)]
theorem e255_10 : am_dec am_M255 q255_10 = true := by decide +kernel
theorem e255_10_c : am_dc1 am_M255 15 (.invokevirtual 634) 3 = true := by decide +kernel
theorem b255_10 {d : Nat} {Q : Option Value ⊕ Nat → am_Mem → Prop} {μ : am_Mem} {r0 : Nat} {x1 : Int32} {P : Int32 → am_Mem → Prop} {X : Nat → am_Mem → Prop}
    (hk : am_kd μ r0 = (1, 12))
    (hc : Wp d 256 (0, [some (.ref r0), some (.int x1), some (.int ((Int16.ofInt 301).toInt32)), none, none], [], μ) (pI P X)) (hr : ∀ x μ', P x μ' → Wp (d + 1) 255 (18, [some (.ref r0), some (.int x1)], [.int x], (μ')) Q)
    (hx : ∀ x μ', X x μ' → Q (.inr x) μ') :
    Wp (d + 1) 255 (10, [some (.ref r0), some (.int x1)], [], μ) Q := wp_blk rfl e255_10 (wp_cv (as := [.int x1, .int ((Int16.ofInt 301).toInt32)]) rfl e255_10_c rfl rfl rfl rfl rfl hk hc (fun v μ' hv => by obtain ⟨x, rfl, hp⟩ := pI_r hv; exact hr x μ' hp) hx)
def q255_18 : List (Nat × Instr × Nat) := [(18, .ifCond .eq 5, 3)]
theorem e255_18 : am_dec am_M255 q255_18 = true := by decide +kernel
theorem b255_18 {d : Nat} {Q : Option Value ⊕ Nat → am_Mem → Prop} {μ : am_Mem} {r0 : Nat} {x1 s0 : Int32}
    (k1 : s0 = 0 → Wp d 255 (23, [some (.ref r0), some (.int x1)], [], μ) Q) (k2 : ¬ (s0 = 0) → Wp d 255 (21, [some (.ref r0), some (.int x1)], [], μ) Q) :
    Wp d 255 (18, [some (.ref r0), some (.int x1)], [.int s0], μ) Q := wp_blk rfl e255_18 (And.intro k1 k2)
def q255_21 : List (Nat × Instr × Nat) := [(21, .iload_n 1, 1)]
theorem e255_21 : am_dec am_M255 q255_21 = true := by decide +kernel
theorem e255_21_r : am_dec am_M255 [(22, .ireturn, 1)] = true := by decide +kernel
theorem b255_21 {d : Nat} {Q : Option Value ⊕ Nat → am_Mem → Prop} {μ : am_Mem} {r0 : Nat} {x1 : Int32}
    (k : Q (.inl (some (.int x1))) μ) :
    Wp d 255 (21, [some (.ref r0), some (.int x1)], [], μ) Q := wp_blk rfl e255_21 (wp_ri (ty := .int) rfl e255_21_r rfl ⟨rfl, rfl⟩ k)
def q255_23 : List (Nat × Instr × Nat) := [(23, .iinc 1 1, 3), (26, .goto (-24), 3)]
theorem e255_23 : am_dec am_M255 q255_23 = true := by decide +kernel
theorem b255_23 {d : Nat} {Q : Option Value ⊕ Nat → am_Mem → Prop} {μ : am_Mem} {r0 : Nat} {x1 : Int32}
    (k : Wp d 255 (2, [some (.ref r0), some (.int (x1 + Int32.ofInt 1))], [], μ) Q) :
    Wp d 255 (23, [some (.ref r0), some (.int x1)], [], μ) Q := wp_blk rfl e255_23 k
def q255_29 : List (Nat × Instr × Nat) := [(29, .aload_n 0, 1), (30, .getfield 631, 3), (33, .sipush 300, 3), (36, .if_icmp .ne 5, 3)]
theorem e255_29 : am_dec am_M255 q255_29 = true := by decide +kernel
theorem b255_29 {d : Nat} {Q : Option Value ⊕ Nat → am_Mem → Prop} {μ : am_Mem} {r0 : Nat} {x1 : Int32}
    (h1 : am_kd μ r0 = (1, 12))
    (k1 : ¬ (am_A μ r0 83) = ((Int16.ofInt 300).toInt32) → Wp d 255 (41, [some (.ref r0), some (.int x1)], [], μ) Q) (k2 : ¬ (¬ (am_A μ r0 83) = ((Int16.ofInt 300).toInt32)) → Wp d 255 (39, [some (.ref r0), some (.int x1)], [], μ) Q) :
    Wp d 255 (29, [some (.ref r0), some (.int x1)], [], μ) Q := wp_blk rfl e255_29 (And.intro h1 (And.intro k1 k2))
def q255_39 : List (Nat × Instr × Nat) := [(39, .iconst (-1), 1)]
theorem e255_39 : am_dec am_M255 q255_39 = true := by decide +kernel
theorem e255_39_r : am_dec am_M255 [(40, .ireturn, 1)] = true := by decide +kernel
theorem b255_39 {d : Nat} {Q : Option Value ⊕ Nat → am_Mem → Prop} {μ : am_Mem} {r0 : Nat} {x1 : Int32}
    (k : Q (.inl (some (.int (Int32.ofInt (-1))))) μ) :
    Wp d 255 (39, [some (.ref r0), some (.int x1)], [], μ) Q := wp_blk rfl e255_39 (wp_ri (ty := .int) rfl e255_39_r rfl ⟨rfl, rfl⟩ k)
def q255_41 : List (Nat × Instr × Nat) := [(41, .aload_n 0, 1), (42, .sipush 301, 3), (45, .aload_n 0, 1), (46, .getfield 631, 3)]
theorem e255_41 : am_dec am_M255 q255_41 = true := by decide +kernel
theorem e255_41_c : am_dc1 am_M255 49 (.invokevirtual 603) 3 = true := by decide +kernel
theorem b255_41 {d : Nat} {Q : Option Value ⊕ Nat → am_Mem → Prop} {μ : am_Mem} {r0 : Nat} {x1 : Int32} {P : am_Mem → Prop} {X : Nat → am_Mem → Prop}
    (h1 : am_kd μ r0 = (1, 12))
    (hk : am_kd μ r0 = (1, 12))
    (hc : Wp d 239 (0, [some (.ref r0), some (.int ((Int16.ofInt 301).toInt32)), some (.int (am_A μ r0 83)), none], [], μ) (pV P X)) (hr : ∀ μ', P μ' → Wp (d + 1) 255 (52, [some (.ref r0), some (.int x1)], [], (μ')) Q)
    (hx : ∀ x μ', X x μ' → Q (.inr x) μ') :
    Wp (d + 1) 255 (41, [some (.ref r0), some (.int x1)], [], μ) Q := wp_blk rfl e255_41 (And.intro h1 (wp_cv (as := [.int ((Int16.ofInt 301).toInt32), .int (am_A μ r0 83)]) rfl e255_41_c rfl rfl rfl rfl rfl hk hc (fun v μ' hv => by obtain ⟨rfl, hp⟩ := pV_r hv; exact hr μ' hp) hx))
def q255_52 : List (Nat × Instr × Nat) := [(52, .aload_n 0, 1), (53, .dup, 1), (54, .getfield 631, 3), (57, .iconst 1, 1), (58, .iadd, 1), (59, .putfield 631, 3), (62, .aload_n 0, 1), (63, .getfield 631, 3), (66, .iconst 1, 1), (67, .isub, 1)]
theorem e255_52 : am_dec am_M255 q255_52 = true := by decide +kernel
theorem e255_52_r : am_dec am_M255 [(68, .ireturn, 1)] = true := by decide +kernel
theorem b255_52 {d : Nat} {Q : Option Value ⊕ Nat → am_Mem → Prop} {μ : am_Mem} {r0 : Nat} {x1 : Int32}
    (h1 : am_kd μ r0 = (1, 12))
    (h2 : am_kd μ r0 = (1, 12))
    (h3 : am_kd (am_pA μ r0 83 ((am_A μ r0 83) + (Int32.ofInt 1))) r0 = (1, 12))
    (k : Q (.inl (some (.int ((am_A (am_pA μ r0 83 ((am_A μ r0 83) + (Int32.ofInt 1))) r0 83) - (Int32.ofInt 1))))) (am_pA μ r0 83 ((am_A μ r0 83) + (Int32.ofInt 1)))) :
    Wp d 255 (52, [some (.ref r0), some (.int x1)], [], μ) Q := wp_blk rfl e255_52 (And.intro h1 (And.intro h2 (And.intro ⟨rfl, rfl⟩ (And.intro h3 (wp_ri (ty := .int) rfl e255_52_r rfl ⟨rfl, rfl⟩ k)))))
/-! RuleSheetsModel.sameState(II)Z -/
def q256_0 : List (Nat × Instr × Nat) := [(0, .aload_n 0, 1), (1, .getfield 158, 3), (4, .iload_n 1, 1), (5, .iaload, 1), (6, .aload_n 0, 1), (7, .getfield 158, 3), (10, .iload_n 2, 1), (11, .iaload, 1), (12, .if_icmp .ne 7, 3)]
theorem e256_0 : am_dec am_M256 q256_0 = true := by decide +kernel
theorem b256_0 {d : Nat} {Q : Option Value ⊕ Nat → am_Mem → Prop} {μ : am_Mem} {r0 : Nat} {x1 x2 : Int32}
    (h1 : am_kd μ r0 = (1, 12))
    (h2 : ¬ am_F μ r0 74 = 15)
    (h3 : (am_kd μ (am_F μ r0 74)).1 = 2 ∨ (am_kd μ (am_F μ r0 74)).1 = 8)
    (h4 : ¬ (x1 < 0 ∨ (am_kd μ (am_F μ r0 74)).2 ≤ x1.toNatClampNeg))
    (h5 : am_kd μ r0 = (1, 12))
    (h6 : ¬ am_F μ r0 74 = 15)
    (h7 : (am_kd μ (am_F μ r0 74)).1 = 2 ∨ (am_kd μ (am_F μ r0 74)).1 = 8)
    (h8 : ¬ (x2 < 0 ∨ (am_kd μ (am_F μ r0 74)).2 ≤ x2.toNatClampNeg))
    (k1 : ¬ (am_A μ (am_F μ r0 74) x1.toNatClampNeg) = (am_A μ (am_F μ r0 74) x2.toNatClampNeg) → Wp d 256 (19, [some (.ref r0), some (.int x1), some (.int x2), none, none], [], μ) Q) (k2 : ¬ (¬ (am_A μ (am_F μ r0 74) x1.toNatClampNeg) = (am_A μ (am_F μ r0 74) x2.toNatClampNeg)) → Wp d 256 (15, [some (.ref r0), some (.int x1), some (.int x2), none, none], [], μ) Q) :
    Wp d 256 (0, [some (.ref r0), some (.int x1), some (.int x2), none, none], [], μ) Q := wp_blk rfl e256_0 (And.intro h1 (And.intro h2 (And.intro h3 (And.intro h4 (And.intro h5 (And.intro h6 (And.intro h7 (And.intro h8 (And.intro k1 k2)))))))))
def q256_15 : List (Nat × Instr × Nat) := [(15, .iconst 1, 1), (16, .goto 4, 3)]
theorem e256_15 : am_dec am_M256 q256_15 = true := by decide +kernel
theorem b256_15 {d : Nat} {Q : Option Value ⊕ Nat → am_Mem → Prop} {μ : am_Mem} {r0 : Nat} {x1 x2 : Int32}
    (k : Wp d 256 (20, [some (.ref r0), some (.int x1), some (.int x2), none, none], [.int (Int32.ofInt 1)], μ) Q) :
    Wp d 256 (15, [some (.ref r0), some (.int x1), some (.int x2), none, none], [], μ) Q := wp_blk rfl e256_15 k
def q256_19 : List (Nat × Instr × Nat) := [(19, .iconst 0, 1)]
theorem e256_19 : am_dec am_M256 q256_19 = true := by decide +kernel
theorem b256_19 {d : Nat} {Q : Option Value ⊕ Nat → am_Mem → Prop} {μ : am_Mem} {r0 : Nat} {x1 x2 : Int32}
    (k : Wp d 256 (20, [some (.ref r0), some (.int x1), some (.int x2), none, none], [.int (Int32.ofInt 0)], μ) Q) :
    Wp d 256 (19, [some (.ref r0), some (.int x1), some (.int x2), none, none], [], μ) Q := wp_blk rfl e256_19 k
def q256_20 : List (Nat × Instr × Nat) := [(20, .istore_n 3, 1), (21, .iconst 0, 1), (22, .istore 4, 2)]
theorem e256_20 : am_dec am_M256 q256_20 = true := by decide +kernel
theorem b256_20 {d : Nat} {Q : Option Value ⊕ Nat → am_Mem → Prop} {μ : am_Mem} {r0 : Nat} {x1 x2 s0 : Int32}
    (k : Wp d 256 (24, [some (.ref r0), some (.int x1), some (.int x2), some (.int s0), some (.int (Int32.ofInt 0))], [], μ) Q) :
    Wp d 256 (20, [some (.ref r0), some (.int x1), some (.int x2), none, none], [.int s0], μ) Q := wp_blk rfl e256_20 k
def q256_24 : List (Nat × Instr × Nat) := [(24, .iload 4, 2), (26, .bipush 49, 2), (28, .aload_n 0, 1), (29, .getfield 158, 3), (32, .iload_n 1, 1), (33, .iaload, 1), (34, .imul, 1), (35, .if_icmp .ge 48, 3)]
theorem e256_24 : am_dec am_M256 q256_24 = true := by decide +kernel
theorem b256_24 {d : Nat} {Q : Option Value ⊕ Nat → am_Mem → Prop} {μ : am_Mem} {r0 : Nat} {x1 x2 x3 x4 : Int32}
    (h1 : am_kd μ r0 = (1, 12))
    (h2 : ¬ am_F μ r0 74 = 15)
    (h3 : (am_kd μ (am_F μ r0 74)).1 = 2 ∨ (am_kd μ (am_F μ r0 74)).1 = 8)
    (h4 : ¬ (x1 < 0 ∨ (am_kd μ (am_F μ r0 74)).2 ≤ x1.toNatClampNeg))
    (k1 : (((Int8.ofInt 49).toInt32) * (am_A μ (am_F μ r0 74) x1.toNatClampNeg)) ≤ x4 → Wp d 256 (83, [some (.ref r0), some (.int x1), some (.int x2), some (.int x3), some (.int x4)], [], μ) Q) (k2 : ¬ ((((Int8.ofInt 49).toInt32) * (am_A μ (am_F μ r0 74) x1.toNatClampNeg)) ≤ x4) → Wp d 256 (38, [some (.ref r0), some (.int x1), some (.int x2), some (.int x3), some (.int x4)], [], μ) Q) :
    Wp d 256 (24, [some (.ref r0), some (.int x1), some (.int x2), some (.int x3), some (.int x4)], [], μ) Q := wp_blk rfl e256_24 (And.intro h1 (And.intro h2 (And.intro h3 (And.intro h4 (And.intro k1 k2)))))
def q256_38 : List (Nat × Instr × Nat) := [(38, .iload_n 3, 1), (39, .ifCond .eq 44, 3)]
theorem e256_38 : am_dec am_M256 q256_38 = true := by decide +kernel
theorem b256_38 {d : Nat} {Q : Option Value ⊕ Nat → am_Mem → Prop} {μ : am_Mem} {r0 : Nat} {x1 x2 x3 x4 : Int32}
    (k1 : x3 = 0 → Wp d 256 (83, [some (.ref r0), some (.int x1), some (.int x2), some (.int x3), some (.int x4)], [], μ) Q) (k2 : ¬ (x3 = 0) → Wp d 256 (42, [some (.ref r0), some (.int x1), some (.int x2), some (.int x3), some (.int x4)], [], μ) Q) :
    Wp d 256 (38, [some (.ref r0), some (.int x1), some (.int x2), some (.int x3), some (.int x4)], [], μ) Q := wp_blk rfl e256_38 (And.intro k1 k2)
def q256_42 : List (Nat × Instr × Nat) := [(42, .aload_n 0, 1), (43, .getfield 154, 3), (46, .sipush 2940, 3), (49, .iload_n 1, 1), (50, .imul, 1), (51, .iload 4, 2), (53, .iadd, 1), (54, .baload, 1), (55, .aload_n 0, 1), (56, .getfield 154, 3), (59, .sipush 2940, 3), (62, .iload_n 2, 1), (63, .imul, 1), (64, .iload 4, 2), (66, .iadd, 1), (67, .baload, 1), (68, .if_icmp .ne 7, 3)]
theorem e256_42 : am_dec am_M256 q256_42 = true := by decide +kernel
theorem b256_42 {d : Nat} {Q : Option Value ⊕ Nat → am_Mem → Prop} {μ : am_Mem} {r0 : Nat} {x1 x2 x3 x4 : Int32}
    (h1 : am_kd μ r0 = (1, 12))
    (h2 : ¬ am_F μ r0 73 = 15)
    (h3 : (am_kd μ (am_F μ r0 73)).1 = 3 ∨ (am_kd μ (am_F μ r0 73)).1 = 4 ∨ (am_kd μ (am_F μ r0 73)).1 = 10)
    (h4 : ¬ (((((Int16.ofInt 2940).toInt32) * x1) + x4) < 0 ∨ (am_kd μ (am_F μ r0 73)).2 ≤ ((((Int16.ofInt 2940).toInt32) * x1) + x4).toNatClampNeg))
    (h5 : am_kd μ r0 = (1, 12))
    (h6 : ¬ am_F μ r0 73 = 15)
    (h7 : (am_kd μ (am_F μ r0 73)).1 = 3 ∨ (am_kd μ (am_F μ r0 73)).1 = 4 ∨ (am_kd μ (am_F μ r0 73)).1 = 10)
    (h8 : ¬ (((((Int16.ofInt 2940).toInt32) * x2) + x4) < 0 ∨ (am_kd μ (am_F μ r0 73)).2 ≤ ((((Int16.ofInt 2940).toInt32) * x2) + x4).toNatClampNeg))
    (k1 : ¬ (am_A μ (am_F μ r0 73) ((((Int16.ofInt 2940).toInt32) * x1) + x4).toNatClampNeg) = (am_A μ (am_F μ r0 73) ((((Int16.ofInt 2940).toInt32) * x2) + x4).toNatClampNeg) → Wp d 256 (75, [some (.ref r0), some (.int x1), some (.int x2), some (.int x3), some (.int x4)], [], μ) Q) (k2 : ¬ (¬ (am_A μ (am_F μ r0 73) ((((Int16.ofInt 2940).toInt32) * x1) + x4).toNatClampNeg) = (am_A μ (am_F μ r0 73) ((((Int16.ofInt 2940).toInt32) * x2) + x4).toNatClampNeg)) → Wp d 256 (71, [some (.ref r0), some (.int x1), some (.int x2), some (.int x3), some (.int x4)], [], μ) Q) :
    Wp d 256 (42, [some (.ref r0), some (.int x1), some (.int x2), some (.int x3), some (.int x4)], [], μ) Q := wp_blk rfl e256_42 (And.intro h1 (And.intro h2 (And.intro h3 (And.intro h4 (And.intro h5 (And.intro h6 (And.intro h7 (And.intro h8 (And.intro k1 k2)))))))))
def q256_71 : List (Nat × Instr × Nat) := [(71, .iconst 1, 1), (72, .goto 4, 3)]
theorem e256_71 : am_dec am_M256 q256_71 = true := by decide +kernel
theorem b256_71 {d : Nat} {Q : Option Value ⊕ Nat → am_Mem → Prop} {μ : am_Mem} {r0 : Nat} {x1 x2 x3 x4 : Int32}
    (k : Wp d 256 (76, [some (.ref r0), some (.int x1), some (.int x2), some (.int x3), some (.int x4)], [.int (Int32.ofInt 1)], μ) Q) :
    Wp d 256 (71, [some (.ref r0), some (.int x1), some (.int x2), some (.int x3), some (.int x4)], [], μ) Q := wp_blk rfl e256_71 k
def q256_75 : List (Nat × Instr × Nat) := [(75, .iconst 0, 1)]
theorem e256_75 : am_dec am_M256 q256_75 = true := by decide +kernel
theorem b256_75 {d : Nat} {Q : Option Value ⊕ Nat → am_Mem → Prop} {μ : am_Mem} {r0 : Nat} {x1 x2 x3 x4 : Int32}
    (k : Wp d 256 (76, [some (.ref r0), some (.int x1), some (.int x2), some (.int x3), some (.int x4)], [.int (Int32.ofInt 0)], μ) Q) :
    Wp d 256 (75, [some (.ref r0), some (.int x1), some (.int x2), some (.int x3), some (.int x4)], [], μ) Q := wp_blk rfl e256_75 k
def q256_76 : List (Nat × Instr × Nat) := [(76, .istore_n 3, 1), (77, .iinc 4 1, 3), (80, .goto (-56), 3)]
theorem e256_76 : am_dec am_M256 q256_76 = true := by decide +kernel
theorem b256_76 {d : Nat} {Q : Option Value ⊕ Nat → am_Mem → Prop} {μ : am_Mem} {r0 : Nat} {x1 x2 x3 x4 s0 : Int32}
    (k : Wp d 256 (24, [some (.ref r0), some (.int x1), some (.int x2), some (.int s0), some (.int (x4 + Int32.ofInt 1))], [], μ) Q) :
    Wp d 256 (76, [some (.ref r0), some (.int x1), some (.int x2), some (.int x3), some (.int x4)], [.int s0], μ) Q := wp_blk rfl e256_76 k
def q256_83 : List (Nat × Instr × Nat) := [(83, .iload_n 3, 1)]
theorem e256_83 : am_dec am_M256 q256_83 = true := by decide +kernel
theorem e256_83_r : am_dec am_M256 [(84, .ireturn, 1)] = true := by decide +kernel
theorem b256_83 {d : Nat} {Q : Option Value ⊕ Nat → am_Mem → Prop} {μ : am_Mem} {r0 : Nat} {x1 x2 x3 x4 : Int32}
    (hn : narrow .boolean (.int x3) = .int x3 ∧ fits .boolean (.int x3) = true)
    (k : Q (.inl (some (.int x3))) μ) :
    Wp d 256 (83, [some (.ref r0), some (.int x1), some (.int x2), some (.int x3), some (.int x4)], [], μ) Q := wp_blk rfl e256_83 (wp_ri (ty := .boolean) rfl e256_83_r rfl hn k)
/-! RuleSheetsModel.expand(IJ)Z -/
def q257_0 : List (Nat × Instr × Nat) := [(0, .aload_n 0, 1), (1, .iload_n 1, 1), (2, .iconst 0, 1)]
theorem e257_0 : am_dec am_M257 q257_0 = true := by decide +kernel
theorem e257_0_c : am_dc1 am_M257 3 (.invokevirtual 596) 3 = true := by decide +kernel
theorem b257_0 {d : Nat} {Q : Option Value ⊕ Nat → am_Mem → Prop} {μ : am_Mem} {r0 : Nat} {x1 : Int32} {y2 : Int64} {P : Int32 → am_Mem → Prop} {X : Nat → am_Mem → Prop}
    (hk : am_kd μ r0 = (1, 12))
    (hc : Wp d 212 (0, [some (.ref r0), some (.int x1), some (.int (Int32.ofInt 0)), none, none, none, none], [], μ) (pI P X)) (hr : ∀ x μ', P x μ' → Wp (d + 1) 257 (6, [some (.ref r0), some (.int x1), some (.long y2), none, none, none, none, none, none], [.int x], (μ')) Q)
    (hx : ∀ x μ', X x μ' → Q (.inr x) μ') :
    Wp (d + 1) 257 (0, [some (.ref r0), some (.int x1), some (.long y2), none, none, none, none, none, none], [], μ) Q := wp_blk rfl e257_0 (wp_cv (as := [.int x1, .int (Int32.ofInt 0)]) rfl e257_0_c rfl rfl rfl rfl rfl hk hc (fun v μ' hv => by obtain ⟨x, rfl, hp⟩ := pI_r hv; exact hr x μ' hp) hx)
def q257_6 : List (Nat × Instr × Nat) := [(6, .ifCond .ne 5, 3)]
theorem e257_6 : am_dec am_M257 q257_6 = true := by decide +kernel
theorem b257_6 {d : Nat} {Q : Option Value ⊕ Nat → am_Mem → Prop} {μ : am_Mem} {r0 : Nat} {x1 s0 : Int32} {y2 : Int64}
    (k1 : ¬ s0 = 0 → Wp d 257 (11, [some (.ref r0), some (.int x1), some (.long y2), none, none, none, none, none, none], [], μ) Q) (k2 : ¬ (¬ s0 = 0) → Wp d 257 (9, [some (.ref r0), some (.int x1), some (.long y2), none, none, none, none, none, none], [], μ) Q) :
    Wp d 257 (6, [some (.ref r0), some (.int x1), some (.long y2), none, none, none, none, none, none], [.int s0], μ) Q := wp_blk rfl e257_6 (And.intro k1 k2)
def q257_9 : List (Nat × Instr × Nat) := [(9, .iconst 0, 1)]
theorem e257_9 : am_dec am_M257 q257_9 = true := by decide +kernel
theorem e257_9_r : am_dec am_M257 [(10, .ireturn, 1)] = true := by decide +kernel
theorem b257_9 {d : Nat} {Q : Option Value ⊕ Nat → am_Mem → Prop} {μ : am_Mem} {r0 : Nat} {x1 : Int32} {y2 : Int64}
    (k : Q (.inl (some (.int (Int32.ofInt 0)))) μ) :
    Wp d 257 (9, [some (.ref r0), some (.int x1), some (.long y2), none, none, none, none, none, none], [], μ) Q := wp_blk rfl e257_9 (wp_ri (ty := .boolean) rfl e257_9_r rfl (by decide) k)
def q257_11 : List (Nat × Instr × Nat) := [(11, .lload_n 2, 1), (12, .aload_n 0, 1), (13, .getfield 518, 3), (16, .ladd, 1), (17, .lstore 4, 2), (19, .aload_n 0, 1)]
theorem e257_11 : am_dec am_M257 q257_11 = true := by decide +kernel
theorem e257_11_c : am_dc1 am_M257 20 (.invokevirtual 606) 3 = true := by decide +kernel
theorem b257_11 {d : Nat} {Q : Option Value ⊕ Nat → am_Mem → Prop} {μ : am_Mem} {r0 : Nat} {x1 : Int32} {y2 : Int64} {P : am_Mem → Prop} {X : Nat → am_Mem → Prop}
    (h1 : am_kd μ r0 = (1, 12))
    (hk : am_kd μ r0 = (1, 12))
    (hc : Wp d 243 (0, [some (.ref r0), none, none, none], [], μ) (pV P X)) (hr : ∀ μ', P μ' → Wp (d + 1) 257 (23, [some (.ref r0), some (.int x1), some (.long y2), none, some (.long (y2 + (am_L μ r0 57))), none, none, none, none], [], (μ')) Q)
    (hx : ∀ x μ', X x μ' → Q (.inr x) μ') :
    Wp (d + 1) 257 (11, [some (.ref r0), some (.int x1), some (.long y2), none, none, none, none, none, none], [], μ) Q := wp_blk rfl e257_11 (And.intro h1 (wp_cv (as := []) rfl e257_11_c rfl rfl rfl rfl rfl hk hc (fun v μ' hv => by obtain ⟨rfl, hp⟩ := pV_r hv; exact hr μ' hp) hx))
def q257_23 : List (Nat × Instr × Nat) := [(23, .aload_n 0, 1), (24, .getfield 174, 3), (27, .iload_n 1, 1), (28, .aload_n 0, 1)]
theorem e257_23 : am_dec am_M257 q257_23 = true := by decide +kernel
theorem e257_23_c : am_dc1 am_M257 29 (.invokevirtual 615) 3 = true := by decide +kernel
theorem b257_23 {d : Nat} {Q : Option Value ⊕ Nat → am_Mem → Prop} {μ : am_Mem} {r0 : Nat} {x1 : Int32} {y2 y4 : Int64} {P : Int32 → am_Mem → Prop} {X : Nat → am_Mem → Prop}
    (h1 : am_kd μ r0 = (1, 12))
    (h2 : ¬ am_F μ r0 84 = 15)
    (hk : am_kd μ r0 = (1, 12))
    (hc : Wp d 245 (0, [some (.ref r0)], [], μ) (pI P X)) (hr : ∀ x μ', P x μ' → Wp (d + 1) 257 (32, [some (.ref r0), some (.int x1), some (.long y2), none, some (.long y4), none, none, none, none], [.int x, .int x1, .ref (am_F μ r0 84)], (μ')) Q)
    (hx : ∀ x μ', X x μ' → Q (.inr x) μ') :
    Wp (d + 1) 257 (23, [some (.ref r0), some (.int x1), some (.long y2), none, some (.long y4), none, none, none, none], [], μ) Q := wp_blk rfl e257_23 (And.intro h1 (And.intro h2 (wp_cv (as := []) rfl e257_23_c rfl rfl rfl rfl rfl hk hc (fun v μ' hv => by obtain ⟨x, rfl, hp⟩ := pI_r hv; exact hr x μ' hp) hx)))
def q257_32 : List (Nat × Instr × Nat) := [(32, .bastore, 1), (33, .iconst 0, 1), (34, .istore 6, 2)]
theorem e257_32 : am_dec am_M257 q257_32 = true := by decide +kernel
theorem b257_32 {d : Nat} {Q : Option Value ⊕ Nat → am_Mem → Prop} {μ : am_Mem} {r0 r90 : Nat} {x1 s1 s2 : Int32} {y2 y4 : Int64}
    (h1 : (am_kd μ r90).1 = 3 ∨ (am_kd μ r90).1 = 4)
    (h2 : ¬ (s1 < 0 ∨ (am_kd μ r90).2 ≤ s1.toNatClampNeg))
    (k : Wp d 257 (36, [some (.ref r0), some (.int x1), some (.long y2), none, some (.long y4), none, some (.int (Int32.ofInt 0)), none, none], [], (am_pA μ r90 s1.toNatClampNeg (am_nar (am_kd μ r90).1 s2))) Q) :
    Wp d 257 (32, [some (.ref r0), some (.int x1), some (.long y2), none, some (.long y4), none, none, none, none], [.int s2, .int s1, .ref r90], μ) Q := wp_blk rfl e257_32 (And.intro h1 (And.intro h2 k))
def q257_36 : List (Nat × Instr × Nat) := [(36, .iload 6, 2), (38, .iconst 2, 1), (39, .if_icmp .ge 70, 3)]
theorem e257_36 : am_dec am_M257 q257_36 = true := by decide +kernel
theorem b257_36 {d : Nat} {Q : Option Value ⊕ Nat → am_Mem → Prop} {μ : am_Mem} {r0 : Nat} {x1 x6 : Int32} {y2 y4 : Int64}
    (k1 : (Int32.ofInt 2) ≤ x6 → Wp d 257 (109, [some (.ref r0), some (.int x1), some (.long y2), none, some (.long y4), none, some (.int x6), none, none], [], μ) Q) (k2 : ¬ ((Int32.ofInt 2) ≤ x6) → Wp d 257 (42, [some (.ref r0), some (.int x1), some (.long y2), none, some (.long y4), none, some (.int x6), none, none], [], μ) Q) :
    Wp d 257 (36, [some (.ref r0), some (.int x1), some (.long y2), none, some (.long y4), none, some (.int x6), none, none], [], μ) Q := wp_blk rfl e257_36 (And.intro k1 k2)
def q257_42 : List (Nat × Instr × Nat) := [(42, .aload_n 0, 1), (43, .getfield 183, 3), (46, .iconst 2, 1), (47, .iload_n 1, 1), (48, .imul, 1), (49, .iload 6, 2), (51, .iadd, 1), (52, .iload 6, 2), (54, .aload_n 0, 1), (55, .getfield 551, 3), (58, .if_icmp .ge 12, 3)]
theorem e257_42 : am_dec am_M257 q257_42 = true := by decide +kernel
theorem b257_42 {d : Nat} {Q : Option Value ⊕ Nat → am_Mem → Prop} {μ : am_Mem} {r0 : Nat} {x1 x6 : Int32} {y2 y4 : Int64}
    (h1 : am_kd μ r0 = (1, 12))
    (h2 : ¬ am_F μ r0 87 = 15)
    (h3 : am_kd μ r0 = (1, 12))
    (k1 : (am_A μ r0 70) ≤ x6 → Wp d 257 (70, [some (.ref r0), some (.int x1), some (.long y2), none, some (.long y4), none, some (.int x6), none, none], [.int (((Int32.ofInt 2) * x1) + x6), .ref (am_F μ r0 87)], μ) Q) (k2 : ¬ ((am_A μ r0 70) ≤ x6) → Wp d 257 (61, [some (.ref r0), some (.int x1), some (.long y2), none, some (.long y4), none, some (.int x6), none, none], [.int (((Int32.ofInt 2) * x1) + x6), .ref (am_F μ r0 87)], μ) Q) :
    Wp d 257 (42, [some (.ref r0), some (.int x1), some (.long y2), none, some (.long y4), none, some (.int x6), none, none], [], μ) Q := wp_blk rfl e257_42 (And.intro h1 (And.intro h2 (And.intro h3 (And.intro k1 k2))))
def q257_61 : List (Nat × Instr × Nat) := [(61, .aload_n 0, 1), (62, .iload 6, 2)]
theorem e257_61 : am_dec am_M257 q257_61 = true := by decide +kernel
theorem e257_61_c : am_dc1 am_M257 64 (.invokevirtual 618) 3 = true := by decide +kernel
theorem b257_61 {d : Nat} {Q : Option Value ⊕ Nat → am_Mem → Prop} {μ : am_Mem} {r0 r90 : Nat} {x1 x6 s1 : Int32} {y2 y4 : Int64} {P : Int32 → am_Mem → Prop} {X : Nat → am_Mem → Prop}
    (hk : am_kd μ r0 = (1, 12))
    (hc : Wp d 247 (0, [some (.ref r0), some (.int x6), none, none, none, none], [], μ) (pI P X)) (hr : ∀ x μ', P x μ' → Wp (d + 1) 257 (67, [some (.ref r0), some (.int x1), some (.long y2), none, some (.long y4), none, some (.int x6), none, none], [.int x, .int s1, .ref r90], (μ')) Q)
    (hx : ∀ x μ', X x μ' → Q (.inr x) μ') :
    Wp (d + 1) 257 (61, [some (.ref r0), some (.int x1), some (.long y2), none, some (.long y4), none, some (.int x6), none, none], [.int s1, .ref r90], μ) Q := wp_blk rfl e257_61 (wp_cv (as := [.int x6]) rfl e257_61_c rfl rfl rfl rfl rfl hk hc (fun v μ' hv => by obtain ⟨x, rfl, hp⟩ := pI_r hv; exact hr x μ' hp) hx)
def q257_67 : List (Nat × Instr × Nat) := [(67, .goto 4, 3)]
theorem e257_67 : am_dec am_M257 q257_67 = true := by decide +kernel
theorem b257_67 {d : Nat} {Q : Option Value ⊕ Nat → am_Mem → Prop} {μ : am_Mem} {r0 r90 : Nat} {x1 x6 s1 s2 : Int32} {y2 y4 : Int64}
    (k : Wp d 257 (71, [some (.ref r0), some (.int x1), some (.long y2), none, some (.long y4), none, some (.int x6), none, none], [.int s2, .int s1, .ref r90], μ) Q) :
    Wp d 257 (67, [some (.ref r0), some (.int x1), some (.long y2), none, some (.long y4), none, some (.int x6), none, none], [.int s2, .int s1, .ref r90], μ) Q := wp_blk rfl e257_67 k
def q257_70 : List (Nat × Instr × Nat) := [(70, .iconst (-1), 1)]
theorem e257_70 : am_dec am_M257 q257_70 = true := by decide +kernel
theorem b257_70 {d : Nat} {Q : Option Value ⊕ Nat → am_Mem → Prop} {μ : am_Mem} {r0 r90 : Nat} {x1 x6 s1 : Int32} {y2 y4 : Int64}
    (k : Wp d 257 (71, [some (.ref r0), some (.int x1), some (.long y2), none, some (.long y4), none, some (.int x6), none, none], [.int (Int32.ofInt (-1)), .int s1, .ref r90], μ) Q) :
    Wp d 257 (70, [some (.ref r0), some (.int x1), some (.long y2), none, some (.long y4), none, some (.int x6), none, none], [.int s1, .ref r90], μ) Q := wp_blk rfl e257_70 k
def q257_71 : List (Nat × Instr × Nat) := [(71, .iastore, 1), (72, .aload_n 0, 1), (73, .getfield 186, 3), (76, .iconst 2, 1), (77, .iload_n 1, 1), (78, .imul, 1), (79, .iload 6, 2), (81, .iadd, 1), (82, .iload 6, 2), (84, .aload_n 0, 1), (85, .getfield 551, 3), (88, .if_icmp .ge 13, 3)]
theorem e257_71 : am_dec am_M257 q257_71 = true := by decide +kernel
theorem b257_71 {d : Nat} {Q : Option Value ⊕ Nat → am_Mem → Prop} {μ : am_Mem} {r0 r90 : Nat} {x1 x6 s1 s2 : Int32} {y2 y4 : Int64}
    (h1 : (am_kd μ r90).1 = 2)
    (h2 : ¬ (s1 < 0 ∨ (am_kd μ r90).2 ≤ s1.toNatClampNeg))
    (h3 : am_kd (am_pA μ r90 s1.toNatClampNeg s2) r0 = (1, 12))
    (h4 : ¬ am_F (am_pA μ r90 s1.toNatClampNeg s2) r0 88 = 15)
    (h5 : am_kd (am_pA μ r90 s1.toNatClampNeg s2) r0 = (1, 12))
    (k1 : (am_A (am_pA μ r90 s1.toNatClampNeg s2) r0 70) ≤ x6 → Wp d 257 (101, [some (.ref r0), some (.int x1), some (.long y2), none, some (.long y4), none, some (.int x6), none, none], [.int (((Int32.ofInt 2) * x1) + x6), .ref (am_F (am_pA μ r90 s1.toNatClampNeg s2) r0 88)], (am_pA μ r90 s1.toNatClampNeg s2)) Q) (k2 : ¬ ((am_A (am_pA μ r90 s1.toNatClampNeg s2) r0 70) ≤ x6) → Wp d 257 (91, [some (.ref r0), some (.int x1), some (.long y2), none, some (.long y4), none, some (.int x6), none, none], [.int (((Int32.ofInt 2) * x1) + x6), .ref (am_F (am_pA μ r90 s1.toNatClampNeg s2) r0 88)], (am_pA μ r90 s1.toNatClampNeg s2)) Q) :
    Wp d 257 (71, [some (.ref r0), some (.int x1), some (.long y2), none, some (.long y4), none, some (.int x6), none, none], [.int s2, .int s1, .ref r90], μ) Q := wp_blk rfl e257_71 (And.intro h1 (And.intro h2 (And.intro h3 (And.intro h4 (And.intro h5 (And.intro k1 k2))))))
def q257_91 : List (Nat × Instr × Nat) := [(91, .aload_n 0, 1), (92, .getfield 161, 3), (95, .iload 6, 2), (97, .iaload, 1), (98, .goto 4, 3)]
theorem e257_91 : am_dec am_M257 q257_91 = true := by decide +kernel
theorem b257_91 {d : Nat} {Q : Option Value ⊕ Nat → am_Mem → Prop} {μ : am_Mem} {r0 r90 : Nat} {x1 x6 s1 : Int32} {y2 y4 : Int64}
    (h1 : am_kd μ r0 = (1, 12))
    (h2 : ¬ am_F μ r0 76 = 15)
    (h3 : (am_kd μ (am_F μ r0 76)).1 = 2 ∨ (am_kd μ (am_F μ r0 76)).1 = 8)
    (h4 : ¬ (x6 < 0 ∨ (am_kd μ (am_F μ r0 76)).2 ≤ x6.toNatClampNeg))
    (k : Wp d 257 (102, [some (.ref r0), some (.int x1), some (.long y2), none, some (.long y4), none, some (.int x6), none, none], [.int (am_A μ (am_F μ r0 76) x6.toNatClampNeg), .int s1, .ref r90], μ) Q) :
    Wp d 257 (91, [some (.ref r0), some (.int x1), some (.long y2), none, some (.long y4), none, some (.int x6), none, none], [.int s1, .ref r90], μ) Q := wp_blk rfl e257_91 (And.intro h1 (And.intro h2 (And.intro h3 (And.intro h4 k))))
def q257_101 : List (Nat × Instr × Nat) := [(101, .iconst 0, 1)]
theorem e257_101 : am_dec am_M257 q257_101 = true := by decide +kernel
theorem b257_101 {d : Nat} {Q : Option Value ⊕ Nat → am_Mem → Prop} {μ : am_Mem} {r0 r90 : Nat} {x1 x6 s1 : Int32} {y2 y4 : Int64}
    (k : Wp d 257 (102, [some (.ref r0), some (.int x1), some (.long y2), none, some (.long y4), none, some (.int x6), none, none], [.int (Int32.ofInt 0), .int s1, .ref r90], μ) Q) :
    Wp d 257 (101, [some (.ref r0), some (.int x1), some (.long y2), none, some (.long y4), none, some (.int x6), none, none], [.int s1, .ref r90], μ) Q := wp_blk rfl e257_101 k
def q257_102 : List (Nat × Instr × Nat) := [(102, .iastore, 1), (103, .iinc 6 1, 3), (106, .goto (-70), 3)]
theorem e257_102 : am_dec am_M257 q257_102 = true := by decide +kernel
theorem b257_102 {d : Nat} {Q : Option Value ⊕ Nat → am_Mem → Prop} {μ : am_Mem} {r0 r90 : Nat} {x1 x6 s1 s2 : Int32} {y2 y4 : Int64}
    (h1 : (am_kd μ r90).1 = 2)
    (h2 : ¬ (s1 < 0 ∨ (am_kd μ r90).2 ≤ s1.toNatClampNeg))
    (k : Wp d 257 (36, [some (.ref r0), some (.int x1), some (.long y2), none, some (.long y4), none, some (.int (x6 + Int32.ofInt 1)), none, none], [], (am_pA μ r90 s1.toNatClampNeg s2)) Q) :
    Wp d 257 (102, [some (.ref r0), some (.int x1), some (.long y2), none, some (.long y4), none, some (.int x6), none, none], [.int s2, .int s1, .ref r90], μ) Q := wp_blk rfl e257_102 (And.intro h1 (And.intro h2 k))
def q257_109 : List (Nat × Instr × Nat) := [(109, .aload_n 0, 1), (110, .getfield 174, 3), (113, .iload_n 1, 1), (114, .baload, 1), (115, .ifCond .eq 7, 3)]
theorem e257_109 : am_dec am_M257 q257_109 = true := by decide +kernel
theorem b257_109 {d : Nat} {Q : Option Value ⊕ Nat → am_Mem → Prop} {μ : am_Mem} {r0 : Nat} {x1 x6 : Int32} {y2 y4 : Int64}
    (h1 : am_kd μ r0 = (1, 12))
    (h2 : ¬ am_F μ r0 84 = 15)
    (h3 : (am_kd μ (am_F μ r0 84)).1 = 3 ∨ (am_kd μ (am_F μ r0 84)).1 = 4 ∨ (am_kd μ (am_F μ r0 84)).1 = 10)
    (h4 : ¬ (x1 < 0 ∨ (am_kd μ (am_F μ r0 84)).2 ≤ x1.toNatClampNeg))
    (k1 : (am_A μ (am_F μ r0 84) x1.toNatClampNeg) = 0 → Wp d 257 (122, [some (.ref r0), some (.int x1), some (.long y2), none, some (.long y4), none, some (.int x6), none, none], [], μ) Q) (k2 : ¬ ((am_A μ (am_F μ r0 84) x1.toNatClampNeg) = 0) → Wp d 257 (118, [some (.ref r0), some (.int x1), some (.long y2), none, some (.long y4), none, some (.int x6), none, none], [], μ) Q) :
    Wp d 257 (109, [some (.ref r0), some (.int x1), some (.long y2), none, some (.long y4), none, some (.int x6), none, none], [], μ) Q := wp_blk rfl e257_109 (And.intro h1 (And.intro h2 (And.intro h3 (And.intro h4 (And.intro k1 k2)))))
def q257_118 : List (Nat × Instr × Nat) := [(118, .lconst 0, 1), (119, .goto 7, 3)]
theorem e257_118 : am_dec am_M257 q257_118 = true := by decide +kernel
theorem b257_118 {d : Nat} {Q : Option Value ⊕ Nat → am_Mem → Prop} {μ : am_Mem} {r0 : Nat} {x1 x6 : Int32} {y2 y4 : Int64}
    (k : Wp d 257 (126, [some (.ref r0), some (.int x1), some (.long y2), none, some (.long y4), none, some (.int x6), none, none], [.long (Int64.ofNat 0)], μ) Q) :
    Wp d 257 (118, [some (.ref r0), some (.int x1), some (.long y2), none, some (.long y4), none, some (.int x6), none, none], [], μ) Q := wp_blk rfl e257_118 k
def q257_122 : List (Nat × Instr × Nat) := [(122, .aload_n 0, 1)]
theorem e257_122 : am_dec am_M257 q257_122 = true := by decide +kernel
theorem e257_122_c : am_dc1 am_M257 123 (.invokevirtual 621) 3 = true := by decide +kernel
theorem b257_122 {d : Nat} {Q : Option Value ⊕ Nat → am_Mem → Prop} {μ : am_Mem} {r0 : Nat} {x1 x6 : Int32} {y2 y4 : Int64} {P : Int64 → am_Mem → Prop} {X : Nat → am_Mem → Prop}
    (hk : am_kd μ r0 = (1, 12))
    (hc : Wp d 250 (0, [some (.ref r0), none, none, none], [], μ) (pL P X)) (hr : ∀ x μ', P x μ' → Wp (d + 1) 257 (126, [some (.ref r0), some (.int x1), some (.long y2), none, some (.long y4), none, some (.int x6), none, none], [.long x], (μ')) Q)
    (hx : ∀ x μ', X x μ' → Q (.inr x) μ') :
    Wp (d + 1) 257 (122, [some (.ref r0), some (.int x1), some (.long y2), none, some (.long y4), none, some (.int x6), none, none], [], μ) Q := wp_blk rfl e257_122 (wp_cv (as := []) rfl e257_122_c rfl rfl rfl rfl rfl hk hc (fun v μ' hv => by obtain ⟨x, rfl, hp⟩ := pL_r hv; exact hr x μ' hp) hx)
def q257_126 : List (Nat × Instr × Nat) := [(126, .lstore 6, 2), (128, .lload 6, 2), (130, .ldc2_w 637, 3), (133, .lcmp, 1), (134, .ifCond .gt 12, 3)]
theorem e257_126 : am_dec am_M257 q257_126 = true := by decide +kernel
theorem b257_126 {d : Nat} {Q : Option Value ⊕ Nat → am_Mem → Prop} {μ : am_Mem} {r0 : Nat} {x1 x6 : Int32} {y2 y4 y90 : Int64}
    (k1 : 0 < (lg_cmp y90 (40 : Int64)) → Wp d 257 (146, [some (.ref r0), some (.int x1), some (.long y2), none, some (.long y4), none, some (.long y90), none, none], [], μ) Q) (k2 : ¬ (0 < (lg_cmp y90 (40 : Int64))) → Wp d 257 (137, [some (.ref r0), some (.int x1), some (.long y2), none, some (.long y4), none, some (.long y90), none, none], [], μ) Q) :
    Wp d 257 (126, [some (.ref r0), some (.int x1), some (.long y2), none, some (.long y4), none, some (.int x6), none, none], [.long y90], μ) Q := wp_blk rfl e257_126 (And.intro k1 k2)
def q257_137 : List (Nat × Instr × Nat) := [(137, .lload 4, 2), (139, .ldc2_w 639, 3), (142, .lcmp, 1), (143, .ifCond .le 5, 3)]
theorem e257_137 : am_dec am_M257 q257_137 = true := by decide +kernel
theorem b257_137 {d : Nat} {Q : Option Value ⊕ Nat → am_Mem → Prop} {μ : am_Mem} {r0 : Nat} {x1 : Int32} {y2 y4 y6 : Int64}
    (k1 : (lg_cmp y4 (30000000 : Int64)) ≤ 0 → Wp d 257 (148, [some (.ref r0), some (.int x1), some (.long y2), none, some (.long y4), none, some (.long y6), none, none], [], μ) Q) (k2 : ¬ ((lg_cmp y4 (30000000 : Int64)) ≤ 0) → Wp d 257 (146, [some (.ref r0), some (.int x1), some (.long y2), none, some (.long y4), none, some (.long y6), none, none], [], μ) Q) :
    Wp d 257 (137, [some (.ref r0), some (.int x1), some (.long y2), none, some (.long y4), none, some (.long y6), none, none], [], μ) Q := wp_blk rfl e257_137 (And.intro k1 k2)
def q257_146 : List (Nat × Instr × Nat) := [(146, .iconst 0, 1)]
theorem e257_146 : am_dec am_M257 q257_146 = true := by decide +kernel
theorem e257_146_r : am_dec am_M257 [(147, .ireturn, 1)] = true := by decide +kernel
theorem b257_146 {d : Nat} {Q : Option Value ⊕ Nat → am_Mem → Prop} {μ : am_Mem} {r0 : Nat} {x1 : Int32} {y2 y4 y6 : Int64}
    (k : Q (.inl (some (.int (Int32.ofInt 0)))) μ) :
    Wp d 257 (146, [some (.ref r0), some (.int x1), some (.long y2), none, some (.long y4), none, some (.long y6), none, none], [], μ) Q := wp_blk rfl e257_146 (wp_ri (ty := .boolean) rfl e257_146_r rfl (by decide) k)
def q257_148 : List (Nat × Instr × Nat) := [(148, .aload_n 0, 1), (149, .getfield 177, 3), (152, .iload_n 1, 1), (153, .lload 6, 2), (155, .l2i, 1), (156, .iastore, 1), (157, .iconst 0, 1), (158, .istore 8, 2)]
theorem e257_148 : am_dec am_M257 q257_148 = true := by decide +kernel
theorem b257_148 {d : Nat} {Q : Option Value ⊕ Nat → am_Mem → Prop} {μ : am_Mem} {r0 : Nat} {x1 : Int32} {y2 y4 y6 : Int64}
    (h1 : am_kd μ r0 = (1, 12))
    (h2 : ¬ am_F μ r0 85 = 15)
    (h3 : (am_kd μ (am_F μ r0 85)).1 = 2)
    (h4 : ¬ (x1 < 0 ∨ (am_kd μ (am_F μ r0 85)).2 ≤ x1.toNatClampNeg))
    (k : Wp d 257 (160, [some (.ref r0), some (.int x1), some (.long y2), none, some (.long y4), none, some (.long y6), none, some (.int (Int32.ofInt 0))], [], (am_pA μ (am_F μ r0 85) x1.toNatClampNeg y6.toInt32)) Q) :
    Wp d 257 (148, [some (.ref r0), some (.int x1), some (.long y2), none, some (.long y4), none, some (.long y6), none, none], [], μ) Q := wp_blk rfl e257_148 (And.intro h1 (And.intro h2 (And.intro h3 (And.intro h4 k))))
def q257_160 : List (Nat × Instr × Nat) := [(160, .iload 8, 2), (162, .aload_n 0, 1), (163, .getfield 177, 3), (166, .iload_n 1, 1), (167, .iaload, 1), (168, .if_icmp .ge 90, 3)]
theorem e257_160 : am_dec am_M257 q257_160 = true := by decide +kernel
theorem b257_160 {d : Nat} {Q : Option Value ⊕ Nat → am_Mem → Prop} {μ : am_Mem} {r0 : Nat} {x1 x8 : Int32} {y2 y4 y6 : Int64}
    (h1 : am_kd μ r0 = (1, 12))
    (h2 : ¬ am_F μ r0 85 = 15)
    (h3 : (am_kd μ (am_F μ r0 85)).1 = 2 ∨ (am_kd μ (am_F μ r0 85)).1 = 8)
    (h4 : ¬ (x1 < 0 ∨ (am_kd μ (am_F μ r0 85)).2 ≤ x1.toNatClampNeg))
    (k1 : (am_A μ (am_F μ r0 85) x1.toNatClampNeg) ≤ x8 → Wp d 257 (258, [some (.ref r0), some (.int x1), some (.long y2), none, some (.long y4), none, some (.long y6), none, some (.int x8)], [], μ) Q) (k2 : ¬ ((am_A μ (am_F μ r0 85) x1.toNatClampNeg) ≤ x8) → Wp d 257 (171, [some (.ref r0), some (.int x1), some (.long y2), none, some (.long y4), none, some (.long y6), none, some (.int x8)], [], μ) Q) :
    Wp d 257 (160, [some (.ref r0), some (.int x1), some (.long y2), none, some (.long y4), none, some (.long y6), none, some (.int x8)], [], μ) Q := wp_blk rfl e257_160 (And.intro h1 (And.intro h2 (And.intro h3 (And.intro h4 (And.intro k1 k2)))))
def q257_171 : List (Nat × Instr × Nat) := [(171, .aload_n 0, 1), (172, .iload 8, 2), (174, .i2l, 1)]
theorem e257_171 : am_dec am_M257 q257_171 = true := by decide +kernel
theorem e257_171_c : am_dc1 am_M257 175 (.invokevirtual 625) 3 = true := by decide +kernel
theorem b257_171 {d : Nat} {Q : Option Value ⊕ Nat → am_Mem → Prop} {μ : am_Mem} {r0 : Nat} {x1 x8 : Int32} {y2 y4 y6 : Int64} {P : am_Mem → Prop} {X : Nat → am_Mem → Prop}
    (hk : am_kd μ r0 = (1, 12))
    (hc : Wp d 251 (0, [some (.ref r0), some (.long x8.toInt64), none, none, none, none], [], μ) (pV P X)) (hr : ∀ μ', P μ' → Wp (d + 1) 257 (178, [some (.ref r0), some (.int x1), some (.long y2), none, some (.long y4), none, some (.long y6), none, some (.int x8)], [], (μ')) Q)
    (hx : ∀ x μ', X x μ' → Q (.inr x) μ') :
    Wp (d + 1) 257 (171, [some (.ref r0), some (.int x1), some (.long y2), none, some (.long y4), none, some (.long y6), none, some (.int x8)], [], μ) Q := wp_blk rfl e257_171 (wp_cv (as := [.long x8.toInt64]) rfl e257_171_c rfl rfl rfl rfl rfl hk hc (fun v μ' hv => by obtain ⟨rfl, hp⟩ := pV_r hv; exact hr μ' hp) hx)
def q257_178 : List (Nat × Instr × Nat) := [(178, .aload_n 0, 1), (179, .iload_n 1, 1), (180, .iconst 1, 1)]
theorem e257_178 : am_dec am_M257 q257_178 = true := by decide +kernel
theorem e257_178_c : am_dc1 am_M257 181 (.invokevirtual 596) 3 = true := by decide +kernel
theorem b257_178 {d : Nat} {Q : Option Value ⊕ Nat → am_Mem → Prop} {μ : am_Mem} {r0 : Nat} {x1 x8 : Int32} {y2 y4 y6 : Int64} {P : Int32 → am_Mem → Prop} {X : Nat → am_Mem → Prop}
    (hk : am_kd μ r0 = (1, 12))
    (hc : Wp d 212 (0, [some (.ref r0), some (.int x1), some (.int (Int32.ofInt 1)), none, none, none, none], [], μ) (pI P X)) (hr : ∀ x μ', P x μ' → Wp (d + 1) 257 (184, [some (.ref r0), some (.int x1), some (.long y2), none, some (.long y4), none, some (.long y6), none, some (.int x8)], [.int x], (μ')) Q)
    (hx : ∀ x μ', X x μ' → Q (.inr x) μ') :
    Wp (d + 1) 257 (178, [some (.ref r0), some (.int x1), some (.long y2), none, some (.long y4), none, some (.long y6), none, some (.int x8)], [], μ) Q := wp_blk rfl e257_178 (wp_cv (as := [.int x1, .int (Int32.ofInt 1)]) rfl e257_178_c rfl rfl rfl rfl rfl hk hc (fun v μ' hv => by obtain ⟨x, rfl, hp⟩ := pI_r hv; exact hr x μ' hp) hx)
def q257_184 : List (Nat × Instr × Nat) := [(184, .ifCond .eq 15, 3)]
theorem e257_184 : am_dec am_M257 q257_184 = true := by decide +kernel
theorem b257_184 {d : Nat} {Q : Option Value ⊕ Nat → am_Mem → Prop} {μ : am_Mem} {r0 : Nat} {x1 x8 s0 : Int32} {y2 y4 y6 : Int64}
    (k1 : s0 = 0 → Wp d 257 (199, [some (.ref r0), some (.int x1), some (.long y2), none, some (.long y4), none, some (.long y6), none, some (.int x8)], [], μ) Q) (k2 : ¬ (s0 = 0) → Wp d 257 (187, [some (.ref r0), some (.int x1), some (.long y2), none, some (.long y4), none, some (.long y6), none, some (.int x8)], [], μ) Q) :
    Wp d 257 (184, [some (.ref r0), some (.int x1), some (.long y2), none, some (.long y4), none, some (.long y6), none, some (.int x8)], [.int s0], μ) Q := wp_blk rfl e257_184 (And.intro k1 k2)
def q257_187 : List (Nat × Instr × Nat) := [(187, .aload_n 0, 1), (188, .bipush 7, 2), (190, .sipush 301, 3)]
theorem e257_187 : am_dec am_M257 q257_187 = true := by decide +kernel
theorem e257_187_c : am_dc1 am_M257 193 (.invokevirtual 600) 3 = true := by decide +kernel
theorem b257_187 {d : Nat} {Q : Option Value ⊕ Nat → am_Mem → Prop} {μ : am_Mem} {r0 : Nat} {x1 x8 : Int32} {y2 y4 y6 : Int64} {P : Int32 → am_Mem → Prop} {X : Nat → am_Mem → Prop}
    (hk : am_kd μ r0 = (1, 12))
    (hc : Wp d 235 (0, [some (.ref r0), some (.int ((Int8.ofInt 7).toInt32)), some (.int ((Int16.ofInt 301).toInt32)), none], [], μ) (pI P X)) (hr : ∀ x μ', P x μ' → Wp (d + 1) 257 (196, [some (.ref r0), some (.int x1), some (.long y2), none, some (.long y4), none, some (.long y6), none, some (.int x8)], [.int x], (μ')) Q)
    (hx : ∀ x μ', X x μ' → Q (.inr x) μ') :
    Wp (d + 1) 257 (187, [some (.ref r0), some (.int x1), some (.long y2), none, some (.long y4), none, some (.long y6), none, some (.int x8)], [], μ) Q := wp_blk rfl e257_187 (wp_cv (as := [.int ((Int8.ofInt 7).toInt32), .int ((Int16.ofInt 301).toInt32)]) rfl e257_187_c rfl rfl rfl rfl rfl hk hc (fun v μ' hv => by obtain ⟨x, rfl, hp⟩ := pI_r hv; exact hr x μ' hp) hx)
def q257_196 : List (Nat × Instr × Nat) := [(196, .ifCond .ne 5, 3)]
theorem e257_196 : am_dec am_M257 q257_196 = true := by decide +kernel
theorem b257_196 {d : Nat} {Q : Option Value ⊕ Nat → am_Mem → Prop} {μ : am_Mem} {r0 : Nat} {x1 x8 s0 : Int32} {y2 y4 y6 : Int64}
    (k1 : ¬ s0 = 0 → Wp d 257 (201, [some (.ref r0), some (.int x1), some (.long y2), none, some (.long y4), none, some (.long y6), none, some (.int x8)], [], μ) Q) (k2 : ¬ (¬ s0 = 0) → Wp d 257 (199, [some (.ref r0), some (.int x1), some (.long y2), none, some (.long y4), none, some (.long y6), none, some (.int x8)], [], μ) Q) :
    Wp d 257 (196, [some (.ref r0), some (.int x1), some (.long y2), none, some (.long y4), none, some (.long y6), none, some (.int x8)], [.int s0], μ) Q := wp_blk rfl e257_196 (And.intro k1 k2)
def q257_199 : List (Nat × Instr × Nat) := [(199, .iconst 0, 1)]
theorem e257_199 : am_dec am_M257 q257_199 = true := by decide +kernel
theorem e257_199_r : am_dec am_M257 [(200, .ireturn, 1)] = true := by decide +kernel
theorem b257_199 {d : Nat} {Q : Option Value ⊕ Nat → am_Mem → Prop} {μ : am_Mem} {r0 : Nat} {x1 x8 : Int32} {y2 y4 y6 : Int64}
    (k : Q (.inl (some (.int (Int32.ofInt 0)))) μ) :
    Wp d 257 (199, [some (.ref r0), some (.int x1), some (.long y2), none, some (.long y4), none, some (.long y6), none, some (.int x8)], [], μ) Q := wp_blk rfl e257_199 (wp_ri (ty := .boolean) rfl e257_199_r rfl (by decide) k)
def q257_201 : List (Nat × Instr × Nat) := [(201, .lload 4, 2), (203, .aload_n 0, 1), (204, .getfield 518, 3), (207, .ladd, 1), (208, .lstore 4, 2), (210, .aload_n 0, 1), (211, .getfield 180, 3), (214, .bipush 40, 2), (216, .iload_n 1, 1), (217, .imul, 1), (218, .iload 8, 2), (220, .iadd, 1), (221, .aload_n 0, 1)]
theorem e257_201 : am_dec am_M257 q257_201 = true := by decide +kernel
theorem e257_201_c : am_dc1 am_M257 222 (.invokevirtual 641) 3 = true := by decide +kernel
theorem b257_201 {d : Nat} {Q : Option Value ⊕ Nat → am_Mem → Prop} {μ : am_Mem} {r0 : Nat} {x1 x8 : Int32} {y2 y4 y6 : Int64} {P : Int32 → am_Mem → Prop} {X : Nat → am_Mem → Prop}
    (h1 : am_kd μ r0 = (1, 12))
    (h2 : am_kd μ r0 = (1, 12))
    (h3 : ¬ am_F μ r0 86 = 15)
    (hk : am_kd μ r0 = (1, 12))
    (hc : Wp d 255 (0, [some (.ref r0), none], [], μ) (pI P X)) (hr : ∀ x μ', P x μ' → Wp (d + 1) 257 (225, [some (.ref r0), some (.int x1), some (.long y2), none, some (.long (y4 + (am_L μ r0 57))), none, some (.long y6), none, some (.int x8)], [.int x, .int ((((Int8.ofInt 40).toInt32) * x1) + x8), .ref (am_F μ r0 86)], (μ')) Q)
    (hx : ∀ x μ', X x μ' → Q (.inr x) μ') :
    Wp (d + 1) 257 (201, [some (.ref r0), some (.int x1), some (.long y2), none, some (.long y4), none, some (.long y6), none, some (.int x8)], [], μ) Q := wp_blk rfl e257_201 (And.intro h1 (And.intro h2 (And.intro h3 (wp_cv (as := []) rfl e257_201_c rfl rfl rfl rfl rfl hk hc (fun v μ' hv => by obtain ⟨x, rfl, hp⟩ := pI_r hv; exact hr x μ' hp) hx))))
def q257_225 : List (Nat × Instr × Nat) := [(225, .iastore, 1), (226, .aload_n 0, 1), (227, .getfield 180, 3), (230, .bipush 40, 2), (232, .iload_n 1, 1), (233, .imul, 1), (234, .iload 8, 2), (236, .iadd, 1), (237, .iaload, 1), (238, .ifCond .lt 12, 3)]
theorem e257_225 : am_dec am_M257 q257_225 = true := by decide +kernel
theorem b257_225 {d : Nat} {Q : Option Value ⊕ Nat → am_Mem → Prop} {μ : am_Mem} {r0 r90 : Nat} {x1 x8 s1 s2 : Int32} {y2 y4 y6 : Int64}
    (h1 : (am_kd μ r90).1 = 2)
    (h2 : ¬ (s1 < 0 ∨ (am_kd μ r90).2 ≤ s1.toNatClampNeg))
    (h3 : am_kd (am_pA μ r90 s1.toNatClampNeg s2) r0 = (1, 12))
    (h4 : ¬ am_F (am_pA μ r90 s1.toNatClampNeg s2) r0 86 = 15)
    (h5 : (am_kd (am_pA μ r90 s1.toNatClampNeg s2) (am_F (am_pA μ r90 s1.toNatClampNeg s2) r0 86)).1 = 2 ∨ (am_kd (am_pA μ r90 s1.toNatClampNeg s2) (am_F (am_pA μ r90 s1.toNatClampNeg s2) r0 86)).1 = 8)
    (h6 : ¬ (((((Int8.ofInt 40).toInt32) * x1) + x8) < 0 ∨ (am_kd (am_pA μ r90 s1.toNatClampNeg s2) (am_F (am_pA μ r90 s1.toNatClampNeg s2) r0 86)).2 ≤ ((((Int8.ofInt 40).toInt32) * x1) + x8).toNatClampNeg))
    (k1 : (am_A (am_pA μ r90 s1.toNatClampNeg s2) (am_F (am_pA μ r90 s1.toNatClampNeg s2) r0 86) ((((Int8.ofInt 40).toInt32) * x1) + x8).toNatClampNeg) < 0 → Wp d 257 (250, [some (.ref r0), some (.int x1), some (.long y2), none, some (.long y4), none, some (.long y6), none, some (.int x8)], [], (am_pA μ r90 s1.toNatClampNeg s2)) Q) (k2 : ¬ ((am_A (am_pA μ r90 s1.toNatClampNeg s2) (am_F (am_pA μ r90 s1.toNatClampNeg s2) r0 86) ((((Int8.ofInt 40).toInt32) * x1) + x8).toNatClampNeg) < 0) → Wp d 257 (241, [some (.ref r0), some (.int x1), some (.long y2), none, some (.long y4), none, some (.long y6), none, some (.int x8)], [], (am_pA μ r90 s1.toNatClampNeg s2)) Q) :
    Wp d 257 (225, [some (.ref r0), some (.int x1), some (.long y2), none, some (.long y4), none, some (.long y6), none, some (.int x8)], [.int s2, .int s1, .ref r90], μ) Q := wp_blk rfl e257_225 (And.intro h1 (And.intro h2 (And.intro h3 (And.intro h4 (And.intro h5 (And.intro h6 (And.intro k1 k2)))))))
def q257_241 : List (Nat × Instr × Nat) := [(241, .lload 4, 2), (243, .ldc2_w 639, 3), (246, .lcmp, 1), (247, .ifCond .le 5, 3)]
theorem e257_241 : am_dec am_M257 q257_241 = true := by decide +kernel
theorem b257_241 {d : Nat} {Q : Option Value ⊕ Nat → am_Mem → Prop} {μ : am_Mem} {r0 : Nat} {x1 x8 : Int32} {y2 y4 y6 : Int64}
    (k1 : (lg_cmp y4 (30000000 : Int64)) ≤ 0 → Wp d 257 (252, [some (.ref r0), some (.int x1), some (.long y2), none, some (.long y4), none, some (.long y6), none, some (.int x8)], [], μ) Q) (k2 : ¬ ((lg_cmp y4 (30000000 : Int64)) ≤ 0) → Wp d 257 (250, [some (.ref r0), some (.int x1), some (.long y2), none, some (.long y4), none, some (.long y6), none, some (.int x8)], [], μ) Q) :
    Wp d 257 (241, [some (.ref r0), some (.int x1), some (.long y2), none, some (.long y4), none, some (.long y6), none, some (.int x8)], [], μ) Q := wp_blk rfl e257_241 (And.intro k1 k2)
def q257_250 : List (Nat × Instr × Nat) := [(250, .iconst 0, 1)]
theorem e257_250 : am_dec am_M257 q257_250 = true := by decide +kernel
theorem e257_250_r : am_dec am_M257 [(251, .ireturn, 1)] = true := by decide +kernel
theorem b257_250 {d : Nat} {Q : Option Value ⊕ Nat → am_Mem → Prop} {μ : am_Mem} {r0 : Nat} {x1 x8 : Int32} {y2 y4 y6 : Int64}
    (k : Q (.inl (some (.int (Int32.ofInt 0)))) μ) :
    Wp d 257 (250, [some (.ref r0), some (.int x1), some (.long y2), none, some (.long y4), none, some (.long y6), none, some (.int x8)], [], μ) Q := wp_blk rfl e257_250 (wp_ri (ty := .boolean) rfl e257_250_r rfl (by decide) k)
def q257_252 : List (Nat × Instr × Nat) := [(252, .iinc 8 1, 3), (255, .goto (-95), 3)]
theorem e257_252 : am_dec am_M257 q257_252 = true := by decide +kernel
theorem b257_252 {d : Nat} {Q : Option Value ⊕ Nat → am_Mem → Prop} {μ : am_Mem} {r0 : Nat} {x1 x8 : Int32} {y2 y4 y6 : Int64}
    (k : Wp d 257 (160, [some (.ref r0), some (.int x1), some (.long y2), none, some (.long y4), none, some (.long y6), none, some (.int (x8 + Int32.ofInt 1))], [], μ) Q) :
    Wp d 257 (252, [some (.ref r0), some (.int x1), some (.long y2), none, some (.long y4), none, some (.long y6), none, some (.int x8)], [], μ) Q := wp_blk rfl e257_252 k
def q257_258 : List (Nat × Instr × Nat) := [(258, .aload_n 0, 1), (259, .lload 4, 2), (261, .putfield 518, 3), (264, .iconst 1, 1)]
theorem e257_258 : am_dec am_M257 q257_258 = true := by decide +kernel
theorem e257_258_r : am_dec am_M257 [(265, .ireturn, 1)] = true := by decide +kernel
theorem b257_258 {d : Nat} {Q : Option Value ⊕ Nat → am_Mem → Prop} {μ : am_Mem} {r0 : Nat} {x1 x8 : Int32} {y2 y4 y6 : Int64}
    (h1 : am_kd μ r0 = (1, 12))
    (k : Q (.inl (some (.int (Int32.ofInt 1)))) (am_pL μ r0 57 y4)) :
    Wp d 257 (258, [some (.ref r0), some (.int x1), some (.long y2), none, some (.long y4), none, some (.long y6), none, some (.int x8)], [], μ) Q := wp_blk rfl e257_258 (And.intro h1 (And.intro ⟨rfl, rfl⟩ (wp_ri (ty := .boolean) rfl e257_258_r rfl (by decide) k)))
/-! RuleSheetsModel.findDefect()V -/
def q258_0 : List (Nat × Instr × Nat) := [(0, .aload_n 0, 1), (1, .iconst 0, 1), (2, .putfield 657, 3), (5, .aload_n 0, 1), (6, .iconst (-1), 1), (7, .putfield 663, 3), (10, .aload_n 0, 1), (11, .getfield 551, 3), (14, .iconst 2, 1), (15, .if_icmp .eq 9, 3)]
theorem e258_0 : am_dec am_M258 q258_0 = true := by decide +kernel
theorem b258_0 {d : Nat} {Q : Option Value ⊕ Nat → am_Mem → Prop} {μ : am_Mem} {r0 : Nat}
    (h1 : am_kd μ r0 = (1, 12))
    (h2 : am_kd (am_pA μ r0 89 (Int32.ofInt 0)) r0 = (1, 12))
    (h3 : am_kd (am_pA (am_pA μ r0 89 (Int32.ofInt 0)) r0 90 (Int32.ofInt (-1))) r0 = (1, 12))
    (k1 : (am_A (am_pA (am_pA μ r0 89 (Int32.ofInt 0)) r0 90 (Int32.ofInt (-1))) r0 70) = (Int32.ofInt 2) → Wp d 258 (24, [some (.ref r0), none, none, none], [], (am_pA (am_pA μ r0 89 (Int32.ofInt 0)) r0 90 (Int32.ofInt (-1)))) Q) (k2 : ¬ ((am_A (am_pA (am_pA μ r0 89 (Int32.ofInt 0)) r0 90 (Int32.ofInt (-1))) r0 70) = (Int32.ofInt 2)) → Wp d 258 (18, [some (.ref r0), none, none, none], [], (am_pA (am_pA μ r0 89 (Int32.ofInt 0)) r0 90 (Int32.ofInt (-1)))) Q) :
    Wp d 258 (0, [some (.ref r0), none, none, none], [], μ) Q := wp_blk rfl e258_0 (And.intro h1 (And.intro ⟨rfl, rfl⟩ (And.intro h2 (And.intro ⟨rfl, rfl⟩ (And.intro h3 (And.intro k1 k2))))))
def q258_18 : List (Nat × Instr × Nat) := [(18, .aload_n 0, 1), (19, .iconst 1, 1), (20, .putfield 657, 3)]
theorem e258_18 : am_dec am_M258 q258_18 = true := by decide +kernel
theorem e258_18_r : am_dec am_M258 [(23, .return_, 1)] = true := by decide +kernel
theorem b258_18 {d : Nat} {Q : Option Value ⊕ Nat → am_Mem → Prop} {μ : am_Mem} {r0 : Nat}
    (h1 : am_kd μ r0 = (1, 12))
    (k : Q (.inl none) (am_pA μ r0 89 (Int32.ofInt 1))) :
    Wp d 258 (18, [some (.ref r0), none, none, none], [], μ) Q := wp_blk rfl e258_18 (And.intro h1 (And.intro ⟨rfl, rfl⟩ (wp_rv rfl e258_18_r rfl k)))
def q258_24 : List (Nat × Instr × Nat) := [(24, .iconst 0, 1), (25, .istore_n 1, 1)]
theorem e258_24 : am_dec am_M258 q258_24 = true := by decide +kernel
theorem b258_24 {d : Nat} {Q : Option Value ⊕ Nat → am_Mem → Prop} {μ : am_Mem} {r0 : Nat}
    (k : Wp d 258 (26, [some (.ref r0), some (.int (Int32.ofInt 0)), none, none], [], μ) Q) :
    Wp d 258 (24, [some (.ref r0), none, none, none], [], μ) Q := wp_blk rfl e258_24 k
def q258_26 : List (Nat × Instr × Nat) := [(26, .iload_n 1, 1), (27, .aload_n 0, 1), (28, .getfield 648, 3), (31, .if_icmp .ge 147, 3)]
theorem e258_26 : am_dec am_M258 q258_26 = true := by decide +kernel
theorem b258_26 {d : Nat} {Q : Option Value ⊕ Nat → am_Mem → Prop} {μ : am_Mem} {r0 : Nat} {x1 : Int32} {o2 o3 : Option Value}
    (h1 : am_kd μ r0 = (1, 12))
    (k1 : (am_A μ r0 82) ≤ x1 → Wp d 258 (178, [some (.ref r0), some (.int x1), o2, o3], [], μ) Q) (k2 : ¬ ((am_A μ r0 82) ≤ x1) → Wp d 258 (34, [some (.ref r0), some (.int x1), o2, o3], [], μ) Q) :
    Wp d 258 (26, [some (.ref r0), some (.int x1), o2, o3], [], μ) Q := wp_blk rfl e258_26 (And.intro h1 (And.intro k1 k2))
def q258_34 : List (Nat × Instr × Nat) := [(34, .aload_n 0, 1), (35, .getfield 174, 3), (38, .iload_n 1, 1), (39, .baload, 1), (40, .ifCond .eq 14, 3)]
theorem e258_34 : am_dec am_M258 q258_34 = true := by decide +kernel
theorem b258_34 {d : Nat} {Q : Option Value ⊕ Nat → am_Mem → Prop} {μ : am_Mem} {r0 : Nat} {x1 : Int32} {o2 o3 : Option Value}
    (h1 : am_kd μ r0 = (1, 12))
    (h2 : ¬ am_F μ r0 84 = 15)
    (h3 : (am_kd μ (am_F μ r0 84)).1 = 3 ∨ (am_kd μ (am_F μ r0 84)).1 = 4 ∨ (am_kd μ (am_F μ r0 84)).1 = 10)
    (h4 : ¬ (x1 < 0 ∨ (am_kd μ (am_F μ r0 84)).2 ≤ x1.toNatClampNeg))
    (k1 : (am_A μ (am_F μ r0 84) x1.toNatClampNeg) = 0 → Wp d 258 (54, [some (.ref r0), some (.int x1), o2, o3], [], μ) Q) (k2 : ¬ ((am_A μ (am_F μ r0 84) x1.toNatClampNeg) = 0) → Wp d 258 (43, [some (.ref r0), some (.int x1), o2, o3], [], μ) Q) :
    Wp d 258 (34, [some (.ref r0), some (.int x1), o2, o3], [], μ) Q := wp_blk rfl e258_34 (And.intro h1 (And.intro h2 (And.intro h3 (And.intro h4 (And.intro k1 k2)))))
def q258_43 : List (Nat × Instr × Nat) := [(43, .aload_n 0, 1), (44, .getfield 183, 3), (47, .iconst 2, 1), (48, .iload_n 1, 1), (49, .imul, 1), (50, .iaload, 1), (51, .goto 11, 3)]
theorem e258_43 : am_dec am_M258 q258_43 = true := by decide +kernel
theorem b258_43 {d : Nat} {Q : Option Value ⊕ Nat → am_Mem → Prop} {μ : am_Mem} {r0 : Nat} {x1 : Int32} {o2 o3 : Option Value}
    (h1 : am_kd μ r0 = (1, 12))
    (h2 : ¬ am_F μ r0 87 = 15)
    (h3 : (am_kd μ (am_F μ r0 87)).1 = 2 ∨ (am_kd μ (am_F μ r0 87)).1 = 8)
    (h4 : ¬ (((Int32.ofInt 2) * x1) < 0 ∨ (am_kd μ (am_F μ r0 87)).2 ≤ ((Int32.ofInt 2) * x1).toNatClampNeg))
    (k : Wp d 258 (62, [some (.ref r0), some (.int x1), o2, o3], [.int (am_A μ (am_F μ r0 87) ((Int32.ofInt 2) * x1).toNatClampNeg)], μ) Q) :
    Wp d 258 (43, [some (.ref r0), some (.int x1), o2, o3], [], μ) Q := wp_blk rfl e258_43 (And.intro h1 (And.intro h2 (And.intro h3 (And.intro h4 k))))
def q258_54 : List (Nat × Instr × Nat) := [(54, .aload_n 0, 1), (55, .getfield 186, 3), (58, .iconst 2, 1), (59, .iload_n 1, 1), (60, .imul, 1), (61, .iaload, 1)]
theorem e258_54 : am_dec am_M258 q258_54 = true := by decide +kernel
theorem b258_54 {d : Nat} {Q : Option Value ⊕ Nat → am_Mem → Prop} {μ : am_Mem} {r0 : Nat} {x1 : Int32} {o2 o3 : Option Value}
    (h1 : am_kd μ r0 = (1, 12))
    (h2 : ¬ am_F μ r0 88 = 15)
    (h3 : (am_kd μ (am_F μ r0 88)).1 = 2 ∨ (am_kd μ (am_F μ r0 88)).1 = 8)
    (h4 : ¬ (((Int32.ofInt 2) * x1) < 0 ∨ (am_kd μ (am_F μ r0 88)).2 ≤ ((Int32.ofInt 2) * x1).toNatClampNeg))
    (k : Wp d 258 (62, [some (.ref r0), some (.int x1), o2, o3], [.int (am_A μ (am_F μ r0 88) ((Int32.ofInt 2) * x1).toNatClampNeg)], μ) Q) :
    Wp d 258 (54, [some (.ref r0), some (.int x1), o2, o3], [], μ) Q := wp_blk rfl e258_54 (And.intro h1 (And.intro h2 (And.intro h3 (And.intro h4 k))))
def q258_62 : List (Nat × Instr × Nat) := [(62, .istore_n 2, 1), (63, .aload_n 0, 1), (64, .getfield 174, 3), (67, .iload_n 1, 1), (68, .baload, 1), (69, .ifCond .eq 16, 3)]
theorem e258_62 : am_dec am_M258 q258_62 = true := by decide +kernel
theorem b258_62 {d : Nat} {Q : Option Value ⊕ Nat → am_Mem → Prop} {μ : am_Mem} {r0 : Nat} {x1 s0 : Int32} {o2 o3 : Option Value}
    (h1 : am_kd μ r0 = (1, 12))
    (h2 : ¬ am_F μ r0 84 = 15)
    (h3 : (am_kd μ (am_F μ r0 84)).1 = 3 ∨ (am_kd μ (am_F μ r0 84)).1 = 4 ∨ (am_kd μ (am_F μ r0 84)).1 = 10)
    (h4 : ¬ (x1 < 0 ∨ (am_kd μ (am_F μ r0 84)).2 ≤ x1.toNatClampNeg))
    (k1 : (am_A μ (am_F μ r0 84) x1.toNatClampNeg) = 0 → Wp d 258 (85, [some (.ref r0), some (.int x1), some (.int s0), o3], [], μ) Q) (k2 : ¬ ((am_A μ (am_F μ r0 84) x1.toNatClampNeg) = 0) → Wp d 258 (72, [some (.ref r0), some (.int x1), some (.int s0), o3], [], μ) Q) :
    Wp d 258 (62, [some (.ref r0), some (.int x1), o2, o3], [.int s0], μ) Q := wp_blk rfl e258_62 (And.intro h1 (And.intro h2 (And.intro h3 (And.intro h4 (And.intro k1 k2)))))
def q258_72 : List (Nat × Instr × Nat) := [(72, .aload_n 0, 1), (73, .getfield 183, 3), (76, .iconst 2, 1), (77, .iload_n 1, 1), (78, .imul, 1), (79, .iconst 1, 1), (80, .iadd, 1), (81, .iaload, 1), (82, .goto 13, 3)]
theorem e258_72 : am_dec am_M258 q258_72 = true := by decide +kernel
theorem b258_72 {d : Nat} {Q : Option Value ⊕ Nat → am_Mem → Prop} {μ : am_Mem} {r0 : Nat} {x1 x2 : Int32} {o3 : Option Value}
    (h1 : am_kd μ r0 = (1, 12))
    (h2 : ¬ am_F μ r0 87 = 15)
    (h3 : (am_kd μ (am_F μ r0 87)).1 = 2 ∨ (am_kd μ (am_F μ r0 87)).1 = 8)
    (h4 : ¬ ((((Int32.ofInt 2) * x1) + (Int32.ofInt 1)) < 0 ∨ (am_kd μ (am_F μ r0 87)).2 ≤ (((Int32.ofInt 2) * x1) + (Int32.ofInt 1)).toNatClampNeg))
    (k : Wp d 258 (95, [some (.ref r0), some (.int x1), some (.int x2), o3], [.int (am_A μ (am_F μ r0 87) (((Int32.ofInt 2) * x1) + (Int32.ofInt 1)).toNatClampNeg)], μ) Q) :
    Wp d 258 (72, [some (.ref r0), some (.int x1), some (.int x2), o3], [], μ) Q := wp_blk rfl e258_72 (And.intro h1 (And.intro h2 (And.intro h3 (And.intro h4 k))))
def q258_85 : List (Nat × Instr × Nat) := [(85, .aload_n 0, 1), (86, .getfield 186, 3), (89, .iconst 2, 1), (90, .iload_n 1, 1), (91, .imul, 1), (92, .iconst 1, 1), (93, .iadd, 1), (94, .iaload, 1)]
theorem e258_85 : am_dec am_M258 q258_85 = true := by decide +kernel
theorem b258_85 {d : Nat} {Q : Option Value ⊕ Nat → am_Mem → Prop} {μ : am_Mem} {r0 : Nat} {x1 x2 : Int32} {o3 : Option Value}
    (h1 : am_kd μ r0 = (1, 12))
    (h2 : ¬ am_F μ r0 88 = 15)
    (h3 : (am_kd μ (am_F μ r0 88)).1 = 2 ∨ (am_kd μ (am_F μ r0 88)).1 = 8)
    (h4 : ¬ ((((Int32.ofInt 2) * x1) + (Int32.ofInt 1)) < 0 ∨ (am_kd μ (am_F μ r0 88)).2 ≤ (((Int32.ofInt 2) * x1) + (Int32.ofInt 1)).toNatClampNeg))
    (k : Wp d 258 (95, [some (.ref r0), some (.int x1), some (.int x2), o3], [.int (am_A μ (am_F μ r0 88) (((Int32.ofInt 2) * x1) + (Int32.ofInt 1)).toNatClampNeg)], μ) Q) :
    Wp d 258 (85, [some (.ref r0), some (.int x1), some (.int x2), o3], [], μ) Q := wp_blk rfl e258_85 (And.intro h1 (And.intro h2 (And.intro h3 (And.intro h4 k))))
def q258_95 : List (Nat × Instr × Nat) := [(95, .istore_n 3, 1), (96, .aload_n 0, 1), (97, .getfield 174, 3), (100, .iload_n 1, 1), (101, .baload, 1), (102, .ifCond .ne 39, 3)]
theorem e258_95 : am_dec am_M258 q258_95 = true := by decide +kernel
theorem b258_95 {d : Nat} {Q : Option Value ⊕ Nat → am_Mem → Prop} {μ : am_Mem} {r0 : Nat} {x1 x2 s0 : Int32} {o3 : Option Value}
    (h1 : am_kd μ r0 = (1, 12))
    (h2 : ¬ am_F μ r0 84 = 15)
    (h3 : (am_kd μ (am_F μ r0 84)).1 = 3 ∨ (am_kd μ (am_F μ r0 84)).1 = 4 ∨ (am_kd μ (am_F μ r0 84)).1 = 10)
    (h4 : ¬ (x1 < 0 ∨ (am_kd μ (am_F μ r0 84)).2 ≤ x1.toNatClampNeg))
    (k1 : ¬ (am_A μ (am_F μ r0 84) x1.toNatClampNeg) = 0 → Wp d 258 (141, [some (.ref r0), some (.int x1), some (.int x2), some (.int s0)], [], μ) Q) (k2 : ¬ (¬ (am_A μ (am_F μ r0 84) x1.toNatClampNeg) = 0) → Wp d 258 (105, [some (.ref r0), some (.int x1), some (.int x2), some (.int s0)], [], μ) Q) :
    Wp d 258 (95, [some (.ref r0), some (.int x1), some (.int x2), o3], [.int s0], μ) Q := wp_blk rfl e258_95 (And.intro h1 (And.intro h2 (And.intro h3 (And.intro h4 (And.intro k1 k2)))))
def q258_105 : List (Nat × Instr × Nat) := [(105, .iload_n 2, 1), (106, .ifCond .eq 7, 3)]
theorem e258_105 : am_dec am_M258 q258_105 = true := by decide +kernel
theorem b258_105 {d : Nat} {Q : Option Value ⊕ Nat → am_Mem → Prop} {μ : am_Mem} {r0 : Nat} {x1 x2 x3 : Int32}
    (k1 : x2 = 0 → Wp d 258 (113, [some (.ref r0), some (.int x1), some (.int x2), some (.int x3)], [], μ) Q) (k2 : ¬ (x2 = 0) → Wp d 258 (109, [some (.ref r0), some (.int x1), some (.int x2), some (.int x3)], [], μ) Q) :
    Wp d 258 (105, [some (.ref r0), some (.int x1), some (.int x2), some (.int x3)], [], μ) Q := wp_blk rfl e258_105 (And.intro k1 k2)
def q258_109 : List (Nat × Instr × Nat) := [(109, .iload_n 3, 1), (110, .ifCond .ne 12, 3)]
theorem e258_109 : am_dec am_M258 q258_109 = true := by decide +kernel
theorem b258_109 {d : Nat} {Q : Option Value ⊕ Nat → am_Mem → Prop} {μ : am_Mem} {r0 : Nat} {x1 x2 x3 : Int32}
    (k1 : ¬ x3 = 0 → Wp d 258 (122, [some (.ref r0), some (.int x1), some (.int x2), some (.int x3)], [], μ) Q) (k2 : ¬ (¬ x3 = 0) → Wp d 258 (113, [some (.ref r0), some (.int x1), some (.int x2), some (.int x3)], [], μ) Q) :
    Wp d 258 (109, [some (.ref r0), some (.int x1), some (.int x2), some (.int x3)], [], μ) Q := wp_blk rfl e258_109 (And.intro k1 k2)
def q258_113 : List (Nat × Instr × Nat) := [(113, .aload_n 0, 1), (114, .iconst 2, 1), (115, .iload_n 1, 1)]
theorem e258_113 : am_dec am_M258 q258_113 = true := by decide +kernel
theorem e258_113_c : am_dc1 am_M258 116 (.invokevirtual 666) 3 = true := by decide +kernel
theorem b258_113 {d : Nat} {Q : Option Value ⊕ Nat → am_Mem → Prop} {μ : am_Mem} {r0 : Nat} {x1 x2 x3 : Int32} {P : am_Mem → Prop} {X : Nat → am_Mem → Prop}
    (hk : am_kd μ r0 = (1, 12))
    (hc : Wp d 259 (0, [some (.ref r0), some (.int (Int32.ofInt 2)), some (.int x1)], [], μ) (pV P X)) (hr : ∀ μ', P μ' → Wp (d + 1) 258 (119, [some (.ref r0), some (.int x1), some (.int x2), some (.int x3)], [], (μ')) Q)
    (hx : ∀ x μ', X x μ' → Q (.inr x) μ') :
    Wp (d + 1) 258 (113, [some (.ref r0), some (.int x1), some (.int x2), some (.int x3)], [], μ) Q := wp_blk rfl e258_113 (wp_cv (as := [.int (Int32.ofInt 2), .int x1]) rfl e258_113_c rfl rfl rfl rfl rfl hk hc (fun v μ' hv => by obtain ⟨rfl, hp⟩ := pV_r hv; exact hr μ' hp) hx)
def q258_119 : List (Nat × Instr × Nat) := [(119, .goto 53, 3)]
theorem e258_119 : am_dec am_M258 q258_119 = true := by decide +kernel
theorem b258_119 {d : Nat} {Q : Option Value ⊕ Nat → am_Mem → Prop} {μ : am_Mem} {r0 : Nat} {x1 x2 x3 : Int32}
    (k : Wp d 258 (172, [some (.ref r0), some (.int x1), some (.int x2), some (.int x3)], [], μ) Q) :
    Wp d 258 (119, [some (.ref r0), some (.int x1), some (.int x2), some (.int x3)], [], μ) Q := wp_blk rfl e258_119 k
def q258_122 : List (Nat × Instr × Nat) := [(122, .iload_n 2, 1), (123, .iconst 1, 1), (124, .if_icmp .le 48, 3)]
theorem e258_122 : am_dec am_M258 q258_122 = true := by decide +kernel
theorem b258_122 {d : Nat} {Q : Option Value ⊕ Nat → am_Mem → Prop} {μ : am_Mem} {r0 : Nat} {x1 x2 x3 : Int32}
    (k1 : x2 ≤ (Int32.ofInt 1) → Wp d 258 (172, [some (.ref r0), some (.int x1), some (.int x2), some (.int x3)], [], μ) Q) (k2 : ¬ (x2 ≤ (Int32.ofInt 1)) → Wp d 258 (127, [some (.ref r0), some (.int x1), some (.int x2), some (.int x3)], [], μ) Q) :
    Wp d 258 (122, [some (.ref r0), some (.int x1), some (.int x2), some (.int x3)], [], μ) Q := wp_blk rfl e258_122 (And.intro k1 k2)
def q258_127 : List (Nat × Instr × Nat) := [(127, .iload_n 3, 1), (128, .iconst 1, 1), (129, .if_icmp .le 43, 3)]
theorem e258_127 : am_dec am_M258 q258_127 = true := by decide +kernel
theorem b258_127 {d : Nat} {Q : Option Value ⊕ Nat → am_Mem → Prop} {μ : am_Mem} {r0 : Nat} {x1 x2 x3 : Int32}
    (k1 : x3 ≤ (Int32.ofInt 1) → Wp d 258 (172, [some (.ref r0), some (.int x1), some (.int x2), some (.int x3)], [], μ) Q) (k2 : ¬ (x3 ≤ (Int32.ofInt 1)) → Wp d 258 (132, [some (.ref r0), some (.int x1), some (.int x2), some (.int x3)], [], μ) Q) :
    Wp d 258 (127, [some (.ref r0), some (.int x1), some (.int x2), some (.int x3)], [], μ) Q := wp_blk rfl e258_127 (And.intro k1 k2)
def q258_132 : List (Nat × Instr × Nat) := [(132, .aload_n 0, 1), (133, .iconst 3, 1), (134, .iload_n 1, 1)]
theorem e258_132 : am_dec am_M258 q258_132 = true := by decide +kernel
theorem e258_132_c : am_dc1 am_M258 135 (.invokevirtual 666) 3 = true := by decide +kernel
theorem b258_132 {d : Nat} {Q : Option Value ⊕ Nat → am_Mem → Prop} {μ : am_Mem} {r0 : Nat} {x1 x2 x3 : Int32} {P : am_Mem → Prop} {X : Nat → am_Mem → Prop}
    (hk : am_kd μ r0 = (1, 12))
    (hc : Wp d 259 (0, [some (.ref r0), some (.int (Int32.ofInt 3)), some (.int x1)], [], μ) (pV P X)) (hr : ∀ μ', P μ' → Wp (d + 1) 258 (138, [some (.ref r0), some (.int x1), some (.int x2), some (.int x3)], [], (μ')) Q)
    (hx : ∀ x μ', X x μ' → Q (.inr x) μ') :
    Wp (d + 1) 258 (132, [some (.ref r0), some (.int x1), some (.int x2), some (.int x3)], [], μ) Q := wp_blk rfl e258_132 (wp_cv (as := [.int (Int32.ofInt 3), .int x1]) rfl e258_132_c rfl rfl rfl rfl rfl hk hc (fun v μ' hv => by obtain ⟨rfl, hp⟩ := pV_r hv; exact hr μ' hp) hx)
def q258_138 : List (Nat × Instr × Nat) := [(138, .goto 34, 3)]
theorem e258_138 : am_dec am_M258 q258_138 = true := by decide +kernel
theorem b258_138 {d : Nat} {Q : Option Value ⊕ Nat → am_Mem → Prop} {μ : am_Mem} {r0 : Nat} {x1 x2 x3 : Int32}
    (k : Wp d 258 (172, [some (.ref r0), some (.int x1), some (.int x2), some (.int x3)], [], μ) Q) :
    Wp d 258 (138, [some (.ref r0), some (.int x1), some (.int x2), some (.int x3)], [], μ) Q := wp_blk rfl e258_138 k
def q258_141 : List (Nat × Instr × Nat) := [(141, .iload_n 2, 1), (142, .ifCond .lt 7, 3)]
theorem e258_141 : am_dec am_M258 q258_141 = true := by decide +kernel
theorem b258_141 {d : Nat} {Q : Option Value ⊕ Nat → am_Mem → Prop} {μ : am_Mem} {r0 : Nat} {x1 x2 x3 : Int32}
    (k1 : x2 < 0 → Wp d 258 (149, [some (.ref r0), some (.int x1), some (.int x2), some (.int x3)], [], μ) Q) (k2 : ¬ (x2 < 0) → Wp d 258 (145, [some (.ref r0), some (.int x1), some (.int x2), some (.int x3)], [], μ) Q) :
    Wp d 258 (141, [some (.ref r0), some (.int x1), some (.int x2), some (.int x3)], [], μ) Q := wp_blk rfl e258_141 (And.intro k1 k2)
def q258_145 : List (Nat × Instr × Nat) := [(145, .iload_n 3, 1), (146, .ifCond .ge 12, 3)]
theorem e258_145 : am_dec am_M258 q258_145 = true := by decide +kernel
theorem b258_145 {d : Nat} {Q : Option Value ⊕ Nat → am_Mem → Prop} {μ : am_Mem} {r0 : Nat} {x1 x2 x3 : Int32}
    (k1 : 0 ≤ x3 → Wp d 258 (158, [some (.ref r0), some (.int x1), some (.int x2), some (.int x3)], [], μ) Q) (k2 : ¬ (0 ≤ x3) → Wp d 258 (149, [some (.ref r0), some (.int x1), some (.int x2), some (.int x3)], [], μ) Q) :
    Wp d 258 (145, [some (.ref r0), some (.int x1), some (.int x2), some (.int x3)], [], μ) Q := wp_blk rfl e258_145 (And.intro k1 k2)
def q258_149 : List (Nat × Instr × Nat) := [(149, .aload_n 0, 1), (150, .iconst 4, 1), (151, .iload_n 1, 1)]
theorem e258_149 : am_dec am_M258 q258_149 = true := by decide +kernel
theorem e258_149_c : am_dc1 am_M258 152 (.invokevirtual 666) 3 = true := by decide +kernel
theorem b258_149 {d : Nat} {Q : Option Value ⊕ Nat → am_Mem → Prop} {μ : am_Mem} {r0 : Nat} {x1 x2 x3 : Int32} {P : am_Mem → Prop} {X : Nat → am_Mem → Prop}
    (hk : am_kd μ r0 = (1, 12))
    (hc : Wp d 259 (0, [some (.ref r0), some (.int (Int32.ofInt 4)), some (.int x1)], [], μ) (pV P X)) (hr : ∀ μ', P μ' → Wp (d + 1) 258 (155, [some (.ref r0), some (.int x1), some (.int x2), some (.int x3)], [], (μ')) Q)
    (hx : ∀ x μ', X x μ' → Q (.inr x) μ') :
    Wp (d + 1) 258 (149, [some (.ref r0), some (.int x1), some (.int x2), some (.int x3)], [], μ) Q := wp_blk rfl e258_149 (wp_cv (as := [.int (Int32.ofInt 4), .int x1]) rfl e258_149_c rfl rfl rfl rfl rfl hk hc (fun v μ' hv => by obtain ⟨rfl, hp⟩ := pV_r hv; exact hr μ' hp) hx)
def q258_155 : List (Nat × Instr × Nat) := [(155, .goto 17, 3)]
theorem e258_155 : am_dec am_M258 q258_155 = true := by decide +kernel
theorem b258_155 {d : Nat} {Q : Option Value ⊕ Nat → am_Mem → Prop} {μ : am_Mem} {r0 : Nat} {x1 x2 x3 : Int32}
    (k : Wp d 258 (172, [some (.ref r0), some (.int x1), some (.int x2), some (.int x3)], [], μ) Q) :
    Wp d 258 (155, [some (.ref r0), some (.int x1), some (.int x2), some (.int x3)], [], μ) Q := wp_blk rfl e258_155 k
def q258_158 : List (Nat × Instr × Nat) := [(158, .iload_n 2, 1), (159, .iload_n 3, 1), (160, .iadd, 1), (161, .bipush 100, 2), (163, .if_icmp .eq 9, 3)]
theorem e258_158 : am_dec am_M258 q258_158 = true := by decide +kernel
theorem b258_158 {d : Nat} {Q : Option Value ⊕ Nat → am_Mem → Prop} {μ : am_Mem} {r0 : Nat} {x1 x2 x3 : Int32}
    (k1 : (x2 + x3) = ((Int8.ofInt 100).toInt32) → Wp d 258 (172, [some (.ref r0), some (.int x1), some (.int x2), some (.int x3)], [], μ) Q) (k2 : ¬ ((x2 + x3) = ((Int8.ofInt 100).toInt32)) → Wp d 258 (166, [some (.ref r0), some (.int x1), some (.int x2), some (.int x3)], [], μ) Q) :
    Wp d 258 (158, [some (.ref r0), some (.int x1), some (.int x2), some (.int x3)], [], μ) Q := wp_blk rfl e258_158 (And.intro k1 k2)
def q258_166 : List (Nat × Instr × Nat) := [(166, .aload_n 0, 1), (167, .iconst 5, 1), (168, .iload_n 1, 1)]
theorem e258_166 : am_dec am_M258 q258_166 = true := by decide +kernel
theorem e258_166_c : am_dc1 am_M258 169 (.invokevirtual 666) 3 = true := by decide +kernel
theorem b258_166 {d : Nat} {Q : Option Value ⊕ Nat → am_Mem → Prop} {μ : am_Mem} {r0 : Nat} {x1 x2 x3 : Int32} {P : am_Mem → Prop} {X : Nat → am_Mem → Prop}
    (hk : am_kd μ r0 = (1, 12))
    (hc : Wp d 259 (0, [some (.ref r0), some (.int (Int32.ofInt 5)), some (.int x1)], [], μ) (pV P X)) (hr : ∀ μ', P μ' → Wp (d + 1) 258 (172, [some (.ref r0), some (.int x1), some (.int x2), some (.int x3)], [], (μ')) Q)
    (hx : ∀ x μ', X x μ' → Q (.inr x) μ') :
    Wp (d + 1) 258 (166, [some (.ref r0), some (.int x1), some (.int x2), some (.int x3)], [], μ) Q := wp_blk rfl e258_166 (wp_cv (as := [.int (Int32.ofInt 5), .int x1]) rfl e258_166_c rfl rfl rfl rfl rfl hk hc (fun v μ' hv => by obtain ⟨rfl, hp⟩ := pV_r hv; exact hr μ' hp) hx)
def q258_172 : List (Nat × Instr × Nat) := [(172, .iinc 1 1, 3), (175, .goto (-149), 3)]
theorem e258_172 : am_dec am_M258 q258_172 = true := by decide +kernel
theorem b258_172 {d : Nat} {Q : Option Value ⊕ Nat → am_Mem → Prop} {μ : am_Mem} {r0 : Nat} {x1 x2 x3 : Int32}
    (k : Wp d 258 (26, [some (.ref r0), some (.int (x1 + Int32.ofInt 1)), some (.int x2), some (.int x3)], [], μ) Q) :
    Wp d 258 (172, [some (.ref r0), some (.int x1), some (.int x2), some (.int x3)], [], μ) Q := wp_blk rfl e258_172 k
def q258_178 : List (Nat × Instr × Nat) := [(178, .iconst 0, 1), (179, .istore_n 1, 1)]
theorem e258_178 : am_dec am_M258 q258_178 = true := by decide +kernel
theorem b258_178 {d : Nat} {Q : Option Value ⊕ Nat → am_Mem → Prop} {μ : am_Mem} {r0 : Nat} {x1 : Int32} {o2 o3 : Option Value}
    (k : Wp d 258 (180, [some (.ref r0), some (.int (Int32.ofInt 0)), o2, o3], [], μ) Q) :
    Wp d 258 (178, [some (.ref r0), some (.int x1), o2, o3], [], μ) Q := wp_blk rfl e258_178 k
def q258_180 : List (Nat × Instr × Nat) := [(180, .iload_n 1, 1), (181, .aload_n 0, 1), (182, .getfield 648, 3), (185, .if_icmp .ge 31, 3)]
theorem e258_180 : am_dec am_M258 q258_180 = true := by decide +kernel
theorem b258_180 {d : Nat} {Q : Option Value ⊕ Nat → am_Mem → Prop} {μ : am_Mem} {r0 : Nat} {x1 : Int32} {o2 o3 : Option Value}
    (h1 : am_kd μ r0 = (1, 12))
    (k1 : (am_A μ r0 82) ≤ x1 → Wp d 258 (216, [some (.ref r0), some (.int x1), o2, o3], [], μ) Q) (k2 : ¬ ((am_A μ r0 82) ≤ x1) → Wp d 258 (188, [some (.ref r0), some (.int x1), o2, o3], [], μ) Q) :
    Wp d 258 (180, [some (.ref r0), some (.int x1), o2, o3], [], μ) Q := wp_blk rfl e258_180 (And.intro h1 (And.intro k1 k2))
def q258_188 : List (Nat × Instr × Nat) := [(188, .aload_n 0, 1), (189, .getfield 657, 3), (192, .ifCond .ne 24, 3)]
theorem e258_188 : am_dec am_M258 q258_188 = true := by decide +kernel
theorem b258_188 {d : Nat} {Q : Option Value ⊕ Nat → am_Mem → Prop} {μ : am_Mem} {r0 : Nat} {x1 : Int32} {o2 o3 : Option Value}
    (h1 : am_kd μ r0 = (1, 12))
    (k1 : ¬ (am_A μ r0 89) = 0 → Wp d 258 (216, [some (.ref r0), some (.int x1), o2, o3], [], μ) Q) (k2 : ¬ (¬ (am_A μ r0 89) = 0) → Wp d 258 (195, [some (.ref r0), some (.int x1), o2, o3], [], μ) Q) :
    Wp d 258 (188, [some (.ref r0), some (.int x1), o2, o3], [], μ) Q := wp_blk rfl e258_188 (And.intro h1 (And.intro k1 k2))
def q258_195 : List (Nat × Instr × Nat) := [(195, .aload_n 0, 1), (196, .iload_n 1, 1)]
theorem e258_195 : am_dec am_M258 q258_195 = true := by decide +kernel
theorem e258_195_c : am_dc1 am_M258 197 (.invokevirtual 669) 3 = true := by decide +kernel
theorem b258_195 {d : Nat} {Q : Option Value ⊕ Nat → am_Mem → Prop} {μ : am_Mem} {r0 : Nat} {x1 : Int32} {o2 o3 : Option Value} {P : Int32 → am_Mem → Prop} {X : Nat → am_Mem → Prop}
    (hk : am_kd μ r0 = (1, 12))
    (hc : Wp d 260 (0, [some (.ref r0), some (.int x1), none, none, none], [], μ) (pI P X)) (hr : ∀ x μ', P x μ' → Wp (d + 1) 258 (200, [some (.ref r0), some (.int x1), o2, o3], [.int x], (μ')) Q)
    (hx : ∀ x μ', X x μ' → Q (.inr x) μ') :
    Wp (d + 1) 258 (195, [some (.ref r0), some (.int x1), o2, o3], [], μ) Q := wp_blk rfl e258_195 (wp_cv (as := [.int x1]) rfl e258_195_c rfl rfl rfl rfl rfl hk hc (fun v μ' hv => by obtain ⟨x, rfl, hp⟩ := pI_r hv; exact hr x μ' hp) hx)
def q258_200 : List (Nat × Instr × Nat) := [(200, .ifCond .eq 10, 3)]
theorem e258_200 : am_dec am_M258 q258_200 = true := by decide +kernel
theorem b258_200 {d : Nat} {Q : Option Value ⊕ Nat → am_Mem → Prop} {μ : am_Mem} {r0 : Nat} {x1 s0 : Int32} {o2 o3 : Option Value}
    (k1 : s0 = 0 → Wp d 258 (210, [some (.ref r0), some (.int x1), o2, o3], [], μ) Q) (k2 : ¬ (s0 = 0) → Wp d 258 (203, [some (.ref r0), some (.int x1), o2, o3], [], μ) Q) :
    Wp d 258 (200, [some (.ref r0), some (.int x1), o2, o3], [.int s0], μ) Q := wp_blk rfl e258_200 (And.intro k1 k2)
def q258_203 : List (Nat × Instr × Nat) := [(203, .aload_n 0, 1), (204, .bipush 6, 2), (206, .iload_n 1, 1)]
theorem e258_203 : am_dec am_M258 q258_203 = true := by decide +kernel
theorem e258_203_c : am_dc1 am_M258 207 (.invokevirtual 666) 3 = true := by decide +kernel
theorem b258_203 {d : Nat} {Q : Option Value ⊕ Nat → am_Mem → Prop} {μ : am_Mem} {r0 : Nat} {x1 : Int32} {o2 o3 : Option Value} {P : am_Mem → Prop} {X : Nat → am_Mem → Prop}
    (hk : am_kd μ r0 = (1, 12))
    (hc : Wp d 259 (0, [some (.ref r0), some (.int ((Int8.ofInt 6).toInt32)), some (.int x1)], [], μ) (pV P X)) (hr : ∀ μ', P μ' → Wp (d + 1) 258 (210, [some (.ref r0), some (.int x1), o2, o3], [], (μ')) Q)
    (hx : ∀ x μ', X x μ' → Q (.inr x) μ') :
    Wp (d + 1) 258 (203, [some (.ref r0), some (.int x1), o2, o3], [], μ) Q := wp_blk rfl e258_203 (wp_cv (as := [.int ((Int8.ofInt 6).toInt32), .int x1]) rfl e258_203_c rfl rfl rfl rfl rfl hk hc (fun v μ' hv => by obtain ⟨rfl, hp⟩ := pV_r hv; exact hr μ' hp) hx)
def q258_210 : List (Nat × Instr × Nat) := [(210, .iinc 1 1, 3), (213, .goto (-33), 3)]
theorem e258_210 : am_dec am_M258 q258_210 = true := by decide +kernel
theorem b258_210 {d : Nat} {Q : Option Value ⊕ Nat → am_Mem → Prop} {μ : am_Mem} {r0 : Nat} {x1 : Int32} {o2 o3 : Option Value}
    (k : Wp d 258 (180, [some (.ref r0), some (.int (x1 + Int32.ofInt 1)), o2, o3], [], μ) Q) :
    Wp d 258 (210, [some (.ref r0), some (.int x1), o2, o3], [], μ) Q := wp_blk rfl e258_210 k
theorem e258_216_r : am_dec am_M258 [(216, .return_, 1)] = true := by decide +kernel
theorem b258_216 {d : Nat} {Q : Option Value ⊕ Nat → am_Mem → Prop} {μ : am_Mem} {r0 : Nat} {x1 : Int32} {o2 o3 : Option Value}
    (k : Q (.inl none) μ) :
    Wp d 258 (216, [some (.ref r0), some (.int x1), o2, o3], [], μ) Q := (wp_rv rfl e258_216_r rfl k)
/-! RuleSheetsModel.found(II)V -/
def q259_0 : List (Nat × Instr × Nat) := [(0, .aload_n 0, 1), (1, .getfield 657, 3), (4, .ifCond .ne 13, 3)]
theorem e259_0 : am_dec am_M259 q259_0 = true := by decide +kernel
theorem b259_0 {d : Nat} {Q : Option Value ⊕ Nat → am_Mem → Prop} {μ : am_Mem} {r0 : Nat} {x1 x2 : Int32}
    (h1 : am_kd μ r0 = (1, 12))
    (k1 : ¬ (am_A μ r0 89) = 0 → Wp d 259 (17, [some (.ref r0), some (.int x1), some (.int x2)], [], μ) Q) (k2 : ¬ (¬ (am_A μ r0 89) = 0) → Wp d 259 (7, [some (.ref r0), some (.int x1), some (.int x2)], [], μ) Q) :
    Wp d 259 (0, [some (.ref r0), some (.int x1), some (.int x2)], [], μ) Q := wp_blk rfl e259_0 (And.intro h1 (And.intro k1 k2))
def q259_7 : List (Nat × Instr × Nat) := [(7, .aload_n 0, 1), (8, .iload_n 1, 1), (9, .putfield 657, 3), (12, .aload_n 0, 1), (13, .iload_n 2, 1), (14, .putfield 663, 3)]
theorem e259_7 : am_dec am_M259 q259_7 = true := by decide +kernel
theorem b259_7 {d : Nat} {Q : Option Value ⊕ Nat → am_Mem → Prop} {μ : am_Mem} {r0 : Nat} {x1 x2 : Int32}
    (h1 : am_kd μ r0 = (1, 12))
    (h2 : am_kd (am_pA μ r0 89 x1) r0 = (1, 12))
    (k : Wp d 259 (17, [some (.ref r0), some (.int x1), some (.int x2)], [], (am_pA (am_pA μ r0 89 x1) r0 90 x2)) Q) :
    Wp d 259 (7, [some (.ref r0), some (.int x1), some (.int x2)], [], μ) Q := wp_blk rfl e259_7 (And.intro h1 (And.intro ⟨rfl, rfl⟩ (And.intro h2 (And.intro ⟨rfl, rfl⟩ k))))
theorem e259_17_r : am_dec am_M259 [(17, .return_, 1)] = true := by decide +kernel
theorem b259_17 {d : Nat} {Q : Option Value ⊕ Nat → am_Mem → Prop} {μ : am_Mem} {r0 : Nat} {x1 x2 : Int32}
    (k : Q (.inl none) μ) :
    Wp d 259 (17, [some (.ref r0), some (.int x1), some (.int x2)], [], μ) Q := (wp_rv rfl e259_17_r rfl k)
/-! RuleSheetsModel.comesAgain(I)Z -/
def q260_0 : List (Nat × Instr × Nat) := [(0, .iconst 0, 1), (1, .istore_n 2, 1)]
theorem e260_0 : am_dec am_M260 q260_0 = true := by decide +kernel
theorem b260_0 {d : Nat} {Q : Option Value ⊕ Nat → am_Mem → Prop} {μ : am_Mem} {r0 : Nat} {x1 : Int32}
    (k : Wp d 260 (2, [some (.ref r0), some (.int x1), some (.int (Int32.ofInt 0)), none, none], [], μ) Q) :
    Wp d 260 (0, [some (.ref r0), some (.int x1), none, none, none], [], μ) Q := wp_blk rfl e260_0 k
def q260_2 : List (Nat × Instr × Nat) := [(2, .iload_n 2, 1), (3, .aload_n 0, 1), (4, .getfield 648, 3), (7, .if_icmp .ge 16, 3)]
theorem e260_2 : am_dec am_M260 q260_2 = true := by decide +kernel
theorem b260_2 {d : Nat} {Q : Option Value ⊕ Nat → am_Mem → Prop} {μ : am_Mem} {r0 : Nat} {x1 x2 : Int32}
    (h1 : am_kd μ r0 = (1, 12))
    (k1 : (am_A μ r0 82) ≤ x2 → Wp d 260 (23, [some (.ref r0), some (.int x1), some (.int x2), none, none], [], μ) Q) (k2 : ¬ ((am_A μ r0 82) ≤ x2) → Wp d 260 (10, [some (.ref r0), some (.int x1), some (.int x2), none, none], [], μ) Q) :
    Wp d 260 (2, [some (.ref r0), some (.int x1), some (.int x2), none, none], [], μ) Q := wp_blk rfl e260_2 (And.intro h1 (And.intro k1 k2))
def q260_10 : List (Nat × Instr × Nat) := [(10, .aload_n 0, 1), (11, .getfield 195, 3), (14, .iload_n 2, 1), (15, .iconst 0, 1), (16, .bastore, 1), (17, .iinc 2 1, 3), (20, .goto (-18), 3)]
theorem e260_10 : am_dec am_M260 q260_10 = true := by decide +kernel
theorem b260_10 {d : Nat} {Q : Option Value ⊕ Nat → am_Mem → Prop} {μ : am_Mem} {r0 : Nat} {x1 x2 : Int32}
    (h1 : am_kd μ r0 = (1, 12))
    (h2 : ¬ am_F μ r0 93 = 15)
    (h3 : (am_kd μ (am_F μ r0 93)).1 = 3 ∨ (am_kd μ (am_F μ r0 93)).1 = 4)
    (h4 : ¬ (x2 < 0 ∨ (am_kd μ (am_F μ r0 93)).2 ≤ x2.toNatClampNeg))
    (k : Wp d 260 (2, [some (.ref r0), some (.int x1), some (.int (x2 + Int32.ofInt 1)), none, none], [], (am_pA μ (am_F μ r0 93) x2.toNatClampNeg (am_nar (am_kd μ (am_F μ r0 93)).1 (Int32.ofInt 0)))) Q) :
    Wp d 260 (10, [some (.ref r0), some (.int x1), some (.int x2), none, none], [], μ) Q := wp_blk rfl e260_10 (And.intro h1 (And.intro h2 (And.intro h3 (And.intro h4 k))))
def q260_23 : List (Nat × Instr × Nat) := [(23, .iconst 0, 1), (24, .istore_n 2, 1)]
theorem e260_23 : am_dec am_M260 q260_23 = true := by decide +kernel
theorem b260_23 {d : Nat} {Q : Option Value ⊕ Nat → am_Mem → Prop} {μ : am_Mem} {r0 : Nat} {x1 x2 : Int32}
    (k : Wp d 260 (25, [some (.ref r0), some (.int x1), some (.int (Int32.ofInt 0)), none, none], [], μ) Q) :
    Wp d 260 (23, [some (.ref r0), some (.int x1), some (.int x2), none, none], [], μ) Q := wp_blk rfl e260_23 k
def q260_25 : List (Nat × Instr × Nat) := [(25, .iload_n 2, 1), (26, .aload_n 0, 1), (27, .getfield 177, 3), (30, .iload_n 1, 1), (31, .iaload, 1), (32, .if_icmp .ge 26, 3)]
theorem e260_25 : am_dec am_M260 q260_25 = true := by decide +kernel
theorem b260_25 {d : Nat} {Q : Option Value ⊕ Nat → am_Mem → Prop} {μ : am_Mem} {r0 : Nat} {x1 x2 : Int32}
    (h1 : am_kd μ r0 = (1, 12))
    (h2 : ¬ am_F μ r0 85 = 15)
    (h3 : (am_kd μ (am_F μ r0 85)).1 = 2 ∨ (am_kd μ (am_F μ r0 85)).1 = 8)
    (h4 : ¬ (x1 < 0 ∨ (am_kd μ (am_F μ r0 85)).2 ≤ x1.toNatClampNeg))
    (k1 : (am_A μ (am_F μ r0 85) x1.toNatClampNeg) ≤ x2 → Wp d 260 (58, [some (.ref r0), some (.int x1), some (.int x2), none, none], [], μ) Q) (k2 : ¬ ((am_A μ (am_F μ r0 85) x1.toNatClampNeg) ≤ x2) → Wp d 260 (35, [some (.ref r0), some (.int x1), some (.int x2), none, none], [], μ) Q) :
    Wp d 260 (25, [some (.ref r0), some (.int x1), some (.int x2), none, none], [], μ) Q := wp_blk rfl e260_25 (And.intro h1 (And.intro h2 (And.intro h3 (And.intro h4 (And.intro k1 k2)))))
def q260_35 : List (Nat × Instr × Nat) := [(35, .aload_n 0, 1), (36, .getfield 195, 3), (39, .aload_n 0, 1), (40, .getfield 180, 3), (43, .bipush 40, 2), (45, .iload_n 1, 1), (46, .imul, 1), (47, .iload_n 2, 1), (48, .iadd, 1), (49, .iaload, 1), (50, .iconst 1, 1), (51, .bastore, 1), (52, .iinc 2 1, 3), (55, .goto (-30), 3)]
theorem e260_35 : am_dec am_M260 q260_35 = true := by decide +kernel
theorem b260_35 {d : Nat} {Q : Option Value ⊕ Nat → am_Mem → Prop} {μ : am_Mem} {r0 : Nat} {x1 x2 : Int32}
    (h1 : am_kd μ r0 = (1, 12))
    (h2 : ¬ am_F μ r0 93 = 15)
    (h3 : am_kd μ r0 = (1, 12))
    (h4 : ¬ am_F μ r0 86 = 15)
    (h5 : (am_kd μ (am_F μ r0 86)).1 = 2 ∨ (am_kd μ (am_F μ r0 86)).1 = 8)
    (h6 : ¬ (((((Int8.ofInt 40).toInt32) * x1) + x2) < 0 ∨ (am_kd μ (am_F μ r0 86)).2 ≤ ((((Int8.ofInt 40).toInt32) * x1) + x2).toNatClampNeg))
    (h7 : (am_kd μ (am_F μ r0 93)).1 = 3 ∨ (am_kd μ (am_F μ r0 93)).1 = 4)
    (h8 : ¬ ((am_A μ (am_F μ r0 86) ((((Int8.ofInt 40).toInt32) * x1) + x2).toNatClampNeg) < 0 ∨ (am_kd μ (am_F μ r0 93)).2 ≤ (am_A μ (am_F μ r0 86) ((((Int8.ofInt 40).toInt32) * x1) + x2).toNatClampNeg).toNatClampNeg))
    (k : Wp d 260 (25, [some (.ref r0), some (.int x1), some (.int (x2 + Int32.ofInt 1)), none, none], [], (am_pA μ (am_F μ r0 93) (am_A μ (am_F μ r0 86) ((((Int8.ofInt 40).toInt32) * x1) + x2).toNatClampNeg).toNatClampNeg (am_nar (am_kd μ (am_F μ r0 93)).1 (Int32.ofInt 1)))) Q) :
    Wp d 260 (35, [some (.ref r0), some (.int x1), some (.int x2), none, none], [], μ) Q := wp_blk rfl e260_35 (And.intro h1 (And.intro h2 (And.intro h3 (And.intro h4 (And.intro h5 (And.intro h6 (And.intro h7 (And.intro h8 k))))))))
def q260_58 : List (Nat × Instr × Nat) := [(58, .iconst 1, 1), (59, .istore_n 2, 1)]
theorem e260_58 : am_dec am_M260 q260_58 = true := by decide +kernel
theorem b260_58 {d : Nat} {Q : Option Value ⊕ Nat → am_Mem → Prop} {μ : am_Mem} {r0 : Nat} {x1 x2 : Int32}
    (k : Wp d 260 (60, [some (.ref r0), some (.int x1), some (.int (Int32.ofInt 1)), none, none], [], μ) Q) :
    Wp d 260 (58, [some (.ref r0), some (.int x1), some (.int x2), none, none], [], μ) Q := wp_blk rfl e260_58 k
def q260_60 : List (Nat × Instr × Nat) := [(60, .iload_n 2, 1), (61, .ifCond .eq 101, 3)]
theorem e260_60 : am_dec am_M260 q260_60 = true := by decide +kernel
theorem b260_60 {d : Nat} {Q : Option Value ⊕ Nat → am_Mem → Prop} {μ : am_Mem} {r0 : Nat} {x1 x2 : Int32} {o3 o4 : Option Value}
    (k1 : x2 = 0 → Wp d 260 (162, [some (.ref r0), some (.int x1), some (.int x2), o3, o4], [], μ) Q) (k2 : ¬ (x2 = 0) → Wp d 260 (64, [some (.ref r0), some (.int x1), some (.int x2), o3, o4], [], μ) Q) :
    Wp d 260 (60, [some (.ref r0), some (.int x1), some (.int x2), o3, o4], [], μ) Q := wp_blk rfl e260_60 (And.intro k1 k2)
def q260_64 : List (Nat × Instr × Nat) := [(64, .iconst 0, 1), (65, .istore_n 2, 1), (66, .iconst 0, 1), (67, .istore_n 3, 1)]
theorem e260_64 : am_dec am_M260 q260_64 = true := by decide +kernel
theorem b260_64 {d : Nat} {Q : Option Value ⊕ Nat → am_Mem → Prop} {μ : am_Mem} {r0 : Nat} {x1 x2 : Int32} {o3 o4 : Option Value}
    (k : Wp d 260 (68, [some (.ref r0), some (.int x1), some (.int (Int32.ofInt 0)), some (.int (Int32.ofInt 0)), o4], [], μ) Q) :
    Wp d 260 (64, [some (.ref r0), some (.int x1), some (.int x2), o3, o4], [], μ) Q := wp_blk rfl e260_64 k
def q260_68 : List (Nat × Instr × Nat) := [(68, .iload_n 3, 1), (69, .aload_n 0, 1), (70, .getfield 648, 3), (73, .if_icmp .ge 86, 3)]
theorem e260_68 : am_dec am_M260 q260_68 = true := by decide +kernel
theorem b260_68 {d : Nat} {Q : Option Value ⊕ Nat → am_Mem → Prop} {μ : am_Mem} {r0 : Nat} {x1 x2 x3 : Int32} {o4 : Option Value}
    (h1 : am_kd μ r0 = (1, 12))
    (k1 : (am_A μ r0 82) ≤ x3 → Wp d 260 (159, [some (.ref r0), some (.int x1), some (.int x2), some (.int x3), o4], [], μ) Q) (k2 : ¬ ((am_A μ r0 82) ≤ x3) → Wp d 260 (76, [some (.ref r0), some (.int x1), some (.int x2), some (.int x3), o4], [], μ) Q) :
    Wp d 260 (68, [some (.ref r0), some (.int x1), some (.int x2), some (.int x3), o4], [], μ) Q := wp_blk rfl e260_68 (And.intro h1 (And.intro k1 k2))
def q260_76 : List (Nat × Instr × Nat) := [(76, .iconst 0, 1), (77, .istore 4, 2)]
theorem e260_76 : am_dec am_M260 q260_76 = true := by decide +kernel
theorem b260_76 {d : Nat} {Q : Option Value ⊕ Nat → am_Mem → Prop} {μ : am_Mem} {r0 : Nat} {x1 x2 x3 : Int32} {o4 : Option Value}
    (k : Wp d 260 (79, [some (.ref r0), some (.int x1), some (.int x2), some (.int x3), some (.int (Int32.ofInt 0))], [], μ) Q) :
    Wp d 260 (76, [some (.ref r0), some (.int x1), some (.int x2), some (.int x3), o4], [], μ) Q := wp_blk rfl e260_76 k
def q260_79 : List (Nat × Instr × Nat) := [(79, .iload 4, 2), (81, .aload_n 0, 1), (82, .getfield 177, 3), (85, .iload_n 3, 1), (86, .iaload, 1), (87, .if_icmp .ge 66, 3)]
theorem e260_79 : am_dec am_M260 q260_79 = true := by decide +kernel
theorem b260_79 {d : Nat} {Q : Option Value ⊕ Nat → am_Mem → Prop} {μ : am_Mem} {r0 : Nat} {x1 x2 x3 x4 : Int32}
    (h1 : am_kd μ r0 = (1, 12))
    (h2 : ¬ am_F μ r0 85 = 15)
    (h3 : (am_kd μ (am_F μ r0 85)).1 = 2 ∨ (am_kd μ (am_F μ r0 85)).1 = 8)
    (h4 : ¬ (x3 < 0 ∨ (am_kd μ (am_F μ r0 85)).2 ≤ x3.toNatClampNeg))
    (k1 : (am_A μ (am_F μ r0 85) x3.toNatClampNeg) ≤ x4 → Wp d 260 (153, [some (.ref r0), some (.int x1), some (.int x2), some (.int x3), some (.int x4)], [], μ) Q) (k2 : ¬ ((am_A μ (am_F μ r0 85) x3.toNatClampNeg) ≤ x4) → Wp d 260 (90, [some (.ref r0), some (.int x1), some (.int x2), some (.int x3), some (.int x4)], [], μ) Q) :
    Wp d 260 (79, [some (.ref r0), some (.int x1), some (.int x2), some (.int x3), some (.int x4)], [], μ) Q := wp_blk rfl e260_79 (And.intro h1 (And.intro h2 (And.intro h3 (And.intro h4 (And.intro k1 k2)))))
def q260_90 : List (Nat × Instr × Nat) := [(90, .aload_n 0, 1), (91, .getfield 195, 3), (94, .iload_n 3, 1), (95, .baload, 1), (96, .ifCond .eq 57, 3)]
theorem e260_90 : am_dec am_M260 q260_90 = true := by decide +kernel
theorem b260_90 {d : Nat} {Q : Option Value ⊕ Nat → am_Mem → Prop} {μ : am_Mem} {r0 : Nat} {x1 x2 x3 x4 : Int32}
    (h1 : am_kd μ r0 = (1, 12))
    (h2 : ¬ am_F μ r0 93 = 15)
    (h3 : (am_kd μ (am_F μ r0 93)).1 = 3 ∨ (am_kd μ (am_F μ r0 93)).1 = 4 ∨ (am_kd μ (am_F μ r0 93)).1 = 10)
    (h4 : ¬ (x3 < 0 ∨ (am_kd μ (am_F μ r0 93)).2 ≤ x3.toNatClampNeg))
    (k1 : (am_A μ (am_F μ r0 93) x3.toNatClampNeg) = 0 → Wp d 260 (153, [some (.ref r0), some (.int x1), some (.int x2), some (.int x3), some (.int x4)], [], μ) Q) (k2 : ¬ ((am_A μ (am_F μ r0 93) x3.toNatClampNeg) = 0) → Wp d 260 (99, [some (.ref r0), some (.int x1), some (.int x2), some (.int x3), some (.int x4)], [], μ) Q) :
    Wp d 260 (90, [some (.ref r0), some (.int x1), some (.int x2), some (.int x3), some (.int x4)], [], μ) Q := wp_blk rfl e260_90 (And.intro h1 (And.intro h2 (And.intro h3 (And.intro h4 (And.intro k1 k2)))))
def q260_99 : List (Nat × Instr × Nat) := [(99, .iload_n 2, 1), (100, .ifCond .ne 23, 3)]
theorem e260_99 : am_dec am_M260 q260_99 = true := by decide +kernel
theorem b260_99 {d : Nat} {Q : Option Value ⊕ Nat → am_Mem → Prop} {μ : am_Mem} {r0 : Nat} {x1 x2 x3 x4 : Int32}
    (k1 : ¬ x2 = 0 → Wp d 260 (123, [some (.ref r0), some (.int x1), some (.int x2), some (.int x3), some (.int x4)], [], μ) Q) (k2 : ¬ (¬ x2 = 0) → Wp d 260 (103, [some (.ref r0), some (.int x1), some (.int x2), some (.int x3), some (.int x4)], [], μ) Q) :
    Wp d 260 (99, [some (.ref r0), some (.int x1), some (.int x2), some (.int x3), some (.int x4)], [], μ) Q := wp_blk rfl e260_99 (And.intro k1 k2)
def q260_103 : List (Nat × Instr × Nat) := [(103, .aload_n 0, 1), (104, .getfield 195, 3), (107, .aload_n 0, 1), (108, .getfield 180, 3), (111, .bipush 40, 2), (113, .iload_n 3, 1), (114, .imul, 1), (115, .iload 4, 2), (117, .iadd, 1), (118, .iaload, 1), (119, .baload, 1), (120, .ifCond .ne 7, 3)]
theorem e260_103 : am_dec am_M260 q260_103 = true := by decide +kernel
theorem b260_103 {d : Nat} {Q : Option Value ⊕ Nat → am_Mem → Prop} {μ : am_Mem} {r0 : Nat} {x1 x2 x3 x4 : Int32}
    (h1 : am_kd μ r0 = (1, 12))
    (h2 : ¬ am_F μ r0 93 = 15)
    (h3 : am_kd μ r0 = (1, 12))
    (h4 : ¬ am_F μ r0 86 = 15)
    (h5 : (am_kd μ (am_F μ r0 86)).1 = 2 ∨ (am_kd μ (am_F μ r0 86)).1 = 8)
    (h6 : ¬ (((((Int8.ofInt 40).toInt32) * x3) + x4) < 0 ∨ (am_kd μ (am_F μ r0 86)).2 ≤ ((((Int8.ofInt 40).toInt32) * x3) + x4).toNatClampNeg))
    (h7 : (am_kd μ (am_F μ r0 93)).1 = 3 ∨ (am_kd μ (am_F μ r0 93)).1 = 4 ∨ (am_kd μ (am_F μ r0 93)).1 = 10)
    (h8 : ¬ ((am_A μ (am_F μ r0 86) ((((Int8.ofInt 40).toInt32) * x3) + x4).toNatClampNeg) < 0 ∨ (am_kd μ (am_F μ r0 93)).2 ≤ (am_A μ (am_F μ r0 86) ((((Int8.ofInt 40).toInt32) * x3) + x4).toNatClampNeg).toNatClampNeg))
    (k1 : ¬ (am_A μ (am_F μ r0 93) (am_A μ (am_F μ r0 86) ((((Int8.ofInt 40).toInt32) * x3) + x4).toNatClampNeg).toNatClampNeg) = 0 → Wp d 260 (127, [some (.ref r0), some (.int x1), some (.int x2), some (.int x3), some (.int x4)], [], μ) Q) (k2 : ¬ (¬ (am_A μ (am_F μ r0 93) (am_A μ (am_F μ r0 86) ((((Int8.ofInt 40).toInt32) * x3) + x4).toNatClampNeg).toNatClampNeg) = 0) → Wp d 260 (123, [some (.ref r0), some (.int x1), some (.int x2), some (.int x3), some (.int x4)], [], μ) Q) :
    Wp d 260 (103, [some (.ref r0), some (.int x1), some (.int x2), some (.int x3), some (.int x4)], [], μ) Q := wp_blk rfl e260_103 (And.intro h1 (And.intro h2 (And.intro h3 (And.intro h4 (And.intro h5 (And.intro h6 (And.intro h7 (And.intro h8 (And.intro k1 k2)))))))))
def q260_123 : List (Nat × Instr × Nat) := [(123, .iconst 1, 1), (124, .goto 4, 3)]
theorem e260_123 : am_dec am_M260 q260_123 = true := by decide +kernel
theorem b260_123 {d : Nat} {Q : Option Value ⊕ Nat → am_Mem → Prop} {μ : am_Mem} {r0 : Nat} {x1 x2 x3 x4 : Int32}
    (k : Wp d 260 (128, [some (.ref r0), some (.int x1), some (.int x2), some (.int x3), some (.int x4)], [.int (Int32.ofInt 1)], μ) Q) :
    Wp d 260 (123, [some (.ref r0), some (.int x1), some (.int x2), some (.int x3), some (.int x4)], [], μ) Q := wp_blk rfl e260_123 k
def q260_127 : List (Nat × Instr × Nat) := [(127, .iconst 0, 1)]
theorem e260_127 : am_dec am_M260 q260_127 = true := by decide +kernel
theorem b260_127 {d : Nat} {Q : Option Value ⊕ Nat → am_Mem → Prop} {μ : am_Mem} {r0 : Nat} {x1 x2 x3 x4 : Int32}
    (k : Wp d 260 (128, [some (.ref r0), some (.int x1), some (.int x2), some (.int x3), some (.int x4)], [.int (Int32.ofInt 0)], μ) Q) :
    Wp d 260 (127, [some (.ref r0), some (.int x1), some (.int x2), some (.int x3), some (.int x4)], [], μ) Q := wp_blk rfl e260_127 k
def q260_128 : List (Nat × Instr × Nat) := [(128, .istore_n 2, 1), (129, .aload_n 0, 1), (130, .getfield 195, 3), (133, .aload_n 0, 1), (134, .getfield 180, 3), (137, .bipush 40, 2), (139, .iload_n 3, 1), (140, .imul, 1), (141, .iload 4, 2), (143, .iadd, 1), (144, .iaload, 1), (145, .iconst 1, 1), (146, .bastore, 1), (147, .iinc 4 1, 3), (150, .goto (-71), 3)]
theorem e260_128 : am_dec am_M260 q260_128 = true := by decide +kernel
theorem b260_128 {d : Nat} {Q : Option Value ⊕ Nat → am_Mem → Prop} {μ : am_Mem} {r0 : Nat} {x1 x2 x3 x4 s0 : Int32}
    (h1 : am_kd μ r0 = (1, 12))
    (h2 : ¬ am_F μ r0 93 = 15)
    (h3 : am_kd μ r0 = (1, 12))
    (h4 : ¬ am_F μ r0 86 = 15)
    (h5 : (am_kd μ (am_F μ r0 86)).1 = 2 ∨ (am_kd μ (am_F μ r0 86)).1 = 8)
    (h6 : ¬ (((((Int8.ofInt 40).toInt32) * x3) + x4) < 0 ∨ (am_kd μ (am_F μ r0 86)).2 ≤ ((((Int8.ofInt 40).toInt32) * x3) + x4).toNatClampNeg))
    (h7 : (am_kd μ (am_F μ r0 93)).1 = 3 ∨ (am_kd μ (am_F μ r0 93)).1 = 4)
    (h8 : ¬ ((am_A μ (am_F μ r0 86) ((((Int8.ofInt 40).toInt32) * x3) + x4).toNatClampNeg) < 0 ∨ (am_kd μ (am_F μ r0 93)).2 ≤ (am_A μ (am_F μ r0 86) ((((Int8.ofInt 40).toInt32) * x3) + x4).toNatClampNeg).toNatClampNeg))
    (k : Wp d 260 (79, [some (.ref r0), some (.int x1), some (.int s0), some (.int x3), some (.int (x4 + Int32.ofInt 1))], [], (am_pA μ (am_F μ r0 93) (am_A μ (am_F μ r0 86) ((((Int8.ofInt 40).toInt32) * x3) + x4).toNatClampNeg).toNatClampNeg (am_nar (am_kd μ (am_F μ r0 93)).1 (Int32.ofInt 1)))) Q) :
    Wp d 260 (128, [some (.ref r0), some (.int x1), some (.int x2), some (.int x3), some (.int x4)], [.int s0], μ) Q := wp_blk rfl e260_128 (And.intro h1 (And.intro h2 (And.intro h3 (And.intro h4 (And.intro h5 (And.intro h6 (And.intro h7 (And.intro h8 k))))))))
def q260_153 : List (Nat × Instr × Nat) := [(153, .iinc 3 1, 3), (156, .goto (-88), 3)]
theorem e260_153 : am_dec am_M260 q260_153 = true := by decide +kernel
theorem b260_153 {d : Nat} {Q : Option Value ⊕ Nat → am_Mem → Prop} {μ : am_Mem} {r0 : Nat} {x1 x2 x3 x4 : Int32}
    (k : Wp d 260 (68, [some (.ref r0), some (.int x1), some (.int x2), some (.int (x3 + Int32.ofInt 1)), some (.int x4)], [], μ) Q) :
    Wp d 260 (153, [some (.ref r0), some (.int x1), some (.int x2), some (.int x3), some (.int x4)], [], μ) Q := wp_blk rfl e260_153 k
def q260_159 : List (Nat × Instr × Nat) := [(159, .goto (-99), 3)]
theorem e260_159 : am_dec am_M260 q260_159 = true := by decide +kernel
theorem b260_159 {d : Nat} {Q : Option Value ⊕ Nat → am_Mem → Prop} {μ : am_Mem} {r0 : Nat} {x1 x2 x3 : Int32} {o4 : Option Value}
    (k : Wp d 260 (60, [some (.ref r0), some (.int x1), some (.int x2), some (.int x3), o4], [], μ) Q) :
    Wp d 260 (159, [some (.ref r0), some (.int x1), some (.int x2), some (.int x3), o4], [], μ) Q := wp_blk rfl e260_159 k
def q260_162 : List (Nat × Instr × Nat) := [(162, .aload_n 0, 1), (163, .getfield 195, 3), (166, .iload_n 1, 1), (167, .baload, 1)]
theorem e260_162 : am_dec am_M260 q260_162 = true := by decide +kernel
theorem e260_162_r : am_dec am_M260 [(168, .ireturn, 1)] = true := by decide +kernel
theorem b260_162 {d : Nat} {Q : Option Value ⊕ Nat → am_Mem → Prop} {μ : am_Mem} {r0 : Nat} {x1 x2 : Int32} {o3 o4 : Option Value}
    (h1 : am_kd μ r0 = (1, 12))
    (h2 : ¬ am_F μ r0 93 = 15)
    (h3 : (am_kd μ (am_F μ r0 93)).1 = 3 ∨ (am_kd μ (am_F μ r0 93)).1 = 4 ∨ (am_kd μ (am_F μ r0 93)).1 = 10)
    (h4 : ¬ (x1 < 0 ∨ (am_kd μ (am_F μ r0 93)).2 ≤ x1.toNatClampNeg))
    (hn : narrow .boolean (.int (am_A μ (am_F μ r0 93) x1.toNatClampNeg)) = .int (am_A μ (am_F μ r0 93) x1.toNatClampNeg) ∧ fits .boolean (.int (am_A μ (am_F μ r0 93) x1.toNatClampNeg)) = true)
    (k : Q (.inl (some (.int (am_A μ (am_F μ r0 93) x1.toNatClampNeg)))) μ) :
    Wp d 260 (162, [some (.ref r0), some (.int x1), some (.int x2), o3, o4], [], μ) Q := wp_blk rfl e260_162 (And.intro h1 (And.intro h2 (And.intro h3 (And.intro h4 (wp_ri (ty := .boolean) rfl e260_162_r rfl hn k)))))
/-! RuleSheetsModel.findValues()V -/
def q261_0 : List (Nat × Instr × Nat) := [(0, .iconst 0, 1), (1, .istore_n 1, 1)]
theorem e261_0 : am_dec am_M261 q261_0 = true := by decide +kernel
theorem b261_0 {d : Nat} {Q : Option Value ⊕ Nat → am_Mem → Prop} {μ : am_Mem} {r0 : Nat}
    (k : Wp d 261 (2, [some (.ref r0), some (.int (Int32.ofInt 0)), none, none, none], [], μ) Q) :
    Wp d 261 (0, [some (.ref r0), none, none, none, none], [], μ) Q := wp_blk rfl e261_0 k
def q261_2 : List (Nat × Instr × Nat) := [(2, .iload_n 1, 1), (3, .aload_n 0, 1), (4, .getfield 648, 3), (7, .if_icmp .ge 16, 3)]
theorem e261_2 : am_dec am_M261 q261_2 = true := by decide +kernel
theorem b261_2 {d : Nat} {Q : Option Value ⊕ Nat → am_Mem → Prop} {μ : am_Mem} {r0 : Nat} {x1 : Int32}
    (h1 : am_kd μ r0 = (1, 12))
    (k1 : (am_A μ r0 82) ≤ x1 → Wp d 261 (23, [some (.ref r0), some (.int x1), none, none, none], [], μ) Q) (k2 : ¬ ((am_A μ r0 82) ≤ x1) → Wp d 261 (10, [some (.ref r0), some (.int x1), none, none, none], [], μ) Q) :
    Wp d 261 (2, [some (.ref r0), some (.int x1), none, none, none], [], μ) Q := wp_blk rfl e261_2 (And.intro h1 (And.intro k1 k2))
def q261_10 : List (Nat × Instr × Nat) := [(10, .aload_n 0, 1), (11, .getfield 192, 3), (14, .iload_n 1, 1), (15, .iconst 0, 1), (16, .bastore, 1), (17, .iinc 1 1, 3), (20, .goto (-18), 3)]
theorem e261_10 : am_dec am_M261 q261_10 = true := by decide +kernel
theorem b261_10 {d : Nat} {Q : Option Value ⊕ Nat → am_Mem → Prop} {μ : am_Mem} {r0 : Nat} {x1 : Int32}
    (h1 : am_kd μ r0 = (1, 12))
    (h2 : ¬ am_F μ r0 92 = 15)
    (h3 : (am_kd μ (am_F μ r0 92)).1 = 3 ∨ (am_kd μ (am_F μ r0 92)).1 = 4)
    (h4 : ¬ (x1 < 0 ∨ (am_kd μ (am_F μ r0 92)).2 ≤ x1.toNatClampNeg))
    (k : Wp d 261 (2, [some (.ref r0), some (.int (x1 + Int32.ofInt 1)), none, none, none], [], (am_pA μ (am_F μ r0 92) x1.toNatClampNeg (am_nar (am_kd μ (am_F μ r0 92)).1 (Int32.ofInt 0)))) Q) :
    Wp d 261 (10, [some (.ref r0), some (.int x1), none, none, none], [], μ) Q := wp_blk rfl e261_10 (And.intro h1 (And.intro h2 (And.intro h3 (And.intro h4 k))))
def q261_23 : List (Nat × Instr × Nat) := [(23, .iconst 1, 1), (24, .istore_n 1, 1)]
theorem e261_23 : am_dec am_M261 q261_23 = true := by decide +kernel
theorem b261_23 {d : Nat} {Q : Option Value ⊕ Nat → am_Mem → Prop} {μ : am_Mem} {r0 : Nat} {x1 : Int32}
    (k : Wp d 261 (25, [some (.ref r0), some (.int (Int32.ofInt 1)), none, none, none], [], μ) Q) :
    Wp d 261 (23, [some (.ref r0), some (.int x1), none, none, none], [], μ) Q := wp_blk rfl e261_23 k
def q261_25 : List (Nat × Instr × Nat) := [(25, .iload_n 1, 1), (26, .ifCond .eq 106, 3)]
theorem e261_25 : am_dec am_M261 q261_25 = true := by decide +kernel
theorem b261_25 {d : Nat} {Q : Option Value ⊕ Nat → am_Mem → Prop} {μ : am_Mem} {r0 : Nat} {x1 : Int32} {o2 o3 o4 : Option Value}
    (k1 : x1 = 0 → Wp d 261 (132, [some (.ref r0), some (.int x1), o2, o3, o4], [], μ) Q) (k2 : ¬ (x1 = 0) → Wp d 261 (29, [some (.ref r0), some (.int x1), o2, o3, o4], [], μ) Q) :
    Wp d 261 (25, [some (.ref r0), some (.int x1), o2, o3, o4], [], μ) Q := wp_blk rfl e261_25 (And.intro k1 k2)
def q261_29 : List (Nat × Instr × Nat) := [(29, .iconst 0, 1), (30, .istore_n 1, 1), (31, .aload_n 0, 1), (32, .getfield 648, 3), (35, .iconst 1, 1), (36, .isub, 1), (37, .istore_n 2, 1)]
theorem e261_29 : am_dec am_M261 q261_29 = true := by decide +kernel
theorem b261_29 {d : Nat} {Q : Option Value ⊕ Nat → am_Mem → Prop} {μ : am_Mem} {r0 : Nat} {x1 : Int32} {o2 o3 o4 : Option Value}
    (h1 : am_kd μ r0 = (1, 12))
    (k : Wp d 261 (38, [some (.ref r0), some (.int (Int32.ofInt 0)), some (.int ((am_A μ r0 82) - (Int32.ofInt 1))), o3, o4], [], μ) Q) :
    Wp d 261 (29, [some (.ref r0), some (.int x1), o2, o3, o4], [], μ) Q := wp_blk rfl e261_29 (And.intro h1 k)
def q261_38 : List (Nat × Instr × Nat) := [(38, .iload_n 2, 1), (39, .ifCond .lt 90, 3)]
theorem e261_38 : am_dec am_M261 q261_38 = true := by decide +kernel
theorem b261_38 {d : Nat} {Q : Option Value ⊕ Nat → am_Mem → Prop} {μ : am_Mem} {r0 : Nat} {x1 x2 : Int32} {o3 o4 : Option Value}
    (k1 : x2 < 0 → Wp d 261 (129, [some (.ref r0), some (.int x1), some (.int x2), o3, o4], [], μ) Q) (k2 : ¬ (x2 < 0) → Wp d 261 (42, [some (.ref r0), some (.int x1), some (.int x2), o3, o4], [], μ) Q) :
    Wp d 261 (38, [some (.ref r0), some (.int x1), some (.int x2), o3, o4], [], μ) Q := wp_blk rfl e261_38 (And.intro k1 k2)
def q261_42 : List (Nat × Instr × Nat) := [(42, .aload_n 0, 1), (43, .getfield 192, 3), (46, .iload_n 2, 1), (47, .baload, 1), (48, .ifCond .ne 7, 3)]
theorem e261_42 : am_dec am_M261 q261_42 = true := by decide +kernel
theorem b261_42 {d : Nat} {Q : Option Value ⊕ Nat → am_Mem → Prop} {μ : am_Mem} {r0 : Nat} {x1 x2 : Int32} {o3 o4 : Option Value}
    (h1 : am_kd μ r0 = (1, 12))
    (h2 : ¬ am_F μ r0 92 = 15)
    (h3 : (am_kd μ (am_F μ r0 92)).1 = 3 ∨ (am_kd μ (am_F μ r0 92)).1 = 4 ∨ (am_kd μ (am_F μ r0 92)).1 = 10)
    (h4 : ¬ (x2 < 0 ∨ (am_kd μ (am_F μ r0 92)).2 ≤ x2.toNatClampNeg))
    (k1 : ¬ (am_A μ (am_F μ r0 92) x2.toNatClampNeg) = 0 → Wp d 261 (55, [some (.ref r0), some (.int x1), some (.int x2), o3, o4], [], μ) Q) (k2 : ¬ (¬ (am_A μ (am_F μ r0 92) x2.toNatClampNeg) = 0) → Wp d 261 (51, [some (.ref r0), some (.int x1), some (.int x2), o3, o4], [], μ) Q) :
    Wp d 261 (42, [some (.ref r0), some (.int x1), some (.int x2), o3, o4], [], μ) Q := wp_blk rfl e261_42 (And.intro h1 (And.intro h2 (And.intro h3 (And.intro h4 (And.intro k1 k2)))))
def q261_51 : List (Nat × Instr × Nat) := [(51, .iconst 1, 1), (52, .goto 4, 3)]
theorem e261_51 : am_dec am_M261 q261_51 = true := by decide +kernel
theorem b261_51 {d : Nat} {Q : Option Value ⊕ Nat → am_Mem → Prop} {μ : am_Mem} {r0 : Nat} {x1 x2 : Int32} {o3 o4 : Option Value}
    (k : Wp d 261 (56, [some (.ref r0), some (.int x1), some (.int x2), o3, o4], [.int (Int32.ofInt 1)], μ) Q) :
    Wp d 261 (51, [some (.ref r0), some (.int x1), some (.int x2), o3, o4], [], μ) Q := wp_blk rfl e261_51 k
def q261_55 : List (Nat × Instr × Nat) := [(55, .iconst 0, 1)]
theorem e261_55 : am_dec am_M261 q261_55 = true := by decide +kernel
theorem b261_55 {d : Nat} {Q : Option Value ⊕ Nat → am_Mem → Prop} {μ : am_Mem} {r0 : Nat} {x1 x2 : Int32} {o3 o4 : Option Value}
    (k : Wp d 261 (56, [some (.ref r0), some (.int x1), some (.int x2), o3, o4], [.int (Int32.ofInt 0)], μ) Q) :
    Wp d 261 (55, [some (.ref r0), some (.int x1), some (.int x2), o3, o4], [], μ) Q := wp_blk rfl e261_55 k
def q261_56 : List (Nat × Instr × Nat) := [(56, .istore_n 3, 1), (57, .iconst 0, 1), (58, .istore 4, 2)]
theorem e261_56 : am_dec am_M261 q261_56 = true := by decide +kernel
theorem b261_56 {d : Nat} {Q : Option Value ⊕ Nat → am_Mem → Prop} {μ : am_Mem} {r0 : Nat} {x1 x2 s0 : Int32} {o3 o4 : Option Value}
    (k : Wp d 261 (60, [some (.ref r0), some (.int x1), some (.int x2), some (.int s0), some (.int (Int32.ofInt 0))], [], μ) Q) :
    Wp d 261 (56, [some (.ref r0), some (.int x1), some (.int x2), o3, o4], [.int s0], μ) Q := wp_blk rfl e261_56 k
def q261_60 : List (Nat × Instr × Nat) := [(60, .iload 4, 2), (62, .aload_n 0, 1), (63, .getfield 177, 3), (66, .iload_n 2, 1), (67, .iaload, 1), (68, .if_icmp .ge 31, 3)]
theorem e261_60 : am_dec am_M261 q261_60 = true := by decide +kernel
theorem b261_60 {d : Nat} {Q : Option Value ⊕ Nat → am_Mem → Prop} {μ : am_Mem} {r0 : Nat} {x1 x2 x3 x4 : Int32}
    (h1 : am_kd μ r0 = (1, 12))
    (h2 : ¬ am_F μ r0 85 = 15)
    (h3 : (am_kd μ (am_F μ r0 85)).1 = 2 ∨ (am_kd μ (am_F μ r0 85)).1 = 8)
    (h4 : ¬ (x2 < 0 ∨ (am_kd μ (am_F μ r0 85)).2 ≤ x2.toNatClampNeg))
    (k1 : (am_A μ (am_F μ r0 85) x2.toNatClampNeg) ≤ x4 → Wp d 261 (99, [some (.ref r0), some (.int x1), some (.int x2), some (.int x3), some (.int x4)], [], μ) Q) (k2 : ¬ ((am_A μ (am_F μ r0 85) x2.toNatClampNeg) ≤ x4) → Wp d 261 (71, [some (.ref r0), some (.int x1), some (.int x2), some (.int x3), some (.int x4)], [], μ) Q) :
    Wp d 261 (60, [some (.ref r0), some (.int x1), some (.int x2), some (.int x3), some (.int x4)], [], μ) Q := wp_blk rfl e261_60 (And.intro h1 (And.intro h2 (And.intro h3 (And.intro h4 (And.intro k1 k2)))))
def q261_71 : List (Nat × Instr × Nat) := [(71, .iload_n 3, 1), (72, .ifCond .eq 27, 3)]
theorem e261_71 : am_dec am_M261 q261_71 = true := by decide +kernel
theorem b261_71 {d : Nat} {Q : Option Value ⊕ Nat → am_Mem → Prop} {μ : am_Mem} {r0 : Nat} {x1 x2 x3 x4 : Int32}
    (k1 : x3 = 0 → Wp d 261 (99, [some (.ref r0), some (.int x1), some (.int x2), some (.int x3), some (.int x4)], [], μ) Q) (k2 : ¬ (x3 = 0) → Wp d 261 (75, [some (.ref r0), some (.int x1), some (.int x2), some (.int x3), some (.int x4)], [], μ) Q) :
    Wp d 261 (71, [some (.ref r0), some (.int x1), some (.int x2), some (.int x3), some (.int x4)], [], μ) Q := wp_blk rfl e261_71 (And.intro k1 k2)
def q261_75 : List (Nat × Instr × Nat) := [(75, .aload_n 0, 1), (76, .getfield 192, 3), (79, .aload_n 0, 1), (80, .getfield 180, 3), (83, .bipush 40, 2), (85, .iload_n 2, 1), (86, .imul, 1), (87, .iload 4, 2), (89, .iadd, 1), (90, .iaload, 1), (91, .baload, 1), (92, .istore_n 3, 1), (93, .iinc 4 1, 3), (96, .goto (-36), 3)]
theorem e261_75 : am_dec am_M261 q261_75 = true := by decide +kernel
theorem b261_75 {d : Nat} {Q : Option Value ⊕ Nat → am_Mem → Prop} {μ : am_Mem} {r0 : Nat} {x1 x2 x3 x4 : Int32}
    (h1 : am_kd μ r0 = (1, 12))
    (h2 : ¬ am_F μ r0 92 = 15)
    (h3 : am_kd μ r0 = (1, 12))
    (h4 : ¬ am_F μ r0 86 = 15)
    (h5 : (am_kd μ (am_F μ r0 86)).1 = 2 ∨ (am_kd μ (am_F μ r0 86)).1 = 8)
    (h6 : ¬ (((((Int8.ofInt 40).toInt32) * x2) + x4) < 0 ∨ (am_kd μ (am_F μ r0 86)).2 ≤ ((((Int8.ofInt 40).toInt32) * x2) + x4).toNatClampNeg))
    (h7 : (am_kd μ (am_F μ r0 92)).1 = 3 ∨ (am_kd μ (am_F μ r0 92)).1 = 4 ∨ (am_kd μ (am_F μ r0 92)).1 = 10)
    (h8 : ¬ ((am_A μ (am_F μ r0 86) ((((Int8.ofInt 40).toInt32) * x2) + x4).toNatClampNeg) < 0 ∨ (am_kd μ (am_F μ r0 92)).2 ≤ (am_A μ (am_F μ r0 86) ((((Int8.ofInt 40).toInt32) * x2) + x4).toNatClampNeg).toNatClampNeg))
    (k : Wp d 261 (60, [some (.ref r0), some (.int x1), some (.int x2), some (.int (am_A μ (am_F μ r0 92) (am_A μ (am_F μ r0 86) ((((Int8.ofInt 40).toInt32) * x2) + x4).toNatClampNeg).toNatClampNeg)), some (.int (x4 + Int32.ofInt 1))], [], μ) Q) :
    Wp d 261 (75, [some (.ref r0), some (.int x1), some (.int x2), some (.int x3), some (.int x4)], [], μ) Q := wp_blk rfl e261_75 (And.intro h1 (And.intro h2 (And.intro h3 (And.intro h4 (And.intro h5 (And.intro h6 (And.intro h7 (And.intro h8 k))))))))
def q261_99 : List (Nat × Instr × Nat) := [(99, .iload_n 3, 1), (100, .ifCond .eq 23, 3)]
theorem e261_99 : am_dec am_M261 q261_99 = true := by decide +kernel
theorem b261_99 {d : Nat} {Q : Option Value ⊕ Nat → am_Mem → Prop} {μ : am_Mem} {r0 : Nat} {x1 x2 x3 x4 : Int32}
    (k1 : x3 = 0 → Wp d 261 (123, [some (.ref r0), some (.int x1), some (.int x2), some (.int x3), some (.int x4)], [], μ) Q) (k2 : ¬ (x3 = 0) → Wp d 261 (103, [some (.ref r0), some (.int x1), some (.int x2), some (.int x3), some (.int x4)], [], μ) Q) :
    Wp d 261 (99, [some (.ref r0), some (.int x1), some (.int x2), some (.int x3), some (.int x4)], [], μ) Q := wp_blk rfl e261_99 (And.intro k1 k2)
def q261_103 : List (Nat × Instr × Nat) := [(103, .aload_n 0, 1), (104, .getfield 189, 3), (107, .iload_n 2, 1), (108, .aload_n 0, 1), (109, .iload_n 2, 1)]
theorem e261_103 : am_dec am_M261 q261_103 = true := by decide +kernel
theorem e261_103_c : am_dc1 am_M261 110 (.invokevirtual 672) 3 = true := by decide +kernel
theorem b261_103 {d : Nat} {Q : Option Value ⊕ Nat → am_Mem → Prop} {μ : am_Mem} {r0 : Nat} {x1 x2 x3 x4 : Int32} {P : Int32 → am_Mem → Prop} {X : Nat → am_Mem → Prop}
    (h1 : am_kd μ r0 = (1, 12))
    (h2 : ¬ am_F μ r0 91 = 15)
    (hk : am_kd μ r0 = (1, 12))
    (hc : Wp d 262 (0, [some (.ref r0), some (.int x2), none, none, none, none], [], μ) (pI P X)) (hr : ∀ x μ', P x μ' → Wp (d + 1) 261 (113, [some (.ref r0), some (.int x1), some (.int x2), some (.int x3), some (.int x4)], [.int x, .int x2, .ref (am_F μ r0 91)], (μ')) Q)
    (hx : ∀ x μ', X x μ' → Q (.inr x) μ') :
    Wp (d + 1) 261 (103, [some (.ref r0), some (.int x1), some (.int x2), some (.int x3), some (.int x4)], [], μ) Q := wp_blk rfl e261_103 (And.intro h1 (And.intro h2 (wp_cv (as := [.int x2]) rfl e261_103_c rfl rfl rfl rfl rfl hk hc (fun v μ' hv => by obtain ⟨x, rfl, hp⟩ := pI_r hv; exact hr x μ' hp) hx)))
def q261_113 : List (Nat × Instr × Nat) := [(113, .iastore, 1), (114, .aload_n 0, 1), (115, .getfield 192, 3), (118, .iload_n 2, 1), (119, .iconst 1, 1), (120, .bastore, 1)]
theorem e261_113 : am_dec am_M261 q261_113 = true := by decide +kernel
theorem b261_113 {d : Nat} {Q : Option Value ⊕ Nat → am_Mem → Prop} {μ : am_Mem} {r0 r90 : Nat} {x1 x2 x3 x4 s1 s2 : Int32}
    (h1 : (am_kd μ r90).1 = 2)
    (h2 : ¬ (s1 < 0 ∨ (am_kd μ r90).2 ≤ s1.toNatClampNeg))
    (h3 : am_kd (am_pA μ r90 s1.toNatClampNeg s2) r0 = (1, 12))
    (h4 : ¬ am_F (am_pA μ r90 s1.toNatClampNeg s2) r0 92 = 15)
    (h5 : (am_kd (am_pA μ r90 s1.toNatClampNeg s2) (am_F (am_pA μ r90 s1.toNatClampNeg s2) r0 92)).1 = 3 ∨ (am_kd (am_pA μ r90 s1.toNatClampNeg s2) (am_F (am_pA μ r90 s1.toNatClampNeg s2) r0 92)).1 = 4)
    (h6 : ¬ (x2 < 0 ∨ (am_kd (am_pA μ r90 s1.toNatClampNeg s2) (am_F (am_pA μ r90 s1.toNatClampNeg s2) r0 92)).2 ≤ x2.toNatClampNeg))
    (k : Wp d 261 (121, [some (.ref r0), some (.int x1), some (.int x2), some (.int x3), some (.int x4)], [], (am_pA (am_pA μ r90 s1.toNatClampNeg s2) (am_F (am_pA μ r90 s1.toNatClampNeg s2) r0 92) x2.toNatClampNeg (am_nar (am_kd (am_pA μ r90 s1.toNatClampNeg s2) (am_F (am_pA μ r90 s1.toNatClampNeg s2) r0 92)).1 (Int32.ofInt 1)))) Q) :
    Wp d 261 (113, [some (.ref r0), some (.int x1), some (.int x2), some (.int x3), some (.int x4)], [.int s2, .int s1, .ref r90], μ) Q := wp_blk rfl e261_113 (And.intro h1 (And.intro h2 (And.intro h3 (And.intro h4 (And.intro h5 (And.intro h6 k))))))
def q261_121 : List (Nat × Instr × Nat) := [(121, .iconst 1, 1), (122, .istore_n 1, 1)]
theorem e261_121 : am_dec am_M261 q261_121 = true := by decide +kernel
theorem b261_121 {d : Nat} {Q : Option Value ⊕ Nat → am_Mem → Prop} {μ : am_Mem} {r0 : Nat} {x1 x2 x3 x4 : Int32}
    (k : Wp d 261 (123, [some (.ref r0), some (.int (Int32.ofInt 1)), some (.int x2), some (.int x3), some (.int x4)], [], μ) Q) :
    Wp d 261 (121, [some (.ref r0), some (.int x1), some (.int x2), some (.int x3), some (.int x4)], [], μ) Q := wp_blk rfl e261_121 k
def q261_123 : List (Nat × Instr × Nat) := [(123, .iinc 2 (-1), 3), (126, .goto (-88), 3)]
theorem e261_123 : am_dec am_M261 q261_123 = true := by decide +kernel
theorem b261_123 {d : Nat} {Q : Option Value ⊕ Nat → am_Mem → Prop} {μ : am_Mem} {r0 : Nat} {x1 x2 x3 x4 : Int32}
    (k : Wp d 261 (38, [some (.ref r0), some (.int x1), some (.int (x2 + Int32.ofInt (-1))), some (.int x3), some (.int x4)], [], μ) Q) :
    Wp d 261 (123, [some (.ref r0), some (.int x1), some (.int x2), some (.int x3), some (.int x4)], [], μ) Q := wp_blk rfl e261_123 k
def q261_129 : List (Nat × Instr × Nat) := [(129, .goto (-104), 3)]
theorem e261_129 : am_dec am_M261 q261_129 = true := by decide +kernel
theorem b261_129 {d : Nat} {Q : Option Value ⊕ Nat → am_Mem → Prop} {μ : am_Mem} {r0 : Nat} {x1 x2 : Int32} {o3 o4 : Option Value}
    (k : Wp d 261 (25, [some (.ref r0), some (.int x1), some (.int x2), o3, o4], [], μ) Q) :
    Wp d 261 (129, [some (.ref r0), some (.int x1), some (.int x2), o3, o4], [], μ) Q := wp_blk rfl e261_129 k
theorem e261_132_r : am_dec am_M261 [(132, .return_, 1)] = true := by decide +kernel
theorem b261_132 {d : Nat} {Q : Option Value ⊕ Nat → am_Mem → Prop} {μ : am_Mem} {r0 : Nat} {x1 : Int32} {o2 o3 o4 : Option Value}
    (k : Q (.inl none) μ) :
    Wp d 261 (132, [some (.ref r0), some (.int x1), o2, o3, o4], [], μ) Q := (wp_rv rfl e261_132_r rfl k)
/-! RuleSheetsModel.weigh(I)I -/
def q262_0 : List (Nat × Instr × Nat) := [(0, .aload_n 0, 1), (1, .getfield 174, 3), (4, .iload_n 1, 1), (5, .baload, 1), (6, .ifCond .eq 12, 3)]
theorem e262_0 : am_dec am_M262 q262_0 = true := by decide +kernel
theorem b262_0 {d : Nat} {Q : Option Value ⊕ Nat → am_Mem → Prop} {μ : am_Mem} {r0 : Nat} {x1 : Int32}
    (h1 : am_kd μ r0 = (1, 12))
    (h2 : ¬ am_F μ r0 84 = 15)
    (h3 : (am_kd μ (am_F μ r0 84)).1 = 3 ∨ (am_kd μ (am_F μ r0 84)).1 = 4 ∨ (am_kd μ (am_F μ r0 84)).1 = 10)
    (h4 : ¬ (x1 < 0 ∨ (am_kd μ (am_F μ r0 84)).2 ≤ x1.toNatClampNeg))
    (k1 : (am_A μ (am_F μ r0 84) x1.toNatClampNeg) = 0 → Wp d 262 (18, [some (.ref r0), some (.int x1), none, none, none, none], [], μ) Q) (k2 : ¬ ((am_A μ (am_F μ r0 84) x1.toNatClampNeg) = 0) → Wp d 262 (9, [some (.ref r0), some (.int x1), none, none, none, none], [], μ) Q) :
    Wp d 262 (0, [some (.ref r0), some (.int x1), none, none, none, none], [], μ) Q := wp_blk rfl e262_0 (And.intro h1 (And.intro h2 (And.intro h3 (And.intro h4 (And.intro k1 k2)))))
def q262_9 : List (Nat × Instr × Nat) := [(9, .aload_n 0, 1), (10, .getfield 183, 3), (13, .iconst 2, 1), (14, .iload_n 1, 1), (15, .imul, 1), (16, .iaload, 1)]
theorem e262_9 : am_dec am_M262 q262_9 = true := by decide +kernel
theorem e262_9_r : am_dec am_M262 [(17, .ireturn, 1)] = true := by decide +kernel
theorem b262_9 {d : Nat} {Q : Option Value ⊕ Nat → am_Mem → Prop} {μ : am_Mem} {r0 : Nat} {x1 : Int32}
    (h1 : am_kd μ r0 = (1, 12))
    (h2 : ¬ am_F μ r0 87 = 15)
    (h3 : (am_kd μ (am_F μ r0 87)).1 = 2 ∨ (am_kd μ (am_F μ r0 87)).1 = 8)
    (h4 : ¬ (((Int32.ofInt 2) * x1) < 0 ∨ (am_kd μ (am_F μ r0 87)).2 ≤ ((Int32.ofInt 2) * x1).toNatClampNeg))
    (k : Q (.inl (some (.int (am_A μ (am_F μ r0 87) ((Int32.ofInt 2) * x1).toNatClampNeg)))) μ) :
    Wp d 262 (9, [some (.ref r0), some (.int x1), none, none, none, none], [], μ) Q := wp_blk rfl e262_9 (And.intro h1 (And.intro h2 (And.intro h3 (And.intro h4 (wp_ri (ty := .int) rfl e262_9_r rfl ⟨rfl, rfl⟩ k)))))
def q262_18 : List (Nat × Instr × Nat) := [(18, .aload_n 0, 1), (19, .getfield 186, 3), (22, .iconst 2, 1), (23, .iload_n 1, 1), (24, .imul, 1), (25, .iaload, 1), (26, .iconst 1, 1), (27, .if_icmp .ne 7, 3)]
theorem e262_18 : am_dec am_M262 q262_18 = true := by decide +kernel
theorem b262_18 {d : Nat} {Q : Option Value ⊕ Nat → am_Mem → Prop} {μ : am_Mem} {r0 : Nat} {x1 : Int32}
    (h1 : am_kd μ r0 = (1, 12))
    (h2 : ¬ am_F μ r0 88 = 15)
    (h3 : (am_kd μ (am_F μ r0 88)).1 = 2 ∨ (am_kd μ (am_F μ r0 88)).1 = 8)
    (h4 : ¬ (((Int32.ofInt 2) * x1) < 0 ∨ (am_kd μ (am_F μ r0 88)).2 ≤ ((Int32.ofInt 2) * x1).toNatClampNeg))
    (k1 : ¬ (am_A μ (am_F μ r0 88) ((Int32.ofInt 2) * x1).toNatClampNeg) = (Int32.ofInt 1) → Wp d 262 (34, [some (.ref r0), some (.int x1), none, none, none, none], [], μ) Q) (k2 : ¬ (¬ (am_A μ (am_F μ r0 88) ((Int32.ofInt 2) * x1).toNatClampNeg) = (Int32.ofInt 1)) → Wp d 262 (30, [some (.ref r0), some (.int x1), none, none, none, none], [], μ) Q) :
    Wp d 262 (18, [some (.ref r0), some (.int x1), none, none, none, none], [], μ) Q := wp_blk rfl e262_18 (And.intro h1 (And.intro h2 (And.intro h3 (And.intro h4 (And.intro k1 k2)))))
def q262_30 : List (Nat × Instr × Nat) := [(30, .iconst 1, 1), (31, .goto 4, 3)]
theorem e262_30 : am_dec am_M262 q262_30 = true := by decide +kernel
theorem b262_30 {d : Nat} {Q : Option Value ⊕ Nat → am_Mem → Prop} {μ : am_Mem} {r0 : Nat} {x1 : Int32}
    (k : Wp d 262 (35, [some (.ref r0), some (.int x1), none, none, none, none], [.int (Int32.ofInt 1)], μ) Q) :
    Wp d 262 (30, [some (.ref r0), some (.int x1), none, none, none, none], [], μ) Q := wp_blk rfl e262_30 k
def q262_34 : List (Nat × Instr × Nat) := [(34, .iconst 0, 1)]
theorem e262_34 : am_dec am_M262 q262_34 = true := by decide +kernel
theorem b262_34 {d : Nat} {Q : Option Value ⊕ Nat → am_Mem → Prop} {μ : am_Mem} {r0 : Nat} {x1 : Int32}
    (k : Wp d 262 (35, [some (.ref r0), some (.int x1), none, none, none, none], [.int (Int32.ofInt 0)], μ) Q) :
    Wp d 262 (34, [some (.ref r0), some (.int x1), none, none, none, none], [], μ) Q := wp_blk rfl e262_34 k
def q262_35 : List (Nat × Instr × Nat) := [(35, .istore_n 2, 1), (36, .aload_n 0, 1), (37, .getfield 189, 3), (40, .aload_n 0, 1), (41, .getfield 180, 3), (44, .bipush 40, 2), (46, .iload_n 1, 1), (47, .imul, 1), (48, .iaload, 1), (49, .iaload, 1), (50, .istore_n 3, 1), (51, .iconst 1, 1), (52, .istore 4, 2)]
theorem e262_35 : am_dec am_M262 q262_35 = true := by decide +kernel
theorem b262_35 {d : Nat} {Q : Option Value ⊕ Nat → am_Mem → Prop} {μ : am_Mem} {r0 : Nat} {x1 s0 : Int32}
    (h1 : am_kd μ r0 = (1, 12))
    (h2 : ¬ am_F μ r0 91 = 15)
    (h3 : am_kd μ r0 = (1, 12))
    (h4 : ¬ am_F μ r0 86 = 15)
    (h5 : (am_kd μ (am_F μ r0 86)).1 = 2 ∨ (am_kd μ (am_F μ r0 86)).1 = 8)
    (h6 : ¬ ((((Int8.ofInt 40).toInt32) * x1) < 0 ∨ (am_kd μ (am_F μ r0 86)).2 ≤ (((Int8.ofInt 40).toInt32) * x1).toNatClampNeg))
    (h7 : (am_kd μ (am_F μ r0 91)).1 = 2 ∨ (am_kd μ (am_F μ r0 91)).1 = 8)
    (h8 : ¬ ((am_A μ (am_F μ r0 86) (((Int8.ofInt 40).toInt32) * x1).toNatClampNeg) < 0 ∨ (am_kd μ (am_F μ r0 91)).2 ≤ (am_A μ (am_F μ r0 86) (((Int8.ofInt 40).toInt32) * x1).toNatClampNeg).toNatClampNeg))
    (k : Wp d 262 (54, [some (.ref r0), some (.int x1), some (.int s0), some (.int (am_A μ (am_F μ r0 91) (am_A μ (am_F μ r0 86) (((Int8.ofInt 40).toInt32) * x1).toNatClampNeg).toNatClampNeg)), some (.int (Int32.ofInt 1)), none], [], μ) Q) :
    Wp d 262 (35, [some (.ref r0), some (.int x1), none, none, none, none], [.int s0], μ) Q := wp_blk rfl e262_35 (And.intro h1 (And.intro h2 (And.intro h3 (And.intro h4 (And.intro h5 (And.intro h6 (And.intro h7 (And.intro h8 k))))))))
def q262_54 : List (Nat × Instr × Nat) := [(54, .iload 4, 2), (56, .aload_n 0, 1), (57, .getfield 177, 3), (60, .iload_n 1, 1), (61, .iaload, 1), (62, .if_icmp .ge 60, 3)]
theorem e262_54 : am_dec am_M262 q262_54 = true := by decide +kernel
theorem b262_54 {d : Nat} {Q : Option Value ⊕ Nat → am_Mem → Prop} {μ : am_Mem} {r0 : Nat} {x1 x2 x3 x4 : Int32} {o5 : Option Value}
    (h1 : am_kd μ r0 = (1, 12))
    (h2 : ¬ am_F μ r0 85 = 15)
    (h3 : (am_kd μ (am_F μ r0 85)).1 = 2 ∨ (am_kd μ (am_F μ r0 85)).1 = 8)
    (h4 : ¬ (x1 < 0 ∨ (am_kd μ (am_F μ r0 85)).2 ≤ x1.toNatClampNeg))
    (k1 : (am_A μ (am_F μ r0 85) x1.toNatClampNeg) ≤ x4 → Wp d 262 (122, [some (.ref r0), some (.int x1), some (.int x2), some (.int x3), some (.int x4), o5], [], μ) Q) (k2 : ¬ ((am_A μ (am_F μ r0 85) x1.toNatClampNeg) ≤ x4) → Wp d 262 (65, [some (.ref r0), some (.int x1), some (.int x2), some (.int x3), some (.int x4), o5], [], μ) Q) :
    Wp d 262 (54, [some (.ref r0), some (.int x1), some (.int x2), some (.int x3), some (.int x4), o5], [], μ) Q := wp_blk rfl e262_54 (And.intro h1 (And.intro h2 (And.intro h3 (And.intro h4 (And.intro k1 k2)))))
def q262_65 : List (Nat × Instr × Nat) := [(65, .aload_n 0, 1), (66, .getfield 189, 3), (69, .aload_n 0, 1), (70, .getfield 180, 3), (73, .bipush 40, 2), (75, .iload_n 1, 1), (76, .imul, 1), (77, .iload 4, 2), (79, .iadd, 1), (80, .iaload, 1), (81, .iaload, 1), (82, .istore 5, 2), (84, .iload_n 2, 1), (85, .ifCond .eq 18, 3)]
theorem e262_65 : am_dec am_M262 q262_65 = true := by decide +kernel
theorem b262_65 {d : Nat} {Q : Option Value ⊕ Nat → am_Mem → Prop} {μ : am_Mem} {r0 : Nat} {x1 x2 x3 x4 : Int32} {o5 : Option Value}
    (h1 : am_kd μ r0 = (1, 12))
    (h2 : ¬ am_F μ r0 91 = 15)
    (h3 : am_kd μ r0 = (1, 12))
    (h4 : ¬ am_F μ r0 86 = 15)
    (h5 : (am_kd μ (am_F μ r0 86)).1 = 2 ∨ (am_kd μ (am_F μ r0 86)).1 = 8)
    (h6 : ¬ (((((Int8.ofInt 40).toInt32) * x1) + x4) < 0 ∨ (am_kd μ (am_F μ r0 86)).2 ≤ ((((Int8.ofInt 40).toInt32) * x1) + x4).toNatClampNeg))
    (h7 : (am_kd μ (am_F μ r0 91)).1 = 2 ∨ (am_kd μ (am_F μ r0 91)).1 = 8)
    (h8 : ¬ ((am_A μ (am_F μ r0 86) ((((Int8.ofInt 40).toInt32) * x1) + x4).toNatClampNeg) < 0 ∨ (am_kd μ (am_F μ r0 91)).2 ≤ (am_A μ (am_F μ r0 86) ((((Int8.ofInt 40).toInt32) * x1) + x4).toNatClampNeg).toNatClampNeg))
    (k1 : x2 = 0 → Wp d 262 (103, [some (.ref r0), some (.int x1), some (.int x2), some (.int x3), some (.int x4), some (.int (am_A μ (am_F μ r0 91) (am_A μ (am_F μ r0 86) ((((Int8.ofInt 40).toInt32) * x1) + x4).toNatClampNeg).toNatClampNeg))], [], μ) Q) (k2 : ¬ (x2 = 0) → Wp d 262 (88, [some (.ref r0), some (.int x1), some (.int x2), some (.int x3), some (.int x4), some (.int (am_A μ (am_F μ r0 91) (am_A μ (am_F μ r0 86) ((((Int8.ofInt 40).toInt32) * x1) + x4).toNatClampNeg).toNatClampNeg))], [], μ) Q) :
    Wp d 262 (65, [some (.ref r0), some (.int x1), some (.int x2), some (.int x3), some (.int x4), o5], [], μ) Q := wp_blk rfl e262_65 (And.intro h1 (And.intro h2 (And.intro h3 (And.intro h4 (And.intro h5 (And.intro h6 (And.intro h7 (And.intro h8 (And.intro k1 k2)))))))))
def q262_88 : List (Nat × Instr × Nat) := [(88, .iload 5, 2), (90, .iload_n 3, 1), (91, .if_icmp .ge 8, 3)]
theorem e262_88 : am_dec am_M262 q262_88 = true := by decide +kernel
theorem b262_88 {d : Nat} {Q : Option Value ⊕ Nat → am_Mem → Prop} {μ : am_Mem} {r0 : Nat} {x1 x2 x3 x4 x5 : Int32}
    (k1 : x3 ≤ x5 → Wp d 262 (99, [some (.ref r0), some (.int x1), some (.int x2), some (.int x3), some (.int x4), some (.int x5)], [], μ) Q) (k2 : ¬ (x3 ≤ x5) → Wp d 262 (94, [some (.ref r0), some (.int x1), some (.int x2), some (.int x3), some (.int x4), some (.int x5)], [], μ) Q) :
    Wp d 262 (88, [some (.ref r0), some (.int x1), some (.int x2), some (.int x3), some (.int x4), some (.int x5)], [], μ) Q := wp_blk rfl e262_88 (And.intro k1 k2)
def q262_94 : List (Nat × Instr × Nat) := [(94, .iload 5, 2), (96, .goto 19, 3)]
theorem e262_94 : am_dec am_M262 q262_94 = true := by decide +kernel
theorem b262_94 {d : Nat} {Q : Option Value ⊕ Nat → am_Mem → Prop} {μ : am_Mem} {r0 : Nat} {x1 x2 x3 x4 x5 : Int32}
    (k : Wp d 262 (115, [some (.ref r0), some (.int x1), some (.int x2), some (.int x3), some (.int x4), some (.int x5)], [.int x5], μ) Q) :
    Wp d 262 (94, [some (.ref r0), some (.int x1), some (.int x2), some (.int x3), some (.int x4), some (.int x5)], [], μ) Q := wp_blk rfl e262_94 k
def q262_99 : List (Nat × Instr × Nat) := [(99, .iload_n 3, 1), (100, .goto 15, 3)]
theorem e262_99 : am_dec am_M262 q262_99 = true := by decide +kernel
theorem b262_99 {d : Nat} {Q : Option Value ⊕ Nat → am_Mem → Prop} {μ : am_Mem} {r0 : Nat} {x1 x2 x3 x4 x5 : Int32}
    (k : Wp d 262 (115, [some (.ref r0), some (.int x1), some (.int x2), some (.int x3), some (.int x4), some (.int x5)], [.int x3], μ) Q) :
    Wp d 262 (99, [some (.ref r0), some (.int x1), some (.int x2), some (.int x3), some (.int x4), some (.int x5)], [], μ) Q := wp_blk rfl e262_99 k
def q262_103 : List (Nat × Instr × Nat) := [(103, .iload 5, 2), (105, .iload_n 3, 1), (106, .if_icmp .le 8, 3)]
theorem e262_103 : am_dec am_M262 q262_103 = true := by decide +kernel
theorem b262_103 {d : Nat} {Q : Option Value ⊕ Nat → am_Mem → Prop} {μ : am_Mem} {r0 : Nat} {x1 x2 x3 x4 x5 : Int32}
    (k1 : x5 ≤ x3 → Wp d 262 (114, [some (.ref r0), some (.int x1), some (.int x2), some (.int x3), some (.int x4), some (.int x5)], [], μ) Q) (k2 : ¬ (x5 ≤ x3) → Wp d 262 (109, [some (.ref r0), some (.int x1), some (.int x2), some (.int x3), some (.int x4), some (.int x5)], [], μ) Q) :
    Wp d 262 (103, [some (.ref r0), some (.int x1), some (.int x2), some (.int x3), some (.int x4), some (.int x5)], [], μ) Q := wp_blk rfl e262_103 (And.intro k1 k2)
def q262_109 : List (Nat × Instr × Nat) := [(109, .iload 5, 2), (111, .goto 4, 3)]
theorem e262_109 : am_dec am_M262 q262_109 = true := by decide +kernel
theorem b262_109 {d : Nat} {Q : Option Value ⊕ Nat → am_Mem → Prop} {μ : am_Mem} {r0 : Nat} {x1 x2 x3 x4 x5 : Int32}
    (k : Wp d 262 (115, [some (.ref r0), some (.int x1), some (.int x2), some (.int x3), some (.int x4), some (.int x5)], [.int x5], μ) Q) :
    Wp d 262 (109, [some (.ref r0), some (.int x1), some (.int x2), some (.int x3), some (.int x4), some (.int x5)], [], μ) Q := wp_blk rfl e262_109 k
def q262_114 : List (Nat × Instr × Nat) := [(114, .iload_n 3, 1)]
theorem e262_114 : am_dec am_M262 q262_114 = true := by decide +kernel
theorem b262_114 {d : Nat} {Q : Option Value ⊕ Nat → am_Mem → Prop} {μ : am_Mem} {r0 : Nat} {x1 x2 x3 x4 x5 : Int32}
    (k : Wp d 262 (115, [some (.ref r0), some (.int x1), some (.int x2), some (.int x3), some (.int x4), some (.int x5)], [.int x3], μ) Q) :
    Wp d 262 (114, [some (.ref r0), some (.int x1), some (.int x2), some (.int x3), some (.int x4), some (.int x5)], [], μ) Q := wp_blk rfl e262_114 k
def q262_115 : List (Nat × Instr × Nat) := [(115, .istore_n 3, 1), (116, .iinc 4 1, 3), (119, .goto (-65), 3)]
theorem e262_115 : am_dec am_M262 q262_115 = true := by decide +kernel
theorem b262_115 {d : Nat} {Q : Option Value ⊕ Nat → am_Mem → Prop} {μ : am_Mem} {r0 : Nat} {x1 x2 x3 x4 x5 s0 : Int32}
    (k : Wp d 262 (54, [some (.ref r0), some (.int x1), some (.int x2), some (.int s0), some (.int (x4 + Int32.ofInt 1)), some (.int x5)], [], μ) Q) :
    Wp d 262 (115, [some (.ref r0), some (.int x1), some (.int x2), some (.int x3), some (.int x4), some (.int x5)], [.int s0], μ) Q := wp_blk rfl e262_115 k
def q262_122 : List (Nat × Instr × Nat) := [(122, .iload_n 3, 1)]
theorem e262_122 : am_dec am_M262 q262_122 = true := by decide +kernel
theorem e262_122_r : am_dec am_M262 [(123, .ireturn, 1)] = true := by decide +kernel
theorem b262_122 {d : Nat} {Q : Option Value ⊕ Nat → am_Mem → Prop} {μ : am_Mem} {r0 : Nat} {x1 x2 x3 x4 : Int32} {o5 : Option Value}
    (k : Q (.inl (some (.int x3))) μ) :
    Wp d 262 (122, [some (.ref r0), some (.int x1), some (.int x2), some (.int x3), some (.int x4), o5], [], μ) Q := wp_blk rfl e262_122 (wp_ri (ty := .int) rfl e262_122_r rfl ⟨rfl, rfl⟩ k)
/-! RuleSheetsModel.defect(I)I -/
def q263_0 : List (Nat × Instr × Nat) := [(0, .aload_n 0, 1), (1, .aload_n 0, 1), (2, .getfield 593, 3), (5, .ifCond .ne 7, 3)]
theorem e263_0 : am_dec am_M263 q263_0 = true := by decide +kernel
theorem b263_0 {d : Nat} {Q : Option Value ⊕ Nat → am_Mem → Prop} {μ : am_Mem} {r0 : Nat} {x1 : Int32}
    (h1 : am_kd μ r0 = (1, 12))
    (k1 : ¬ (am_A μ r0 81) = 0 → Wp d 263 (12, [some (.ref r0), some (.int x1)], [.ref r0], μ) Q) (k2 : ¬ (¬ (am_A μ r0 81) = 0) → Wp d 263 (8, [some (.ref r0), some (.int x1)], [.ref r0], μ) Q) :
    Wp d 263 (0, [some (.ref r0), some (.int x1)], [], μ) Q := wp_blk rfl e263_0 (And.intro h1 (And.intro k1 k2))
def q263_8 : List (Nat × Instr × Nat) := [(8, .iconst 1, 1), (9, .goto 4, 3)]
theorem e263_8 : am_dec am_M263 q263_8 = true := by decide +kernel
theorem b263_8 {d : Nat} {Q : Option Value ⊕ Nat → am_Mem → Prop} {μ : am_Mem} {r0 r90 : Nat} {x1 : Int32}
    (k : Wp d 263 (13, [some (.ref r0), some (.int x1)], [.int (Int32.ofInt 1), .ref r90], μ) Q) :
    Wp d 263 (8, [some (.ref r0), some (.int x1)], [.ref r90], μ) Q := wp_blk rfl e263_8 k
def q263_12 : List (Nat × Instr × Nat) := [(12, .iconst 0, 1)]
theorem e263_12 : am_dec am_M263 q263_12 = true := by decide +kernel
theorem b263_12 {d : Nat} {Q : Option Value ⊕ Nat → am_Mem → Prop} {μ : am_Mem} {r0 r90 : Nat} {x1 : Int32}
    (k : Wp d 263 (13, [some (.ref r0), some (.int x1)], [.int (Int32.ofInt 0), .ref r90], μ) Q) :
    Wp d 263 (12, [some (.ref r0), some (.int x1)], [.ref r90], μ) Q := wp_blk rfl e263_12 k
def q263_13 : List (Nat × Instr × Nat) := [(13, .aload_n 0, 1), (14, .getfield 593, 3), (17, .ifCond .eq 17, 3)]
theorem e263_13 : am_dec am_M263 q263_13 = true := by decide +kernel
theorem b263_13 {d : Nat} {Q : Option Value ⊕ Nat → am_Mem → Prop} {μ : am_Mem} {r0 r90 : Nat} {x1 s1 : Int32}
    (h1 : am_kd μ r0 = (1, 12))
    (k1 : (am_A μ r0 81) = 0 → Wp d 263 (34, [some (.ref r0), some (.int x1)], [.int s1, .ref r90], μ) Q) (k2 : ¬ ((am_A μ r0 81) = 0) → Wp d 263 (20, [some (.ref r0), some (.int x1)], [.int s1, .ref r90], μ) Q) :
    Wp d 263 (13, [some (.ref r0), some (.int x1)], [.int s1, .ref r90], μ) Q := wp_blk rfl e263_13 (And.intro h1 (And.intro k1 k2))
def q263_20 : List (Nat × Instr × Nat) := [(20, .iload_n 1, 1), (21, .i2l, 1), (22, .lconst 0, 1), (23, .lconst 1, 1)]
theorem e263_20 : am_dec am_M263 q263_20 = true := by decide +kernel
theorem e263_20_c : am_dc1 am_M263 24 (.invokestatic 205) 3 = true := by decide +kernel
theorem b263_20 {d : Nat} {Q : Option Value ⊕ Nat → am_Mem → Prop} {μ : am_Mem} {r0 r90 : Nat} {x1 s1 : Int32} {P : Int32 → am_Mem → Prop} {X : Nat → am_Mem → Prop}
    (hc : Wp d 150 (0, [some (.long x1.toInt64), none, some (.long (Int64.ofNat 0)), none, some (.long (Int64.ofNat 1)), none], [], μ) (pI P X)) (hr : ∀ x μ', P x μ' → Wp (d + 1) 263 (27, [some (.ref r0), some (.int x1)], [.int x, .int s1, .ref r90], (μ')) Q)
    (hx : ∀ x μ', X x μ' → Q (.inr x) μ') :
    Wp (d + 1) 263 (20, [some (.ref r0), some (.int x1)], [.int s1, .ref r90], μ) Q := wp_blk rfl e263_20 (wp_cs (vs := [.long x1.toInt64, .long (Int64.ofNat 0), .long (Int64.ofNat 1)]) rfl e263_20_c rfl rfl rfl rfl rfl hc (fun v μ' hv => by obtain ⟨x, rfl, hp⟩ := pI_r hv; exact hr x μ' hp) hx)
def q263_27 : List (Nat × Instr × Nat) := [(27, .ifCond .ne 7, 3)]
theorem e263_27 : am_dec am_M263 q263_27 = true := by decide +kernel
theorem b263_27 {d : Nat} {Q : Option Value ⊕ Nat → am_Mem → Prop} {μ : am_Mem} {r0 r90 : Nat} {x1 s1 s2 : Int32}
    (k1 : ¬ s2 = 0 → Wp d 263 (34, [some (.ref r0), some (.int x1)], [.int s1, .ref r90], μ) Q) (k2 : ¬ (¬ s2 = 0) → Wp d 263 (30, [some (.ref r0), some (.int x1)], [.int s1, .ref r90], μ) Q) :
    Wp d 263 (27, [some (.ref r0), some (.int x1)], [.int s2, .int s1, .ref r90], μ) Q := wp_blk rfl e263_27 (And.intro k1 k2)
def q263_30 : List (Nat × Instr × Nat) := [(30, .iconst 1, 1), (31, .goto 4, 3)]
theorem e263_30 : am_dec am_M263 q263_30 = true := by decide +kernel
theorem b263_30 {d : Nat} {Q : Option Value ⊕ Nat → am_Mem → Prop} {μ : am_Mem} {r0 r90 : Nat} {x1 s1 : Int32}
    (k : Wp d 263 (35, [some (.ref r0), some (.int x1)], [.int (Int32.ofInt 1), .int s1, .ref r90], μ) Q) :
    Wp d 263 (30, [some (.ref r0), some (.int x1)], [.int s1, .ref r90], μ) Q := wp_blk rfl e263_30 k
def q263_34 : List (Nat × Instr × Nat) := [(34, .iconst 0, 1)]
theorem e263_34 : am_dec am_M263 q263_34 = true := by decide +kernel
theorem b263_34 {d : Nat} {Q : Option Value ⊕ Nat → am_Mem → Prop} {μ : am_Mem} {r0 r90 : Nat} {x1 s1 : Int32}
    (k : Wp d 263 (35, [some (.ref r0), some (.int x1)], [.int (Int32.ofInt 0), .int s1, .ref r90], μ) Q) :
    Wp d 263 (34, [some (.ref r0), some (.int x1)], [.int s1, .ref r90], μ) Q := wp_blk rfl e263_34 k
def q263_35 : List (Nat × Instr × Nat) := [(35, .iconst 0, 1)]
theorem e263_35 : am_dec am_M263 q263_35 = true := by decide +kernel
theorem e263_35_c : am_dc1 am_M263 36 (.invokevirtual 212) 3 = true := by decide +kernel
theorem b263_35 {d : Nat} {Q : Option Value ⊕ Nat → am_Mem → Prop} {μ : am_Mem} {r0 r90 : Nat} {x1 s1 s2 : Int32} {P : Int32 → am_Mem → Prop} {X : Nat → am_Mem → Prop}
    (hk : am_kd μ r90 = (1, 12))
    (hc : Wp d 151 (0, [some (.ref r90), some (.int s1), some (.int s2), some (.int (Int32.ofInt 0))], [], μ) (pI P X)) (hr : ∀ x μ', P x μ' → Wp (d + 1) 263 (39, [some (.ref r0), some (.int x1)], [.int x], (μ')) Q)
    (hx : ∀ x μ', X x μ' → Q (.inr x) μ') :
    Wp (d + 1) 263 (35, [some (.ref r0), some (.int x1)], [.int s2, .int s1, .ref r90], μ) Q := wp_blk rfl e263_35 (wp_cv (as := [.int s1, .int s2, .int (Int32.ofInt 0)]) rfl e263_35_c rfl rfl rfl rfl rfl hk hc (fun v μ' hv => by obtain ⟨x, rfl, hp⟩ := pI_r hv; exact hr x μ' hp) hx)
def q263_39 : List (Nat × Instr × Nat) := [(39, .ifCond .eq 5, 3)]
theorem e263_39 : am_dec am_M263 q263_39 = true := by decide +kernel
theorem b263_39 {d : Nat} {Q : Option Value ⊕ Nat → am_Mem → Prop} {μ : am_Mem} {r0 : Nat} {x1 s0 : Int32}
    (k1 : s0 = 0 → Wp d 263 (44, [some (.ref r0), some (.int x1)], [], μ) Q) (k2 : ¬ (s0 = 0) → Wp d 263 (42, [some (.ref r0), some (.int x1)], [], μ) Q) :
    Wp d 263 (39, [some (.ref r0), some (.int x1)], [.int s0], μ) Q := wp_blk rfl e263_39 (And.intro k1 k2)
def q263_42 : List (Nat × Instr × Nat) := [(42, .iconst 0, 1)]
theorem e263_42 : am_dec am_M263 q263_42 = true := by decide +kernel
theorem e263_42_r : am_dec am_M263 [(43, .ireturn, 1)] = true := by decide +kernel
theorem b263_42 {d : Nat} {Q : Option Value ⊕ Nat → am_Mem → Prop} {μ : am_Mem} {r0 : Nat} {x1 : Int32}
    (k : Q (.inl (some (.int (Int32.ofInt 0)))) μ) :
    Wp d 263 (42, [some (.ref r0), some (.int x1)], [], μ) Q := wp_blk rfl e263_42 (wp_ri (ty := .int) rfl e263_42_r rfl ⟨rfl, rfl⟩ k)
def q263_44 : List (Nat × Instr × Nat) := [(44, .iload_n 1, 1), (45, .ifCond .ne 10, 3)]
theorem e263_44 : am_dec am_M263 q263_44 = true := by decide +kernel
theorem b263_44 {d : Nat} {Q : Option Value ⊕ Nat → am_Mem → Prop} {μ : am_Mem} {r0 : Nat} {x1 : Int32}
    (k1 : ¬ x1 = 0 → Wp d 263 (55, [some (.ref r0), some (.int x1)], [], μ) Q) (k2 : ¬ (¬ x1 = 0) → Wp d 263 (48, [some (.ref r0), some (.int x1)], [], μ) Q) :
    Wp d 263 (44, [some (.ref r0), some (.int x1)], [], μ) Q := wp_blk rfl e263_44 (And.intro k1 k2)
def q263_48 : List (Nat × Instr × Nat) := [(48, .aload_n 0, 1), (49, .getfield 657, 3), (52, .goto 7, 3)]
theorem e263_48 : am_dec am_M263 q263_48 = true := by decide +kernel
theorem b263_48 {d : Nat} {Q : Option Value ⊕ Nat → am_Mem → Prop} {μ : am_Mem} {r0 : Nat} {x1 : Int32}
    (h1 : am_kd μ r0 = (1, 12))
    (k : Wp d 263 (59, [some (.ref r0), some (.int x1)], [.int (am_A μ r0 89)], μ) Q) :
    Wp d 263 (48, [some (.ref r0), some (.int x1)], [], μ) Q := wp_blk rfl e263_48 (And.intro h1 k)
def q263_55 : List (Nat × Instr × Nat) := [(55, .aload_n 0, 1), (56, .getfield 663, 3)]
theorem e263_55 : am_dec am_M263 q263_55 = true := by decide +kernel
theorem b263_55 {d : Nat} {Q : Option Value ⊕ Nat → am_Mem → Prop} {μ : am_Mem} {r0 : Nat} {x1 : Int32}
    (h1 : am_kd μ r0 = (1, 12))
    (k : Wp d 263 (59, [some (.ref r0), some (.int x1)], [.int (am_A μ r0 90)], μ) Q) :
    Wp d 263 (55, [some (.ref r0), some (.int x1)], [], μ) Q := wp_blk rfl e263_55 (And.intro h1 k)
theorem e263_59_r : am_dec am_M263 [(59, .ireturn, 1)] = true := by decide +kernel
theorem b263_59 {d : Nat} {Q : Option Value ⊕ Nat → am_Mem → Prop} {μ : am_Mem} {r0 : Nat} {x1 s0 : Int32}
    (k : Q (.inl (some (.int s0))) μ) :
    Wp d 263 (59, [some (.ref r0), some (.int x1)], [.int s0], μ) Q := (wp_ri (ty := .int) rfl e263_59_r rfl ⟨rfl, rfl⟩ k)
/-! RuleSheetsModel.state(II)I -/
def q264_0 : List (Nat × Instr × Nat) := [(0, .aload_n 0, 1), (1, .getfield 593, 3), (4, .ifCond .eq 15, 3)]
theorem e264_0 : am_dec am_M264 q264_0 = true := by decide +kernel
theorem b264_0 {d : Nat} {Q : Option Value ⊕ Nat → am_Mem → Prop} {μ : am_Mem} {r0 : Nat} {x1 x2 : Int32}
    (h1 : am_kd μ r0 = (1, 12))
    (k1 : (am_A μ r0 81) = 0 → Wp d 264 (19, [some (.ref r0), some (.int x1), some (.int x2), none], [], μ) Q) (k2 : ¬ ((am_A μ r0 81) = 0) → Wp d 264 (7, [some (.ref r0), some (.int x1), some (.int x2), none], [], μ) Q) :
    Wp d 264 (0, [some (.ref r0), some (.int x1), some (.int x2), none], [], μ) Q := wp_blk rfl e264_0 (And.intro h1 (And.intro k1 k2))
def q264_7 : List (Nat × Instr × Nat) := [(7, .aload_n 0, 1), (8, .iload_n 1, 1)]
theorem e264_7 : am_dec am_M264 q264_7 = true := by decide +kernel
theorem e264_7_c : am_dc1 am_M264 9 (.invokevirtual 675) 3 = true := by decide +kernel
theorem b264_7 {d : Nat} {Q : Option Value ⊕ Nat → am_Mem → Prop} {μ : am_Mem} {r0 : Nat} {x1 x2 : Int32} {P : Int32 → am_Mem → Prop} {X : Nat → am_Mem → Prop}
    (hk : am_kd μ r0 = (1, 12))
    (hc : Wp d 265 (0, [some (.ref r0), some (.int x1)], [], μ) (pI P X)) (hr : ∀ x μ', P x μ' → Wp (d + 1) 264 (12, [some (.ref r0), some (.int x1), some (.int x2), none], [.int x], (μ')) Q)
    (hx : ∀ x μ', X x μ' → Q (.inr x) μ') :
    Wp (d + 1) 264 (7, [some (.ref r0), some (.int x1), some (.int x2), none], [], μ) Q := wp_blk rfl e264_7 (wp_cv (as := [.int x1]) rfl e264_7_c rfl rfl rfl rfl rfl hk hc (fun v μ' hv => by obtain ⟨x, rfl, hp⟩ := pI_r hv; exact hr x μ' hp) hx)
def q264_12 : List (Nat × Instr × Nat) := [(12, .ifCond .eq 7, 3)]
theorem e264_12 : am_dec am_M264 q264_12 = true := by decide +kernel
theorem b264_12 {d : Nat} {Q : Option Value ⊕ Nat → am_Mem → Prop} {μ : am_Mem} {r0 : Nat} {x1 x2 s0 : Int32}
    (k1 : s0 = 0 → Wp d 264 (19, [some (.ref r0), some (.int x1), some (.int x2), none], [], μ) Q) (k2 : ¬ (s0 = 0) → Wp d 264 (15, [some (.ref r0), some (.int x1), some (.int x2), none], [], μ) Q) :
    Wp d 264 (12, [some (.ref r0), some (.int x1), some (.int x2), none], [.int s0], μ) Q := wp_blk rfl e264_12 (And.intro k1 k2)
def q264_15 : List (Nat × Instr × Nat) := [(15, .iconst 1, 1), (16, .goto 4, 3)]
theorem e264_15 : am_dec am_M264 q264_15 = true := by decide +kernel
theorem b264_15 {d : Nat} {Q : Option Value ⊕ Nat → am_Mem → Prop} {μ : am_Mem} {r0 : Nat} {x1 x2 : Int32}
    (k : Wp d 264 (20, [some (.ref r0), some (.int x1), some (.int x2), none], [.int (Int32.ofInt 1)], μ) Q) :
    Wp d 264 (15, [some (.ref r0), some (.int x1), some (.int x2), none], [], μ) Q := wp_blk rfl e264_15 k
def q264_19 : List (Nat × Instr × Nat) := [(19, .iconst 0, 1)]
theorem e264_19 : am_dec am_M264 q264_19 = true := by decide +kernel
theorem b264_19 {d : Nat} {Q : Option Value ⊕ Nat → am_Mem → Prop} {μ : am_Mem} {r0 : Nat} {x1 x2 : Int32}
    (k : Wp d 264 (20, [some (.ref r0), some (.int x1), some (.int x2), none], [.int (Int32.ofInt 0)], μ) Q) :
    Wp d 264 (19, [some (.ref r0), some (.int x1), some (.int x2), none], [], μ) Q := wp_blk rfl e264_19 k
def q264_20 : List (Nat × Instr × Nat) := [(20, .istore_n 3, 1), (21, .aload_n 0, 1), (22, .aload_n 0, 1), (23, .getfield 593, 3), (26, .ifCond .ne 7, 3)]
theorem e264_20 : am_dec am_M264 q264_20 = true := by decide +kernel
theorem b264_20 {d : Nat} {Q : Option Value ⊕ Nat → am_Mem → Prop} {μ : am_Mem} {r0 : Nat} {x1 x2 s0 : Int32}
    (h1 : am_kd μ r0 = (1, 12))
    (k1 : ¬ (am_A μ r0 81) = 0 → Wp d 264 (33, [some (.ref r0), some (.int x1), some (.int x2), some (.int s0)], [.ref r0], μ) Q) (k2 : ¬ (¬ (am_A μ r0 81) = 0) → Wp d 264 (29, [some (.ref r0), some (.int x1), some (.int x2), some (.int s0)], [.ref r0], μ) Q) :
    Wp d 264 (20, [some (.ref r0), some (.int x1), some (.int x2), none], [.int s0], μ) Q := wp_blk rfl e264_20 (And.intro h1 (And.intro k1 k2))
def q264_29 : List (Nat × Instr × Nat) := [(29, .iconst 1, 1), (30, .goto 4, 3)]
theorem e264_29 : am_dec am_M264 q264_29 = true := by decide +kernel
theorem b264_29 {d : Nat} {Q : Option Value ⊕ Nat → am_Mem → Prop} {μ : am_Mem} {r0 r90 : Nat} {x1 x2 x3 : Int32}
    (k : Wp d 264 (34, [some (.ref r0), some (.int x1), some (.int x2), some (.int x3)], [.int (Int32.ofInt 1), .ref r90], μ) Q) :
    Wp d 264 (29, [some (.ref r0), some (.int x1), some (.int x2), some (.int x3)], [.ref r90], μ) Q := wp_blk rfl e264_29 k
def q264_33 : List (Nat × Instr × Nat) := [(33, .iconst 0, 1)]
theorem e264_33 : am_dec am_M264 q264_33 = true := by decide +kernel
theorem b264_33 {d : Nat} {Q : Option Value ⊕ Nat → am_Mem → Prop} {μ : am_Mem} {r0 r90 : Nat} {x1 x2 x3 : Int32}
    (k : Wp d 264 (34, [some (.ref r0), some (.int x1), some (.int x2), some (.int x3)], [.int (Int32.ofInt 0), .ref r90], μ) Q) :
    Wp d 264 (33, [some (.ref r0), some (.int x1), some (.int x2), some (.int x3)], [.ref r90], μ) Q := wp_blk rfl e264_33 k
def q264_34 : List (Nat × Instr × Nat) := [(34, .aload_n 0, 1), (35, .getfield 593, 3), (38, .ifCond .eq 11, 3)]
theorem e264_34 : am_dec am_M264 q264_34 = true := by decide +kernel
theorem b264_34 {d : Nat} {Q : Option Value ⊕ Nat → am_Mem → Prop} {μ : am_Mem} {r0 r90 : Nat} {x1 x2 x3 s1 : Int32}
    (h1 : am_kd μ r0 = (1, 12))
    (k1 : (am_A μ r0 81) = 0 → Wp d 264 (49, [some (.ref r0), some (.int x1), some (.int x2), some (.int x3)], [.int s1, .ref r90], μ) Q) (k2 : ¬ ((am_A μ r0 81) = 0) → Wp d 264 (41, [some (.ref r0), some (.int x1), some (.int x2), some (.int x3)], [.int s1, .ref r90], μ) Q) :
    Wp d 264 (34, [some (.ref r0), some (.int x1), some (.int x2), some (.int x3)], [.int s1, .ref r90], μ) Q := wp_blk rfl e264_34 (And.intro h1 (And.intro k1 k2))
def q264_41 : List (Nat × Instr × Nat) := [(41, .iload_n 3, 1), (42, .ifCond .ne 7, 3)]
theorem e264_41 : am_dec am_M264 q264_41 = true := by decide +kernel
theorem b264_41 {d : Nat} {Q : Option Value ⊕ Nat → am_Mem → Prop} {μ : am_Mem} {r0 r90 : Nat} {x1 x2 x3 s1 : Int32}
    (k1 : ¬ x3 = 0 → Wp d 264 (49, [some (.ref r0), some (.int x1), some (.int x2), some (.int x3)], [.int s1, .ref r90], μ) Q) (k2 : ¬ (¬ x3 = 0) → Wp d 264 (45, [some (.ref r0), some (.int x1), some (.int x2), some (.int x3)], [.int s1, .ref r90], μ) Q) :
    Wp d 264 (41, [some (.ref r0), some (.int x1), some (.int x2), some (.int x3)], [.int s1, .ref r90], μ) Q := wp_blk rfl e264_41 (And.intro k1 k2)
def q264_45 : List (Nat × Instr × Nat) := [(45, .iconst 1, 1), (46, .goto 4, 3)]
theorem e264_45 : am_dec am_M264 q264_45 = true := by decide +kernel
theorem b264_45 {d : Nat} {Q : Option Value ⊕ Nat → am_Mem → Prop} {μ : am_Mem} {r0 r90 : Nat} {x1 x2 x3 s1 : Int32}
    (k : Wp d 264 (50, [some (.ref r0), some (.int x1), some (.int x2), some (.int x3)], [.int (Int32.ofInt 1), .int s1, .ref r90], μ) Q) :
    Wp d 264 (45, [some (.ref r0), some (.int x1), some (.int x2), some (.int x3)], [.int s1, .ref r90], μ) Q := wp_blk rfl e264_45 k
def q264_49 : List (Nat × Instr × Nat) := [(49, .iconst 0, 1)]
theorem e264_49 : am_dec am_M264 q264_49 = true := by decide +kernel
theorem b264_49 {d : Nat} {Q : Option Value ⊕ Nat → am_Mem → Prop} {μ : am_Mem} {r0 r90 : Nat} {x1 x2 x3 s1 : Int32}
    (k : Wp d 264 (50, [some (.ref r0), some (.int x1), some (.int x2), some (.int x3)], [.int (Int32.ofInt 0), .int s1, .ref r90], μ) Q) :
    Wp d 264 (49, [some (.ref r0), some (.int x1), some (.int x2), some (.int x3)], [.int s1, .ref r90], μ) Q := wp_blk rfl e264_49 k
def q264_50 : List (Nat × Instr × Nat) := [(50, .iload_n 3, 1), (51, .ifCond .eq 19, 3)]
theorem e264_50 : am_dec am_M264 q264_50 = true := by decide +kernel
theorem b264_50 {d : Nat} {Q : Option Value ⊕ Nat → am_Mem → Prop} {μ : am_Mem} {r0 r90 : Nat} {x1 x2 x3 s1 s2 : Int32}
    (k1 : x3 = 0 → Wp d 264 (70, [some (.ref r0), some (.int x1), some (.int x2), some (.int x3)], [.int s2, .int s1, .ref r90], μ) Q) (k2 : ¬ (x3 = 0) → Wp d 264 (54, [some (.ref r0), some (.int x1), some (.int x2), some (.int x3)], [.int s2, .int s1, .ref r90], μ) Q) :
    Wp d 264 (50, [some (.ref r0), some (.int x1), some (.int x2), some (.int x3)], [.int s2, .int s1, .ref r90], μ) Q := wp_blk rfl e264_50 (And.intro k1 k2)
def q264_54 : List (Nat × Instr × Nat) := [(54, .iload_n 2, 1), (55, .i2l, 1), (56, .lconst 0, 1), (57, .ldc2_w 678, 3)]
theorem e264_54 : am_dec am_M264 q264_54 = true := by decide +kernel
theorem e264_54_c : am_dc1 am_M264 60 (.invokestatic 205) 3 = true := by decide +kernel
theorem b264_54 {d : Nat} {Q : Option Value ⊕ Nat → am_Mem → Prop} {μ : am_Mem} {r0 r90 : Nat} {x1 x2 x3 s1 s2 : Int32} {P : Int32 → am_Mem → Prop} {X : Nat → am_Mem → Prop}
    (hc : Wp d 150 (0, [some (.long x2.toInt64), none, some (.long (Int64.ofNat 0)), none, some (.long (2 : Int64)), none], [], μ) (pI P X)) (hr : ∀ x μ', P x μ' → Wp (d + 1) 264 (63, [some (.ref r0), some (.int x1), some (.int x2), some (.int x3)], [.int x, .int s2, .int s1, .ref r90], (μ')) Q)
    (hx : ∀ x μ', X x μ' → Q (.inr x) μ') :
    Wp (d + 1) 264 (54, [some (.ref r0), some (.int x1), some (.int x2), some (.int x3)], [.int s2, .int s1, .ref r90], μ) Q := wp_blk rfl e264_54 (wp_cs (vs := [.long x2.toInt64, .long (Int64.ofNat 0), .long (2 : Int64)]) rfl e264_54_c rfl rfl rfl rfl rfl hc (fun v μ' hv => by obtain ⟨x, rfl, hp⟩ := pI_r hv; exact hr x μ' hp) hx)
def q264_63 : List (Nat × Instr × Nat) := [(63, .ifCond .ne 7, 3)]
theorem e264_63 : am_dec am_M264 q264_63 = true := by decide +kernel
theorem b264_63 {d : Nat} {Q : Option Value ⊕ Nat → am_Mem → Prop} {μ : am_Mem} {r0 r90 : Nat} {x1 x2 x3 s1 s2 s3 : Int32}
    (k1 : ¬ s3 = 0 → Wp d 264 (70, [some (.ref r0), some (.int x1), some (.int x2), some (.int x3)], [.int s2, .int s1, .ref r90], μ) Q) (k2 : ¬ (¬ s3 = 0) → Wp d 264 (66, [some (.ref r0), some (.int x1), some (.int x2), some (.int x3)], [.int s2, .int s1, .ref r90], μ) Q) :
    Wp d 264 (63, [some (.ref r0), some (.int x1), some (.int x2), some (.int x3)], [.int s3, .int s2, .int s1, .ref r90], μ) Q := wp_blk rfl e264_63 (And.intro k1 k2)
def q264_66 : List (Nat × Instr × Nat) := [(66, .iconst 1, 1), (67, .goto 4, 3)]
theorem e264_66 : am_dec am_M264 q264_66 = true := by decide +kernel
theorem b264_66 {d : Nat} {Q : Option Value ⊕ Nat → am_Mem → Prop} {μ : am_Mem} {r0 r90 : Nat} {x1 x2 x3 s1 s2 : Int32}
    (k : Wp d 264 (71, [some (.ref r0), some (.int x1), some (.int x2), some (.int x3)], [.int (Int32.ofInt 1), .int s2, .int s1, .ref r90], μ) Q) :
    Wp d 264 (66, [some (.ref r0), some (.int x1), some (.int x2), some (.int x3)], [.int s2, .int s1, .ref r90], μ) Q := wp_blk rfl e264_66 k
def q264_70 : List (Nat × Instr × Nat) := [(70, .iconst 0, 1)]
theorem e264_70 : am_dec am_M264 q264_70 = true := by decide +kernel
theorem b264_70 {d : Nat} {Q : Option Value ⊕ Nat → am_Mem → Prop} {μ : am_Mem} {r0 r90 : Nat} {x1 x2 x3 s1 s2 : Int32}
    (k : Wp d 264 (71, [some (.ref r0), some (.int x1), some (.int x2), some (.int x3)], [.int (Int32.ofInt 0), .int s2, .int s1, .ref r90], μ) Q) :
    Wp d 264 (70, [some (.ref r0), some (.int x1), some (.int x2), some (.int x3)], [.int s2, .int s1, .ref r90], μ) Q := wp_blk rfl e264_70 k
theorem e264_71_c : am_dc1 am_M264 71 (.invokevirtual 212) 3 = true := by decide +kernel
theorem b264_71 {d : Nat} {Q : Option Value ⊕ Nat → am_Mem → Prop} {μ : am_Mem} {r0 r90 : Nat} {x1 x2 x3 s1 s2 s3 : Int32} {P : Int32 → am_Mem → Prop} {X : Nat → am_Mem → Prop}
    (hk : am_kd μ r90 = (1, 12))
    (hc : Wp d 151 (0, [some (.ref r90), some (.int s1), some (.int s2), some (.int s3)], [], μ) (pI P X)) (hr : ∀ x μ', P x μ' → Wp (d + 1) 264 (74, [some (.ref r0), some (.int x1), some (.int x2), some (.int x3)], [.int x], (μ')) Q)
    (hx : ∀ x μ', X x μ' → Q (.inr x) μ') :
    Wp (d + 1) 264 (71, [some (.ref r0), some (.int x1), some (.int x2), some (.int x3)], [.int s3, .int s2, .int s1, .ref r90], μ) Q := (wp_cv (as := [.int s1, .int s2, .int s3]) rfl e264_71_c rfl rfl rfl rfl rfl hk hc (fun v μ' hv => by obtain ⟨x, rfl, hp⟩ := pI_r hv; exact hr x μ' hp) hx)
def q264_74 : List (Nat × Instr × Nat) := [(74, .ifCond .eq 5, 3)]
theorem e264_74 : am_dec am_M264 q264_74 = true := by decide +kernel
theorem b264_74 {d : Nat} {Q : Option Value ⊕ Nat → am_Mem → Prop} {μ : am_Mem} {r0 : Nat} {x1 x2 x3 s0 : Int32}
    (k1 : s0 = 0 → Wp d 264 (79, [some (.ref r0), some (.int x1), some (.int x2), some (.int x3)], [], μ) Q) (k2 : ¬ (s0 = 0) → Wp d 264 (77, [some (.ref r0), some (.int x1), some (.int x2), some (.int x3)], [], μ) Q) :
    Wp d 264 (74, [some (.ref r0), some (.int x1), some (.int x2), some (.int x3)], [.int s0], μ) Q := wp_blk rfl e264_74 (And.intro k1 k2)
def q264_77 : List (Nat × Instr × Nat) := [(77, .iconst 0, 1)]
theorem e264_77 : am_dec am_M264 q264_77 = true := by decide +kernel
theorem e264_77_r : am_dec am_M264 [(78, .ireturn, 1)] = true := by decide +kernel
theorem b264_77 {d : Nat} {Q : Option Value ⊕ Nat → am_Mem → Prop} {μ : am_Mem} {r0 : Nat} {x1 x2 x3 : Int32}
    (k : Q (.inl (some (.int (Int32.ofInt 0)))) μ) :
    Wp d 264 (77, [some (.ref r0), some (.int x1), some (.int x2), some (.int x3)], [], μ) Q := wp_blk rfl e264_77 (wp_ri (ty := .int) rfl e264_77_r rfl ⟨rfl, rfl⟩ k)
def q264_79 : List (Nat × Instr × Nat) := [(79, .iload_n 2, 1), (80, .ifCond .ne 12, 3)]
theorem e264_79 : am_dec am_M264 q264_79 = true := by decide +kernel
theorem b264_79 {d : Nat} {Q : Option Value ⊕ Nat → am_Mem → Prop} {μ : am_Mem} {r0 : Nat} {x1 x2 x3 : Int32}
    (k1 : ¬ x2 = 0 → Wp d 264 (92, [some (.ref r0), some (.int x1), some (.int x2), some (.int x3)], [], μ) Q) (k2 : ¬ (¬ x2 = 0) → Wp d 264 (83, [some (.ref r0), some (.int x1), some (.int x2), some (.int x3)], [], μ) Q) :
    Wp d 264 (79, [some (.ref r0), some (.int x1), some (.int x2), some (.int x3)], [], μ) Q := wp_blk rfl e264_79 (And.intro k1 k2)
def q264_83 : List (Nat × Instr × Nat) := [(83, .aload_n 0, 1), (84, .getfield 158, 3), (87, .iload_n 1, 1), (88, .iaload, 1), (89, .goto 31, 3)]
theorem e264_83 : am_dec am_M264 q264_83 = true := by decide +kernel
theorem b264_83 {d : Nat} {Q : Option Value ⊕ Nat → am_Mem → Prop} {μ : am_Mem} {r0 : Nat} {x1 x2 x3 : Int32}
    (h1 : am_kd μ r0 = (1, 12))
    (h2 : ¬ am_F μ r0 74 = 15)
    (h3 : (am_kd μ (am_F μ r0 74)).1 = 2 ∨ (am_kd μ (am_F μ r0 74)).1 = 8)
    (h4 : ¬ (x1 < 0 ∨ (am_kd μ (am_F μ r0 74)).2 ≤ x1.toNatClampNeg))
    (k : Wp d 264 (120, [some (.ref r0), some (.int x1), some (.int x2), some (.int x3)], [.int (am_A μ (am_F μ r0 74) x1.toNatClampNeg)], μ) Q) :
    Wp d 264 (83, [some (.ref r0), some (.int x1), some (.int x2), some (.int x3)], [], μ) Q := wp_blk rfl e264_83 (And.intro h1 (And.intro h2 (And.intro h3 (And.intro h4 k))))
def q264_92 : List (Nat × Instr × Nat) := [(92, .iload_n 2, 1), (93, .iconst 1, 1), (94, .if_icmp .ne 20, 3)]
theorem e264_92 : am_dec am_M264 q264_92 = true := by decide +kernel
theorem b264_92 {d : Nat} {Q : Option Value ⊕ Nat → am_Mem → Prop} {μ : am_Mem} {r0 : Nat} {x1 x2 x3 : Int32}
    (k1 : ¬ x2 = (Int32.ofInt 1) → Wp d 264 (114, [some (.ref r0), some (.int x1), some (.int x2), some (.int x3)], [], μ) Q) (k2 : ¬ (¬ x2 = (Int32.ofInt 1)) → Wp d 264 (97, [some (.ref r0), some (.int x1), some (.int x2), some (.int x3)], [], μ) Q) :
    Wp d 264 (92, [some (.ref r0), some (.int x1), some (.int x2), some (.int x3)], [], μ) Q := wp_blk rfl e264_92 (And.intro k1 k2)
def q264_97 : List (Nat × Instr × Nat) := [(97, .aload_n 0, 1), (98, .getfield 174, 3), (101, .iload_n 1, 1), (102, .baload, 1), (103, .ifCond .eq 7, 3)]
theorem e264_97 : am_dec am_M264 q264_97 = true := by decide +kernel
theorem b264_97 {d : Nat} {Q : Option Value ⊕ Nat → am_Mem → Prop} {μ : am_Mem} {r0 : Nat} {x1 x2 x3 : Int32}
    (h1 : am_kd μ r0 = (1, 12))
    (h2 : ¬ am_F μ r0 84 = 15)
    (h3 : (am_kd μ (am_F μ r0 84)).1 = 3 ∨ (am_kd μ (am_F μ r0 84)).1 = 4 ∨ (am_kd μ (am_F μ r0 84)).1 = 10)
    (h4 : ¬ (x1 < 0 ∨ (am_kd μ (am_F μ r0 84)).2 ≤ x1.toNatClampNeg))
    (k1 : (am_A μ (am_F μ r0 84) x1.toNatClampNeg) = 0 → Wp d 264 (110, [some (.ref r0), some (.int x1), some (.int x2), some (.int x3)], [], μ) Q) (k2 : ¬ ((am_A μ (am_F μ r0 84) x1.toNatClampNeg) = 0) → Wp d 264 (106, [some (.ref r0), some (.int x1), some (.int x2), some (.int x3)], [], μ) Q) :
    Wp d 264 (97, [some (.ref r0), some (.int x1), some (.int x2), some (.int x3)], [], μ) Q := wp_blk rfl e264_97 (And.intro h1 (And.intro h2 (And.intro h3 (And.intro h4 (And.intro k1 k2)))))
def q264_106 : List (Nat × Instr × Nat) := [(106, .iconst 1, 1), (107, .goto 13, 3)]
theorem e264_106 : am_dec am_M264 q264_106 = true := by decide +kernel
theorem b264_106 {d : Nat} {Q : Option Value ⊕ Nat → am_Mem → Prop} {μ : am_Mem} {r0 : Nat} {x1 x2 x3 : Int32}
    (k : Wp d 264 (120, [some (.ref r0), some (.int x1), some (.int x2), some (.int x3)], [.int (Int32.ofInt 1)], μ) Q) :
    Wp d 264 (106, [some (.ref r0), some (.int x1), some (.int x2), some (.int x3)], [], μ) Q := wp_blk rfl e264_106 k
def q264_110 : List (Nat × Instr × Nat) := [(110, .iconst 0, 1), (111, .goto 9, 3)]
theorem e264_110 : am_dec am_M264 q264_110 = true := by decide +kernel
theorem b264_110 {d : Nat} {Q : Option Value ⊕ Nat → am_Mem → Prop} {μ : am_Mem} {r0 : Nat} {x1 x2 x3 : Int32}
    (k : Wp d 264 (120, [some (.ref r0), some (.int x1), some (.int x2), some (.int x3)], [.int (Int32.ofInt 0)], μ) Q) :
    Wp d 264 (110, [some (.ref r0), some (.int x1), some (.int x2), some (.int x3)], [], μ) Q := wp_blk rfl e264_110 k
def q264_114 : List (Nat × Instr × Nat) := [(114, .aload_n 0, 1), (115, .getfield 177, 3), (118, .iload_n 1, 1), (119, .iaload, 1)]
theorem e264_114 : am_dec am_M264 q264_114 = true := by decide +kernel
theorem b264_114 {d : Nat} {Q : Option Value ⊕ Nat → am_Mem → Prop} {μ : am_Mem} {r0 : Nat} {x1 x2 x3 : Int32}
    (h1 : am_kd μ r0 = (1, 12))
    (h2 : ¬ am_F μ r0 85 = 15)
    (h3 : (am_kd μ (am_F μ r0 85)).1 = 2 ∨ (am_kd μ (am_F μ r0 85)).1 = 8)
    (h4 : ¬ (x1 < 0 ∨ (am_kd μ (am_F μ r0 85)).2 ≤ x1.toNatClampNeg))
    (k : Wp d 264 (120, [some (.ref r0), some (.int x1), some (.int x2), some (.int x3)], [.int (am_A μ (am_F μ r0 85) x1.toNatClampNeg)], μ) Q) :
    Wp d 264 (114, [some (.ref r0), some (.int x1), some (.int x2), some (.int x3)], [], μ) Q := wp_blk rfl e264_114 (And.intro h1 (And.intro h2 (And.intro h3 (And.intro h4 k))))
theorem e264_120_r : am_dec am_M264 [(120, .ireturn, 1)] = true := by decide +kernel
theorem b264_120 {d : Nat} {Q : Option Value ⊕ Nat → am_Mem → Prop} {μ : am_Mem} {r0 : Nat} {x1 x2 x3 s0 : Int32}
    (k : Q (.inl (some (.int s0))) μ) :
    Wp d 264 (120, [some (.ref r0), some (.int x1), some (.int x2), some (.int x3)], [.int s0], μ) Q := (wp_ri (ty := .int) rfl e264_120_r rfl ⟨rfl, rfl⟩ k)
/-! RuleSheetsModel.isState(I)Z -/
def q265_0 : List (Nat × Instr × Nat) := [(0, .iload_n 1, 1), (1, .i2l, 1), (2, .lconst 0, 1), (3, .aload_n 0, 1), (4, .getfield 648, 3), (7, .iconst 1, 1), (8, .isub, 1), (9, .i2l, 1)]
theorem e265_0 : am_dec am_M265 q265_0 = true := by decide +kernel
theorem e265_0_c : am_dc1 am_M265 10 (.invokestatic 205) 3 = true := by decide +kernel
theorem b265_0 {d : Nat} {Q : Option Value ⊕ Nat → am_Mem → Prop} {μ : am_Mem} {r0 : Nat} {x1 : Int32} {P : Int32 → am_Mem → Prop} {X : Nat → am_Mem → Prop}
    (h1 : am_kd μ r0 = (1, 12))
    (hc : Wp d 150 (0, [some (.long x1.toInt64), none, some (.long (Int64.ofNat 0)), none, some (.long (((am_A μ r0 82) - (Int32.ofInt 1)).toInt64)), none], [], μ) (pI P X)) (hr : ∀ x μ', P x μ' → Wp (d + 1) 265 (13, [some (.ref r0), some (.int x1)], [.int x], (μ')) Q)
    (hx : ∀ x μ', X x μ' → Q (.inr x) μ') :
    Wp (d + 1) 265 (0, [some (.ref r0), some (.int x1)], [], μ) Q := wp_blk rfl e265_0 (And.intro h1 (wp_cs (vs := [.long x1.toInt64, .long (Int64.ofNat 0), .long (((am_A μ r0 82) - (Int32.ofInt 1)).toInt64)]) rfl e265_0_c rfl rfl rfl rfl rfl hc (fun v μ' hv => by obtain ⟨x, rfl, hp⟩ := pI_r hv; exact hr x μ' hp) hx))
theorem e265_13_r : am_dec am_M265 [(13, .ireturn, 1)] = true := by decide +kernel
theorem b265_13 {d : Nat} {Q : Option Value ⊕ Nat → am_Mem → Prop} {μ : am_Mem} {r0 : Nat} {x1 s0 : Int32}
    (hn : narrow .boolean (.int s0) = .int s0 ∧ fits .boolean (.int s0) = true)
    (k : Q (.inl (some (.int s0))) μ) :
    Wp d 265 (13, [some (.ref r0), some (.int x1)], [.int s0], μ) Q := (wp_ri (ty := .boolean) rfl e265_13_r rfl hn k)
/-! RuleSheetsModel.next(II)I -/
def q266_0 : List (Nat × Instr × Nat) := [(0, .aload_n 0, 1), (1, .getfield 593, 3), (4, .ifCond .eq 52, 3)]
theorem e266_0 : am_dec am_M266 q266_0 = true := by decide +kernel
theorem b266_0 {d : Nat} {Q : Option Value ⊕ Nat → am_Mem → Prop} {μ : am_Mem} {r0 : Nat} {x1 x2 : Int32}
    (h1 : am_kd μ r0 = (1, 12))
    (k1 : (am_A μ r0 81) = 0 → Wp d 266 (56, [some (.ref r0), some (.int x1), some (.int x2), none], [], μ) Q) (k2 : ¬ ((am_A μ r0 81) = 0) → Wp d 266 (7, [some (.ref r0), some (.int x1), some (.int x2), none], [], μ) Q) :
    Wp d 266 (0, [some (.ref r0), some (.int x1), some (.int x2), none], [], μ) Q := wp_blk rfl e266_0 (And.intro h1 (And.intro k1 k2))
def q266_7 : List (Nat × Instr × Nat) := [(7, .aload_n 0, 1), (8, .iload_n 1, 1)]
theorem e266_7 : am_dec am_M266 q266_7 = true := by decide +kernel
theorem e266_7_c : am_dc1 am_M266 9 (.invokevirtual 675) 3 = true := by decide +kernel
theorem b266_7 {d : Nat} {Q : Option Value ⊕ Nat → am_Mem → Prop} {μ : am_Mem} {r0 : Nat} {x1 x2 : Int32} {P : Int32 → am_Mem → Prop} {X : Nat → am_Mem → Prop}
    (hk : am_kd μ r0 = (1, 12))
    (hc : Wp d 265 (0, [some (.ref r0), some (.int x1)], [], μ) (pI P X)) (hr : ∀ x μ', P x μ' → Wp (d + 1) 266 (12, [some (.ref r0), some (.int x1), some (.int x2), none], [.int x], (μ')) Q)
    (hx : ∀ x μ', X x μ' → Q (.inr x) μ') :
    Wp (d + 1) 266 (7, [some (.ref r0), some (.int x1), some (.int x2), none], [], μ) Q := wp_blk rfl e266_7 (wp_cv (as := [.int x1]) rfl e266_7_c rfl rfl rfl rfl rfl hk hc (fun v μ' hv => by obtain ⟨x, rfl, hp⟩ := pI_r hv; exact hr x μ' hp) hx)
def q266_12 : List (Nat × Instr × Nat) := [(12, .ifCond .eq 44, 3)]
theorem e266_12 : am_dec am_M266 q266_12 = true := by decide +kernel
theorem b266_12 {d : Nat} {Q : Option Value ⊕ Nat → am_Mem → Prop} {μ : am_Mem} {r0 : Nat} {x1 x2 s0 : Int32}
    (k1 : s0 = 0 → Wp d 266 (56, [some (.ref r0), some (.int x1), some (.int x2), none], [], μ) Q) (k2 : ¬ (s0 = 0) → Wp d 266 (15, [some (.ref r0), some (.int x1), some (.int x2), none], [], μ) Q) :
    Wp d 266 (12, [some (.ref r0), some (.int x1), some (.int x2), none], [.int s0], μ) Q := wp_blk rfl e266_12 (And.intro k1 k2)
def q266_15 : List (Nat × Instr × Nat) := [(15, .iload_n 2, 1), (16, .i2l, 1), (17, .lconst 0, 1), (18, .aload_n 0, 1), (19, .getfield 177, 3), (22, .aload_n 0, 1), (23, .getfield 593, 3), (26, .ifCond .eq 15, 3)]
theorem e266_15 : am_dec am_M266 q266_15 = true := by decide +kernel
theorem b266_15 {d : Nat} {Q : Option Value ⊕ Nat → am_Mem → Prop} {μ : am_Mem} {r0 : Nat} {x1 x2 : Int32}
    (h1 : am_kd μ r0 = (1, 12))
    (h2 : ¬ am_F μ r0 85 = 15)
    (h3 : am_kd μ r0 = (1, 12))
    (k1 : (am_A μ r0 81) = 0 → Wp d 266 (41, [some (.ref r0), some (.int x1), some (.int x2), none], [.ref (am_F μ r0 85), .long (Int64.ofNat 0), .long x2.toInt64], μ) Q) (k2 : ¬ ((am_A μ r0 81) = 0) → Wp d 266 (29, [some (.ref r0), some (.int x1), some (.int x2), none], [.ref (am_F μ r0 85), .long (Int64.ofNat 0), .long x2.toInt64], μ) Q) :
    Wp d 266 (15, [some (.ref r0), some (.int x1), some (.int x2), none], [], μ) Q := wp_blk rfl e266_15 (And.intro h1 (And.intro h2 (And.intro h3 (And.intro k1 k2))))
def q266_29 : List (Nat × Instr × Nat) := [(29, .aload_n 0, 1), (30, .iload_n 1, 1)]
theorem e266_29 : am_dec am_M266 q266_29 = true := by decide +kernel
theorem e266_29_c : am_dc1 am_M266 31 (.invokevirtual 675) 3 = true := by decide +kernel
theorem b266_29 {d : Nat} {Q : Option Value ⊕ Nat → am_Mem → Prop} {μ : am_Mem} {r0 r92 : Nat} {x1 x2 : Int32} {y90 y91 : Int64} {P : Int32 → am_Mem → Prop} {X : Nat → am_Mem → Prop}
    (hk : am_kd μ r0 = (1, 12))
    (hc : Wp d 265 (0, [some (.ref r0), some (.int x1)], [], μ) (pI P X)) (hr : ∀ x μ', P x μ' → Wp (d + 1) 266 (34, [some (.ref r0), some (.int x1), some (.int x2), none], [.int x, .ref r92, .long y91, .long y90], (μ')) Q)
    (hx : ∀ x μ', X x μ' → Q (.inr x) μ') :
    Wp (d + 1) 266 (29, [some (.ref r0), some (.int x1), some (.int x2), none], [.ref r92, .long y91, .long y90], μ) Q := wp_blk rfl e266_29 (wp_cv (as := [.int x1]) rfl e266_29_c rfl rfl rfl rfl rfl hk hc (fun v μ' hv => by obtain ⟨x, rfl, hp⟩ := pI_r hv; exact hr x μ' hp) hx)
def q266_34 : List (Nat × Instr × Nat) := [(34, .ifCond .eq 7, 3)]
theorem e266_34 : am_dec am_M266 q266_34 = true := by decide +kernel
theorem b266_34 {d : Nat} {Q : Option Value ⊕ Nat → am_Mem → Prop} {μ : am_Mem} {r0 r92 : Nat} {x1 x2 s3 : Int32} {y90 y91 : Int64}
    (k1 : s3 = 0 → Wp d 266 (41, [some (.ref r0), some (.int x1), some (.int x2), none], [.ref r92, .long y91, .long y90], μ) Q) (k2 : ¬ (s3 = 0) → Wp d 266 (37, [some (.ref r0), some (.int x1), some (.int x2), none], [.ref r92, .long y91, .long y90], μ) Q) :
    Wp d 266 (34, [some (.ref r0), some (.int x1), some (.int x2), none], [.int s3, .ref r92, .long y91, .long y90], μ) Q := wp_blk rfl e266_34 (And.intro k1 k2)
def q266_37 : List (Nat × Instr × Nat) := [(37, .iload_n 1, 1), (38, .goto 4, 3)]
theorem e266_37 : am_dec am_M266 q266_37 = true := by decide +kernel
theorem b266_37 {d : Nat} {Q : Option Value ⊕ Nat → am_Mem → Prop} {μ : am_Mem} {r0 r92 : Nat} {x1 x2 : Int32} {y90 y91 : Int64}
    (k : Wp d 266 (42, [some (.ref r0), some (.int x1), some (.int x2), none], [.int x1, .ref r92, .long y91, .long y90], μ) Q) :
    Wp d 266 (37, [some (.ref r0), some (.int x1), some (.int x2), none], [.ref r92, .long y91, .long y90], μ) Q := wp_blk rfl e266_37 k
def q266_41 : List (Nat × Instr × Nat) := [(41, .iconst 0, 1)]
theorem e266_41 : am_dec am_M266 q266_41 = true := by decide +kernel
theorem b266_41 {d : Nat} {Q : Option Value ⊕ Nat → am_Mem → Prop} {μ : am_Mem} {r0 r92 : Nat} {x1 x2 : Int32} {y90 y91 : Int64}
    (k : Wp d 266 (42, [some (.ref r0), some (.int x1), some (.int x2), none], [.int (Int32.ofInt 0), .ref r92, .long y91, .long y90], μ) Q) :
    Wp d 266 (41, [some (.ref r0), some (.int x1), some (.int x2), none], [.ref r92, .long y91, .long y90], μ) Q := wp_blk rfl e266_41 k
def q266_42 : List (Nat × Instr × Nat) := [(42, .iaload, 1), (43, .iconst 1, 1), (44, .isub, 1), (45, .i2l, 1)]
theorem e266_42 : am_dec am_M266 q266_42 = true := by decide +kernel
theorem e266_42_c : am_dc1 am_M266 46 (.invokestatic 205) 3 = true := by decide +kernel
theorem b266_42 {d : Nat} {Q : Option Value ⊕ Nat → am_Mem → Prop} {μ : am_Mem} {r0 r92 : Nat} {x1 x2 s3 : Int32} {y90 y91 : Int64} {P : Int32 → am_Mem → Prop} {X : Nat → am_Mem → Prop}
    (h1 : (am_kd μ r92).1 = 2 ∨ (am_kd μ r92).1 = 8)
    (h2 : ¬ (s3 < 0 ∨ (am_kd μ r92).2 ≤ s3.toNatClampNeg))
    (hc : Wp d 150 (0, [some (.long y90), none, some (.long y91), none, some (.long (((am_A μ r92 s3.toNatClampNeg) - (Int32.ofInt 1)).toInt64)), none], [], μ) (pI P X)) (hr : ∀ x μ', P x μ' → Wp (d + 1) 266 (49, [some (.ref r0), some (.int x1), some (.int x2), none], [.int x], (μ')) Q)
    (hx : ∀ x μ', X x μ' → Q (.inr x) μ') :
    Wp (d + 1) 266 (42, [some (.ref r0), some (.int x1), some (.int x2), none], [.int s3, .ref r92, .long y91, .long y90], μ) Q := wp_blk rfl e266_42 (And.intro h1 (And.intro h2 (wp_cs (vs := [.long y90, .long y91, .long (((am_A μ r92 s3.toNatClampNeg) - (Int32.ofInt 1)).toInt64)]) rfl e266_42_c rfl rfl rfl rfl rfl hc (fun v μ' hv => by obtain ⟨x, rfl, hp⟩ := pI_r hv; exact hr x μ' hp) hx)))
def q266_49 : List (Nat × Instr × Nat) := [(49, .ifCond .eq 7, 3)]
theorem e266_49 : am_dec am_M266 q266_49 = true := by decide +kernel
theorem b266_49 {d : Nat} {Q : Option Value ⊕ Nat → am_Mem → Prop} {μ : am_Mem} {r0 : Nat} {x1 x2 s0 : Int32}
    (k1 : s0 = 0 → Wp d 266 (56, [some (.ref r0), some (.int x1), some (.int x2), none], [], μ) Q) (k2 : ¬ (s0 = 0) → Wp d 266 (52, [some (.ref r0), some (.int x1), some (.int x2), none], [], μ) Q) :
    Wp d 266 (49, [some (.ref r0), some (.int x1), some (.int x2), none], [.int s0], μ) Q := wp_blk rfl e266_49 (And.intro k1 k2)
def q266_52 : List (Nat × Instr × Nat) := [(52, .iconst 1, 1), (53, .goto 4, 3)]
theorem e266_52 : am_dec am_M266 q266_52 = true := by decide +kernel
theorem b266_52 {d : Nat} {Q : Option Value ⊕ Nat → am_Mem → Prop} {μ : am_Mem} {r0 : Nat} {x1 x2 : Int32}
    (k : Wp d 266 (57, [some (.ref r0), some (.int x1), some (.int x2), none], [.int (Int32.ofInt 1)], μ) Q) :
    Wp d 266 (52, [some (.ref r0), some (.int x1), some (.int x2), none], [], μ) Q := wp_blk rfl e266_52 k
def q266_56 : List (Nat × Instr × Nat) := [(56, .iconst 0, 1)]
theorem e266_56 : am_dec am_M266 q266_56 = true := by decide +kernel
theorem b266_56 {d : Nat} {Q : Option Value ⊕ Nat → am_Mem → Prop} {μ : am_Mem} {r0 : Nat} {x1 x2 : Int32}
    (k : Wp d 266 (57, [some (.ref r0), some (.int x1), some (.int x2), none], [.int (Int32.ofInt 0)], μ) Q) :
    Wp d 266 (56, [some (.ref r0), some (.int x1), some (.int x2), none], [], μ) Q := wp_blk rfl e266_56 k
def q266_57 : List (Nat × Instr × Nat) := [(57, .istore_n 3, 1), (58, .aload_n 0, 1), (59, .aload_n 0, 1), (60, .getfield 593, 3), (63, .ifCond .ne 7, 3)]
theorem e266_57 : am_dec am_M266 q266_57 = true := by decide +kernel
theorem b266_57 {d : Nat} {Q : Option Value ⊕ Nat → am_Mem → Prop} {μ : am_Mem} {r0 : Nat} {x1 x2 s0 : Int32}
    (h1 : am_kd μ r0 = (1, 12))
    (k1 : ¬ (am_A μ r0 81) = 0 → Wp d 266 (70, [some (.ref r0), some (.int x1), some (.int x2), some (.int s0)], [.ref r0], μ) Q) (k2 : ¬ (¬ (am_A μ r0 81) = 0) → Wp d 266 (66, [some (.ref r0), some (.int x1), some (.int x2), some (.int s0)], [.ref r0], μ) Q) :
    Wp d 266 (57, [some (.ref r0), some (.int x1), some (.int x2), none], [.int s0], μ) Q := wp_blk rfl e266_57 (And.intro h1 (And.intro k1 k2))
def q266_66 : List (Nat × Instr × Nat) := [(66, .iconst 1, 1), (67, .goto 4, 3)]
theorem e266_66 : am_dec am_M266 q266_66 = true := by decide +kernel
theorem b266_66 {d : Nat} {Q : Option Value ⊕ Nat → am_Mem → Prop} {μ : am_Mem} {r0 r90 : Nat} {x1 x2 x3 : Int32}
    (k : Wp d 266 (71, [some (.ref r0), some (.int x1), some (.int x2), some (.int x3)], [.int (Int32.ofInt 1), .ref r90], μ) Q) :
    Wp d 266 (66, [some (.ref r0), some (.int x1), some (.int x2), some (.int x3)], [.ref r90], μ) Q := wp_blk rfl e266_66 k
def q266_70 : List (Nat × Instr × Nat) := [(70, .iconst 0, 1)]
theorem e266_70 : am_dec am_M266 q266_70 = true := by decide +kernel
theorem b266_70 {d : Nat} {Q : Option Value ⊕ Nat → am_Mem → Prop} {μ : am_Mem} {r0 r90 : Nat} {x1 x2 x3 : Int32}
    (k : Wp d 266 (71, [some (.ref r0), some (.int x1), some (.int x2), some (.int x3)], [.int (Int32.ofInt 0), .ref r90], μ) Q) :
    Wp d 266 (70, [some (.ref r0), some (.int x1), some (.int x2), some (.int x3)], [.ref r90], μ) Q := wp_blk rfl e266_70 k
def q266_71 : List (Nat × Instr × Nat) := [(71, .aload_n 0, 1), (72, .getfield 593, 3), (75, .ifCond .eq 11, 3)]
theorem e266_71 : am_dec am_M266 q266_71 = true := by decide +kernel
theorem b266_71 {d : Nat} {Q : Option Value ⊕ Nat → am_Mem → Prop} {μ : am_Mem} {r0 r90 : Nat} {x1 x2 x3 s1 : Int32}
    (h1 : am_kd μ r0 = (1, 12))
    (k1 : (am_A μ r0 81) = 0 → Wp d 266 (86, [some (.ref r0), some (.int x1), some (.int x2), some (.int x3)], [.int s1, .ref r90], μ) Q) (k2 : ¬ ((am_A μ r0 81) = 0) → Wp d 266 (78, [some (.ref r0), some (.int x1), some (.int x2), some (.int x3)], [.int s1, .ref r90], μ) Q) :
    Wp d 266 (71, [some (.ref r0), some (.int x1), some (.int x2), some (.int x3)], [.int s1, .ref r90], μ) Q := wp_blk rfl e266_71 (And.intro h1 (And.intro k1 k2))
def q266_78 : List (Nat × Instr × Nat) := [(78, .iload_n 3, 1), (79, .ifCond .ne 7, 3)]
theorem e266_78 : am_dec am_M266 q266_78 = true := by decide +kernel
theorem b266_78 {d : Nat} {Q : Option Value ⊕ Nat → am_Mem → Prop} {μ : am_Mem} {r0 r90 : Nat} {x1 x2 x3 s1 : Int32}
    (k1 : ¬ x3 = 0 → Wp d 266 (86, [some (.ref r0), some (.int x1), some (.int x2), some (.int x3)], [.int s1, .ref r90], μ) Q) (k2 : ¬ (¬ x3 = 0) → Wp d 266 (82, [some (.ref r0), some (.int x1), some (.int x2), some (.int x3)], [.int s1, .ref r90], μ) Q) :
    Wp d 266 (78, [some (.ref r0), some (.int x1), some (.int x2), some (.int x3)], [.int s1, .ref r90], μ) Q := wp_blk rfl e266_78 (And.intro k1 k2)
def q266_82 : List (Nat × Instr × Nat) := [(82, .iconst 1, 1), (83, .goto 4, 3)]
theorem e266_82 : am_dec am_M266 q266_82 = true := by decide +kernel
theorem b266_82 {d : Nat} {Q : Option Value ⊕ Nat → am_Mem → Prop} {μ : am_Mem} {r0 r90 : Nat} {x1 x2 x3 s1 : Int32}
    (k : Wp d 266 (87, [some (.ref r0), some (.int x1), some (.int x2), some (.int x3)], [.int (Int32.ofInt 1), .int s1, .ref r90], μ) Q) :
    Wp d 266 (82, [some (.ref r0), some (.int x1), some (.int x2), some (.int x3)], [.int s1, .ref r90], μ) Q := wp_blk rfl e266_82 k
def q266_86 : List (Nat × Instr × Nat) := [(86, .iconst 0, 1)]
theorem e266_86 : am_dec am_M266 q266_86 = true := by decide +kernel
theorem b266_86 {d : Nat} {Q : Option Value ⊕ Nat → am_Mem → Prop} {μ : am_Mem} {r0 r90 : Nat} {x1 x2 x3 s1 : Int32}
    (k : Wp d 266 (87, [some (.ref r0), some (.int x1), some (.int x2), some (.int x3)], [.int (Int32.ofInt 0), .int s1, .ref r90], μ) Q) :
    Wp d 266 (86, [some (.ref r0), some (.int x1), some (.int x2), some (.int x3)], [.int s1, .ref r90], μ) Q := wp_blk rfl e266_86 k
def q266_87 : List (Nat × Instr × Nat) := [(87, .iconst 0, 1)]
theorem e266_87 : am_dec am_M266 q266_87 = true := by decide +kernel
theorem e266_87_c : am_dc1 am_M266 88 (.invokevirtual 212) 3 = true := by decide +kernel
theorem b266_87 {d : Nat} {Q : Option Value ⊕ Nat → am_Mem → Prop} {μ : am_Mem} {r0 r90 : Nat} {x1 x2 x3 s1 s2 : Int32} {P : Int32 → am_Mem → Prop} {X : Nat → am_Mem → Prop}
    (hk : am_kd μ r90 = (1, 12))
    (hc : Wp d 151 (0, [some (.ref r90), some (.int s1), some (.int s2), some (.int (Int32.ofInt 0))], [], μ) (pI P X)) (hr : ∀ x μ', P x μ' → Wp (d + 1) 266 (91, [some (.ref r0), some (.int x1), some (.int x2), some (.int x3)], [.int x], (μ')) Q)
    (hx : ∀ x μ', X x μ' → Q (.inr x) μ') :
    Wp (d + 1) 266 (87, [some (.ref r0), some (.int x1), some (.int x2), some (.int x3)], [.int s2, .int s1, .ref r90], μ) Q := wp_blk rfl e266_87 (wp_cv (as := [.int s1, .int s2, .int (Int32.ofInt 0)]) rfl e266_87_c rfl rfl rfl rfl rfl hk hc (fun v μ' hv => by obtain ⟨x, rfl, hp⟩ := pI_r hv; exact hr x μ' hp) hx)
def q266_91 : List (Nat × Instr × Nat) := [(91, .ifCond .eq 5, 3)]
theorem e266_91 : am_dec am_M266 q266_91 = true := by decide +kernel
theorem b266_91 {d : Nat} {Q : Option Value ⊕ Nat → am_Mem → Prop} {μ : am_Mem} {r0 : Nat} {x1 x2 x3 s0 : Int32}
    (k1 : s0 = 0 → Wp d 266 (96, [some (.ref r0), some (.int x1), some (.int x2), some (.int x3)], [], μ) Q) (k2 : ¬ (s0 = 0) → Wp d 266 (94, [some (.ref r0), some (.int x1), some (.int x2), some (.int x3)], [], μ) Q) :
    Wp d 266 (91, [some (.ref r0), some (.int x1), some (.int x2), some (.int x3)], [.int s0], μ) Q := wp_blk rfl e266_91 (And.intro k1 k2)
def q266_94 : List (Nat × Instr × Nat) := [(94, .iconst 0, 1)]
theorem e266_94 : am_dec am_M266 q266_94 = true := by decide +kernel
theorem e266_94_r : am_dec am_M266 [(95, .ireturn, 1)] = true := by decide +kernel
theorem b266_94 {d : Nat} {Q : Option Value ⊕ Nat → am_Mem → Prop} {μ : am_Mem} {r0 : Nat} {x1 x2 x3 : Int32}
    (k : Q (.inl (some (.int (Int32.ofInt 0)))) μ) :
    Wp d 266 (94, [some (.ref r0), some (.int x1), some (.int x2), some (.int x3)], [], μ) Q := wp_blk rfl e266_94 (wp_ri (ty := .int) rfl e266_94_r rfl ⟨rfl, rfl⟩ k)
def q266_96 : List (Nat × Instr × Nat) := [(96, .aload_n 0, 1), (97, .getfield 180, 3), (100, .bipush 40, 2), (102, .iload_n 1, 1), (103, .imul, 1), (104, .iload_n 2, 1), (105, .iadd, 1), (106, .iaload, 1)]
theorem e266_96 : am_dec am_M266 q266_96 = true := by decide +kernel
theorem e266_96_r : am_dec am_M266 [(107, .ireturn, 1)] = true := by decide +kernel
theorem b266_96 {d : Nat} {Q : Option Value ⊕ Nat → am_Mem → Prop} {μ : am_Mem} {r0 : Nat} {x1 x2 x3 : Int32}
    (h1 : am_kd μ r0 = (1, 12))
    (h2 : ¬ am_F μ r0 86 = 15)
    (h3 : (am_kd μ (am_F μ r0 86)).1 = 2 ∨ (am_kd μ (am_F μ r0 86)).1 = 8)
    (h4 : ¬ (((((Int8.ofInt 40).toInt32) * x1) + x2) < 0 ∨ (am_kd μ (am_F μ r0 86)).2 ≤ ((((Int8.ofInt 40).toInt32) * x1) + x2).toNatClampNeg))
    (k : Q (.inl (some (.int (am_A μ (am_F μ r0 86) ((((Int8.ofInt 40).toInt32) * x1) + x2).toNatClampNeg)))) μ) :
    Wp d 266 (96, [some (.ref r0), some (.int x1), some (.int x2), some (.int x3)], [], μ) Q := wp_blk rfl e266_96 (And.intro h1 (And.intro h2 (And.intro h3 (And.intro h4 (wp_ri (ty := .int) rfl e266_96_r rfl ⟨rfl, rfl⟩ k)))))
/-! RuleSheetsModel.value(I)I -/
def q267_0 : List (Nat × Instr × Nat) := [(0, .aload_n 0, 1), (1, .getfield 593, 3), (4, .ifCond .eq 14, 3)]
theorem e267_0 : am_dec am_M267 q267_0 = true := by decide +kernel
theorem b267_0 {d : Nat} {Q : Option Value ⊕ Nat → am_Mem → Prop} {μ : am_Mem} {r0 : Nat} {x1 : Int32}
    (h1 : am_kd μ r0 = (1, 12))
    (k1 : (am_A μ r0 81) = 0 → Wp d 267 (18, [some (.ref r0), some (.int x1), none], [], μ) Q) (k2 : ¬ ((am_A μ r0 81) = 0) → Wp d 267 (7, [some (.ref r0), some (.int x1), none], [], μ) Q) :
    Wp d 267 (0, [some (.ref r0), some (.int x1), none], [], μ) Q := wp_blk rfl e267_0 (And.intro h1 (And.intro k1 k2))
def q267_7 : List (Nat × Instr × Nat) := [(7, .aload_n 0, 1), (8, .getfield 657, 3), (11, .ifCond .ne 7, 3)]
theorem e267_7 : am_dec am_M267 q267_7 = true := by decide +kernel
theorem b267_7 {d : Nat} {Q : Option Value ⊕ Nat → am_Mem → Prop} {μ : am_Mem} {r0 : Nat} {x1 : Int32}
    (h1 : am_kd μ r0 = (1, 12))
    (k1 : ¬ (am_A μ r0 89) = 0 → Wp d 267 (18, [some (.ref r0), some (.int x1), none], [], μ) Q) (k2 : ¬ (¬ (am_A μ r0 89) = 0) → Wp d 267 (14, [some (.ref r0), some (.int x1), none], [], μ) Q) :
    Wp d 267 (7, [some (.ref r0), some (.int x1), none], [], μ) Q := wp_blk rfl e267_7 (And.intro h1 (And.intro k1 k2))
def q267_14 : List (Nat × Instr × Nat) := [(14, .iconst 1, 1), (15, .goto 4, 3)]
theorem e267_14 : am_dec am_M267 q267_14 = true := by decide +kernel
theorem b267_14 {d : Nat} {Q : Option Value ⊕ Nat → am_Mem → Prop} {μ : am_Mem} {r0 : Nat} {x1 : Int32}
    (k : Wp d 267 (19, [some (.ref r0), some (.int x1), none], [.int (Int32.ofInt 1)], μ) Q) :
    Wp d 267 (14, [some (.ref r0), some (.int x1), none], [], μ) Q := wp_blk rfl e267_14 k
def q267_18 : List (Nat × Instr × Nat) := [(18, .iconst 0, 1)]
theorem e267_18 : am_dec am_M267 q267_18 = true := by decide +kernel
theorem b267_18 {d : Nat} {Q : Option Value ⊕ Nat → am_Mem → Prop} {μ : am_Mem} {r0 : Nat} {x1 : Int32}
    (k : Wp d 267 (19, [some (.ref r0), some (.int x1), none], [.int (Int32.ofInt 0)], μ) Q) :
    Wp d 267 (18, [some (.ref r0), some (.int x1), none], [], μ) Q := wp_blk rfl e267_18 k
def q267_19 : List (Nat × Instr × Nat) := [(19, .istore_n 2, 1), (20, .aload_n 0, 1), (21, .iload_n 2, 1), (22, .ifCond .ne 7, 3)]
theorem e267_19 : am_dec am_M267 q267_19 = true := by decide +kernel
theorem b267_19 {d : Nat} {Q : Option Value ⊕ Nat → am_Mem → Prop} {μ : am_Mem} {r0 : Nat} {x1 s0 : Int32}
    (k1 : ¬ s0 = 0 → Wp d 267 (29, [some (.ref r0), some (.int x1), some (.int s0)], [.ref r0], μ) Q) (k2 : ¬ (¬ s0 = 0) → Wp d 267 (25, [some (.ref r0), some (.int x1), some (.int s0)], [.ref r0], μ) Q) :
    Wp d 267 (19, [some (.ref r0), some (.int x1), none], [.int s0], μ) Q := wp_blk rfl e267_19 (And.intro k1 k2)
def q267_25 : List (Nat × Instr × Nat) := [(25, .iconst 1, 1), (26, .goto 4, 3)]
theorem e267_25 : am_dec am_M267 q267_25 = true := by decide +kernel
theorem b267_25 {d : Nat} {Q : Option Value ⊕ Nat → am_Mem → Prop} {μ : am_Mem} {r0 r90 : Nat} {x1 x2 : Int32}
    (k : Wp d 267 (30, [some (.ref r0), some (.int x1), some (.int x2)], [.int (Int32.ofInt 1), .ref r90], μ) Q) :
    Wp d 267 (25, [some (.ref r0), some (.int x1), some (.int x2)], [.ref r90], μ) Q := wp_blk rfl e267_25 k
def q267_29 : List (Nat × Instr × Nat) := [(29, .iconst 0, 1)]
theorem e267_29 : am_dec am_M267 q267_29 = true := by decide +kernel
theorem b267_29 {d : Nat} {Q : Option Value ⊕ Nat → am_Mem → Prop} {μ : am_Mem} {r0 r90 : Nat} {x1 x2 : Int32}
    (k : Wp d 267 (30, [some (.ref r0), some (.int x1), some (.int x2)], [.int (Int32.ofInt 0), .ref r90], μ) Q) :
    Wp d 267 (29, [some (.ref r0), some (.int x1), some (.int x2)], [.ref r90], μ) Q := wp_blk rfl e267_29 k
def q267_30 : List (Nat × Instr × Nat) := [(30, .iload_n 2, 1), (31, .ifCond .eq 15, 3)]
theorem e267_30 : am_dec am_M267 q267_30 = true := by decide +kernel
theorem b267_30 {d : Nat} {Q : Option Value ⊕ Nat → am_Mem → Prop} {μ : am_Mem} {r0 r90 : Nat} {x1 x2 s1 : Int32}
    (k1 : x2 = 0 → Wp d 267 (46, [some (.ref r0), some (.int x1), some (.int x2)], [.int s1, .ref r90], μ) Q) (k2 : ¬ (x2 = 0) → Wp d 267 (34, [some (.ref r0), some (.int x1), some (.int x2)], [.int s1, .ref r90], μ) Q) :
    Wp d 267 (30, [some (.ref r0), some (.int x1), some (.int x2)], [.int s1, .ref r90], μ) Q := wp_blk rfl e267_30 (And.intro k1 k2)
def q267_34 : List (Nat × Instr × Nat) := [(34, .aload_n 0, 1), (35, .iload_n 1, 1)]
theorem e267_34 : am_dec am_M267 q267_34 = true := by decide +kernel
theorem e267_34_c : am_dc1 am_M267 36 (.invokevirtual 675) 3 = true := by decide +kernel
theorem b267_34 {d : Nat} {Q : Option Value ⊕ Nat → am_Mem → Prop} {μ : am_Mem} {r0 r90 : Nat} {x1 x2 s1 : Int32} {P : Int32 → am_Mem → Prop} {X : Nat → am_Mem → Prop}
    (hk : am_kd μ r0 = (1, 12))
    (hc : Wp d 265 (0, [some (.ref r0), some (.int x1)], [], μ) (pI P X)) (hr : ∀ x μ', P x μ' → Wp (d + 1) 267 (39, [some (.ref r0), some (.int x1), some (.int x2)], [.int x, .int s1, .ref r90], (μ')) Q)
    (hx : ∀ x μ', X x μ' → Q (.inr x) μ') :
    Wp (d + 1) 267 (34, [some (.ref r0), some (.int x1), some (.int x2)], [.int s1, .ref r90], μ) Q := wp_blk rfl e267_34 (wp_cv (as := [.int x1]) rfl e267_34_c rfl rfl rfl rfl rfl hk hc (fun v μ' hv => by obtain ⟨x, rfl, hp⟩ := pI_r hv; exact hr x μ' hp) hx)
def q267_39 : List (Nat × Instr × Nat) := [(39, .ifCond .ne 7, 3)]
theorem e267_39 : am_dec am_M267 q267_39 = true := by decide +kernel
theorem b267_39 {d : Nat} {Q : Option Value ⊕ Nat → am_Mem → Prop} {μ : am_Mem} {r0 r90 : Nat} {x1 x2 s1 s2 : Int32}
    (k1 : ¬ s2 = 0 → Wp d 267 (46, [some (.ref r0), some (.int x1), some (.int x2)], [.int s1, .ref r90], μ) Q) (k2 : ¬ (¬ s2 = 0) → Wp d 267 (42, [some (.ref r0), some (.int x1), some (.int x2)], [.int s1, .ref r90], μ) Q) :
    Wp d 267 (39, [some (.ref r0), some (.int x1), some (.int x2)], [.int s2, .int s1, .ref r90], μ) Q := wp_blk rfl e267_39 (And.intro k1 k2)
def q267_42 : List (Nat × Instr × Nat) := [(42, .iconst 1, 1), (43, .goto 4, 3)]
theorem e267_42 : am_dec am_M267 q267_42 = true := by decide +kernel
theorem b267_42 {d : Nat} {Q : Option Value ⊕ Nat → am_Mem → Prop} {μ : am_Mem} {r0 r90 : Nat} {x1 x2 s1 : Int32}
    (k : Wp d 267 (47, [some (.ref r0), some (.int x1), some (.int x2)], [.int (Int32.ofInt 1), .int s1, .ref r90], μ) Q) :
    Wp d 267 (42, [some (.ref r0), some (.int x1), some (.int x2)], [.int s1, .ref r90], μ) Q := wp_blk rfl e267_42 k
def q267_46 : List (Nat × Instr × Nat) := [(46, .iconst 0, 1)]
theorem e267_46 : am_dec am_M267 q267_46 = true := by decide +kernel
theorem b267_46 {d : Nat} {Q : Option Value ⊕ Nat → am_Mem → Prop} {μ : am_Mem} {r0 r90 : Nat} {x1 x2 s1 : Int32}
    (k : Wp d 267 (47, [some (.ref r0), some (.int x1), some (.int x2)], [.int (Int32.ofInt 0), .int s1, .ref r90], μ) Q) :
    Wp d 267 (46, [some (.ref r0), some (.int x1), some (.int x2)], [.int s1, .ref r90], μ) Q := wp_blk rfl e267_46 k
def q267_47 : List (Nat × Instr × Nat) := [(47, .iconst 0, 1)]
theorem e267_47 : am_dec am_M267 q267_47 = true := by decide +kernel
theorem e267_47_c : am_dc1 am_M267 48 (.invokevirtual 212) 3 = true := by decide +kernel
theorem b267_47 {d : Nat} {Q : Option Value ⊕ Nat → am_Mem → Prop} {μ : am_Mem} {r0 r90 : Nat} {x1 x2 s1 s2 : Int32} {P : Int32 → am_Mem → Prop} {X : Nat → am_Mem → Prop}
    (hk : am_kd μ r90 = (1, 12))
    (hc : Wp d 151 (0, [some (.ref r90), some (.int s1), some (.int s2), some (.int (Int32.ofInt 0))], [], μ) (pI P X)) (hr : ∀ x μ', P x μ' → Wp (d + 1) 267 (51, [some (.ref r0), some (.int x1), some (.int x2)], [.int x], (μ')) Q)
    (hx : ∀ x μ', X x μ' → Q (.inr x) μ') :
    Wp (d + 1) 267 (47, [some (.ref r0), some (.int x1), some (.int x2)], [.int s2, .int s1, .ref r90], μ) Q := wp_blk rfl e267_47 (wp_cv (as := [.int s1, .int s2, .int (Int32.ofInt 0)]) rfl e267_47_c rfl rfl rfl rfl rfl hk hc (fun v μ' hv => by obtain ⟨x, rfl, hp⟩ := pI_r hv; exact hr x μ' hp) hx)
def q267_51 : List (Nat × Instr × Nat) := [(51, .ifCond .eq 5, 3)]
theorem e267_51 : am_dec am_M267 q267_51 = true := by decide +kernel
theorem b267_51 {d : Nat} {Q : Option Value ⊕ Nat → am_Mem → Prop} {μ : am_Mem} {r0 : Nat} {x1 x2 s0 : Int32}
    (k1 : s0 = 0 → Wp d 267 (56, [some (.ref r0), some (.int x1), some (.int x2)], [], μ) Q) (k2 : ¬ (s0 = 0) → Wp d 267 (54, [some (.ref r0), some (.int x1), some (.int x2)], [], μ) Q) :
    Wp d 267 (51, [some (.ref r0), some (.int x1), some (.int x2)], [.int s0], μ) Q := wp_blk rfl e267_51 (And.intro k1 k2)
def q267_54 : List (Nat × Instr × Nat) := [(54, .iconst 0, 1)]
theorem e267_54 : am_dec am_M267 q267_54 = true := by decide +kernel
theorem e267_54_r : am_dec am_M267 [(55, .ireturn, 1)] = true := by decide +kernel
theorem b267_54 {d : Nat} {Q : Option Value ⊕ Nat → am_Mem → Prop} {μ : am_Mem} {r0 : Nat} {x1 x2 : Int32}
    (k : Q (.inl (some (.int (Int32.ofInt 0)))) μ) :
    Wp d 267 (54, [some (.ref r0), some (.int x1), some (.int x2)], [], μ) Q := wp_blk rfl e267_54 (wp_ri (ty := .int) rfl e267_54_r rfl ⟨rfl, rfl⟩ k)
def q267_56 : List (Nat × Instr × Nat) := [(56, .aload_n 0, 1), (57, .getfield 189, 3), (60, .iload_n 1, 1), (61, .iaload, 1)]
theorem e267_56 : am_dec am_M267 q267_56 = true := by decide +kernel
theorem e267_56_r : am_dec am_M267 [(62, .ireturn, 1)] = true := by decide +kernel
theorem b267_56 {d : Nat} {Q : Option Value ⊕ Nat → am_Mem → Prop} {μ : am_Mem} {r0 : Nat} {x1 x2 : Int32}
    (h1 : am_kd μ r0 = (1, 12))
    (h2 : ¬ am_F μ r0 91 = 15)
    (h3 : (am_kd μ (am_F μ r0 91)).1 = 2 ∨ (am_kd μ (am_F μ r0 91)).1 = 8)
    (h4 : ¬ (x1 < 0 ∨ (am_kd μ (am_F μ r0 91)).2 ≤ x1.toNatClampNeg))
    (k : Q (.inl (some (.int (am_A μ (am_F μ r0 91) x1.toNatClampNeg)))) μ) :
    Wp d 267 (56, [some (.ref r0), some (.int x1), some (.int x2)], [], μ) Q := wp_blk rfl e267_56 (And.intro h1 (And.intro h2 (And.intro h3 (And.intro h4 (wp_ri (ty := .int) rfl e267_56_r rfl ⟨rfl, rfl⟩ k)))))
/-! RuleSheetsModel.best(I)I -/
def q268_0 : List (Nat × Instr × Nat) := [(0, .aload_n 0, 1), (1, .getfield 593, 3), (4, .ifCond .eq 14, 3)]
theorem e268_0 : am_dec am_M268 q268_0 = true := by decide +kernel
theorem b268_0 {d : Nat} {Q : Option Value ⊕ Nat → am_Mem → Prop} {μ : am_Mem} {r0 : Nat} {x1 : Int32}
    (h1 : am_kd μ r0 = (1, 12))
    (k1 : (am_A μ r0 81) = 0 → Wp d 268 (18, [some (.ref r0), some (.int x1), none, none, none], [], μ) Q) (k2 : ¬ ((am_A μ r0 81) = 0) → Wp d 268 (7, [some (.ref r0), some (.int x1), none, none, none], [], μ) Q) :
    Wp d 268 (0, [some (.ref r0), some (.int x1), none, none, none], [], μ) Q := wp_blk rfl e268_0 (And.intro h1 (And.intro k1 k2))
def q268_7 : List (Nat × Instr × Nat) := [(7, .aload_n 0, 1), (8, .getfield 657, 3), (11, .ifCond .ne 7, 3)]
theorem e268_7 : am_dec am_M268 q268_7 = true := by decide +kernel
theorem b268_7 {d : Nat} {Q : Option Value ⊕ Nat → am_Mem → Prop} {μ : am_Mem} {r0 : Nat} {x1 : Int32}
    (h1 : am_kd μ r0 = (1, 12))
    (k1 : ¬ (am_A μ r0 89) = 0 → Wp d 268 (18, [some (.ref r0), some (.int x1), none, none, none], [], μ) Q) (k2 : ¬ (¬ (am_A μ r0 89) = 0) → Wp d 268 (14, [some (.ref r0), some (.int x1), none, none, none], [], μ) Q) :
    Wp d 268 (7, [some (.ref r0), some (.int x1), none, none, none], [], μ) Q := wp_blk rfl e268_7 (And.intro h1 (And.intro k1 k2))
def q268_14 : List (Nat × Instr × Nat) := [(14, .iconst 1, 1), (15, .goto 4, 3)]
theorem e268_14 : am_dec am_M268 q268_14 = true := by decide +kernel
theorem b268_14 {d : Nat} {Q : Option Value ⊕ Nat → am_Mem → Prop} {μ : am_Mem} {r0 : Nat} {x1 : Int32}
    (k : Wp d 268 (19, [some (.ref r0), some (.int x1), none, none, none], [.int (Int32.ofInt 1)], μ) Q) :
    Wp d 268 (14, [some (.ref r0), some (.int x1), none, none, none], [], μ) Q := wp_blk rfl e268_14 k
def q268_18 : List (Nat × Instr × Nat) := [(18, .iconst 0, 1)]
theorem e268_18 : am_dec am_M268 q268_18 = true := by decide +kernel
theorem b268_18 {d : Nat} {Q : Option Value ⊕ Nat → am_Mem → Prop} {μ : am_Mem} {r0 : Nat} {x1 : Int32}
    (k : Wp d 268 (19, [some (.ref r0), some (.int x1), none, none, none], [.int (Int32.ofInt 0)], μ) Q) :
    Wp d 268 (18, [some (.ref r0), some (.int x1), none, none, none], [], μ) Q := wp_blk rfl e268_18 k
def q268_19 : List (Nat × Instr × Nat) := [(19, .istore_n 2, 1), (20, .aload_n 0, 1), (21, .iload_n 2, 1), (22, .ifCond .ne 7, 3)]
theorem e268_19 : am_dec am_M268 q268_19 = true := by decide +kernel
theorem b268_19 {d : Nat} {Q : Option Value ⊕ Nat → am_Mem → Prop} {μ : am_Mem} {r0 : Nat} {x1 s0 : Int32}
    (k1 : ¬ s0 = 0 → Wp d 268 (29, [some (.ref r0), some (.int x1), some (.int s0), none, none], [.ref r0], μ) Q) (k2 : ¬ (¬ s0 = 0) → Wp d 268 (25, [some (.ref r0), some (.int x1), some (.int s0), none, none], [.ref r0], μ) Q) :
    Wp d 268 (19, [some (.ref r0), some (.int x1), none, none, none], [.int s0], μ) Q := wp_blk rfl e268_19 (And.intro k1 k2)
def q268_25 : List (Nat × Instr × Nat) := [(25, .iconst 1, 1), (26, .goto 4, 3)]
theorem e268_25 : am_dec am_M268 q268_25 = true := by decide +kernel
theorem b268_25 {d : Nat} {Q : Option Value ⊕ Nat → am_Mem → Prop} {μ : am_Mem} {r0 r90 : Nat} {x1 x2 : Int32}
    (k : Wp d 268 (30, [some (.ref r0), some (.int x1), some (.int x2), none, none], [.int (Int32.ofInt 1), .ref r90], μ) Q) :
    Wp d 268 (25, [some (.ref r0), some (.int x1), some (.int x2), none, none], [.ref r90], μ) Q := wp_blk rfl e268_25 k
def q268_29 : List (Nat × Instr × Nat) := [(29, .iconst 0, 1)]
theorem e268_29 : am_dec am_M268 q268_29 = true := by decide +kernel
theorem b268_29 {d : Nat} {Q : Option Value ⊕ Nat → am_Mem → Prop} {μ : am_Mem} {r0 r90 : Nat} {x1 x2 : Int32}
    (k : Wp d 268 (30, [some (.ref r0), some (.int x1), some (.int x2), none, none], [.int (Int32.ofInt 0), .ref r90], μ) Q) :
    Wp d 268 (29, [some (.ref r0), some (.int x1), some (.int x2), none, none], [.ref r90], μ) Q := wp_blk rfl e268_29 k
def q268_30 : List (Nat × Instr × Nat) := [(30, .iload_n 2, 1), (31, .ifCond .eq 15, 3)]
theorem e268_30 : am_dec am_M268 q268_30 = true := by decide +kernel
theorem b268_30 {d : Nat} {Q : Option Value ⊕ Nat → am_Mem → Prop} {μ : am_Mem} {r0 r90 : Nat} {x1 x2 s1 : Int32}
    (k1 : x2 = 0 → Wp d 268 (46, [some (.ref r0), some (.int x1), some (.int x2), none, none], [.int s1, .ref r90], μ) Q) (k2 : ¬ (x2 = 0) → Wp d 268 (34, [some (.ref r0), some (.int x1), some (.int x2), none, none], [.int s1, .ref r90], μ) Q) :
    Wp d 268 (30, [some (.ref r0), some (.int x1), some (.int x2), none, none], [.int s1, .ref r90], μ) Q := wp_blk rfl e268_30 (And.intro k1 k2)
def q268_34 : List (Nat × Instr × Nat) := [(34, .aload_n 0, 1), (35, .iload_n 1, 1)]
theorem e268_34 : am_dec am_M268 q268_34 = true := by decide +kernel
theorem e268_34_c : am_dc1 am_M268 36 (.invokevirtual 675) 3 = true := by decide +kernel
theorem b268_34 {d : Nat} {Q : Option Value ⊕ Nat → am_Mem → Prop} {μ : am_Mem} {r0 r90 : Nat} {x1 x2 s1 : Int32} {P : Int32 → am_Mem → Prop} {X : Nat → am_Mem → Prop}
    (hk : am_kd μ r0 = (1, 12))
    (hc : Wp d 265 (0, [some (.ref r0), some (.int x1)], [], μ) (pI P X)) (hr : ∀ x μ', P x μ' → Wp (d + 1) 268 (39, [some (.ref r0), some (.int x1), some (.int x2), none, none], [.int x, .int s1, .ref r90], (μ')) Q)
    (hx : ∀ x μ', X x μ' → Q (.inr x) μ') :
    Wp (d + 1) 268 (34, [some (.ref r0), some (.int x1), some (.int x2), none, none], [.int s1, .ref r90], μ) Q := wp_blk rfl e268_34 (wp_cv (as := [.int x1]) rfl e268_34_c rfl rfl rfl rfl rfl hk hc (fun v μ' hv => by obtain ⟨x, rfl, hp⟩ := pI_r hv; exact hr x μ' hp) hx)
def q268_39 : List (Nat × Instr × Nat) := [(39, .ifCond .ne 7, 3)]
theorem e268_39 : am_dec am_M268 q268_39 = true := by decide +kernel
theorem b268_39 {d : Nat} {Q : Option Value ⊕ Nat → am_Mem → Prop} {μ : am_Mem} {r0 r90 : Nat} {x1 x2 s1 s2 : Int32}
    (k1 : ¬ s2 = 0 → Wp d 268 (46, [some (.ref r0), some (.int x1), some (.int x2), none, none], [.int s1, .ref r90], μ) Q) (k2 : ¬ (¬ s2 = 0) → Wp d 268 (42, [some (.ref r0), some (.int x1), some (.int x2), none, none], [.int s1, .ref r90], μ) Q) :
    Wp d 268 (39, [some (.ref r0), some (.int x1), some (.int x2), none, none], [.int s2, .int s1, .ref r90], μ) Q := wp_blk rfl e268_39 (And.intro k1 k2)
def q268_42 : List (Nat × Instr × Nat) := [(42, .iconst 1, 1), (43, .goto 4, 3)]
theorem e268_42 : am_dec am_M268 q268_42 = true := by decide +kernel
theorem b268_42 {d : Nat} {Q : Option Value ⊕ Nat → am_Mem → Prop} {μ : am_Mem} {r0 r90 : Nat} {x1 x2 s1 : Int32}
    (k : Wp d 268 (47, [some (.ref r0), some (.int x1), some (.int x2), none, none], [.int (Int32.ofInt 1), .int s1, .ref r90], μ) Q) :
    Wp d 268 (42, [some (.ref r0), some (.int x1), some (.int x2), none, none], [.int s1, .ref r90], μ) Q := wp_blk rfl e268_42 k
def q268_46 : List (Nat × Instr × Nat) := [(46, .iconst 0, 1)]
theorem e268_46 : am_dec am_M268 q268_46 = true := by decide +kernel
theorem b268_46 {d : Nat} {Q : Option Value ⊕ Nat → am_Mem → Prop} {μ : am_Mem} {r0 r90 : Nat} {x1 x2 s1 : Int32}
    (k : Wp d 268 (47, [some (.ref r0), some (.int x1), some (.int x2), none, none], [.int (Int32.ofInt 0), .int s1, .ref r90], μ) Q) :
    Wp d 268 (46, [some (.ref r0), some (.int x1), some (.int x2), none, none], [.int s1, .ref r90], μ) Q := wp_blk rfl e268_46 k
def q268_47 : List (Nat × Instr × Nat) := [(47, .iconst 0, 1)]
theorem e268_47 : am_dec am_M268 q268_47 = true := by decide +kernel
theorem e268_47_c : am_dc1 am_M268 48 (.invokevirtual 212) 3 = true := by decide +kernel
theorem b268_47 {d : Nat} {Q : Option Value ⊕ Nat → am_Mem → Prop} {μ : am_Mem} {r0 r90 : Nat} {x1 x2 s1 s2 : Int32} {P : Int32 → am_Mem → Prop} {X : Nat → am_Mem → Prop}
    (hk : am_kd μ r90 = (1, 12))
    (hc : Wp d 151 (0, [some (.ref r90), some (.int s1), some (.int s2), some (.int (Int32.ofInt 0))], [], μ) (pI P X)) (hr : ∀ x μ', P x μ' → Wp (d + 1) 268 (51, [some (.ref r0), some (.int x1), some (.int x2), none, none], [.int x], (μ')) Q)
    (hx : ∀ x μ', X x μ' → Q (.inr x) μ') :
    Wp (d + 1) 268 (47, [some (.ref r0), some (.int x1), some (.int x2), none, none], [.int s2, .int s1, .ref r90], μ) Q := wp_blk rfl e268_47 (wp_cv (as := [.int s1, .int s2, .int (Int32.ofInt 0)]) rfl e268_47_c rfl rfl rfl rfl rfl hk hc (fun v μ' hv => by obtain ⟨x, rfl, hp⟩ := pI_r hv; exact hr x μ' hp) hx)
def q268_51 : List (Nat × Instr × Nat) := [(51, .ifCond .eq 5, 3)]
theorem e268_51 : am_dec am_M268 q268_51 = true := by decide +kernel
theorem b268_51 {d : Nat} {Q : Option Value ⊕ Nat → am_Mem → Prop} {μ : am_Mem} {r0 : Nat} {x1 x2 s0 : Int32}
    (k1 : s0 = 0 → Wp d 268 (56, [some (.ref r0), some (.int x1), some (.int x2), none, none], [], μ) Q) (k2 : ¬ (s0 = 0) → Wp d 268 (54, [some (.ref r0), some (.int x1), some (.int x2), none, none], [], μ) Q) :
    Wp d 268 (51, [some (.ref r0), some (.int x1), some (.int x2), none, none], [.int s0], μ) Q := wp_blk rfl e268_51 (And.intro k1 k2)
def q268_54 : List (Nat × Instr × Nat) := [(54, .iconst 0, 1)]
theorem e268_54 : am_dec am_M268 q268_54 = true := by decide +kernel
theorem e268_54_r : am_dec am_M268 [(55, .ireturn, 1)] = true := by decide +kernel
theorem b268_54 {d : Nat} {Q : Option Value ⊕ Nat → am_Mem → Prop} {μ : am_Mem} {r0 : Nat} {x1 x2 : Int32}
    (k : Q (.inl (some (.int (Int32.ofInt 0)))) μ) :
    Wp d 268 (54, [some (.ref r0), some (.int x1), some (.int x2), none, none], [], μ) Q := wp_blk rfl e268_54 (wp_ri (ty := .int) rfl e268_54_r rfl ⟨rfl, rfl⟩ k)
def q268_56 : List (Nat × Instr × Nat) := [(56, .iconst (-1), 1), (57, .istore_n 3, 1), (58, .aload_n 0, 1), (59, .getfield 177, 3), (62, .iload_n 1, 1), (63, .iaload, 1), (64, .iconst 1, 1), (65, .isub, 1), (66, .istore 4, 2)]
theorem e268_56 : am_dec am_M268 q268_56 = true := by decide +kernel
theorem b268_56 {d : Nat} {Q : Option Value ⊕ Nat → am_Mem → Prop} {μ : am_Mem} {r0 : Nat} {x1 x2 : Int32}
    (h1 : am_kd μ r0 = (1, 12))
    (h2 : ¬ am_F μ r0 85 = 15)
    (h3 : (am_kd μ (am_F μ r0 85)).1 = 2 ∨ (am_kd μ (am_F μ r0 85)).1 = 8)
    (h4 : ¬ (x1 < 0 ∨ (am_kd μ (am_F μ r0 85)).2 ≤ x1.toNatClampNeg))
    (k : Wp d 268 (68, [some (.ref r0), some (.int x1), some (.int x2), some (.int (Int32.ofInt (-1))), some (.int ((am_A μ (am_F μ r0 85) x1.toNatClampNeg) - (Int32.ofInt 1)))], [], μ) Q) :
    Wp d 268 (56, [some (.ref r0), some (.int x1), some (.int x2), none, none], [], μ) Q := wp_blk rfl e268_56 (And.intro h1 (And.intro h2 (And.intro h3 (And.intro h4 k))))
def q268_68 : List (Nat × Instr × Nat) := [(68, .iload 4, 2), (70, .ifCond .lt 42, 3)]
theorem e268_68 : am_dec am_M268 q268_68 = true := by decide +kernel
theorem b268_68 {d : Nat} {Q : Option Value ⊕ Nat → am_Mem → Prop} {μ : am_Mem} {r0 : Nat} {x1 x2 x3 x4 : Int32}
    (k1 : x4 < 0 → Wp d 268 (112, [some (.ref r0), some (.int x1), some (.int x2), some (.int x3), some (.int x4)], [], μ) Q) (k2 : ¬ (x4 < 0) → Wp d 268 (73, [some (.ref r0), some (.int x1), some (.int x2), some (.int x3), some (.int x4)], [], μ) Q) :
    Wp d 268 (68, [some (.ref r0), some (.int x1), some (.int x2), some (.int x3), some (.int x4)], [], μ) Q := wp_blk rfl e268_68 (And.intro k1 k2)
def q268_73 : List (Nat × Instr × Nat) := [(73, .aload_n 0, 1), (74, .getfield 189, 3), (77, .aload_n 0, 1), (78, .getfield 180, 3), (81, .bipush 40, 2), (83, .iload_n 1, 1), (84, .imul, 1), (85, .iload 4, 2), (87, .iadd, 1), (88, .iaload, 1), (89, .iaload, 1), (90, .aload_n 0, 1), (91, .getfield 189, 3), (94, .iload_n 1, 1), (95, .iaload, 1), (96, .if_icmp .ne 8, 3)]
theorem e268_73 : am_dec am_M268 q268_73 = true := by decide +kernel
theorem b268_73 {d : Nat} {Q : Option Value ⊕ Nat → am_Mem → Prop} {μ : am_Mem} {r0 : Nat} {x1 x2 x3 x4 : Int32}
    (h1 : am_kd μ r0 = (1, 12))
    (h2 : ¬ am_F μ r0 91 = 15)
    (h3 : am_kd μ r0 = (1, 12))
    (h4 : ¬ am_F μ r0 86 = 15)
    (h5 : (am_kd μ (am_F μ r0 86)).1 = 2 ∨ (am_kd μ (am_F μ r0 86)).1 = 8)
    (h6 : ¬ (((((Int8.ofInt 40).toInt32) * x1) + x4) < 0 ∨ (am_kd μ (am_F μ r0 86)).2 ≤ ((((Int8.ofInt 40).toInt32) * x1) + x4).toNatClampNeg))
    (h7 : (am_kd μ (am_F μ r0 91)).1 = 2 ∨ (am_kd μ (am_F μ r0 91)).1 = 8)
    (h8 : ¬ ((am_A μ (am_F μ r0 86) ((((Int8.ofInt 40).toInt32) * x1) + x4).toNatClampNeg) < 0 ∨ (am_kd μ (am_F μ r0 91)).2 ≤ (am_A μ (am_F μ r0 86) ((((Int8.ofInt 40).toInt32) * x1) + x4).toNatClampNeg).toNatClampNeg))
    (h9 : am_kd μ r0 = (1, 12))
    (h10 : ¬ am_F μ r0 91 = 15)
    (h11 : (am_kd μ (am_F μ r0 91)).1 = 2 ∨ (am_kd μ (am_F μ r0 91)).1 = 8)
    (h12 : ¬ (x1 < 0 ∨ (am_kd μ (am_F μ r0 91)).2 ≤ x1.toNatClampNeg))
    (k1 : ¬ (am_A μ (am_F μ r0 91) (am_A μ (am_F μ r0 86) ((((Int8.ofInt 40).toInt32) * x1) + x4).toNatClampNeg).toNatClampNeg) = (am_A μ (am_F μ r0 91) x1.toNatClampNeg) → Wp d 268 (104, [some (.ref r0), some (.int x1), some (.int x2), some (.int x3), some (.int x4)], [], μ) Q) (k2 : ¬ (¬ (am_A μ (am_F μ r0 91) (am_A μ (am_F μ r0 86) ((((Int8.ofInt 40).toInt32) * x1) + x4).toNatClampNeg).toNatClampNeg) = (am_A μ (am_F μ r0 91) x1.toNatClampNeg)) → Wp d 268 (99, [some (.ref r0), some (.int x1), some (.int x2), some (.int x3), some (.int x4)], [], μ) Q) :
    Wp d 268 (73, [some (.ref r0), some (.int x1), some (.int x2), some (.int x3), some (.int x4)], [], μ) Q := wp_blk rfl e268_73 (And.intro h1 (And.intro h2 (And.intro h3 (And.intro h4 (And.intro h5 (And.intro h6 (And.intro h7 (And.intro h8 (And.intro h9 (And.intro h10 (And.intro h11 (And.intro h12 (And.intro k1 k2)))))))))))))
def q268_99 : List (Nat × Instr × Nat) := [(99, .iload 4, 2), (101, .goto 4, 3)]
theorem e268_99 : am_dec am_M268 q268_99 = true := by decide +kernel
theorem b268_99 {d : Nat} {Q : Option Value ⊕ Nat → am_Mem → Prop} {μ : am_Mem} {r0 : Nat} {x1 x2 x3 x4 : Int32}
    (k : Wp d 268 (105, [some (.ref r0), some (.int x1), some (.int x2), some (.int x3), some (.int x4)], [.int x4], μ) Q) :
    Wp d 268 (99, [some (.ref r0), some (.int x1), some (.int x2), some (.int x3), some (.int x4)], [], μ) Q := wp_blk rfl e268_99 k
def q268_104 : List (Nat × Instr × Nat) := [(104, .iload_n 3, 1)]
theorem e268_104 : am_dec am_M268 q268_104 = true := by decide +kernel
theorem b268_104 {d : Nat} {Q : Option Value ⊕ Nat → am_Mem → Prop} {μ : am_Mem} {r0 : Nat} {x1 x2 x3 x4 : Int32}
    (k : Wp d 268 (105, [some (.ref r0), some (.int x1), some (.int x2), some (.int x3), some (.int x4)], [.int x3], μ) Q) :
    Wp d 268 (104, [some (.ref r0), some (.int x1), some (.int x2), some (.int x3), some (.int x4)], [], μ) Q := wp_blk rfl e268_104 k
def q268_105 : List (Nat × Instr × Nat) := [(105, .istore_n 3, 1), (106, .iinc 4 (-1), 3), (109, .goto (-41), 3)]
theorem e268_105 : am_dec am_M268 q268_105 = true := by decide +kernel
theorem b268_105 {d : Nat} {Q : Option Value ⊕ Nat → am_Mem → Prop} {μ : am_Mem} {r0 : Nat} {x1 x2 x3 x4 s0 : Int32}
    (k : Wp d 268 (68, [some (.ref r0), some (.int x1), some (.int x2), some (.int s0), some (.int (x4 + Int32.ofInt (-1)))], [], μ) Q) :
    Wp d 268 (105, [some (.ref r0), some (.int x1), some (.int x2), some (.int x3), some (.int x4)], [.int s0], μ) Q := wp_blk rfl e268_105 k
def q268_112 : List (Nat × Instr × Nat) := [(112, .iload_n 3, 1)]
theorem e268_112 : am_dec am_M268 q268_112 = true := by decide +kernel
theorem e268_112_r : am_dec am_M268 [(113, .ireturn, 1)] = true := by decide +kernel
theorem b268_112 {d : Nat} {Q : Option Value ⊕ Nat → am_Mem → Prop} {μ : am_Mem} {r0 : Nat} {x1 x2 x3 x4 : Int32}
    (k : Q (.inl (some (.int x3))) μ) :
    Wp d 268 (112, [some (.ref r0), some (.int x1), some (.int x2), some (.int x3), some (.int x4)], [], μ) Q := wp_blk rfl e268_112 (wp_ri (ty := .int) rfl e268_112_r rfl ⟨rfl, rfl⟩ k)
