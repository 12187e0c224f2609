/-! ===== printed: the blocks of ref2 ===== -/
/-! RuleSheetsModel.fault()I -/
def q209_0 : List (Nat × Instr × Nat) := [(0, .aload_n 0, 1), (1, .iconst 0, 1), (2, .putfield 198, 3), (5, .aload_n 0, 1), (6, .getfield 13, 3)]
theorem e209_0 : am_dec am_M209 q209_0 = true := by decide +kernel
theorem e209_0_r : am_dec am_M209 [(9, .ireturn, 1)] = true := by decide +kernel
theorem b209_0 {d : Nat} {Q : Option Value ⊕ Nat → am_Mem → Prop} {μ : am_Mem} {r0 : Nat}
    (h1 : am_kd μ r0 = (1, 12))
    (h2 : am_kd (am_pA μ r0 0 (Int32.ofInt 0)) r0 = (1, 12))
    (k : Q (.inl (some (.int (am_A (am_pA μ r0 0 (Int32.ofInt 0)) r0 3)))) (am_pA μ r0 0 (Int32.ofInt 0))) :
    Wp d 209 (0, [some (.ref r0)], [], μ) Q := wp_blk rfl e209_0 (And.intro h1 (And.intro ⟨rfl, rfl⟩ (And.intro h2 (wp_ri (ty := .int) rfl e209_0_r rfl ⟨rfl, rfl⟩ k))))
/-! RuleSheetsModel.sheet(I)I -/
def q210_0 : List (Nat × Instr × Nat) := [(0, .aload_n 0, 1), (1, .aload_n 0, 1), (2, .getfield 584, 3), (5, .ifCond .ne 7, 3)]
theorem e210_0 : am_dec am_M210 q210_0 = true := by decide +kernel
theorem b210_0 {d : Nat} {Q : Option Value ⊕ Nat → am_Mem → Prop} {μ : am_Mem} {r0 : Nat} {x1 : Int32}
    (h1 : am_kd μ r0 = (1, 12))
    (k1 : ¬ (am_A μ r0 4) = 0 → Wp d 210 (12, [some (.ref r0), some (.int x1)], [.ref r0], μ) Q) (k2 : ¬ (¬ (am_A μ r0 4) = 0) → Wp d 210 (8, [some (.ref r0), some (.int x1)], [.ref r0], μ) Q) :
    Wp d 210 (0, [some (.ref r0), some (.int x1)], [], μ) Q := wp_blk rfl e210_0 (And.intro h1 (And.intro k1 k2))
def q210_8 : List (Nat × Instr × Nat) := [(8, .iconst 1, 1), (9, .goto 4, 3)]
theorem e210_8 : am_dec am_M210 q210_8 = true := by decide +kernel
theorem b210_8 {d : Nat} {Q : Option Value ⊕ Nat → am_Mem → Prop} {μ : am_Mem} {r0 r90 : Nat} {x1 : Int32}
    (k : Wp d 210 (13, [some (.ref r0), some (.int x1)], [.int (Int32.ofInt 1), .ref r90], μ) Q) :
    Wp d 210 (8, [some (.ref r0), some (.int x1)], [.ref r90], μ) Q := wp_blk rfl e210_8 k
def q210_12 : List (Nat × Instr × Nat) := [(12, .iconst 0, 1)]
theorem e210_12 : am_dec am_M210 q210_12 = true := by decide +kernel
theorem b210_12 {d : Nat} {Q : Option Value ⊕ Nat → am_Mem → Prop} {μ : am_Mem} {r0 r90 : Nat} {x1 : Int32}
    (k : Wp d 210 (13, [some (.ref r0), some (.int x1)], [.int (Int32.ofInt 0), .ref r90], μ) Q) :
    Wp d 210 (12, [some (.ref r0), some (.int x1)], [.ref r90], μ) Q := wp_blk rfl e210_12 k
def q210_13 : List (Nat × Instr × Nat) := [(13, .aload_n 0, 1), (14, .getfield 584, 3), (17, .ifCond .eq 17, 3)]
theorem e210_13 : am_dec am_M210 q210_13 = true := by decide +kernel
theorem b210_13 {d : Nat} {Q : Option Value ⊕ Nat → am_Mem → Prop} {μ : am_Mem} {r0 r90 : Nat} {x1 s1 : Int32}
    (h1 : am_kd μ r0 = (1, 12))
    (k1 : (am_A μ r0 4) = 0 → Wp d 210 (34, [some (.ref r0), some (.int x1)], [.int s1, .ref r90], μ) Q) (k2 : ¬ ((am_A μ r0 4) = 0) → Wp d 210 (20, [some (.ref r0), some (.int x1)], [.int s1, .ref r90], μ) Q) :
    Wp d 210 (13, [some (.ref r0), some (.int x1)], [.int s1, .ref r90], μ) Q := wp_blk rfl e210_13 (And.intro h1 (And.intro k1 k2))
def q210_20 : List (Nat × Instr × Nat) := [(20, .iload_n 1, 1), (21, .i2l, 1), (22, .lconst 0, 1), (23, .lconst 1, 1)]
theorem e210_20 : am_dec am_M210 q210_20 = true := by decide +kernel
theorem e210_20_c : am_dc1 am_M210 24 (.invokestatic 205) 3 = true := by decide +kernel
theorem b210_20 {d : Nat} {Q : Option Value ⊕ Nat → am_Mem → Prop} {μ : am_Mem} {r0 r90 : Nat} {x1 s1 : Int32} {P : Int32 → am_Mem → Prop} {X : Nat → am_Mem → Prop}
    (hc : Wp d 150 (0, [some (.long x1.toInt64), none, some (.long (Int64.ofNat 0)), none, some (.long (Int64.ofNat 1)), none], [], μ) (pI P X)) (hr : ∀ x μ', P x μ' → Wp (d + 1) 210 (27, [some (.ref r0), some (.int x1)], [.int x, .int s1, .ref r90], (μ')) Q)
    (hx : ∀ x μ', X x μ' → Q (.inr x) μ') :
    Wp (d + 1) 210 (20, [some (.ref r0), some (.int x1)], [.int s1, .ref r90], μ) Q := wp_blk rfl e210_20 (wp_cs (vs := [.long x1.toInt64, .long (Int64.ofNat 0), .long (Int64.ofNat 1)]) rfl e210_20_c rfl rfl rfl rfl rfl hc (fun v μ' hv => by obtain ⟨x, rfl, hp⟩ := pI_r hv; exact hr x μ' hp) hx)
def q210_27 : List (Nat × Instr × Nat) := [(27, .ifCond .ne 7, 3)]
theorem e210_27 : am_dec am_M210 q210_27 = true := by decide +kernel
theorem b210_27 {d : Nat} {Q : Option Value ⊕ Nat → am_Mem → Prop} {μ : am_Mem} {r0 r90 : Nat} {x1 s1 s2 : Int32}
    (k1 : ¬ s2 = 0 → Wp d 210 (34, [some (.ref r0), some (.int x1)], [.int s1, .ref r90], μ) Q) (k2 : ¬ (¬ s2 = 0) → Wp d 210 (30, [some (.ref r0), some (.int x1)], [.int s1, .ref r90], μ) Q) :
    Wp d 210 (27, [some (.ref r0), some (.int x1)], [.int s2, .int s1, .ref r90], μ) Q := wp_blk rfl e210_27 (And.intro k1 k2)
def q210_30 : List (Nat × Instr × Nat) := [(30, .iconst 1, 1), (31, .goto 4, 3)]
theorem e210_30 : am_dec am_M210 q210_30 = true := by decide +kernel
theorem b210_30 {d : Nat} {Q : Option Value ⊕ Nat → am_Mem → Prop} {μ : am_Mem} {r0 r90 : Nat} {x1 s1 : Int32}
    (k : Wp d 210 (35, [some (.ref r0), some (.int x1)], [.int (Int32.ofInt 1), .int s1, .ref r90], μ) Q) :
    Wp d 210 (30, [some (.ref r0), some (.int x1)], [.int s1, .ref r90], μ) Q := wp_blk rfl e210_30 k
def q210_34 : List (Nat × Instr × Nat) := [(34, .iconst 0, 1)]
theorem e210_34 : am_dec am_M210 q210_34 = true := by decide +kernel
theorem b210_34 {d : Nat} {Q : Option Value ⊕ Nat → am_Mem → Prop} {μ : am_Mem} {r0 r90 : Nat} {x1 s1 : Int32}
    (k : Wp d 210 (35, [some (.ref r0), some (.int x1)], [.int (Int32.ofInt 0), .int s1, .ref r90], μ) Q) :
    Wp d 210 (34, [some (.ref r0), some (.int x1)], [.int s1, .ref r90], μ) Q := wp_blk rfl e210_34 k
def q210_35 : List (Nat × Instr × Nat) := [(35, .iconst 0, 1)]
theorem e210_35 : am_dec am_M210 q210_35 = true := by decide +kernel
theorem e210_35_c : am_dc1 am_M210 36 (.invokevirtual 212) 3 = true := by decide +kernel
theorem b210_35 {d : Nat} {Q : Option Value ⊕ Nat → am_Mem → Prop} {μ : am_Mem} {r0 r90 : Nat} {x1 s1 s2 : Int32} {P : Int32 → am_Mem → Prop} {X : Nat → am_Mem → Prop}
    (hk : am_kd μ r90 = (1, 12))
    (hc : Wp d 151 (0, [some (.ref r90), some (.int s1), some (.int s2), some (.int (Int32.ofInt 0))], [], μ) (pI P X)) (hr : ∀ x μ', P x μ' → Wp (d + 1) 210 (39, [some (.ref r0), some (.int x1)], [.int x], (μ')) Q)
    (hx : ∀ x μ', X x μ' → Q (.inr x) μ') :
    Wp (d + 1) 210 (35, [some (.ref r0), some (.int x1)], [.int s2, .int s1, .ref r90], μ) Q := wp_blk rfl e210_35 (wp_cv (as := [.int s1, .int s2, .int (Int32.ofInt 0)]) rfl e210_35_c rfl rfl rfl rfl rfl hk hc (fun v μ' hv => by obtain ⟨x, rfl, hp⟩ := pI_r hv; exact hr x μ' hp) hx)
def q210_39 : List (Nat × Instr × Nat) := [(39, .ifCond .eq 5, 3)]
theorem e210_39 : am_dec am_M210 q210_39 = true := by decide +kernel
theorem b210_39 {d : Nat} {Q : Option Value ⊕ Nat → am_Mem → Prop} {μ : am_Mem} {r0 : Nat} {x1 s0 : Int32}
    (k1 : s0 = 0 → Wp d 210 (44, [some (.ref r0), some (.int x1)], [], μ) Q) (k2 : ¬ (s0 = 0) → Wp d 210 (42, [some (.ref r0), some (.int x1)], [], μ) Q) :
    Wp d 210 (39, [some (.ref r0), some (.int x1)], [.int s0], μ) Q := wp_blk rfl e210_39 (And.intro k1 k2)
def q210_42 : List (Nat × Instr × Nat) := [(42, .iconst 0, 1)]
theorem e210_42 : am_dec am_M210 q210_42 = true := by decide +kernel
theorem e210_42_r : am_dec am_M210 [(43, .ireturn, 1)] = true := by decide +kernel
theorem b210_42 {d : Nat} {Q : Option Value ⊕ Nat → am_Mem → Prop} {μ : am_Mem} {r0 : Nat} {x1 : Int32}
    (k : Q (.inl (some (.int (Int32.ofInt 0)))) μ) :
    Wp d 210 (42, [some (.ref r0), some (.int x1)], [], μ) Q := wp_blk rfl e210_42 (wp_ri (ty := .int) rfl e210_42_r rfl ⟨rfl, rfl⟩ k)
def q210_44 : List (Nat × Instr × Nat) := [(44, .iload_n 1, 1), (45, .ifCond .ne 10, 3)]
theorem e210_44 : am_dec am_M210 q210_44 = true := by decide +kernel
theorem b210_44 {d : Nat} {Q : Option Value ⊕ Nat → am_Mem → Prop} {μ : am_Mem} {r0 : Nat} {x1 : Int32}
    (k1 : ¬ x1 = 0 → Wp d 210 (55, [some (.ref r0), some (.int x1)], [], μ) Q) (k2 : ¬ (¬ x1 = 0) → Wp d 210 (48, [some (.ref r0), some (.int x1)], [], μ) Q) :
    Wp d 210 (44, [some (.ref r0), some (.int x1)], [], μ) Q := wp_blk rfl e210_44 (And.intro k1 k2)
def q210_48 : List (Nat × Instr × Nat) := [(48, .aload_n 0, 1), (49, .getfield 287, 3), (52, .goto 7, 3)]
theorem e210_48 : am_dec am_M210 q210_48 = true := by decide +kernel
theorem b210_48 {d : Nat} {Q : Option Value ⊕ Nat → am_Mem → Prop} {μ : am_Mem} {r0 : Nat} {x1 : Int32}
    (h1 : am_kd μ r0 = (1, 12))
    (k : Wp d 210 (59, [some (.ref r0), some (.int x1)], [.int (am_A μ r0 12)], μ) Q) :
    Wp d 210 (48, [some (.ref r0), some (.int x1)], [], μ) Q := wp_blk rfl e210_48 (And.intro h1 k)
def q210_55 : List (Nat × Instr × Nat) := [(55, .aload_n 0, 1), (56, .getfield 551, 3)]
theorem e210_55 : am_dec am_M210 q210_55 = true := by decide +kernel
theorem b210_55 {d : Nat} {Q : Option Value ⊕ Nat → am_Mem → Prop} {μ : am_Mem} {r0 : Nat} {x1 : Int32}
    (h1 : am_kd μ r0 = (1, 12))
    (k : Wp d 210 (59, [some (.ref r0), some (.int x1)], [.int (am_A μ r0 70)], μ) Q) :
    Wp d 210 (55, [some (.ref r0), some (.int x1)], [], μ) Q := wp_blk rfl e210_55 (And.intro h1 k)
theorem e210_59_r : am_dec am_M210 [(59, .ireturn, 1)] = true := by decide +kernel
theorem b210_59 {d : Nat} {Q : Option Value ⊕ Nat → am_Mem → Prop} {μ : am_Mem} {r0 : Nat} {x1 s0 : Int32}
    (k : Q (.inl (some (.int s0))) μ) :
    Wp d 210 (59, [some (.ref r0), some (.int x1)], [.int s0], μ) Q := (wp_ri (ty := .int) rfl e210_59_r rfl ⟨rfl, rfl⟩ k)
/-! RuleSheetsModel.start()I -/
def q211_0 : List (Nat × Instr × Nat) := [(0, .aload_n 0, 1), (1, .getfield 584, 3), (4, .ifCond .eq 27, 3)]
theorem e211_0 : am_dec am_M211 q211_0 = true := by decide +kernel
theorem b211_0 {d : Nat} {Q : Option Value ⊕ Nat → am_Mem → Prop} {μ : am_Mem} {r0 : Nat}
    (h1 : am_kd μ r0 = (1, 12))
    (k1 : (am_A μ r0 4) = 0 → Wp d 211 (31, [some (.ref r0), none], [], μ) Q) (k2 : ¬ ((am_A μ r0 4) = 0) → Wp d 211 (7, [some (.ref r0), none], [], μ) Q) :
    Wp d 211 (0, [some (.ref r0), none], [], μ) Q := wp_blk rfl e211_0 (And.intro h1 (And.intro k1 k2))
def q211_7 : List (Nat × Instr × Nat) := [(7, .aload_n 0, 1), (8, .iconst (-1), 1), (9, .iconst 0, 1)]
theorem e211_7 : am_dec am_M211 q211_7 = true := by decide +kernel
theorem e211_7_c : am_dc1 am_M211 10 (.invokevirtual 596) 3 = true := by decide +kernel
theorem b211_7 {d : Nat} {Q : Option Value ⊕ Nat → am_Mem → Prop} {μ : am_Mem} {r0 : Nat} {P : Int32 → am_Mem → Prop} {X : Nat → am_Mem → Prop}
    (hk : am_kd μ r0 = (1, 12))
    (hc : Wp d 212 (0, [some (.ref r0), some (.int (Int32.ofInt (-1))), some (.int (Int32.ofInt 0)), none, none, none, none], [], μ) (pI P X)) (hr : ∀ x μ', P x μ' → Wp (d + 1) 211 (13, [some (.ref r0), none], [.int x], (μ')) Q)
    (hx : ∀ x μ', X x μ' → Q (.inr x) μ') :
    Wp (d + 1) 211 (7, [some (.ref r0), none], [], μ) Q := wp_blk rfl e211_7 (wp_cv (as := [.int (Int32.ofInt (-1)), .int (Int32.ofInt 0)]) rfl e211_7_c rfl rfl rfl rfl rfl hk hc (fun v μ' hv => by obtain ⟨x, rfl, hp⟩ := pI_r hv; exact hr x μ' hp) hx)
def q211_13 : List (Nat × Instr × Nat) := [(13, .ifCond .eq 18, 3)]
theorem e211_13 : am_dec am_M211 q211_13 = true := by decide +kernel
theorem b211_13 {d : Nat} {Q : Option Value ⊕ Nat → am_Mem → Prop} {μ : am_Mem} {r0 : Nat} {s0 : Int32}
    (k1 : s0 = 0 → Wp d 211 (31, [some (.ref r0), none], [], μ) Q) (k2 : ¬ (s0 = 0) → Wp d 211 (16, [some (.ref r0), none], [], μ) Q) :
    Wp d 211 (13, [some (.ref r0), none], [.int s0], μ) Q := wp_blk rfl e211_13 (And.intro k1 k2)
def q211_16 : List (Nat × Instr × Nat) := [(16, .aload_n 0, 1), (17, .iconst 3, 1), (18, .sipush 301, 3)]
theorem e211_16 : am_dec am_M211 q211_16 = true := by decide +kernel
theorem e211_16_c : am_dc1 am_M211 21 (.invokevirtual 600) 3 = true := by decide +kernel
theorem b211_16 {d : Nat} {Q : Option Value ⊕ Nat → am_Mem → Prop} {μ : am_Mem} {r0 : Nat} {P : Int32 → am_Mem → Prop} {X : Nat → am_Mem → Prop}
    (hk : am_kd μ r0 = (1, 12))
    (hc : Wp d 235 (0, [some (.ref r0), some (.int (Int32.ofInt 3)), some (.int ((Int16.ofInt 301).toInt32)), none], [], μ) (pI P X)) (hr : ∀ x μ', P x μ' → Wp (d + 1) 211 (24, [some (.ref r0), none], [.int x], (μ')) Q)
    (hx : ∀ x μ', X x μ' → Q (.inr x) μ') :
    Wp (d + 1) 211 (16, [some (.ref r0), none], [], μ) Q := wp_blk rfl e211_16 (wp_cv (as := [.int (Int32.ofInt 3), .int ((Int16.ofInt 301).toInt32)]) rfl e211_16_c rfl rfl rfl rfl rfl hk hc (fun v μ' hv => by obtain ⟨x, rfl, hp⟩ := pI_r hv; exact hr x μ' hp) hx)
def q211_24 : List (Nat × Instr × Nat) := [(24, .ifCond .eq 7, 3)]
theorem e211_24 : am_dec am_M211 q211_24 = true := by decide +kernel
theorem b211_24 {d : Nat} {Q : Option Value ⊕ Nat → am_Mem → Prop} {μ : am_Mem} {r0 : Nat} {s0 : Int32}
    (k1 : s0 = 0 → Wp d 211 (31, [some (.ref r0), none], [], μ) Q) (k2 : ¬ (s0 = 0) → Wp d 211 (27, [some (.ref r0), none], [], μ) Q) :
    Wp d 211 (24, [some (.ref r0), none], [.int s0], μ) Q := wp_blk rfl e211_24 (And.intro k1 k2)
def q211_27 : List (Nat × Instr × Nat) := [(27, .iconst 1, 1), (28, .goto 4, 3)]
theorem e211_27 : am_dec am_M211 q211_27 = true := by decide +kernel
theorem b211_27 {d : Nat} {Q : Option Value ⊕ Nat → am_Mem → Prop} {μ : am_Mem} {r0 : Nat}
    (k : Wp d 211 (32, [some (.ref r0), none], [.int (Int32.ofInt 1)], μ) Q) :
    Wp d 211 (27, [some (.ref r0), none], [], μ) Q := wp_blk rfl e211_27 k
def q211_31 : List (Nat × Instr × Nat) := [(31, .iconst 0, 1)]
theorem e211_31 : am_dec am_M211 q211_31 = true := by decide +kernel
theorem b211_31 {d : Nat} {Q : Option Value ⊕ Nat → am_Mem → Prop} {μ : am_Mem} {r0 : Nat}
    (k : Wp d 211 (32, [some (.ref r0), none], [.int (Int32.ofInt 0)], μ) Q) :
    Wp d 211 (31, [some (.ref r0), none], [], μ) Q := wp_blk rfl e211_31 k
def q211_32 : List (Nat × Instr × Nat) := [(32, .istore_n 1, 1), (33, .aload_n 0, 1), (34, .aload_n 0, 1), (35, .getfield 584, 3), (38, .ifCond .ne 7, 3)]
theorem e211_32 : am_dec am_M211 q211_32 = true := by decide +kernel
theorem b211_32 {d : Nat} {Q : Option Value ⊕ Nat → am_Mem → Prop} {μ : am_Mem} {r0 : Nat} {s0 : Int32}
    (h1 : am_kd μ r0 = (1, 12))
    (k1 : ¬ (am_A μ r0 4) = 0 → Wp d 211 (45, [some (.ref r0), some (.int s0)], [.ref r0], μ) Q) (k2 : ¬ (¬ (am_A μ r0 4) = 0) → Wp d 211 (41, [some (.ref r0), some (.int s0)], [.ref r0], μ) Q) :
    Wp d 211 (32, [some (.ref r0), none], [.int s0], μ) Q := wp_blk rfl e211_32 (And.intro h1 (And.intro k1 k2))
def q211_41 : List (Nat × Instr × Nat) := [(41, .iconst 1, 1), (42, .goto 4, 3)]
theorem e211_41 : am_dec am_M211 q211_41 = true := by decide +kernel
theorem b211_41 {d : Nat} {Q : Option Value ⊕ Nat → am_Mem → Prop} {μ : am_Mem} {r0 r90 : Nat} {x1 : Int32}
    (k : Wp d 211 (46, [some (.ref r0), some (.int x1)], [.int (Int32.ofInt 1), .ref r90], μ) Q) :
    Wp d 211 (41, [some (.ref r0), some (.int x1)], [.ref r90], μ) Q := wp_blk rfl e211_41 k
def q211_45 : List (Nat × Instr × Nat) := [(45, .iconst 0, 1)]
theorem e211_45 : am_dec am_M211 q211_45 = true := by decide +kernel
theorem b211_45 {d : Nat} {Q : Option Value ⊕ Nat → am_Mem → Prop} {μ : am_Mem} {r0 r90 : Nat} {x1 : Int32}
    (k : Wp d 211 (46, [some (.ref r0), some (.int x1)], [.int (Int32.ofInt 0), .ref r90], μ) Q) :
    Wp d 211 (45, [some (.ref r0), some (.int x1)], [.ref r90], μ) Q := wp_blk rfl e211_45 k
def q211_46 : List (Nat × Instr × Nat) := [(46, .iload_n 1, 1), (47, .ifCond .ne 7, 3)]
theorem e211_46 : am_dec am_M211 q211_46 = true := by decide +kernel
theorem b211_46 {d : Nat} {Q : Option Value ⊕ Nat → am_Mem → Prop} {μ : am_Mem} {r0 r90 : Nat} {x1 s1 : Int32}
    (k1 : ¬ x1 = 0 → Wp d 211 (54, [some (.ref r0), some (.int x1)], [.int s1, .ref r90], μ) Q) (k2 : ¬ (¬ x1 = 0) → Wp d 211 (50, [some (.ref r0), some (.int x1)], [.int s1, .ref r90], μ) Q) :
    Wp d 211 (46, [some (.ref r0), some (.int x1)], [.int s1, .ref r90], μ) Q := wp_blk rfl e211_46 (And.intro k1 k2)
def q211_50 : List (Nat × Instr × Nat) := [(50, .iconst 1, 1), (51, .goto 4, 3)]
theorem e211_50 : am_dec am_M211 q211_50 = true := by decide +kernel
theorem b211_50 {d : Nat} {Q : Option Value ⊕ Nat → am_Mem → Prop} {μ : am_Mem} {r0 r90 : Nat} {x1 s1 : Int32}
    (k : Wp d 211 (55, [some (.ref r0), some (.int x1)], [.int (Int32.ofInt 1), .int s1, .ref r90], μ) Q) :
    Wp d 211 (50, [some (.ref r0), some (.int x1)], [.int s1, .ref r90], μ) Q := wp_blk rfl e211_50 k
def q211_54 : List (Nat × Instr × Nat) := [(54, .iconst 0, 1)]
theorem e211_54 : am_dec am_M211 q211_54 = true := by decide +kernel
theorem b211_54 {d : Nat} {Q : Option Value ⊕ Nat → am_Mem → Prop} {μ : am_Mem} {r0 r90 : Nat} {x1 s1 : Int32}
    (k : Wp d 211 (55, [some (.ref r0), some (.int x1)], [.int (Int32.ofInt 0), .int s1, .ref r90], μ) Q) :
    Wp d 211 (54, [some (.ref r0), some (.int x1)], [.int s1, .ref r90], μ) Q := wp_blk rfl e211_54 k
def q211_55 : List (Nat × Instr × Nat) := [(55, .iconst 0, 1)]
theorem e211_55 : am_dec am_M211 q211_55 = true := by decide +kernel
theorem e211_55_c : am_dc1 am_M211 56 (.invokevirtual 212) 3 = true := by decide +kernel
theorem b211_55 {d : Nat} {Q : Option Value ⊕ Nat → am_Mem → Prop} {μ : am_Mem} {r0 r90 : Nat} {x1 s1 s2 : Int32} {P : Int32 → am_Mem → Prop} {X : Nat → am_Mem → Prop}
    (hk : am_kd μ r90 = (1, 12))
    (hc : Wp d 151 (0, [some (.ref r90), some (.int s1), some (.int s2), some (.int (Int32.ofInt 0))], [], μ) (pI P X)) (hr : ∀ x μ', P x μ' → Wp (d + 1) 211 (59, [some (.ref r0), some (.int x1)], [.int x], (μ')) Q)
    (hx : ∀ x μ', X x μ' → Q (.inr x) μ') :
    Wp (d + 1) 211 (55, [some (.ref r0), some (.int x1)], [.int s2, .int s1, .ref r90], μ) Q := wp_blk rfl e211_55 (wp_cv (as := [.int s1, .int s2, .int (Int32.ofInt 0)]) rfl e211_55_c rfl rfl rfl rfl rfl hk hc (fun v μ' hv => by obtain ⟨x, rfl, hp⟩ := pI_r hv; exact hr x μ' hp) hx)
def q211_59 : List (Nat × Instr × Nat) := [(59, .ifCond .eq 5, 3)]
theorem e211_59 : am_dec am_M211 q211_59 = true := by decide +kernel
theorem b211_59 {d : Nat} {Q : Option Value ⊕ Nat → am_Mem → Prop} {μ : am_Mem} {r0 : Nat} {x1 s0 : Int32}
    (k1 : s0 = 0 → Wp d 211 (64, [some (.ref r0), some (.int x1)], [], μ) Q) (k2 : ¬ (s0 = 0) → Wp d 211 (62, [some (.ref r0), some (.int x1)], [], μ) Q) :
    Wp d 211 (59, [some (.ref r0), some (.int x1)], [.int s0], μ) Q := wp_blk rfl e211_59 (And.intro k1 k2)
def q211_62 : List (Nat × Instr × Nat) := [(62, .iconst 0, 1)]
theorem e211_62 : am_dec am_M211 q211_62 = true := by decide +kernel
theorem e211_62_r : am_dec am_M211 [(63, .ireturn, 1)] = true := by decide +kernel
theorem b211_62 {d : Nat} {Q : Option Value ⊕ Nat → am_Mem → Prop} {μ : am_Mem} {r0 : Nat} {x1 : Int32}
    (k : Q (.inl (some (.int (Int32.ofInt 0)))) μ) :
    Wp d 211 (62, [some (.ref r0), some (.int x1)], [], μ) Q := wp_blk rfl e211_62 (wp_ri (ty := .int) rfl e211_62_r rfl ⟨rfl, rfl⟩ k)
def q211_64 : List (Nat × Instr × Nat) := [(64, .aload_n 0, 1), (65, .sipush 301, 3), (68, .sipush 300, 3)]
theorem e211_64 : am_dec am_M211 q211_64 = true := by decide +kernel
theorem e211_64_c : am_dc1 am_M211 71 (.invokevirtual 603) 3 = true := by decide +kernel
theorem b211_64 {d : Nat} {Q : Option Value ⊕ Nat → am_Mem → Prop} {μ : am_Mem} {r0 : Nat} {x1 : Int32} {P : am_Mem → Prop} {X : Nat → am_Mem → Prop}
    (hk : am_kd μ r0 = (1, 12))
    (hc : Wp d 239 (0, [some (.ref r0), some (.int ((Int16.ofInt 301).toInt32)), some (.int ((Int16.ofInt 300).toInt32)), none], [], μ) (pV P X)) (hr : ∀ μ', P μ' → Wp (d + 1) 211 (74, [some (.ref r0), some (.int x1)], [], (μ')) Q)
    (hx : ∀ x μ', X x μ' → Q (.inr x) μ') :
    Wp (d + 1) 211 (64, [some (.ref r0), some (.int x1)], [], μ) Q := wp_blk rfl e211_64 (wp_cv (as := [.int ((Int16.ofInt 301).toInt32), .int ((Int16.ofInt 300).toInt32)]) rfl e211_64_c rfl rfl rfl rfl rfl hk hc (fun v μ' hv => by obtain ⟨rfl, hp⟩ := pV_r hv; exact hr μ' hp) hx)
def q211_74 : List (Nat × Instr × Nat) := [(74, .aload_n 0, 1), (75, .iconst 1, 1), (76, .putfield 590, 3), (79, .aload_n 0, 1), (80, .iconst 0, 1), (81, .putfield 542, 3), (84, .aload_n 0, 1), (85, .getfield 158, 3), (88, .sipush 300, 3), (91, .iaload, 1)]
theorem e211_74 : am_dec am_M211 q211_74 = true := by decide +kernel
theorem e211_74_r : am_dec am_M211 [(92, .ireturn, 1)] = true := by decide +kernel
theorem b211_74 {d : Nat} {Q : Option Value ⊕ Nat → am_Mem → Prop} {μ : am_Mem} {r0 : Nat} {x1 : Int32}
    (h1 : am_kd μ r0 = (1, 12))
    (h2 : am_kd (am_pA μ r0 72 (Int32.ofInt 1)) r0 = (1, 12))
    (h3 : am_kd (am_pA (am_pA μ r0 72 (Int32.ofInt 1)) r0 75 (Int32.ofInt 0)) r0 = (1, 12))
    (h4 : ¬ am_F (am_pA (am_pA μ r0 72 (Int32.ofInt 1)) r0 75 (Int32.ofInt 0)) r0 74 = 15)
    (h5 : (am_kd (am_pA (am_pA μ r0 72 (Int32.ofInt 1)) r0 75 (Int32.ofInt 0)) (am_F (am_pA (am_pA μ r0 72 (Int32.ofInt 1)) r0 75 (Int32.ofInt 0)) r0 74)).1 = 2 ∨ (am_kd (am_pA (am_pA μ r0 72 (Int32.ofInt 1)) r0 75 (Int32.ofInt 0)) (am_F (am_pA (am_pA μ r0 72 (Int32.ofInt 1)) r0 75 (Int32.ofInt 0)) r0 74)).1 = 8)
    (h6 : ¬ (((Int16.ofInt 300).toInt32) < 0 ∨ (am_kd (am_pA (am_pA μ r0 72 (Int32.ofInt 1)) r0 75 (Int32.ofInt 0)) (am_F (am_pA (am_pA μ r0 72 (Int32.ofInt 1)) r0 75 (Int32.ofInt 0)) r0 74)).2 ≤ ((Int16.ofInt 300).toInt32).toNatClampNeg))
    (k : Q (.inl (some (.int (am_A (am_pA (am_pA μ r0 72 (Int32.ofInt 1)) r0 75 (Int32.ofInt 0)) (am_F (am_pA (am_pA μ r0 72 (Int32.ofInt 1)) r0 75 (Int32.ofInt 0)) r0 74) ((Int16.ofInt 300).toInt32).toNatClampNeg)))) (am_pA (am_pA μ r0 72 (Int32.ofInt 1)) r0 75 (Int32.ofInt 0))) :
    Wp d 211 (74, [some (.ref r0), some (.int x1)], [], μ) Q := wp_blk rfl e211_74 (And.intro h1 (And.intro (by decide) (And.intro h2 (And.intro (by decide) (And.intro h3 (And.intro h4 (And.intro h5 (And.intro h6 (wp_ri (ty := .int) rfl e211_74_r rfl ⟨rfl, rfl⟩ k)))))))))
/-! RuleSheetsModel.evaluate(IZ)Z -/
def q212_0 : List (Nat × Instr × Nat) := [(0, .aload_n 0, 1)]
theorem e212_0 : am_dec am_M212 q212_0 = true := by decide +kernel
theorem e212_0_c : am_dc1 am_M212 1 (.invokevirtual 536) 3 = true := by decide +kernel
theorem b212_0 {d : Nat} {Q : Option Value ⊕ Nat → am_Mem → Prop} {μ : am_Mem} {r0 : Nat} {x1 x2 : Int32} {P : am_Mem → Prop} {X : Nat → am_Mem → Prop}
    (hk : am_kd μ r0 = (1, 12))
    (hc : Wp d 202 (0, [some (.ref r0), none], [], μ) (pV P X)) (hr : ∀ μ', P μ' → Wp (d + 1) 212 (4, [some (.ref r0), some (.int x1), some (.int x2), none, none, none, none], [], (μ')) Q)
    (hx : ∀ x μ', X x μ' → Q (.inr x) μ') :
    Wp (d + 1) 212 (0, [some (.ref r0), some (.int x1), some (.int x2), none, none, none, none], [], μ) Q := wp_blk rfl e212_0 (wp_cv (as := []) rfl e212_0_c rfl rfl rfl rfl rfl hk hc (fun v μ' hv => by obtain ⟨rfl, hp⟩ := pV_r hv; exact hr μ' hp) hx)
def q212_4 : List (Nat × Instr × Nat) := [(4, .aload_n 0, 1)]
theorem e212_4 : am_dec am_M212 q212_4 = true := by decide +kernel
theorem e212_4_c : am_dc1 am_M212 5 (.invokevirtual 539) 3 = true := by decide +kernel
theorem b212_4 {d : Nat} {Q : Option Value ⊕ Nat → am_Mem → Prop} {μ : am_Mem} {r0 : Nat} {x1 x2 : Int32} {P : am_Mem → Prop} {X : Nat → am_Mem → Prop}
    (hk : am_kd μ r0 = (1, 12))
    (hc : Wp d 213 (0, [some (.ref r0), none], [], μ) (pV P X)) (hr : ∀ μ', P μ' → Wp (d + 1) 212 (8, [some (.ref r0), some (.int x1), some (.int x2), none, none, none, none], [], (μ')) Q)
    (hx : ∀ x μ', X x μ' → Q (.inr x) μ') :
    Wp (d + 1) 212 (4, [some (.ref r0), some (.int x1), some (.int x2), none, none, none, none], [], μ) Q := wp_blk rfl e212_4 (wp_cv (as := []) rfl e212_4_c rfl rfl rfl rfl rfl hk hc (fun v μ' hv => by obtain ⟨rfl, hp⟩ := pV_r hv; exact hr μ' hp) hx)
def q212_8 : List (Nat × Instr × Nat) := [(8, .aload_n 0, 1), (9, .iconst 0, 1), (10, .putfield 456, 3), (13, .aload_n 0, 1), (14, .iconst 0, 1), (15, .putfield 542, 3), (18, .iload_n 1, 1), (19, .ifCond .ge 7, 3)]
theorem e212_8 : am_dec am_M212 q212_8 = true := by decide +kernel
theorem b212_8 {d : Nat} {Q : Option Value ⊕ Nat → am_Mem → Prop} {μ : am_Mem} {r0 : Nat} {x1 x2 : Int32}
    (h1 : am_kd μ r0 = (1, 12))
    (h2 : am_kd (am_pA μ r0 56 (Int32.ofInt 0)) r0 = (1, 12))
    (k1 : 0 ≤ x1 → Wp d 212 (26, [some (.ref r0), some (.int x1), some (.int x2), none, none, none, none], [], (am_pA (am_pA μ r0 56 (Int32.ofInt 0)) r0 75 (Int32.ofInt 0))) Q) (k2 : ¬ (0 ≤ x1) → Wp d 212 (22, [some (.ref r0), some (.int x1), some (.int x2), none, none, none, none], [], (am_pA (am_pA μ r0 56 (Int32.ofInt 0)) r0 75 (Int32.ofInt 0))) Q) :
    Wp d 212 (8, [some (.ref r0), some (.int x1), some (.int x2), none, none, none, none], [], μ) Q := wp_blk rfl e212_8 (And.intro h1 (And.intro (by decide) (And.intro h2 (And.intro (by decide) (And.intro k1 k2)))))
def q212_22 : List (Nat × Instr × Nat) := [(22, .iconst 0, 1), (23, .goto 9, 3)]
theorem e212_22 : am_dec am_M212 q212_22 = true := by decide +kernel
theorem b212_22 {d : Nat} {Q : Option Value ⊕ Nat → am_Mem → Prop} {μ : am_Mem} {r0 : Nat} {x1 x2 : Int32}
    (k : Wp d 212 (32, [some (.ref r0), some (.int x1), some (.int x2), none, none, none, none], [.int (Int32.ofInt 0)], μ) Q) :
    Wp d 212 (22, [some (.ref r0), some (.int x1), some (.int x2), none, none, none, none], [], μ) Q := wp_blk rfl e212_22 k
def q212_26 : List (Nat × Instr × Nat) := [(26, .aload_n 0, 1), (27, .getfield 158, 3), (30, .iload_n 1, 1), (31, .iaload, 1)]
theorem e212_26 : am_dec am_M212 q212_26 = true := by decide +kernel
theorem b212_26 {d : Nat} {Q : Option Value ⊕ Nat → am_Mem → Prop} {μ : am_Mem} {r0 : Nat} {x1 x2 : Int32}
    (h1 : am_kd μ r0 = (1, 12))
    (h2 : ¬ am_F μ r0 74 = 15)
    (h3 : (am_kd μ (am_F μ r0 74)).1 = 2 ∨ (am_kd μ (am_F μ r0 74)).1 = 8)
    (h4 : ¬ (x1 < 0 ∨ (am_kd μ (am_F μ r0 74)).2 ≤ x1.toNatClampNeg))
    (k : Wp d 212 (32, [some (.ref r0), some (.int x1), some (.int x2), none, none, none, none], [.int (am_A μ (am_F μ r0 74) x1.toNatClampNeg)], μ) Q) :
    Wp d 212 (26, [some (.ref r0), some (.int x1), some (.int x2), none, none, none, none], [], μ) Q := wp_blk rfl e212_26 (And.intro h1 (And.intro h2 (And.intro h3 (And.intro h4 k))))
def q212_32 : List (Nat × Instr × Nat) := [(32, .istore_n 3, 1), (33, .iconst 0, 1), (34, .istore 4, 2)]
theorem e212_32 : am_dec am_M212 q212_32 = true := by decide +kernel
theorem b212_32 {d : Nat} {Q : Option Value ⊕ Nat → am_Mem → Prop} {μ : am_Mem} {r0 : Nat} {x1 x2 s0 : Int32}
    (k : Wp d 212 (36, [some (.ref r0), some (.int x1), some (.int x2), some (.int s0), some (.int (Int32.ofInt 0)), none, none], [], μ) Q) :
    Wp d 212 (32, [some (.ref r0), some (.int x1), some (.int x2), none, none, none, none], [.int s0], μ) Q := wp_blk rfl e212_32 k
def q212_36 : List (Nat × Instr × Nat) := [(36, .iload 4, 2), (38, .iload_n 3, 1), (39, .if_icmp .ge 49, 3)]
theorem e212_36 : am_dec am_M212 q212_36 = true := by decide +kernel
theorem b212_36 {d : Nat} {Q : Option Value ⊕ Nat → am_Mem → Prop} {μ : am_Mem} {r0 : Nat} {x1 x2 x3 x4 : Int32} {o5 : Option Value}
    (k1 : x3 ≤ x4 → Wp d 212 (88, [some (.ref r0), some (.int x1), some (.int x2), some (.int x3), some (.int x4), o5, none], [], μ) Q) (k2 : ¬ (x3 ≤ x4) → Wp d 212 (42, [some (.ref r0), some (.int x1), some (.int x2), some (.int x3), some (.int x4), o5, none], [], μ) Q) :
    Wp d 212 (36, [some (.ref r0), some (.int x1), some (.int x2), some (.int x3), some (.int x4), o5, none], [], μ) Q := wp_blk rfl e212_36 (And.intro k1 k2)
def q212_42 : List (Nat × Instr × Nat) := [(42, .aload_n 0, 1), (43, .aload_n 0, 1), (44, .getfield 154, 3), (47, .sipush 2940, 3), (50, .iload_n 1, 1), (51, .imul, 1), (52, .bipush 49, 2), (54, .iload 4, 2), (56, .imul, 1), (57, .iadd, 1)]
theorem e212_42 : am_dec am_M212 q212_42 = true := by decide +kernel
theorem e212_42_c : am_dc1 am_M212 58 (.invokevirtual 545) 3 = true := by decide +kernel
theorem b212_42 {d : Nat} {Q : Option Value ⊕ Nat → am_Mem → Prop} {μ : am_Mem} {r0 : Nat} {x1 x2 x3 x4 : Int32} {o5 : Option Value} {P : am_Mem → Prop} {X : Nat → am_Mem → Prop}
    (h1 : am_kd μ r0 = (1, 12))
    (h2 : ¬ am_F μ r0 73 = 15)
    (hk : am_kd μ r0 = (1, 12))
    (hc : Wp d 214 (0, [some (.ref r0), some (.ref (am_F μ r0 73)), some (.int ((((Int16.ofInt 2940).toInt32) * x1) + (((Int8.ofInt 49).toInt32) * x4))), none], [], μ) (pV P X)) (hr : ∀ μ', P μ' → Wp (d + 1) 212 (61, [some (.ref r0), some (.int x1), some (.int x2), some (.int x3), some (.int x4), o5, none], [], (μ')) Q)
    (hx : ∀ x μ', X x μ' → Q (.inr x) μ') :
    Wp (d + 1) 212 (42, [some (.ref r0), some (.int x1), some (.int x2), some (.int x3), some (.int x4), o5, none], [], μ) Q := wp_blk rfl e212_42 (And.intro h1 (And.intro h2 (wp_cv (as := [.ref (am_F μ r0 73), .int ((((Int16.ofInt 2940).toInt32) * x1) + (((Int8.ofInt 49).toInt32) * x4))]) rfl e212_42_c rfl rfl rfl rfl rfl hk hc (fun v μ' hv => by obtain ⟨rfl, hp⟩ := pV_r hv; exact hr μ' hp) hx)))
def q212_61 : List (Nat × Instr × Nat) := [(61, .aload_n 0, 1)]
theorem e212_61 : am_dec am_M212 q212_61 = true := by decide +kernel
theorem e212_61_c : am_dc1 am_M212 62 (.invokevirtual 548) 3 = true := by decide +kernel
theorem b212_61 {d : Nat} {Q : Option Value ⊕ Nat → am_Mem → Prop} {μ : am_Mem} {r0 : Nat} {x1 x2 x3 x4 : Int32} {o5 : Option Value} {P : Int32 → am_Mem → Prop} {X : Nat → am_Mem → Prop}
    (hk : am_kd μ r0 = (1, 12))
    (hc : Wp d 215 (0, [some (.ref r0), none, none, none, none, none, none, none, none], [], μ) (pI P X)) (hr : ∀ x μ', P x μ' → Wp (d + 1) 212 (65, [some (.ref r0), some (.int x1), some (.int x2), some (.int x3), some (.int x4), o5, none], [.int x], (μ')) Q)
    (hx : ∀ x μ', X x μ' → Q (.inr x) μ') :
    Wp (d + 1) 212 (61, [some (.ref r0), some (.int x1), some (.int x2), some (.int x3), some (.int x4), o5, none], [], μ) Q := wp_blk rfl e212_61 (wp_cv (as := []) rfl e212_61_c rfl rfl rfl rfl rfl hk hc (fun v μ' hv => by obtain ⟨x, rfl, hp⟩ := pI_r hv; exact hr x μ' hp) hx)
def q212_65 : List (Nat × Instr × Nat) := [(65, .istore 5, 2), (67, .aload_n 0, 1), (68, .getfield 144, 3), (71, .iconst 0, 1), (72, .iload 5, 2), (74, .iastore, 1), (75, .aload_n 0, 1), (76, .iconst 4, 1), (77, .iconst 1, 1)]
theorem e212_65 : am_dec am_M212 q212_65 = true := by decide +kernel
theorem e212_65_c : am_dc1 am_M212 78 (.invokevirtual 476) 3 = true := by decide +kernel
theorem b212_65 {d : Nat} {Q : Option Value ⊕ Nat → am_Mem → Prop} {μ : am_Mem} {r0 : Nat} {x1 x2 x3 x4 s0 : Int32} {o5 : Option Value} {P : Int32 → am_Mem → Prop} {X : Nat → am_Mem → Prop}
    (h1 : am_kd μ r0 = (1, 12))
    (h2 : ¬ am_F μ r0 66 = 15)
    (h3 : (am_kd μ (am_F μ r0 66)).1 = 2)
    (h4 : ¬ ((Int32.ofInt 0) < 0 ∨ (am_kd μ (am_F μ r0 66)).2 ≤ (Int32.ofInt 0).toNatClampNeg))
    (hk : am_kd (am_pA μ (am_F μ r0 66) (Int32.ofInt 0).toNatClampNeg s0) r0 = (1, 12))
    (hc : Wp d 217 (0, [some (.ref r0), some (.int (Int32.ofInt 4)), some (.int (Int32.ofInt 1)), none, none], [], (am_pA μ (am_F μ r0 66) (Int32.ofInt 0).toNatClampNeg s0)) (pI P X)) (hr : ∀ x μ', P x μ' → Wp (d + 1) 212 (81, [some (.ref r0), some (.int x1), some (.int x2), some (.int x3), some (.int x4), some (.int s0), none], [.int x], (μ')) Q)
    (hx : ∀ x μ', X x μ' → Q (.inr x) μ') :
    Wp (d + 1) 212 (65, [some (.ref r0), some (.int x1), some (.int x2), some (.int x3), some (.int x4), o5, none], [.int s0], μ) Q := wp_blk rfl e212_65 (And.intro h1 (And.intro h2 (And.intro h3 (And.intro h4 (wp_cv (as := [.int (Int32.ofInt 4), .int (Int32.ofInt 1)]) rfl e212_65_c rfl rfl rfl rfl rfl hk hc (fun v μ' hv => by obtain ⟨x, rfl, hp⟩ := pI_r hv; exact hr x μ' hp) hx)))))
def q212_81 : List (Nat × Instr × Nat) := [(81, .pop, 1), (82, .iinc 4 1, 3), (85, .goto (-49), 3)]
theorem e212_81 : am_dec am_M212 q212_81 = true := by decide +kernel
theorem b212_81 {d : Nat} {Q : Option Value ⊕ Nat → am_Mem → Prop} {μ : am_Mem} {r0 : Nat} {x1 x2 x3 x4 x5 s0 : Int32}
    (k : Wp d 212 (36, [some (.ref r0), some (.int x1), some (.int x2), some (.int x3), some (.int (x4 + Int32.ofInt 1)), some (.int x5), none], [], μ) Q) :
    Wp d 212 (81, [some (.ref r0), some (.int x1), some (.int x2), some (.int x3), some (.int x4), some (.int x5), none], [.int s0], μ) Q := wp_blk rfl e212_81 k
def q212_88 : List (Nat × Instr × Nat) := [(88, .iconst 0, 1), (89, .istore 4, 2)]
theorem e212_88 : am_dec am_M212 q212_88 = true := by decide +kernel
theorem b212_88 {d : Nat} {Q : Option Value ⊕ Nat → am_Mem → Prop} {μ : am_Mem} {r0 : Nat} {x1 x2 x3 x4 : Int32} {o5 : Option Value}
    (k : Wp d 212 (91, [some (.ref r0), some (.int x1), some (.int x2), some (.int x3), some (.int (Int32.ofInt 0)), o5, none], [], μ) Q) :
    Wp d 212 (88, [some (.ref r0), some (.int x1), some (.int x2), some (.int x3), some (.int x4), o5, none], [], μ) Q := wp_blk rfl e212_88 k
def q212_91 : List (Nat × Instr × Nat) := [(91, .iload 4, 2), (93, .aload_n 0, 1), (94, .getfield 551, 3), (97, .if_icmp .ge 75, 3)]
theorem e212_91 : am_dec am_M212 q212_91 = true := by decide +kernel
theorem b212_91 {d : Nat} {Q : Option Value ⊕ Nat → am_Mem → Prop} {μ : am_Mem} {r0 : Nat} {x1 x2 x3 x4 : Int32} {o5 o6 : Option Value}
    (h1 : am_kd μ r0 = (1, 12))
    (k1 : (am_A μ r0 70) ≤ x4 → Wp d 212 (172, [some (.ref r0), some (.int x1), some (.int x2), some (.int x3), some (.int x4), o5, o6], [], μ) Q) (k2 : ¬ ((am_A μ r0 70) ≤ x4) → Wp d 212 (100, [some (.ref r0), some (.int x1), some (.int x2), some (.int x3), some (.int x4), o5, o6], [], μ) Q) :
    Wp d 212 (91, [some (.ref r0), some (.int x1), some (.int x2), some (.int x3), some (.int x4), o5, o6], [], μ) Q := wp_blk rfl e212_91 (And.intro h1 (And.intro k1 k2))
def q212_100 : List (Nat × Instr × Nat) := [(100, .iload_n 2, 1), (101, .ifCond .eq 71, 3)]
theorem e212_100 : am_dec am_M212 q212_100 = true := by decide +kernel
theorem b212_100 {d : Nat} {Q : Option Value ⊕ Nat → am_Mem → Prop} {μ : am_Mem} {r0 : Nat} {x1 x2 x3 x4 : Int32} {o5 o6 : Option Value}
    (k1 : x2 = 0 → Wp d 212 (172, [some (.ref r0), some (.int x1), some (.int x2), some (.int x3), some (.int x4), o5, o6], [], μ) Q) (k2 : ¬ (x2 = 0) → Wp d 212 (104, [some (.ref r0), some (.int x1), some (.int x2), some (.int x3), some (.int x4), o5, o6], [], μ) Q) :
    Wp d 212 (100, [some (.ref r0), some (.int x1), some (.int x2), some (.int x3), some (.int x4), o5, o6], [], μ) Q := wp_blk rfl e212_100 (And.intro k1 k2)
def q212_104 : List (Nat × Instr × Nat) := [(104, .aload_n 0, 1), (105, .iload 4, 2)]
theorem e212_104 : am_dec am_M212 q212_104 = true := by decide +kernel
theorem e212_104_c : am_dc1 am_M212 107 (.invokevirtual 554) 3 = true := by decide +kernel
theorem b212_104 {d : Nat} {Q : Option Value ⊕ Nat → am_Mem → Prop} {μ : am_Mem} {r0 : Nat} {x1 x2 x3 x4 : Int32} {o5 o6 : Option Value} {P : Int32 → am_Mem → Prop} {X : Nat → am_Mem → Prop}
    (hk : am_kd μ r0 = (1, 12))
    (hc : Wp d 220 (0, [some (.ref r0), some (.int x4)], [], μ) (pI P X)) (hr : ∀ x μ', P x μ' → Wp (d + 1) 212 (110, [some (.ref r0), some (.int x1), some (.int x2), some (.int x3), some (.int x4), o5, o6], [.int x], (μ')) Q)
    (hx : ∀ x μ', X x μ' → Q (.inr x) μ') :
    Wp (d + 1) 212 (104, [some (.ref r0), some (.int x1), some (.int x2), some (.int x3), some (.int x4), o5, o6], [], μ) Q := wp_blk rfl e212_104 (wp_cv (as := [.int x4]) rfl e212_104_c rfl rfl rfl rfl rfl hk hc (fun v μ' hv => by obtain ⟨x, rfl, hp⟩ := pI_r hv; exact hr x μ' hp) hx)
def q212_110 : List (Nat × Instr × Nat) := [(110, .istore 5, 2), (112, .aload_n 0, 1), (113, .aload_n 0, 1), (114, .getfield 165, 3), (117, .ldc_w 557, 3), (120, .iload 4, 2), (122, .imul, 1), (123, .bipush 49, 2), (125, .aload_n 0, 1), (126, .getfield 168, 3), (129, .iload 4, 2), (131, .iaload, 1), (132, .imul, 1), (133, .iadd, 1)]
theorem e212_110 : am_dec am_M212 q212_110 = true := by decide +kernel
theorem e212_110_c : am_dc1 am_M212 134 (.invokevirtual 545) 3 = true := by decide +kernel
theorem b212_110 {d : Nat} {Q : Option Value ⊕ Nat → am_Mem → Prop} {μ : am_Mem} {r0 : Nat} {x1 x2 x3 x4 s0 : Int32} {o5 o6 : Option Value} {P : am_Mem → Prop} {X : Nat → am_Mem → Prop}
    (h1 : am_kd μ r0 = (1, 12))
    (h2 : ¬ am_F μ r0 77 = 15)
    (h3 : am_kd μ r0 = (1, 12))
    (h4 : ¬ am_F μ r0 78 = 15)
    (h5 : (am_kd μ (am_F μ r0 78)).1 = 2 ∨ (am_kd μ (am_F μ r0 78)).1 = 8)
    (h6 : ¬ (x4 < 0 ∨ (am_kd μ (am_F μ r0 78)).2 ≤ x4.toNatClampNeg))
    (hk : am_kd μ r0 = (1, 12))
    (hc : Wp d 214 (0, [some (.ref r0), some (.ref (am_F μ r0 77)), some (.int (((49049 : Int32) * x4) + (((Int8.ofInt 49).toInt32) * (am_A μ (am_F μ r0 78) x4.toNatClampNeg)))), none], [], μ) (pV P X)) (hr : ∀ μ', P μ' → Wp (d + 1) 212 (137, [some (.ref r0), some (.int x1), some (.int x2), some (.int x3), some (.int x4), some (.int s0), o6], [], (μ')) Q)
    (hx : ∀ x μ', X x μ' → Q (.inr x) μ') :
    Wp (d + 1) 212 (110, [some (.ref r0), some (.int x1), some (.int x2), some (.int x3), some (.int x4), o5, o6], [.int s0], μ) Q := wp_blk rfl e212_110 (And.intro h1 (And.intro h2 (And.intro h3 (And.intro h4 (And.intro h5 (And.intro h6 (wp_cv (as := [.ref (am_F μ r0 77), .int (((49049 : Int32) * x4) + (((Int8.ofInt 49).toInt32) * (am_A μ (am_F μ r0 78) x4.toNatClampNeg)))]) rfl e212_110_c rfl rfl rfl rfl rfl hk hc (fun v μ' hv => by obtain ⟨rfl, hp⟩ := pV_r hv; exact hr μ' hp) hx)))))))
def q212_137 : List (Nat × Instr × Nat) := [(137, .aload_n 0, 1)]
theorem e212_137 : am_dec am_M212 q212_137 = true := by decide +kernel
theorem e212_137_c : am_dc1 am_M212 138 (.invokevirtual 548) 3 = true := by decide +kernel
theorem b212_137 {d : Nat} {Q : Option Value ⊕ Nat → am_Mem → Prop} {μ : am_Mem} {r0 : Nat} {x1 x2 x3 x4 x5 : Int32} {o6 : Option Value} {P : Int32 → am_Mem → Prop} {X : Nat → am_Mem → Prop}
    (hk : am_kd μ r0 = (1, 12))
    (hc : Wp d 215 (0, [some (.ref r0), none, none, none, none, none, none, none, none], [], μ) (pI P X)) (hr : ∀ x μ', P x μ' → Wp (d + 1) 212 (141, [some (.ref r0), some (.int x1), some (.int x2), some (.int x3), some (.int x4), some (.int x5), o6], [.int x], (μ')) Q)
    (hx : ∀ x μ', X x μ' → Q (.inr x) μ') :
    Wp (d + 1) 212 (137, [some (.ref r0), some (.int x1), some (.int x2), some (.int x3), some (.int x4), some (.int x5), o6], [], μ) Q := wp_blk rfl e212_137 (wp_cv (as := []) rfl e212_137_c rfl rfl rfl rfl rfl hk hc (fun v μ' hv => by obtain ⟨x, rfl, hp⟩ := pI_r hv; exact hr x μ' hp) hx)
def q212_141 : List (Nat × Instr × Nat) := [(141, .istore 6, 2), (143, .aload_n 0, 1), (144, .getfield 144, 3), (147, .iconst 0, 1), (148, .iload 5, 2), (150, .iastore, 1), (151, .aload_n 0, 1), (152, .getfield 144, 3), (155, .iconst 1, 1), (156, .iload 6, 2), (158, .iastore, 1)]
theorem e212_141 : am_dec am_M212 q212_141 = true := by decide +kernel
theorem b212_141 {d : Nat} {Q : Option Value ⊕ Nat → am_Mem → Prop} {μ : am_Mem} {r0 : Nat} {x1 x2 x3 x4 x5 s0 : Int32} {o6 : Option Value}
    (h1 : am_kd μ r0 = (1, 12))
    (h2 : ¬ am_F μ r0 66 = 15)
    (h3 : (am_kd μ (am_F μ r0 66)).1 = 2)
    (h4 : ¬ ((Int32.ofInt 0) < 0 ∨ (am_kd μ (am_F μ r0 66)).2 ≤ (Int32.ofInt 0).toNatClampNeg))
    (h5 : am_kd (am_pA μ (am_F μ r0 66) (Int32.ofInt 0).toNatClampNeg x5) r0 = (1, 12))
    (h6 : ¬ am_F (am_pA μ (am_F μ r0 66) (Int32.ofInt 0).toNatClampNeg x5) r0 66 = 15)
    (h7 : (am_kd (am_pA μ (am_F μ r0 66) (Int32.ofInt 0).toNatClampNeg x5) (am_F (am_pA μ (am_F μ r0 66) (Int32.ofInt 0).toNatClampNeg x5) r0 66)).1 = 2)
    (h8 : ¬ ((Int32.ofInt 1) < 0 ∨ (am_kd (am_pA μ (am_F μ r0 66) (Int32.ofInt 0).toNatClampNeg x5) (am_F (am_pA μ (am_F μ r0 66) (Int32.ofInt 0).toNatClampNeg x5) r0 66)).2 ≤ (Int32.ofInt 1).toNatClampNeg))
    (k : Wp d 212 (159, [some (.ref r0), some (.int x1), some (.int x2), some (.int x3), some (.int x4), some (.int x5), some (.int s0)], [], (am_pA (am_pA μ (am_F μ r0 66) (Int32.ofInt 0).toNatClampNeg x5) (am_F (am_pA μ (am_F μ r0 66) (Int32.ofInt 0).toNatClampNeg x5) r0 66) (Int32.ofInt 1).toNatClampNeg s0)) Q) :
    Wp d 212 (141, [some (.ref r0), some (.int x1), some (.int x2), some (.int x3), some (.int x4), some (.int x5), o6], [.int s0], μ) Q := wp_blk rfl e212_141 (And.intro h1 (And.intro h2 (And.intro h3 (And.intro h4 (And.intro h5 (And.intro h6 (And.intro h7 (And.intro h8 k))))))))
def q212_159 : List (Nat × Instr × Nat) := [(159, .aload_n 0, 1), (160, .iconst 5, 1), (161, .iconst 2, 1)]
theorem e212_159 : am_dec am_M212 q212_159 = true := by decide +kernel
theorem e212_159_c : am_dc1 am_M212 162 (.invokevirtual 476) 3 = true := by decide +kernel
theorem b212_159 {d : Nat} {Q : Option Value ⊕ Nat → am_Mem → Prop} {μ : am_Mem} {r0 : Nat} {x1 x2 x3 x4 x5 x6 : Int32} {P : Int32 → am_Mem → Prop} {X : Nat → am_Mem → Prop}
    (hk : am_kd μ r0 = (1, 12))
    (hc : Wp d 217 (0, [some (.ref r0), some (.int (Int32.ofInt 5)), some (.int (Int32.ofInt 2)), none, none], [], μ) (pI P X)) (hr : ∀ x μ', P x μ' → Wp (d + 1) 212 (165, [some (.ref r0), some (.int x1), some (.int x2), some (.int x3), some (.int x4), some (.int x5), some (.int x6)], [.int x], (μ')) Q)
    (hx : ∀ x μ', X x μ' → Q (.inr x) μ') :
    Wp (d + 1) 212 (159, [some (.ref r0), some (.int x1), some (.int x2), some (.int x3), some (.int x4), some (.int x5), some (.int x6)], [], μ) Q := wp_blk rfl e212_159 (wp_cv (as := [.int (Int32.ofInt 5), .int (Int32.ofInt 2)]) rfl e212_159_c rfl rfl rfl rfl rfl hk hc (fun v μ' hv => by obtain ⟨x, rfl, hp⟩ := pI_r hv; exact hr x μ' hp) hx)
def q212_165 : List (Nat × Instr × Nat) := [(165, .pop, 1), (166, .iinc 4 1, 3), (169, .goto (-78), 3)]
theorem e212_165 : am_dec am_M212 q212_165 = true := by decide +kernel
theorem b212_165 {d : Nat} {Q : Option Value ⊕ Nat → am_Mem → Prop} {μ : am_Mem} {r0 : Nat} {x1 x2 x3 x4 x5 x6 s0 : Int32}
    (k : Wp d 212 (91, [some (.ref r0), some (.int x1), some (.int x2), some (.int x3), some (.int (x4 + Int32.ofInt 1)), some (.int x5), some (.int x6)], [], μ) Q) :
    Wp d 212 (165, [some (.ref r0), some (.int x1), some (.int x2), some (.int x3), some (.int x4), some (.int x5), some (.int x6)], [.int s0], μ) Q := wp_blk rfl e212_165 k
def q212_172 : List (Nat × Instr × Nat) := [(172, .aload_n 0, 1)]
theorem e212_172 : am_dec am_M212 q212_172 = true := by decide +kernel
theorem e212_172_c : am_dc1 am_M212 173 (.invokevirtual 558) 3 = true := by decide +kernel
theorem b212_172 {d : Nat} {Q : Option Value ⊕ Nat → am_Mem → Prop} {μ : am_Mem} {r0 : Nat} {x1 x2 x3 x4 : Int32} {o5 o6 : Option Value} {P : am_Mem → Prop} {X : Nat → am_Mem → Prop}
    (hk : am_kd μ r0 = (1, 12))
    (hc : Wp d 221 (0, [some (.ref r0), none, none, none, none], [], μ) (pV P X)) (hr : ∀ μ', P μ' → Wp (d + 1) 212 (176, [some (.ref r0), some (.int x1), some (.int x2), some (.int x3), some (.int x4), o5, o6], [], (μ')) Q)
    (hx : ∀ x μ', X x μ' → Q (.inr x) μ') :
    Wp (d + 1) 212 (172, [some (.ref r0), some (.int x1), some (.int x2), some (.int x3), some (.int x4), o5, o6], [], μ) Q := wp_blk rfl e212_172 (wp_cv (as := []) rfl e212_172_c rfl rfl rfl rfl rfl hk hc (fun v μ' hv => by obtain ⟨rfl, hp⟩ := pV_r hv; exact hr μ' hp) hx)
def q212_176 : List (Nat × Instr × Nat) := [(176, .aload_n 0, 1), (177, .getfield 456, 3), (180, .ifCond .ne 7, 3)]
theorem e212_176 : am_dec am_M212 q212_176 = true := by decide +kernel
theorem b212_176 {d : Nat} {Q : Option Value ⊕ Nat → am_Mem → Prop} {μ : am_Mem} {r0 : Nat} {x1 x2 x3 x4 : Int32} {o5 o6 : Option Value}
    (h1 : am_kd μ r0 = (1, 12))
    (k1 : ¬ (am_A μ r0 56) = 0 → Wp d 212 (187, [some (.ref r0), some (.int x1), some (.int x2), some (.int x3), some (.int x4), o5, o6], [], μ) Q) (k2 : ¬ (¬ (am_A μ r0 56) = 0) → Wp d 212 (183, [some (.ref r0), some (.int x1), some (.int x2), some (.int x3), some (.int x4), o5, o6], [], μ) Q) :
    Wp d 212 (176, [some (.ref r0), some (.int x1), some (.int x2), some (.int x3), some (.int x4), o5, o6], [], μ) Q := wp_blk rfl e212_176 (And.intro h1 (And.intro k1 k2))
def q212_183 : List (Nat × Instr × Nat) := [(183, .iconst 1, 1), (184, .goto 4, 3)]
theorem e212_183 : am_dec am_M212 q212_183 = true := by decide +kernel
theorem b212_183 {d : Nat} {Q : Option Value ⊕ Nat → am_Mem → Prop} {μ : am_Mem} {r0 : Nat} {x1 x2 x3 x4 : Int32} {o5 o6 : Option Value}
    (k : Wp d 212 (188, [some (.ref r0), some (.int x1), some (.int x2), some (.int x3), some (.int x4), o5, o6], [.int (Int32.ofInt 1)], μ) Q) :
    Wp d 212 (183, [some (.ref r0), some (.int x1), some (.int x2), some (.int x3), some (.int x4), o5, o6], [], μ) Q := wp_blk rfl e212_183 k
def q212_187 : List (Nat × Instr × Nat) := [(187, .iconst 0, 1)]
theorem e212_187 : am_dec am_M212 q212_187 = true := by decide +kernel
theorem b212_187 {d : Nat} {Q : Option Value ⊕ Nat → am_Mem → Prop} {μ : am_Mem} {r0 : Nat} {x1 x2 x3 x4 : Int32} {o5 o6 : Option Value}
    (k : Wp d 212 (188, [some (.ref r0), some (.int x1), some (.int x2), some (.int x3), some (.int x4), o5, o6], [.int (Int32.ofInt 0)], μ) Q) :
    Wp d 212 (187, [some (.ref r0), some (.int x1), some (.int x2), some (.int x3), some (.int x4), o5, o6], [], μ) Q := wp_blk rfl e212_187 k
theorem e212_188_r : am_dec am_M212 [(188, .ireturn, 1)] = true := by decide +kernel
theorem b212_188 {d : Nat} {Q : Option Value ⊕ Nat → am_Mem → Prop} {μ : am_Mem} {r0 : Nat} {x1 x2 x3 x4 s0 : Int32} {o5 o6 : Option Value}
    (hn : narrow .boolean (.int s0) = .int s0 ∧ fits .boolean (.int s0) = true)
    (k : Q (.inl (some (.int s0))) μ) :
    Wp d 212 (188, [some (.ref r0), some (.int x1), some (.int x2), some (.int x3), some (.int x4), o5, o6], [.int s0], μ) Q := (wp_ri (ty := .boolean) rfl e212_188_r rfl hn k)
/-! RuleSheetsModel.noAtoms()V -/
def q213_0 : List (Nat × Instr × Nat) := [(0, .iconst 0, 1), (1, .istore_n 1, 1)]
theorem e213_0 : am_dec am_M213 q213_0 = true := by decide +kernel
theorem b213_0 {d : Nat} {Q : Option Value ⊕ Nat → am_Mem → Prop} {μ : am_Mem} {r0 : Nat}
    (k : Wp d 213 (2, [some (.ref r0), some (.int (Int32.ofInt 0))], [], μ) Q) :
    Wp d 213 (0, [some (.ref r0), none], [], μ) Q := wp_blk rfl e213_0 k
def q213_2 : List (Nat × Instr × Nat) := [(2, .iload_n 1, 1), (3, .sipush 4096, 3), (6, .if_icmp .ge 16, 3)]
theorem e213_2 : am_dec am_M213 q213_2 = true := by decide +kernel
theorem b213_2 {d : Nat} {Q : Option Value ⊕ Nat → am_Mem → Prop} {μ : am_Mem} {r0 : Nat} {x1 : Int32}
    (k1 : ((Int16.ofInt 4096).toInt32) ≤ x1 → Wp d 213 (22, [some (.ref r0), some (.int x1)], [], μ) Q) (k2 : ¬ (((Int16.ofInt 4096).toInt32) ≤ x1) → Wp d 213 (9, [some (.ref r0), some (.int x1)], [], μ) Q) :
    Wp d 213 (2, [some (.ref r0), some (.int x1)], [], μ) Q := wp_blk rfl e213_2 (And.intro k1 k2)
def q213_9 : List (Nat × Instr × Nat) := [(9, .aload_n 0, 1), (10, .getfield 111, 3), (13, .iload_n 1, 1), (14, .iconst 0, 1), (15, .iastore, 1), (16, .iinc 1 1, 3), (19, .goto (-17), 3)]
theorem e213_9 : am_dec am_M213 q213_9 = true := by decide +kernel
theorem b213_9 {d : Nat} {Q : Option Value ⊕ Nat → am_Mem → Prop} {μ : am_Mem} {r0 : Nat} {x1 : Int32}
    (h1 : am_kd μ r0 = (1, 12))
    (h2 : ¬ am_F μ r0 52 = 15)
    (h3 : (am_kd μ (am_F μ r0 52)).1 = 2)
    (h4 : ¬ (x1 < 0 ∨ (am_kd μ (am_F μ r0 52)).2 ≤ x1.toNatClampNeg))
    (k : Wp d 213 (2, [some (.ref r0), some (.int (x1 + Int32.ofInt 1))], [], (am_pA μ (am_F μ r0 52) x1.toNatClampNeg (Int32.ofInt 0))) Q) :
    Wp d 213 (9, [some (.ref r0), some (.int x1)], [], μ) Q := wp_blk rfl e213_9 (And.intro h1 (And.intro h2 (And.intro h3 (And.intro h4 k))))
def q213_22 : List (Nat × Instr × Nat) := [(22, .iconst 0, 1), (23, .istore_n 1, 1)]
theorem e213_22 : am_dec am_M213 q213_22 = true := by decide +kernel
theorem b213_22 {d : Nat} {Q : Option Value ⊕ Nat → am_Mem → Prop} {μ : am_Mem} {r0 : Nat} {x1 : Int32}
    (k : Wp d 213 (24, [some (.ref r0), some (.int (Int32.ofInt 0))], [], μ) Q) :
    Wp d 213 (22, [some (.ref r0), some (.int x1)], [], μ) Q := wp_blk rfl e213_22 k
def q213_24 : List (Nat × Instr × Nat) := [(24, .iload_n 1, 1), (25, .aload_n 0, 1), (26, .getfield 253, 3), (29, .if_icmp .ge 23, 3)]
theorem e213_24 : am_dec am_M213 q213_24 = true := by decide +kernel
theorem b213_24 {d : Nat} {Q : Option Value ⊕ Nat → am_Mem → Prop} {μ : am_Mem} {r0 : Nat} {x1 : Int32}
    (h1 : am_kd μ r0 = (1, 12))
    (k1 : (am_A μ r0 9) ≤ x1 → Wp d 213 (52, [some (.ref r0), some (.int x1)], [], μ) Q) (k2 : ¬ ((am_A μ r0 9) ≤ x1) → Wp d 213 (32, [some (.ref r0), some (.int x1)], [], μ) Q) :
    Wp d 213 (24, [some (.ref r0), some (.int x1)], [], μ) Q := wp_blk rfl e213_24 (And.intro h1 (And.intro k1 k2))
def q213_32 : List (Nat × Instr × Nat) := [(32, .aload_n 0, 1), (33, .getfield 120, 3), (36, .iload_n 1, 1), (37, .iconst 0, 1), (38, .iastore, 1), (39, .aload_n 0, 1), (40, .getfield 114, 3), (43, .iload_n 1, 1), (44, .iconst (-1), 1), (45, .iastore, 1)]
theorem e213_32 : am_dec am_M213 q213_32 = true := by decide +kernel
theorem b213_32 {d : Nat} {Q : Option Value ⊕ Nat → am_Mem → Prop} {μ : am_Mem} {r0 : Nat} {x1 : Int32}
    (h1 : am_kd μ r0 = (1, 12))
    (h2 : ¬ am_F μ r0 55 = 15)
    (h3 : (am_kd μ (am_F μ r0 55)).1 = 2)
    (h4 : ¬ (x1 < 0 ∨ (am_kd μ (am_F μ r0 55)).2 ≤ x1.toNatClampNeg))
    (h5 : am_kd (am_pA μ (am_F μ r0 55) x1.toNatClampNeg (Int32.ofInt 0)) r0 = (1, 12))
    (h6 : ¬ am_F (am_pA μ (am_F μ r0 55) x1.toNatClampNeg (Int32.ofInt 0)) r0 53 = 15)
    (h7 : (am_kd (am_pA μ (am_F μ r0 55) x1.toNatClampNeg (Int32.ofInt 0)) (am_F (am_pA μ (am_F μ r0 55) x1.toNatClampNeg (Int32.ofInt 0)) r0 53)).1 = 2)
    (h8 : ¬ (x1 < 0 ∨ (am_kd (am_pA μ (am_F μ r0 55) x1.toNatClampNeg (Int32.ofInt 0)) (am_F (am_pA μ (am_F μ r0 55) x1.toNatClampNeg (Int32.ofInt 0)) r0 53)).2 ≤ x1.toNatClampNeg))
    (k : Wp d 213 (46, [some (.ref r0), some (.int x1)], [], (am_pA (am_pA μ (am_F μ r0 55) x1.toNatClampNeg (Int32.ofInt 0)) (am_F (am_pA μ (am_F μ r0 55) x1.toNatClampNeg (Int32.ofInt 0)) r0 53) x1.toNatClampNeg (Int32.ofInt (-1)))) Q) :
    Wp d 213 (32, [some (.ref r0), some (.int x1)], [], μ) Q := wp_blk rfl e213_32 (And.intro h1 (And.intro h2 (And.intro h3 (And.intro h4 (And.intro h5 (And.intro h6 (And.intro h7 (And.intro h8 k))))))))
def q213_46 : List (Nat × Instr × Nat) := [(46, .iinc 1 1, 3), (49, .goto (-25), 3)]
theorem e213_46 : am_dec am_M213 q213_46 = true := by decide +kernel
theorem b213_46 {d : Nat} {Q : Option Value ⊕ Nat → am_Mem → Prop} {μ : am_Mem} {r0 : Nat} {x1 : Int32}
    (k : Wp d 213 (24, [some (.ref r0), some (.int (x1 + Int32.ofInt 1))], [], μ) Q) :
    Wp d 213 (46, [some (.ref r0), some (.int x1)], [], μ) Q := wp_blk rfl e213_46 k
def q213_52 : List (Nat × Instr × Nat) := [(52, .aload_n 0, 1), (53, .iconst 0, 1), (54, .putfield 453, 3)]
theorem e213_52 : am_dec am_M213 q213_52 = true := by decide +kernel
theorem e213_52_r : am_dec am_M213 [(57, .return_, 1)] = true := by decide +kernel
theorem b213_52 {d : Nat} {Q : Option Value ⊕ Nat → am_Mem → Prop} {μ : am_Mem} {r0 : Nat} {x1 : Int32}
    (h1 : am_kd μ r0 = (1, 12))
    (k : Q (.inl none) (am_pA μ r0 48 (Int32.ofInt 0))) :
    Wp d 213 (52, [some (.ref r0), some (.int x1)], [], μ) Q := wp_blk rfl e213_52 (And.intro h1 (And.intro ⟨rfl, rfl⟩ (wp_rv rfl e213_52_r rfl k)))
/-! RuleSheetsModel.rowFromBytes([BI)V -/
def q214_0 : List (Nat × Instr × Nat) := [(0, .aload_n 0, 1), (1, .iconst 0, 1), (2, .putfield 522, 3)]
theorem e214_0 : am_dec am_M214 q214_0 = true := by decide +kernel
theorem b214_0 {d : Nat} {Q : Option Value ⊕ Nat → am_Mem → Prop} {μ : am_Mem} {r0 r1 : Nat} {x2 : Int32}
    (h1 : am_kd μ r0 = (1, 12))
    (k : Wp d 214 (5, [some (.ref r0), some (.ref r1), some (.int x2), none], [], (am_pA μ r0 80 (Int32.ofInt 0))) Q) :
    Wp d 214 (0, [some (.ref r0), some (.ref r1), some (.int x2), none], [], μ) Q := wp_blk rfl e214_0 (And.intro h1 (And.intro ⟨rfl, rfl⟩ k))
def q214_5 : List (Nat × Instr × Nat) := [(5, .aload_n 0, 1), (6, .getfield 522, 3), (9, .bipush 48, 2), (11, .if_icmp .ge 44, 3)]
theorem e214_5 : am_dec am_M214 q214_5 = true := by decide +kernel
theorem b214_5 {d : Nat} {Q : Option Value ⊕ Nat → am_Mem → Prop} {μ : am_Mem} {r0 r1 : Nat} {x2 : Int32}
    (h1 : am_kd μ r0 = (1, 12))
    (k1 : ((Int8.ofInt 48).toInt32) ≤ (am_A μ r0 80) → Wp d 214 (55, [some (.ref r0), some (.ref r1), some (.int x2), none], [], μ) Q) (k2 : ¬ (((Int8.ofInt 48).toInt32) ≤ (am_A μ r0 80)) → Wp d 214 (14, [some (.ref r0), some (.ref r1), some (.int x2), none], [], μ) Q) :
    Wp d 214 (5, [some (.ref r0), some (.ref r1), some (.int x2), none], [], μ) Q := wp_blk rfl e214_5 (And.intro h1 (And.intro k1 k2))
def q214_14 : List (Nat × Instr × Nat) := [(14, .aload_n 1, 1), (15, .iload_n 2, 1), (16, .aload_n 0, 1), (17, .getfield 522, 3), (20, .iadd, 1), (21, .baload, 1), (22, .ifCond .le 33, 3)]
theorem e214_14 : am_dec am_M214 q214_14 = true := by decide +kernel
theorem b214_14 {d : Nat} {Q : Option Value ⊕ Nat → am_Mem → Prop} {μ : am_Mem} {r0 r1 : Nat} {x2 : Int32}
    (h1 : am_kd μ r0 = (1, 12))
    (h2 : (am_kd μ r1).1 = 3 ∨ (am_kd μ r1).1 = 4 ∨ (am_kd μ r1).1 = 10)
    (h3 : ¬ ((x2 + (am_A μ r0 80)) < 0 ∨ (am_kd μ r1).2 ≤ (x2 + (am_A μ r0 80)).toNatClampNeg))
    (k1 : (am_A μ r1 (x2 + (am_A μ r0 80)).toNatClampNeg) ≤ 0 → Wp d 214 (55, [some (.ref r0), some (.ref r1), some (.int x2), none], [], μ) Q) (k2 : ¬ ((am_A μ r1 (x2 + (am_A μ r0 80)).toNatClampNeg) ≤ 0) → Wp d 214 (25, [some (.ref r0), some (.ref r1), some (.int x2), none], [], μ) Q) :
    Wp d 214 (14, [some (.ref r0), some (.ref r1), some (.int x2), none], [], μ) Q := wp_blk rfl e214_14 (And.intro h1 (And.intro h2 (And.intro h3 (And.intro k1 k2))))
def q214_25 : List (Nat × Instr × Nat) := [(25, .aload_n 0, 1), (26, .getfield 171, 3), (29, .aload_n 0, 1), (30, .getfield 522, 3), (33, .aload_n 1, 1), (34, .iload_n 2, 1), (35, .aload_n 0, 1), (36, .getfield 522, 3), (39, .iadd, 1), (40, .baload, 1), (41, .iastore, 1), (42, .aload_n 0, 1), (43, .dup, 1), (44, .getfield 522, 3), (47, .iconst 1, 1), (48, .iadd, 1), (49, .putfield 522, 3)]
theorem e214_25 : am_dec am_M214 q214_25 = true := by decide +kernel
theorem b214_25 {d : Nat} {Q : Option Value ⊕ Nat → am_Mem → Prop} {μ : am_Mem} {r0 r1 : Nat} {x2 : Int32}
    (h1 : am_kd μ r0 = (1, 12))
    (h2 : ¬ am_F μ r0 79 = 15)
    (h3 : am_kd μ r0 = (1, 12))
    (h4 : am_kd μ r0 = (1, 12))
    (h5 : (am_kd μ r1).1 = 3 ∨ (am_kd μ r1).1 = 4 ∨ (am_kd μ r1).1 = 10)
    (h6 : ¬ ((x2 + (am_A μ r0 80)) < 0 ∨ (am_kd μ r1).2 ≤ (x2 + (am_A μ r0 80)).toNatClampNeg))
    (h7 : (am_kd μ (am_F μ r0 79)).1 = 2)
    (h8 : ¬ ((am_A μ r0 80) < 0 ∨ (am_kd μ (am_F μ r0 79)).2 ≤ (am_A μ r0 80).toNatClampNeg))
    (h9 : am_kd (am_pA μ (am_F μ r0 79) (am_A μ r0 80).toNatClampNeg (am_A μ r1 (x2 + (am_A μ r0 80)).toNatClampNeg)) r0 = (1, 12))
    (h10 : am_kd (am_pA μ (am_F μ r0 79) (am_A μ r0 80).toNatClampNeg (am_A μ r1 (x2 + (am_A μ r0 80)).toNatClampNeg)) r0 = (1, 12))
    (k : Wp d 214 (52, [some (.ref r0), some (.ref r1), some (.int x2), none], [], (am_pA (am_pA μ (am_F μ r0 79) (am_A μ r0 80).toNatClampNeg (am_A μ r1 (x2 + (am_A μ r0 80)).toNatClampNeg)) r0 80 ((am_A (am_pA μ (am_F μ r0 79) (am_A μ r0 80).toNatClampNeg (am_A μ r1 (x2 + (am_A μ r0 80)).toNatClampNeg)) r0 80) + (Int32.ofInt 1)))) Q) :
    Wp d 214 (25, [some (.ref r0), some (.ref r1), some (.int x2), none], [], μ) Q := wp_blk rfl e214_25 (And.intro h1 (And.intro h2 (And.intro h3 (And.intro h4 (And.intro h5 (And.intro h6 (And.intro h7 (And.intro h8 (And.intro h9 (And.intro h10 (And.intro ⟨rfl, rfl⟩ k)))))))))))
def q214_52 : List (Nat × Instr × Nat) := [(52, .goto (-47), 3)]
theorem e214_52 : am_dec am_M214 q214_52 = true := by decide +kernel
theorem b214_52 {d : Nat} {Q : Option Value ⊕ Nat → am_Mem → Prop} {μ : am_Mem} {r0 r1 : Nat} {x2 : Int32}
    (k : Wp d 214 (5, [some (.ref r0), some (.ref r1), some (.int x2), none], [], μ) Q) :
    Wp d 214 (52, [some (.ref r0), some (.ref r1), some (.int x2), none], [], μ) Q := wp_blk rfl e214_52 k
def q214_55 : List (Nat × Instr × Nat) := [(55, .aload_n 0, 1), (56, .getfield 522, 3), (59, .istore_n 3, 1)]
theorem e214_55 : am_dec am_M214 q214_55 = true := by decide +kernel
theorem b214_55 {d : Nat} {Q : Option Value ⊕ Nat → am_Mem → Prop} {μ : am_Mem} {r0 r1 : Nat} {x2 : Int32}
    (h1 : am_kd μ r0 = (1, 12))
    (k : Wp d 214 (60, [some (.ref r0), some (.ref r1), some (.int x2), some (.int (am_A μ r0 80))], [], μ) Q) :
    Wp d 214 (55, [some (.ref r0), some (.ref r1), some (.int x2), none], [], μ) Q := wp_blk rfl e214_55 (And.intro h1 k)
def q214_60 : List (Nat × Instr × Nat) := [(60, .iload_n 3, 1), (61, .bipush 49, 2), (63, .if_icmp .ge 16, 3)]
theorem e214_60 : am_dec am_M214 q214_60 = true := by decide +kernel
theorem b214_60 {d : Nat} {Q : Option Value ⊕ Nat → am_Mem → Prop} {μ : am_Mem} {r0 r1 : Nat} {x2 x3 : Int32}
    (k1 : ((Int8.ofInt 49).toInt32) ≤ x3 → Wp d 214 (79, [some (.ref r0), some (.ref r1), some (.int x2), some (.int x3)], [], μ) Q) (k2 : ¬ (((Int8.ofInt 49).toInt32) ≤ x3) → Wp d 214 (66, [some (.ref r0), some (.ref r1), some (.int x2), some (.int x3)], [], μ) Q) :
    Wp d 214 (60, [some (.ref r0), some (.ref r1), some (.int x2), some (.int x3)], [], μ) Q := wp_blk rfl e214_60 (And.intro k1 k2)
def q214_66 : List (Nat × Instr × Nat) := [(66, .aload_n 0, 1), (67, .getfield 171, 3), (70, .iload_n 3, 1), (71, .iconst 0, 1), (72, .iastore, 1), (73, .iinc 3 1, 3), (76, .goto (-16), 3)]
theorem e214_66 : am_dec am_M214 q214_66 = true := by decide +kernel
theorem b214_66 {d : Nat} {Q : Option Value ⊕ Nat → am_Mem → Prop} {μ : am_Mem} {r0 r1 : Nat} {x2 x3 : Int32}
    (h1 : am_kd μ r0 = (1, 12))
    (h2 : ¬ am_F μ r0 79 = 15)
    (h3 : (am_kd μ (am_F μ r0 79)).1 = 2)
    (h4 : ¬ (x3 < 0 ∨ (am_kd μ (am_F μ r0 79)).2 ≤ x3.toNatClampNeg))
    (k : Wp d 214 (60, [some (.ref r0), some (.ref r1), some (.int x2), some (.int (x3 + Int32.ofInt 1))], [], (am_pA μ (am_F μ r0 79) x3.toNatClampNeg (Int32.ofInt 0))) Q) :
    Wp d 214 (66, [some (.ref r0), some (.ref r1), some (.int x2), some (.int x3)], [], μ) Q := wp_blk rfl e214_66 (And.intro h1 (And.intro h2 (And.intro h3 (And.intro h4 k))))
theorem e214_79_r : am_dec am_M214 [(79, .return_, 1)] = true := by decide +kernel
theorem b214_79 {d : Nat} {Q : Option Value ⊕ Nat → am_Mem → Prop} {μ : am_Mem} {r0 r1 : Nat} {x2 x3 : Int32}
    (k : Q (.inl none) μ) :
    Wp d 214 (79, [some (.ref r0), some (.ref r1), some (.int x2), some (.int x3)], [], μ) Q := (wp_rv rfl e214_79_r rfl k)
/-! RuleSheetsModel.readRow()I -/
def q215_0 : List (Nat × Instr × Nat) := [(0, .iconst 0, 1), (1, .istore_n 1, 1), (2, .iconst 0, 1), (3, .istore_n 2, 1), (4, .aload_n 0, 1), (5, .getfield 522, 3), (8, .istore_n 3, 1)]
theorem e215_0 : am_dec am_M215 q215_0 = true := by decide +kernel
theorem b215_0 {d : Nat} {Q : Option Value ⊕ Nat → am_Mem → Prop} {μ : am_Mem} {r0 : Nat}
    (h1 : am_kd μ r0 = (1, 12))
    (k : Wp d 215 (9, [some (.ref r0), some (.int (Int32.ofInt 0)), some (.int (Int32.ofInt 0)), some (.int (am_A μ r0 80)), none, none, none, none, none], [], μ) Q) :
    Wp d 215 (0, [some (.ref r0), none, none, none, none, none, none, none, none], [], μ) Q := wp_blk rfl e215_0 (And.intro h1 k)
def q215_9 : List (Nat × Instr × Nat) := [(9, .iload_n 3, 1), (10, .ifCond .le 219, 3)]
theorem e215_9 : am_dec am_M215 q215_9 = true := by decide +kernel
theorem b215_9 {d : Nat} {Q : Option Value ⊕ Nat → am_Mem → Prop} {μ : am_Mem} {r0 : Nat} {x1 x2 x3 : Int32} {o4 o5 o6 o7 o8 : Option Value}
    (k1 : x3 ≤ 0 → Wp d 215 (229, [some (.ref r0), some (.int x1), some (.int x2), some (.int x3), o4, o5, o6, o7, o8], [], μ) Q) (k2 : ¬ (x3 ≤ 0) → Wp d 215 (13, [some (.ref r0), some (.int x1), some (.int x2), some (.int x3), o4, o5, o6, o7, o8], [], μ) Q) :
    Wp d 215 (9, [some (.ref r0), some (.int x1), some (.int x2), some (.int x3), o4, o5, o6, o7, o8], [], μ) Q := wp_blk rfl e215_9 (And.intro k1 k2)
def q215_13 : List (Nat × Instr × Nat) := [(13, .aload_n 0, 1), (14, .getfield 171, 3), (17, .iload_n 3, 1), (18, .iconst 1, 1), (19, .isub, 1), (20, .iaload, 1), (21, .istore 4, 2), (23, .iload 4, 2), (25, .bipush 41, 2), (27, .if_icmp .ne 19, 3)]
theorem e215_13 : am_dec am_M215 q215_13 = true := by decide +kernel
theorem b215_13 {d : Nat} {Q : Option Value ⊕ Nat → am_Mem → Prop} {μ : am_Mem} {r0 : Nat} {x1 x2 x3 : Int32} {o4 o5 o6 o7 o8 : Option Value}
    (h1 : am_kd μ r0 = (1, 12))
    (h2 : ¬ am_F μ r0 79 = 15)
    (h3 : (am_kd μ (am_F μ r0 79)).1 = 2 ∨ (am_kd μ (am_F μ r0 79)).1 = 8)
    (h4 : ¬ ((x3 - (Int32.ofInt 1)) < 0 ∨ (am_kd μ (am_F μ r0 79)).2 ≤ (x3 - (Int32.ofInt 1)).toNatClampNeg))
    (k1 : ¬ (am_A μ (am_F μ r0 79) (x3 - (Int32.ofInt 1)).toNatClampNeg) = ((Int8.ofInt 41).toInt32) → Wp d 215 (46, [some (.ref r0), some (.int x1), some (.int x2), some (.int x3), some (.int (am_A μ (am_F μ r0 79) (x3 - (Int32.ofInt 1)).toNatClampNeg)), o5, o6, o7, o8], [], μ) Q) (k2 : ¬ (¬ (am_A μ (am_F μ r0 79) (x3 - (Int32.ofInt 1)).toNatClampNeg) = ((Int8.ofInt 41).toInt32)) → Wp d 215 (30, [some (.ref r0), some (.int x1), some (.int x2), some (.int x3), some (.int (am_A μ (am_F μ r0 79) (x3 - (Int32.ofInt 1)).toNatClampNeg)), o5, o6, o7, o8], [], μ) Q) :
    Wp d 215 (13, [some (.ref r0), some (.int x1), some (.int x2), some (.int x3), o4, o5, o6, o7, o8], [], μ) Q := wp_blk rfl e215_13 (And.intro h1 (And.intro h2 (And.intro h3 (And.intro h4 (And.intro k1 k2)))))
def q215_30 : List (Nat × Instr × Nat) := [(30, .aload_n 0, 1), (31, .getfield 141, 3), (34, .iload_n 2, 1), (35, .iload_n 1, 1), (36, .iastore, 1), (37, .iinc 2 1, 3), (40, .iinc 3 (-1), 3), (43, .goto 183, 3)]
theorem e215_30 : am_dec am_M215 q215_30 = true := by decide +kernel
theorem b215_30 {d : Nat} {Q : Option Value ⊕ Nat → am_Mem → Prop} {μ : am_Mem} {r0 : Nat} {x1 x2 x3 x4 : Int32} {o5 o6 o7 o8 : Option Value}
    (h1 : am_kd μ r0 = (1, 12))
    (h2 : ¬ am_F μ r0 65 = 15)
    (h3 : (am_kd μ (am_F μ r0 65)).1 = 2)
    (h4 : ¬ (x2 < 0 ∨ (am_kd μ (am_F μ r0 65)).2 ≤ x2.toNatClampNeg))
    (k : Wp d 215 (226, [some (.ref r0), some (.int x1), some (.int (x2 + Int32.ofInt 1)), some (.int (x3 + Int32.ofInt (-1))), some (.int x4), o5, o6, o7, o8], [], (am_pA μ (am_F μ r0 65) x2.toNatClampNeg x1)) Q) :
    Wp d 215 (30, [some (.ref r0), some (.int x1), some (.int x2), some (.int x3), some (.int x4), o5, o6, o7, o8], [], μ) Q := wp_blk rfl e215_30 (And.intro h1 (And.intro h2 (And.intro h3 (And.intro h4 k))))
def q215_46 : List (Nat × Instr × Nat) := [(46, .iload 4, 2), (48, .bipush 32, 2), (50, .if_icmp .ne 9, 3)]
theorem e215_46 : am_dec am_M215 q215_46 = true := by decide +kernel
theorem b215_46 {d : Nat} {Q : Option Value ⊕ Nat → am_Mem → Prop} {μ : am_Mem} {r0 : Nat} {x1 x2 x3 x4 : Int32} {o5 o6 o7 o8 : Option Value}
    (k1 : ¬ x4 = ((Int8.ofInt 32).toInt32) → Wp d 215 (59, [some (.ref r0), some (.int x1), some (.int x2), some (.int x3), some (.int x4), o5, o6, o7, o8], [], μ) Q) (k2 : ¬ (¬ x4 = ((Int8.ofInt 32).toInt32)) → Wp d 215 (53, [some (.ref r0), some (.int x1), some (.int x2), some (.int x3), some (.int x4), o5, o6, o7, o8], [], μ) Q) :
    Wp d 215 (46, [some (.ref r0), some (.int x1), some (.int x2), some (.int x3), some (.int x4), o5, o6, o7, o8], [], μ) Q := wp_blk rfl e215_46 (And.intro k1 k2)
def q215_53 : List (Nat × Instr × Nat) := [(53, .iinc 3 (-1), 3), (56, .goto 170, 3)]
theorem e215_53 : am_dec am_M215 q215_53 = true := by decide +kernel
theorem b215_53 {d : Nat} {Q : Option Value ⊕ Nat → am_Mem → Prop} {μ : am_Mem} {r0 : Nat} {x1 x2 x3 x4 : Int32} {o5 o6 o7 o8 : Option Value}
    (k : Wp d 215 (226, [some (.ref r0), some (.int x1), some (.int x2), some (.int (x3 + Int32.ofInt (-1))), some (.int x4), o5, o6, o7, o8], [], μ) Q) :
    Wp d 215 (53, [some (.ref r0), some (.int x1), some (.int x2), some (.int x3), some (.int x4), o5, o6, o7, o8], [], μ) Q := wp_blk rfl e215_53 k
def q215_59 : List (Nat × Instr × Nat) := [(59, .iload_n 3, 1), (60, .istore 5, 2)]
theorem e215_59 : am_dec am_M215 q215_59 = true := by decide +kernel
theorem b215_59 {d : Nat} {Q : Option Value ⊕ Nat → am_Mem → Prop} {μ : am_Mem} {r0 : Nat} {x1 x2 x3 x4 : Int32} {o5 o6 o7 o8 : Option Value}
    (k : Wp d 215 (62, [some (.ref r0), some (.int x1), some (.int x2), some (.int x3), some (.int x4), some (.int x3), o6, o7, o8], [], μ) Q) :
    Wp d 215 (59, [some (.ref r0), some (.int x1), some (.int x2), some (.int x3), some (.int x4), o5, o6, o7, o8], [], μ) Q := wp_blk rfl e215_59 k
def q215_62 : List (Nat × Instr × Nat) := [(62, .iload_n 3, 1), (63, .ifCond .le 23, 3)]
theorem e215_62 : am_dec am_M215 q215_62 = true := by decide +kernel
theorem b215_62 {d : Nat} {Q : Option Value ⊕ Nat → am_Mem → Prop} {μ : am_Mem} {r0 : Nat} {x1 x2 x3 x4 x5 : Int32} {o6 o7 o8 : Option Value}
    (k1 : x3 ≤ 0 → Wp d 215 (86, [some (.ref r0), some (.int x1), some (.int x2), some (.int x3), some (.int x4), some (.int x5), o6, o7, o8], [], μ) Q) (k2 : ¬ (x3 ≤ 0) → Wp d 215 (66, [some (.ref r0), some (.int x1), some (.int x2), some (.int x3), some (.int x4), some (.int x5), o6, o7, o8], [], μ) Q) :
    Wp d 215 (62, [some (.ref r0), some (.int x1), some (.int x2), some (.int x3), some (.int x4), some (.int x5), o6, o7, o8], [], μ) Q := wp_blk rfl e215_62 (And.intro k1 k2)
def q215_66 : List (Nat × Instr × Nat) := [(66, .aload_n 0, 1), (67, .getfield 171, 3), (70, .iload_n 3, 1), (71, .iconst 1, 1), (72, .isub, 1), (73, .iaload, 1)]
theorem e215_66 : am_dec am_M215 q215_66 = true := by decide +kernel
theorem e215_66_c : am_dc1 am_M215 74 (.invokestatic 231) 3 = true := by decide +kernel
theorem b215_66 {d : Nat} {Q : Option Value ⊕ Nat → am_Mem → Prop} {μ : am_Mem} {r0 : Nat} {x1 x2 x3 x4 x5 : Int32} {o6 o7 o8 : Option Value} {P : Int32 → am_Mem → Prop} {X : Nat → am_Mem → Prop}
    (h1 : am_kd μ r0 = (1, 12))
    (h2 : ¬ am_F μ r0 79 = 15)
    (h3 : (am_kd μ (am_F μ r0 79)).1 = 2 ∨ (am_kd μ (am_F μ r0 79)).1 = 8)
    (h4 : ¬ ((x3 - (Int32.ofInt 1)) < 0 ∨ (am_kd μ (am_F μ r0 79)).2 ≤ (x3 - (Int32.ofInt 1)).toNatClampNeg))
    (hc : Wp d 161 (0, [some (.int (am_A μ (am_F μ r0 79) (x3 - (Int32.ofInt 1)).toNatClampNeg))], [], μ) (pI P X)) (hr : ∀ x μ', P x μ' → Wp (d + 1) 215 (77, [some (.ref r0), some (.int x1), some (.int x2), some (.int x3), some (.int x4), some (.int x5), o6, o7, o8], [.int x], (μ')) Q)
    (hx : ∀ x μ', X x μ' → Q (.inr x) μ') :
    Wp (d + 1) 215 (66, [some (.ref r0), some (.int x1), some (.int x2), some (.int x3), some (.int x4), some (.int x5), o6, o7, o8], [], μ) Q := wp_blk rfl e215_66 (And.intro h1 (And.intro h2 (And.intro h3 (And.intro h4 (wp_cs (vs := [.int (am_A μ (am_F μ r0 79) (x3 - (Int32.ofInt 1)).toNatClampNeg)]) rfl e215_66_c rfl rfl rfl rfl rfl hc (fun v μ' hv => by obtain ⟨x, rfl, hp⟩ := pI_r hv; exact hr x μ' hp) hx)))))
def q215_77 : List (Nat × Instr × Nat) := [(77, .ifCond .eq 9, 3)]
theorem e215_77 : am_dec am_M215 q215_77 = true := by decide +kernel
theorem b215_77 {d : Nat} {Q : Option Value ⊕ Nat → am_Mem → Prop} {μ : am_Mem} {r0 : Nat} {x1 x2 x3 x4 x5 s0 : Int32} {o6 o7 o8 : Option Value}
    (k1 : s0 = 0 → Wp d 215 (86, [some (.ref r0), some (.int x1), some (.int x2), some (.int x3), some (.int x4), some (.int x5), o6, o7, o8], [], μ) Q) (k2 : ¬ (s0 = 0) → Wp d 215 (80, [some (.ref r0), some (.int x1), some (.int x2), some (.int x3), some (.int x4), some (.int x5), o6, o7, o8], [], μ) Q) :
    Wp d 215 (77, [some (.ref r0), some (.int x1), some (.int x2), some (.int x3), some (.int x4), some (.int x5), o6, o7, o8], [.int s0], μ) Q := wp_blk rfl e215_77 (And.intro k1 k2)
def q215_80 : List (Nat × Instr × Nat) := [(80, .iinc 3 (-1), 3), (83, .goto (-21), 3)]
theorem e215_80 : am_dec am_M215 q215_80 = true := by decide +kernel
theorem b215_80 {d : Nat} {Q : Option Value ⊕ Nat → am_Mem → Prop} {μ : am_Mem} {r0 : Nat} {x1 x2 x3 x4 x5 : Int32} {o6 o7 o8 : Option Value}
    (k : Wp d 215 (62, [some (.ref r0), some (.int x1), some (.int x2), some (.int (x3 + Int32.ofInt (-1))), some (.int x4), some (.int x5), o6, o7, o8], [], μ) Q) :
    Wp d 215 (80, [some (.ref r0), some (.int x1), some (.int x2), some (.int x3), some (.int x4), some (.int x5), o6, o7, o8], [], μ) Q := wp_blk rfl e215_80 k
def q215_86 : List (Nat × Instr × Nat) := [(86, .iload_n 3, 1), (87, .ifCond .le 20, 3)]
theorem e215_86 : am_dec am_M215 q215_86 = true := by decide +kernel
theorem b215_86 {d : Nat} {Q : Option Value ⊕ Nat → am_Mem → Prop} {μ : am_Mem} {r0 : Nat} {x1 x2 x3 x4 x5 : Int32} {o6 o7 o8 : Option Value}
    (k1 : x3 ≤ 0 → Wp d 215 (107, [some (.ref r0), some (.int x1), some (.int x2), some (.int x3), some (.int x4), some (.int x5), o6, o7, o8], [], μ) Q) (k2 : ¬ (x3 ≤ 0) → Wp d 215 (90, [some (.ref r0), some (.int x1), some (.int x2), some (.int x3), some (.int x4), some (.int x5), o6, o7, o8], [], μ) Q) :
    Wp d 215 (86, [some (.ref r0), some (.int x1), some (.int x2), some (.int x3), some (.int x4), some (.int x5), o6, o7, o8], [], μ) Q := wp_blk rfl e215_86 (And.intro k1 k2)
def q215_90 : List (Nat × Instr × Nat) := [(90, .aload_n 0, 1), (91, .getfield 171, 3), (94, .iload_n 3, 1), (95, .iconst 1, 1), (96, .isub, 1), (97, .iaload, 1), (98, .bipush 40, 2), (100, .if_icmp .ne 7, 3)]
theorem e215_90 : am_dec am_M215 q215_90 = true := by decide +kernel
theorem b215_90 {d : Nat} {Q : Option Value ⊕ Nat → am_Mem → Prop} {μ : am_Mem} {r0 : Nat} {x1 x2 x3 x4 x5 : Int32} {o6 o7 o8 : Option Value}
    (h1 : am_kd μ r0 = (1, 12))
    (h2 : ¬ am_F μ r0 79 = 15)
    (h3 : (am_kd μ (am_F μ r0 79)).1 = 2 ∨ (am_kd μ (am_F μ r0 79)).1 = 8)
    (h4 : ¬ ((x3 - (Int32.ofInt 1)) < 0 ∨ (am_kd μ (am_F μ r0 79)).2 ≤ (x3 - (Int32.ofInt 1)).toNatClampNeg))
    (k1 : ¬ (am_A μ (am_F μ r0 79) (x3 - (Int32.ofInt 1)).toNatClampNeg) = ((Int8.ofInt 40).toInt32) → Wp d 215 (107, [some (.ref r0), some (.int x1), some (.int x2), some (.int x3), some (.int x4), some (.int x5), o6, o7, o8], [], μ) Q) (k2 : ¬ (¬ (am_A μ (am_F μ r0 79) (x3 - (Int32.ofInt 1)).toNatClampNeg) = ((Int8.ofInt 40).toInt32)) → Wp d 215 (103, [some (.ref r0), some (.int x1), some (.int x2), some (.int x3), some (.int x4), some (.int x5), o6, o7, o8], [], μ) Q) :
    Wp d 215 (90, [some (.ref r0), some (.int x1), some (.int x2), some (.int x3), some (.int x4), some (.int x5), o6, o7, o8], [], μ) Q := wp_blk rfl e215_90 (And.intro h1 (And.intro h2 (And.intro h3 (And.intro h4 (And.intro k1 k2)))))
def q215_103 : List (Nat × Instr × Nat) := [(103, .iconst 1, 1), (104, .goto 4, 3)]
theorem e215_103 : am_dec am_M215 q215_103 = true := by decide +kernel
theorem b215_103 {d : Nat} {Q : Option Value ⊕ Nat → am_Mem → Prop} {μ : am_Mem} {r0 : Nat} {x1 x2 x3 x4 x5 : Int32} {o6 o7 o8 : Option Value}
    (k : Wp d 215 (108, [some (.ref r0), some (.int x1), some (.int x2), some (.int x3), some (.int x4), some (.int x5), o6, o7, o8], [.int (Int32.ofInt 1)], μ) Q) :
    Wp d 215 (103, [some (.ref r0), some (.int x1), some (.int x2), some (.int x3), some (.int x4), some (.int x5), o6, o7, o8], [], μ) Q := wp_blk rfl e215_103 k
def q215_107 : List (Nat × Instr × Nat) := [(107, .iconst 0, 1)]
theorem e215_107 : am_dec am_M215 q215_107 = true := by decide +kernel
theorem b215_107 {d : Nat} {Q : Option Value ⊕ Nat → am_Mem → Prop} {μ : am_Mem} {r0 : Nat} {x1 x2 x3 x4 x5 : Int32} {o6 o7 o8 : Option Value}
    (k : Wp d 215 (108, [some (.ref r0), some (.int x1), some (.int x2), some (.int x3), some (.int x4), some (.int x5), o6, o7, o8], [.int (Int32.ofInt 0)], μ) Q) :
    Wp d 215 (107, [some (.ref r0), some (.int x1), some (.int x2), some (.int x3), some (.int x4), some (.int x5), o6, o7, o8], [], μ) Q := wp_blk rfl e215_107 k
def q215_108 : List (Nat × Instr × Nat) := [(108, .istore 6, 2), (110, .iload 6, 2), (112, .ifCond .eq 16, 3)]
theorem e215_108 : am_dec am_M215 q215_108 = true := by decide +kernel
theorem b215_108 {d : Nat} {Q : Option Value ⊕ Nat → am_Mem → Prop} {μ : am_Mem} {r0 : Nat} {x1 x2 x3 x4 x5 s0 : Int32} {o6 o7 o8 : Option Value}
    (k1 : s0 = 0 → Wp d 215 (128, [some (.ref r0), some (.int x1), some (.int x2), some (.int x3), some (.int x4), some (.int x5), some (.int s0), o7, o8], [], μ) Q) (k2 : ¬ (s0 = 0) → Wp d 215 (115, [some (.ref r0), some (.int x1), some (.int x2), some (.int x3), some (.int x4), some (.int x5), some (.int s0), o7, o8], [], μ) Q) :
    Wp d 215 (108, [some (.ref r0), some (.int x1), some (.int x2), some (.int x3), some (.int x4), some (.int x5), o6, o7, o8], [.int s0], μ) Q := wp_blk rfl e215_108 (And.intro k1 k2)
def q215_115 : List (Nat × Instr × Nat) := [(115, .iload_n 1, 1), (116, .aload_n 0, 1), (117, .getfield 141, 3), (120, .iload_n 2, 1), (121, .iconst 1, 1), (122, .isub, 1), (123, .iaload, 1), (124, .isub, 1), (125, .goto 4, 3)]
theorem e215_115 : am_dec am_M215 q215_115 = true := by decide +kernel
theorem b215_115 {d : Nat} {Q : Option Value ⊕ Nat → am_Mem → Prop} {μ : am_Mem} {r0 : Nat} {x1 x2 x3 x4 x5 x6 : Int32} {o7 o8 : Option Value}
    (h1 : am_kd μ r0 = (1, 12))
    (h2 : ¬ am_F μ r0 65 = 15)
    (h3 : (am_kd μ (am_F μ r0 65)).1 = 2 ∨ (am_kd μ (am_F μ r0 65)).1 = 8)
    (h4 : ¬ ((x2 - (Int32.ofInt 1)) < 0 ∨ (am_kd μ (am_F μ r0 65)).2 ≤ (x2 - (Int32.ofInt 1)).toNatClampNeg))
    (k : Wp d 215 (129, [some (.ref r0), some (.int x1), some (.int x2), some (.int x3), some (.int x4), some (.int x5), some (.int x6), o7, o8], [.int (x1 - (am_A μ (am_F μ r0 65) (x2 - (Int32.ofInt 1)).toNatClampNeg))], μ) Q) :
    Wp d 215 (115, [some (.ref r0), some (.int x1), some (.int x2), some (.int x3), some (.int x4), some (.int x5), some (.int x6), o7, o8], [], μ) Q := wp_blk rfl e215_115 (And.intro h1 (And.intro h2 (And.intro h3 (And.intro h4 k))))
def q215_128 : List (Nat × Instr × Nat) := [(128, .iconst 0, 1)]
theorem e215_128 : am_dec am_M215 q215_128 = true := by decide +kernel
theorem b215_128 {d : Nat} {Q : Option Value ⊕ Nat → am_Mem → Prop} {μ : am_Mem} {r0 : Nat} {x1 x2 x3 x4 x5 x6 : Int32} {o7 o8 : Option Value}
    (k : Wp d 215 (129, [some (.ref r0), some (.int x1), some (.int x2), some (.int x3), some (.int x4), some (.int x5), some (.int x6), o7, o8], [.int (Int32.ofInt 0)], μ) Q) :
    Wp d 215 (128, [some (.ref r0), some (.int x1), some (.int x2), some (.int x3), some (.int x4), some (.int x5), some (.int x6), o7, o8], [], μ) Q := wp_blk rfl e215_128 k
def q215_129 : List (Nat × Instr × Nat) := [(129, .istore 7, 2), (131, .iconst 0, 1), (132, .istore 8, 2)]
theorem e215_129 : am_dec am_M215 q215_129 = true := by decide +kernel
theorem b215_129 {d : Nat} {Q : Option Value ⊕ Nat → am_Mem → Prop} {μ : am_Mem} {r0 : Nat} {x1 x2 x3 x4 x5 x6 s0 : Int32} {o7 o8 : Option Value}
    (k : Wp d 215 (134, [some (.ref r0), some (.int x1), some (.int x2), some (.int x3), some (.int x4), some (.int x5), some (.int x6), some (.int s0), some (.int (Int32.ofInt 0))], [], μ) Q) :
    Wp d 215 (129, [some (.ref r0), some (.int x1), some (.int x2), some (.int x3), some (.int x4), some (.int x5), some (.int x6), o7, o8], [.int s0], μ) Q := wp_blk rfl e215_129 k
def q215_134 : List (Nat × Instr × Nat) := [(134, .iload 8, 2), (136, .iload 7, 2), (138, .if_icmp .ge 34, 3)]
theorem e215_134 : am_dec am_M215 q215_134 = true := by decide +kernel
theorem b215_134 {d : Nat} {Q : Option Value ⊕ Nat → am_Mem → Prop} {μ : am_Mem} {r0 : Nat} {x1 x2 x3 x4 x5 x6 x7 x8 : Int32}
    (k1 : x7 ≤ x8 → Wp d 215 (172, [some (.ref r0), some (.int x1), some (.int x2), some (.int x3), some (.int x4), some (.int x5), some (.int x6), some (.int x7), some (.int x8)], [], μ) Q) (k2 : ¬ (x7 ≤ x8) → Wp d 215 (141, [some (.ref r0), some (.int x1), some (.int x2), some (.int x3), some (.int x4), some (.int x5), some (.int x6), some (.int x7), some (.int x8)], [], μ) Q) :
    Wp d 215 (134, [some (.ref r0), some (.int x1), some (.int x2), some (.int x3), some (.int x4), some (.int x5), some (.int x6), some (.int x7), some (.int x8)], [], μ) Q := wp_blk rfl e215_134 (And.intro k1 k2)
def q215_141 : List (Nat × Instr × Nat) := [(141, .aload_n 0, 1), (142, .getfield 92, 3), (145, .iconst 4, 1), (146, .aload_n 0, 1), (147, .getfield 429, 3), (150, .imul, 1), (151, .iload 8, 2), (153, .iadd, 1), (154, .aload_n 0, 1), (155, .getfield 138, 3), (158, .iload_n 1, 1), (159, .iconst 1, 1), (160, .isub, 1), (161, .iload 8, 2), (163, .isub, 1), (164, .iaload, 1), (165, .iastore, 1), (166, .iinc 8 1, 3), (169, .goto (-35), 3)]
theorem e215_141 : am_dec am_M215 q215_141 = true := by decide +kernel
theorem b215_141 {d : Nat} {Q : Option Value ⊕ Nat → am_Mem → Prop} {μ : am_Mem} {r0 : Nat} {x1 x2 x3 x4 x5 x6 x7 x8 : Int32}
    (h1 : am_kd μ r0 = (1, 12))
    (h2 : ¬ am_F μ r0 45 = 15)
    (h3 : am_kd μ r0 = (1, 12))
    (h4 : am_kd μ r0 = (1, 12))
    (h5 : ¬ am_F μ r0 64 = 15)
    (h6 : (am_kd μ (am_F μ r0 64)).1 = 2 ∨ (am_kd μ (am_F μ r0 64)).1 = 8)
    (h7 : ¬ (((x1 - (Int32.ofInt 1)) - x8) < 0 ∨ (am_kd μ (am_F μ r0 64)).2 ≤ ((x1 - (Int32.ofInt 1)) - x8).toNatClampNeg))
    (h8 : (am_kd μ (am_F μ r0 45)).1 = 2)
    (h9 : ¬ ((((Int32.ofInt 4) * (am_A μ r0 42)) + x8) < 0 ∨ (am_kd μ (am_F μ r0 45)).2 ≤ (((Int32.ofInt 4) * (am_A μ r0 42)) + x8).toNatClampNeg))
    (k : Wp d 215 (134, [some (.ref r0), some (.int x1), some (.int x2), some (.int x3), some (.int x4), some (.int x5), some (.int x6), some (.int x7), some (.int (x8 + Int32.ofInt 1))], [], (am_pA μ (am_F μ r0 45) (((Int32.ofInt 4) * (am_A μ r0 42)) + x8).toNatClampNeg (am_A μ (am_F μ r0 64) ((x1 - (Int32.ofInt 1)) - x8).toNatClampNeg))) Q) :
    Wp d 215 (141, [some (.ref r0), some (.int x1), some (.int x2), some (.int x3), some (.int x4), some (.int x5), some (.int x6), some (.int x7), some (.int x8)], [], μ) Q := wp_blk rfl e215_141 (And.intro h1 (And.intro h2 (And.intro h3 (And.intro h4 (And.intro h5 (And.intro h6 (And.intro h7 (And.intro h8 (And.intro h9 k)))))))))
def q215_172 : List (Nat × Instr × Nat) := [(172, .iload_n 1, 1), (173, .iload 7, 2), (175, .isub, 1), (176, .istore_n 1, 1), (177, .aload_n 0, 1), (178, .getfield 138, 3), (181, .iload_n 1, 1), (182, .aload_n 0, 1), (183, .aload_n 0, 1), (184, .iload_n 3, 1), (185, .iload 5, 2)]
theorem e215_172 : am_dec am_M215 q215_172 = true := by decide +kernel
theorem e215_172_c : am_dc1 am_M215 187 (.invokevirtual 525) 3 = true := by decide +kernel
theorem b215_172 {d : Nat} {Q : Option Value ⊕ Nat → am_Mem → Prop} {μ : am_Mem} {r0 : Nat} {x1 x2 x3 x4 x5 x6 x7 x8 : Int32} {P : Int32 → am_Mem → Prop} {X : Nat → am_Mem → Prop}
    (h1 : am_kd μ r0 = (1, 12))
    (h2 : ¬ am_F μ r0 64 = 15)
    (hk : am_kd μ r0 = (1, 12))
    (hc : Wp d 216 (0, [some (.ref r0), some (.int x3), some (.int x5), none, none, none], [], μ) (pI P X)) (hr : ∀ x μ', P x μ' → Wp (d + 1) 215 (190, [some (.ref r0), some (.int (x1 - x7)), some (.int x2), some (.int x3), some (.int x4), some (.int x5), some (.int x6), some (.int x7), some (.int x8)], [.int x, .ref r0, .int (x1 - x7), .ref (am_F μ r0 64)], (μ')) Q)
    (hx : ∀ x μ', X x μ' → Q (.inr x) μ') :
    Wp (d + 1) 215 (172, [some (.ref r0), some (.int x1), some (.int x2), some (.int x3), some (.int x4), some (.int x5), some (.int x6), some (.int x7), some (.int x8)], [], μ) Q := wp_blk rfl e215_172 (And.intro h1 (And.intro h2 (wp_cv (as := [.int x3, .int x5]) rfl e215_172_c rfl rfl rfl rfl rfl hk hc (fun v μ' hv => by obtain ⟨x, rfl, hp⟩ := pI_r hv; exact hr x μ' hp) hx)))
def q215_190 : List (Nat × Instr × Nat) := [(190, .iload 7, 2), (192, .iconst 1, 1)]
theorem e215_190 : am_dec am_M215 q215_190 = true := by decide +kernel
theorem e215_190_c : am_dc1 am_M215 193 (.invokevirtual 440) 3 = true := by decide +kernel
theorem b215_190 {d : Nat} {Q : Option Value ⊕ Nat → am_Mem → Prop} {μ : am_Mem} {r0 r90 r92 : Nat} {x1 x2 x3 x4 x5 x6 x7 x8 s1 s3 : Int32} {P : Int32 → am_Mem → Prop} {X : Nat → am_Mem → Prop}
    (hk : am_kd μ r92 = (1, 12))
    (hc : Wp d 205 (0, [some (.ref r92), some (.int s3), some (.int x7), some (.int (Int32.ofInt 1)), none, none, none, none], [], μ) (pI P X)) (hr : ∀ x μ', P x μ' → Wp (d + 1) 215 (196, [some (.ref r0), some (.int x1), some (.int x2), some (.int x3), some (.int x4), some (.int x5), some (.int x6), some (.int x7), some (.int x8)], [.int x, .int s1, .ref r90], (μ')) Q)
    (hx : ∀ x μ', X x μ' → Q (.inr x) μ') :
    Wp (d + 1) 215 (190, [some (.ref r0), some (.int x1), some (.int x2), some (.int x3), some (.int x4), some (.int x5), some (.int x6), some (.int x7), some (.int x8)], [.int s3, .ref r92, .int s1, .ref r90], μ) Q := wp_blk rfl e215_190 (wp_cv (as := [.int s3, .int x7, .int (Int32.ofInt 1)]) rfl e215_190_c rfl rfl rfl rfl rfl hk hc (fun v μ' hv => by obtain ⟨x, rfl, hp⟩ := pI_r hv; exact hr x μ' hp) hx)
def q215_196 : List (Nat × Instr × Nat) := [(196, .iastore, 1), (197, .iinc 1 1, 3), (200, .iload 6, 2), (202, .ifCond .eq 9, 3)]
theorem e215_196 : am_dec am_M215 q215_196 = true := by decide +kernel
theorem b215_196 {d : Nat} {Q : Option Value ⊕ Nat → am_Mem → Prop} {μ : am_Mem} {r0 r90 : Nat} {x1 x2 x3 x4 x5 x6 x7 x8 s1 s2 : Int32}
    (h1 : (am_kd μ r90).1 = 2)
    (h2 : ¬ (s1 < 0 ∨ (am_kd μ r90).2 ≤ s1.toNatClampNeg))
    (k1 : x6 = 0 → Wp d 215 (211, [some (.ref r0), some (.int (x1 + Int32.ofInt 1)), some (.int x2), some (.int x3), some (.int x4), some (.int x5), some (.int x6), some (.int x7), some (.int x8)], [], (am_pA μ r90 s1.toNatClampNeg s2)) Q) (k2 : ¬ (x6 = 0) → Wp d 215 (205, [some (.ref r0), some (.int (x1 + Int32.ofInt 1)), some (.int x2), some (.int x3), some (.int x4), some (.int x5), some (.int x6), some (.int x7), some (.int x8)], [], (am_pA μ r90 s1.toNatClampNeg s2)) Q) :
    Wp d 215 (196, [some (.ref r0), some (.int x1), some (.int x2), some (.int x3), some (.int x4), some (.int x5), some (.int x6), some (.int x7), some (.int x8)], [.int s2, .int s1, .ref r90], μ) Q := wp_blk rfl e215_196 (And.intro h1 (And.intro h2 (And.intro k1 k2)))
def q215_205 : List (Nat × Instr × Nat) := [(205, .iload_n 2, 1), (206, .iconst 1, 1), (207, .isub, 1), (208, .goto 4, 3)]
theorem e215_205 : am_dec am_M215 q215_205 = true := by decide +kernel
theorem b215_205 {d : Nat} {Q : Option Value ⊕ Nat → am_Mem → Prop} {μ : am_Mem} {r0 : Nat} {x1 x2 x3 x4 x5 x6 x7 x8 : Int32}
    (k : Wp d 215 (212, [some (.ref r0), some (.int x1), some (.int x2), some (.int x3), some (.int x4), some (.int x5), some (.int x6), some (.int x7), some (.int x8)], [.int (x2 - (Int32.ofInt 1))], μ) Q) :
    Wp d 215 (205, [some (.ref r0), some (.int x1), some (.int x2), some (.int x3), some (.int x4), some (.int x5), some (.int x6), some (.int x7), some (.int x8)], [], μ) Q := wp_blk rfl e215_205 k
def q215_211 : List (Nat × Instr × Nat) := [(211, .iload_n 2, 1)]
theorem e215_211 : am_dec am_M215 q215_211 = true := by decide +kernel
theorem b215_211 {d : Nat} {Q : Option Value ⊕ Nat → am_Mem → Prop} {μ : am_Mem} {r0 : Nat} {x1 x2 x3 x4 x5 x6 x7 x8 : Int32}
    (k : Wp d 215 (212, [some (.ref r0), some (.int x1), some (.int x2), some (.int x3), some (.int x4), some (.int x5), some (.int x6), some (.int x7), some (.int x8)], [.int x2], μ) Q) :
    Wp d 215 (211, [some (.ref r0), some (.int x1), some (.int x2), some (.int x3), some (.int x4), some (.int x5), some (.int x6), some (.int x7), some (.int x8)], [], μ) Q := wp_blk rfl e215_211 k
def q215_212 : List (Nat × Instr × Nat) := [(212, .istore_n 2, 1), (213, .iload 6, 2), (215, .ifCond .eq 9, 3)]
theorem e215_212 : am_dec am_M215 q215_212 = true := by decide +kernel
theorem b215_212 {d : Nat} {Q : Option Value ⊕ Nat → am_Mem → Prop} {μ : am_Mem} {r0 : Nat} {x1 x2 x3 x4 x5 x6 x7 x8 s0 : Int32}
    (k1 : x6 = 0 → Wp d 215 (224, [some (.ref r0), some (.int x1), some (.int s0), some (.int x3), some (.int x4), some (.int x5), some (.int x6), some (.int x7), some (.int x8)], [], μ) Q) (k2 : ¬ (x6 = 0) → Wp d 215 (218, [some (.ref r0), some (.int x1), some (.int s0), some (.int x3), some (.int x4), some (.int x5), some (.int x6), some (.int x7), some (.int x8)], [], μ) Q) :
    Wp d 215 (212, [some (.ref r0), some (.int x1), some (.int x2), some (.int x3), some (.int x4), some (.int x5), some (.int x6), some (.int x7), some (.int x8)], [.int s0], μ) Q := wp_blk rfl e215_212 (And.intro k1 k2)
def q215_218 : List (Nat × Instr × Nat) := [(218, .iload_n 3, 1), (219, .iconst 1, 1), (220, .isub, 1), (221, .goto 4, 3)]
theorem e215_218 : am_dec am_M215 q215_218 = true := by decide +kernel
theorem b215_218 {d : Nat} {Q : Option Value ⊕ Nat → am_Mem → Prop} {μ : am_Mem} {r0 : Nat} {x1 x2 x3 x4 x5 x6 x7 x8 : Int32}
    (k : Wp d 215 (225, [some (.ref r0), some (.int x1), some (.int x2), some (.int x3), some (.int x4), some (.int x5), some (.int x6), some (.int x7), some (.int x8)], [.int (x3 - (Int32.ofInt 1))], μ) Q) :
    Wp d 215 (218, [some (.ref r0), some (.int x1), some (.int x2), some (.int x3), some (.int x4), some (.int x5), some (.int x6), some (.int x7), some (.int x8)], [], μ) Q := wp_blk rfl e215_218 k
def q215_224 : List (Nat × Instr × Nat) := [(224, .iload_n 3, 1)]
theorem e215_224 : am_dec am_M215 q215_224 = true := by decide +kernel
theorem b215_224 {d : Nat} {Q : Option Value ⊕ Nat → am_Mem → Prop} {μ : am_Mem} {r0 : Nat} {x1 x2 x3 x4 x5 x6 x7 x8 : Int32}
    (k : Wp d 215 (225, [some (.ref r0), some (.int x1), some (.int x2), some (.int x3), some (.int x4), some (.int x5), some (.int x6), some (.int x7), some (.int x8)], [.int x3], μ) Q) :
    Wp d 215 (224, [some (.ref r0), some (.int x1), some (.int x2), some (.int x3), some (.int x4), some (.int x5), some (.int x6), some (.int x7), some (.int x8)], [], μ) Q := wp_blk rfl e215_224 k
def q215_225 : List (Nat × Instr × Nat) := [(225, .istore_n 3, 1)]
theorem e215_225 : am_dec am_M215 q215_225 = true := by decide +kernel
theorem b215_225 {d : Nat} {Q : Option Value ⊕ Nat → am_Mem → Prop} {μ : am_Mem} {r0 : Nat} {x1 x2 x3 x4 x5 x6 x7 x8 s0 : Int32}
    (k : Wp d 215 (226, [some (.ref r0), some (.int x1), some (.int x2), some (.int s0), some (.int x4), some (.int x5), some (.int x6), some (.int x7), some (.int x8)], [], μ) Q) :
    Wp d 215 (225, [some (.ref r0), some (.int x1), some (.int x2), some (.int x3), some (.int x4), some (.int x5), some (.int x6), some (.int x7), some (.int x8)], [.int s0], μ) Q := wp_blk rfl e215_225 k
def q215_226 : List (Nat × Instr × Nat) := [(226, .goto (-217), 3)]
theorem e215_226 : am_dec am_M215 q215_226 = true := by decide +kernel
theorem b215_226 {d : Nat} {Q : Option Value ⊕ Nat → am_Mem → Prop} {μ : am_Mem} {r0 : Nat} {x1 x2 x3 x4 : Int32} {o5 o6 o7 o8 : Option Value}
    (k : Wp d 215 (9, [some (.ref r0), some (.int x1), some (.int x2), some (.int x3), some (.int x4), o5, o6, o7, o8], [], μ) Q) :
    Wp d 215 (226, [some (.ref r0), some (.int x1), some (.int x2), some (.int x3), some (.int x4), o5, o6, o7, o8], [], μ) Q := wp_blk rfl e215_226 k
def q215_229 : List (Nat × Instr × Nat) := [(229, .aload_n 0, 1), (230, .getfield 138, 3), (233, .iconst 0, 1), (234, .iaload, 1)]
theorem e215_229 : am_dec am_M215 q215_229 = true := by decide +kernel
theorem e215_229_r : am_dec am_M215 [(235, .ireturn, 1)] = true := by decide +kernel
theorem b215_229 {d : Nat} {Q : Option Value ⊕ Nat → am_Mem → Prop} {μ : am_Mem} {r0 : Nat} {x1 x2 x3 : Int32} {o4 o5 o6 o7 o8 : Option Value}
    (h1 : am_kd μ r0 = (1, 12))
    (h2 : ¬ am_F μ r0 64 = 15)
    (h3 : (am_kd μ (am_F μ r0 64)).1 = 2 ∨ (am_kd μ (am_F μ r0 64)).1 = 8)
    (h4 : ¬ ((Int32.ofInt 0) < 0 ∨ (am_kd μ (am_F μ r0 64)).2 ≤ (Int32.ofInt 0).toNatClampNeg))
    (k : Q (.inl (some (.int (am_A μ (am_F μ r0 64) (Int32.ofInt 0).toNatClampNeg)))) μ) :
    Wp d 215 (229, [some (.ref r0), some (.int x1), some (.int x2), some (.int x3), o4, o5, o6, o7, o8], [], μ) Q := wp_blk rfl e215_229 (And.intro h1 (And.intro h2 (And.intro h3 (And.intro h4 (wp_ri (ty := .int) rfl e215_229_r rfl ⟨rfl, rfl⟩ k)))))
/-! RuleSheetsModel.nameInRow(II)I -/
def q216_0 : List (Nat × Instr × Nat) := [(0, .iconst 0, 1), (1, .istore_n 3, 1)]
theorem e216_0 : am_dec am_M216 q216_0 = true := by decide +kernel
theorem b216_0 {d : Nat} {Q : Option Value ⊕ Nat → am_Mem → Prop} {μ : am_Mem} {r0 : Nat} {x1 x2 : Int32}
    (k : Wp d 216 (2, [some (.ref r0), some (.int x1), some (.int x2), some (.int (Int32.ofInt 0)), none, none], [], μ) Q) :
    Wp d 216 (0, [some (.ref r0), some (.int x1), some (.int x2), none, none, none], [], μ) Q := wp_blk rfl e216_0 k
def q216_2 : List (Nat × Instr × Nat) := [(2, .iload_n 3, 1), (3, .aload_n 0, 1), (4, .getfield 253, 3), (7, .if_icmp .ge 88, 3)]
theorem e216_2 : am_dec am_M216 q216_2 = true := by decide +kernel
theorem b216_2 {d : Nat} {Q : Option Value ⊕ Nat → am_Mem → Prop} {μ : am_Mem} {r0 : Nat} {x1 x2 x3 : Int32} {o4 o5 : Option Value}
    (h1 : am_kd μ r0 = (1, 12))
    (k1 : (am_A μ r0 9) ≤ x3 → Wp d 216 (95, [some (.ref r0), some (.int x1), some (.int x2), some (.int x3), o4, o5], [], μ) Q) (k2 : ¬ ((am_A μ r0 9) ≤ x3) → Wp d 216 (10, [some (.ref r0), some (.int x1), some (.int x2), some (.int x3), o4, o5], [], μ) Q) :
    Wp d 216 (2, [some (.ref r0), some (.int x1), some (.int x2), some (.int x3), o4, o5], [], μ) Q := wp_blk rfl e216_2 (And.intro h1 (And.intro k1 k2))
def q216_10 : List (Nat × Instr × Nat) := [(10, .aload_n 0, 1), (11, .getfield 26, 3), (14, .iload_n 3, 1), (15, .iaload, 1), (16, .iload_n 2, 1), (17, .iload_n 1, 1), (18, .isub, 1), (19, .if_icmp .ne 7, 3)]
theorem e216_10 : am_dec am_M216 q216_10 = true := by decide +kernel
theorem b216_10 {d : Nat} {Q : Option Value ⊕ Nat → am_Mem → Prop} {μ : am_Mem} {r0 : Nat} {x1 x2 x3 : Int32} {o4 o5 : Option Value}
    (h1 : am_kd μ r0 = (1, 12))
    (h2 : ¬ am_F μ r0 11 = 15)
    (h3 : (am_kd μ (am_F μ r0 11)).1 = 2 ∨ (am_kd μ (am_F μ r0 11)).1 = 8)
    (h4 : ¬ (x3 < 0 ∨ (am_kd μ (am_F μ r0 11)).2 ≤ x3.toNatClampNeg))
    (k1 : ¬ (am_A μ (am_F μ r0 11) x3.toNatClampNeg) = (x2 - x1) → Wp d 216 (26, [some (.ref r0), some (.int x1), some (.int x2), some (.int x3), o4, o5], [], μ) Q) (k2 : ¬ (¬ (am_A μ (am_F μ r0 11) x3.toNatClampNeg) = (x2 - x1)) → Wp d 216 (22, [some (.ref r0), some (.int x1), some (.int x2), some (.int x3), o4, o5], [], μ) Q) :
    Wp d 216 (10, [some (.ref r0), some (.int x1), some (.int x2), some (.int x3), o4, o5], [], μ) Q := wp_blk rfl e216_10 (And.intro h1 (And.intro h2 (And.intro h3 (And.intro h4 (And.intro k1 k2)))))
def q216_22 : List (Nat × Instr × Nat) := [(22, .iconst 1, 1), (23, .goto 4, 3)]
theorem e216_22 : am_dec am_M216 q216_22 = true := by decide +kernel
theorem b216_22 {d : Nat} {Q : Option Value ⊕ Nat → am_Mem → Prop} {μ : am_Mem} {r0 : Nat} {x1 x2 x3 : Int32} {o4 o5 : Option Value}
    (k : Wp d 216 (27, [some (.ref r0), some (.int x1), some (.int x2), some (.int x3), o4, o5], [.int (Int32.ofInt 1)], μ) Q) :
    Wp d 216 (22, [some (.ref r0), some (.int x1), some (.int x2), some (.int x3), o4, o5], [], μ) Q := wp_blk rfl e216_22 k
def q216_26 : List (Nat × Instr × Nat) := [(26, .iconst 0, 1)]
theorem e216_26 : am_dec am_M216 q216_26 = true := by decide +kernel
theorem b216_26 {d : Nat} {Q : Option Value ⊕ Nat → am_Mem → Prop} {μ : am_Mem} {r0 : Nat} {x1 x2 x3 : Int32} {o4 o5 : Option Value}
    (k : Wp d 216 (27, [some (.ref r0), some (.int x1), some (.int x2), some (.int x3), o4, o5], [.int (Int32.ofInt 0)], μ) Q) :
    Wp d 216 (26, [some (.ref r0), some (.int x1), some (.int x2), some (.int x3), o4, o5], [], μ) Q := wp_blk rfl e216_26 k
def q216_27 : List (Nat × Instr × Nat) := [(27, .istore 4, 2), (29, .iconst 0, 1), (30, .istore 5, 2)]
theorem e216_27 : am_dec am_M216 q216_27 = true := by decide +kernel
theorem b216_27 {d : Nat} {Q : Option Value ⊕ Nat → am_Mem → Prop} {μ : am_Mem} {r0 : Nat} {x1 x2 x3 s0 : Int32} {o4 o5 : Option Value}
    (k : Wp d 216 (32, [some (.ref r0), some (.int x1), some (.int x2), some (.int x3), some (.int s0), some (.int (Int32.ofInt 0))], [], μ) Q) :
    Wp d 216 (27, [some (.ref r0), some (.int x1), some (.int x2), some (.int x3), o4, o5], [.int s0], μ) Q := wp_blk rfl e216_27 k
def q216_32 : List (Nat × Instr × Nat) := [(32, .iload 5, 2), (34, .iload_n 2, 1), (35, .iload_n 1, 1), (36, .isub, 1), (37, .if_icmp .ge 45, 3)]
theorem e216_32 : am_dec am_M216 q216_32 = true := by decide +kernel
theorem b216_32 {d : Nat} {Q : Option Value ⊕ Nat → am_Mem → Prop} {μ : am_Mem} {r0 : Nat} {x1 x2 x3 x4 x5 : Int32}
    (k1 : (x2 - x1) ≤ x5 → Wp d 216 (82, [some (.ref r0), some (.int x1), some (.int x2), some (.int x3), some (.int x4), some (.int x5)], [], μ) Q) (k2 : ¬ ((x2 - x1) ≤ x5) → Wp d 216 (40, [some (.ref r0), some (.int x1), some (.int x2), some (.int x3), some (.int x4), some (.int x5)], [], μ) Q) :
    Wp d 216 (32, [some (.ref r0), some (.int x1), some (.int x2), some (.int x3), some (.int x4), some (.int x5)], [], μ) Q := wp_blk rfl e216_32 (And.intro k1 k2)
def q216_40 : List (Nat × Instr × Nat) := [(40, .iload 4, 2), (42, .ifCond .eq 40, 3)]
theorem e216_40 : am_dec am_M216 q216_40 = true := by decide +kernel
theorem b216_40 {d : Nat} {Q : Option Value ⊕ Nat → am_Mem → Prop} {μ : am_Mem} {r0 : Nat} {x1 x2 x3 x4 x5 : Int32}
    (k1 : x4 = 0 → Wp d 216 (82, [some (.ref r0), some (.int x1), some (.int x2), some (.int x3), some (.int x4), some (.int x5)], [], μ) Q) (k2 : ¬ (x4 = 0) → Wp d 216 (45, [some (.ref r0), some (.int x1), some (.int x2), some (.int x3), some (.int x4), some (.int x5)], [], μ) Q) :
    Wp d 216 (40, [some (.ref r0), some (.int x1), some (.int x2), some (.int x3), some (.int x4), some (.int x5)], [], μ) Q := wp_blk rfl e216_40 (And.intro k1 k2)
def q216_45 : List (Nat × Instr × Nat) := [(45, .aload_n 0, 1), (46, .getfield 23, 3), (49, .bipush 16, 2), (51, .iload_n 3, 1), (52, .imul, 1), (53, .iload 5, 2), (55, .iadd, 1), (56, .iaload, 1), (57, .aload_n 0, 1), (58, .getfield 171, 3), (61, .iload_n 1, 1), (62, .iload 5, 2), (64, .iadd, 1), (65, .iaload, 1), (66, .if_icmp .ne 7, 3)]
theorem e216_45 : am_dec am_M216 q216_45 = true := by decide +kernel
theorem b216_45 {d : Nat} {Q : Option Value ⊕ Nat → am_Mem → Prop} {μ : am_Mem} {r0 : Nat} {x1 x2 x3 x4 x5 : Int32}
    (h1 : am_kd μ r0 = (1, 12))
    (h2 : ¬ am_F μ r0 10 = 15)
    (h3 : (am_kd μ (am_F μ r0 10)).1 = 2 ∨ (am_kd μ (am_F μ r0 10)).1 = 8)
    (h4 : ¬ (((((Int8.ofInt 16).toInt32) * x3) + x5) < 0 ∨ (am_kd μ (am_F μ r0 10)).2 ≤ ((((Int8.ofInt 16).toInt32) * x3) + x5).toNatClampNeg))
    (h5 : am_kd μ r0 = (1, 12))
    (h6 : ¬ am_F μ r0 79 = 15)
    (h7 : (am_kd μ (am_F μ r0 79)).1 = 2 ∨ (am_kd μ (am_F μ r0 79)).1 = 8)
    (h8 : ¬ ((x1 + x5) < 0 ∨ (am_kd μ (am_F μ r0 79)).2 ≤ (x1 + x5).toNatClampNeg))
    (k1 : ¬ (am_A μ (am_F μ r0 10) ((((Int8.ofInt 16).toInt32) * x3) + x5).toNatClampNeg) = (am_A μ (am_F μ r0 79) (x1 + x5).toNatClampNeg) → Wp d 216 (73, [some (.ref r0), some (.int x1), some (.int x2), some (.int x3), some (.int x4), some (.int x5)], [], μ) Q) (k2 : ¬ (¬ (am_A μ (am_F μ r0 10) ((((Int8.ofInt 16).toInt32) * x3) + x5).toNatClampNeg) = (am_A μ (am_F μ r0 79) (x1 + x5).toNatClampNeg)) → Wp d 216 (69, [some (.ref r0), some (.int x1), some (.int x2), some (.int x3), some (.int x4), some (.int x5)], [], μ) Q) :
    Wp d 216 (45, [some (.ref r0), some (.int x1), some (.int x2), some (.int x3), some (.int x4), some (.int x5)], [], μ) Q := wp_blk rfl e216_45 (And.intro h1 (And.intro h2 (And.intro h3 (And.intro h4 (And.intro h5 (And.intro h6 (And.intro h7 (And.intro h8 (And.intro k1 k2)))))))))
def q216_69 : List (Nat × Instr × Nat) := [(69, .iconst 1, 1), (70, .goto 4, 3)]
theorem e216_69 : am_dec am_M216 q216_69 = true := by decide +kernel
theorem b216_69 {d : Nat} {Q : Option Value ⊕ Nat → am_Mem → Prop} {μ : am_Mem} {r0 : Nat} {x1 x2 x3 x4 x5 : Int32}
    (k : Wp d 216 (74, [some (.ref r0), some (.int x1), some (.int x2), some (.int x3), some (.int x4), some (.int x5)], [.int (Int32.ofInt 1)], μ) Q) :
    Wp d 216 (69, [some (.ref r0), some (.int x1), some (.int x2), some (.int x3), some (.int x4), some (.int x5)], [], μ) Q := wp_blk rfl e216_69 k
def q216_73 : List (Nat × Instr × Nat) := [(73, .iconst 0, 1)]
theorem e216_73 : am_dec am_M216 q216_73 = true := by decide +kernel
theorem b216_73 {d : Nat} {Q : Option Value ⊕ Nat → am_Mem → Prop} {μ : am_Mem} {r0 : Nat} {x1 x2 x3 x4 x5 : Int32}
    (k : Wp d 216 (74, [some (.ref r0), some (.int x1), some (.int x2), some (.int x3), some (.int x4), some (.int x5)], [.int (Int32.ofInt 0)], μ) Q) :
    Wp d 216 (73, [some (.ref r0), some (.int x1), some (.int x2), some (.int x3), some (.int x4), some (.int x5)], [], μ) Q := wp_blk rfl e216_73 k
def q216_74 : List (Nat × Instr × Nat) := [(74, .istore 4, 2), (76, .iinc 5 1, 3), (79, .goto (-47), 3)]
theorem e216_74 : am_dec am_M216 q216_74 = true := by decide +kernel
theorem b216_74 {d : Nat} {Q : Option Value ⊕ Nat → am_Mem → Prop} {μ : am_Mem} {r0 : Nat} {x1 x2 x3 x4 x5 s0 : Int32}
    (k : Wp d 216 (32, [some (.ref r0), some (.int x1), some (.int x2), some (.int x3), some (.int s0), some (.int (x5 + Int32.ofInt 1))], [], μ) Q) :
    Wp d 216 (74, [some (.ref r0), some (.int x1), some (.int x2), some (.int x3), some (.int x4), some (.int x5)], [.int s0], μ) Q := wp_blk rfl e216_74 k
def q216_82 : List (Nat × Instr × Nat) := [(82, .iload 4, 2), (84, .ifCond .eq 5, 3)]
theorem e216_82 : am_dec am_M216 q216_82 = true := by decide +kernel
theorem b216_82 {d : Nat} {Q : Option Value ⊕ Nat → am_Mem → Prop} {μ : am_Mem} {r0 : Nat} {x1 x2 x3 x4 x5 : Int32}
    (k1 : x4 = 0 → Wp d 216 (89, [some (.ref r0), some (.int x1), some (.int x2), some (.int x3), some (.int x4), some (.int x5)], [], μ) Q) (k2 : ¬ (x4 = 0) → Wp d 216 (87, [some (.ref r0), some (.int x1), some (.int x2), some (.int x3), some (.int x4), some (.int x5)], [], μ) Q) :
    Wp d 216 (82, [some (.ref r0), some (.int x1), some (.int x2), some (.int x3), some (.int x4), some (.int x5)], [], μ) Q := wp_blk rfl e216_82 (And.intro k1 k2)
def q216_87 : List (Nat × Instr × Nat) := [(87, .iload_n 3, 1)]
theorem e216_87 : am_dec am_M216 q216_87 = true := by decide +kernel
theorem e216_87_r : am_dec am_M216 [(88, .ireturn, 1)] = true := by decide +kernel
theorem b216_87 {d : Nat} {Q : Option Value ⊕ Nat → am_Mem → Prop} {μ : am_Mem} {r0 : Nat} {x1 x2 x3 x4 x5 : Int32}
    (k : Q (.inl (some (.int x3))) μ) :
    Wp d 216 (87, [some (.ref r0), some (.int x1), some (.int x2), some (.int x3), some (.int x4), some (.int x5)], [], μ) Q := wp_blk rfl e216_87 (wp_ri (ty := .int) rfl e216_87_r rfl ⟨rfl, rfl⟩ k)
def q216_89 : List (Nat × Instr × Nat) := [(89, .iinc 3 1, 3), (92, .goto (-90), 3)]
theorem e216_89 : am_dec am_M216 q216_89 = true := by decide +kernel
theorem b216_89 {d : Nat} {Q : Option Value ⊕ Nat → am_Mem → Prop} {μ : am_Mem} {r0 : Nat} {x1 x2 x3 x4 x5 : Int32}
    (k : Wp d 216 (2, [some (.ref r0), some (.int x1), some (.int x2), some (.int (x3 + Int32.ofInt 1)), some (.int x4), some (.int x5)], [], μ) Q) :
    Wp d 216 (89, [some (.ref r0), some (.int x1), some (.int x2), some (.int x3), some (.int x4), some (.int x5)], [], μ) Q := wp_blk rfl e216_89 k
def q216_95 : List (Nat × Instr × Nat) := [(95, .iconst (-1), 1)]
theorem e216_95 : am_dec am_M216 q216_95 = true := by decide +kernel
theorem e216_95_r : am_dec am_M216 [(96, .ireturn, 1)] = true := by decide +kernel
theorem b216_95 {d : Nat} {Q : Option Value ⊕ Nat → am_Mem → Prop} {μ : am_Mem} {r0 : Nat} {x1 x2 x3 : Int32} {o4 o5 : Option Value}
    (k : Q (.inl (some (.int (Int32.ofInt (-1))))) μ) :
    Wp d 216 (95, [some (.ref r0), some (.int x1), some (.int x2), some (.int x3), o4, o5], [], μ) Q := wp_blk rfl e216_95 (wp_ri (ty := .int) rfl e216_95_r rfl ⟨rfl, rfl⟩ k)
/-! RuleSheetsModel.hold(II)Z -/
def q217_0 : List (Nat × Instr × Nat) := [(0, .aload_n 0, 1), (1, .iload_n 1, 1), (2, .iload_n 2, 1)]
theorem e217_0 : am_dec am_M217 q217_0 = true := by decide +kernel
theorem e217_0_c : am_dc1 am_M217 3 (.invokevirtual 450) 3 = true := by decide +kernel
theorem b217_0 {d : Nat} {Q : Option Value ⊕ Nat → am_Mem → Prop} {μ : am_Mem} {r0 : Nat} {x1 x2 : Int32} {P : Int32 → am_Mem → Prop} {X : Nat → am_Mem → Prop}
    (hk : am_kd μ r0 = (1, 12))
    (hc : Wp d 218 (0, [some (.ref r0), some (.int x1), some (.int x2), none, none, none, none], [], μ) (pI P X)) (hr : ∀ x μ', P x μ' → Wp (d + 1) 217 (6, [some (.ref r0), some (.int x1), some (.int x2), none, none], [.int x], (μ')) Q)
    (hx : ∀ x μ', X x μ' → Q (.inr x) μ') :
    Wp (d + 1) 217 (0, [some (.ref r0), some (.int x1), some (.int x2), none, none], [], μ) Q := wp_blk rfl e217_0 (wp_cv (as := [.int x1, .int x2]) rfl e217_0_c rfl rfl rfl rfl rfl hk hc (fun v μ' hv => by obtain ⟨x, rfl, hp⟩ := pI_r hv; exact hr x μ' hp) hx)
def q217_6 : List (Nat × Instr × Nat) := [(6, .istore_n 3, 1), (7, .iload_n 3, 1), (8, .ifCond .lt 5, 3)]
theorem e217_6 : am_dec am_M217 q217_6 = true := by decide +kernel
theorem b217_6 {d : Nat} {Q : Option Value ⊕ Nat → am_Mem → Prop} {μ : am_Mem} {r0 : Nat} {x1 x2 s0 : Int32}
    (k1 : s0 < 0 → Wp d 217 (13, [some (.ref r0), some (.int x1), some (.int x2), some (.int s0), none], [], μ) Q) (k2 : ¬ (s0 < 0) → Wp d 217 (11, [some (.ref r0), some (.int x1), some (.int x2), some (.int s0), none], [], μ) Q) :
    Wp d 217 (6, [some (.ref r0), some (.int x1), some (.int x2), none, none], [.int s0], μ) Q := wp_blk rfl e217_6 (And.intro k1 k2)
def q217_11 : List (Nat × Instr × Nat) := [(11, .iconst 0, 1)]
theorem e217_11 : am_dec am_M217 q217_11 = true := by decide +kernel
theorem e217_11_r : am_dec am_M217 [(12, .ireturn, 1)] = true := by decide +kernel
theorem b217_11 {d : Nat} {Q : Option Value ⊕ Nat → am_Mem → Prop} {μ : am_Mem} {r0 : Nat} {x1 x2 x3 : Int32}
    (k : Q (.inl (some (.int (Int32.ofInt 0)))) μ) :
    Wp d 217 (11, [some (.ref r0), some (.int x1), some (.int x2), some (.int x3), none], [], μ) Q := wp_blk rfl e217_11 (wp_ri (ty := .boolean) rfl e217_11_r rfl (by decide) k)
def q217_13 : List (Nat × Instr × Nat) := [(13, .aload_n 0, 1), (14, .getfield 453, 3), (17, .sipush 1000, 3), (20, .if_icmp .ne 10, 3)]
theorem e217_13 : am_dec am_M217 q217_13 = true := by decide +kernel
theorem b217_13 {d : Nat} {Q : Option Value ⊕ Nat → am_Mem → Prop} {μ : am_Mem} {r0 : Nat} {x1 x2 x3 : Int32}
    (h1 : am_kd μ r0 = (1, 12))
    (k1 : ¬ (am_A μ r0 48) = ((Int16.ofInt 1000).toInt32) → Wp d 217 (30, [some (.ref r0), some (.int x1), some (.int x2), some (.int x3), none], [], μ) Q) (k2 : ¬ (¬ (am_A μ r0 48) = ((Int16.ofInt 1000).toInt32)) → Wp d 217 (23, [some (.ref r0), some (.int x1), some (.int x2), some (.int x3), none], [], μ) Q) :
    Wp d 217 (13, [some (.ref r0), some (.int x1), some (.int x2), some (.int x3), none], [], μ) Q := wp_blk rfl e217_13 (And.intro h1 (And.intro k1 k2))
def q217_23 : List (Nat × Instr × Nat) := [(23, .aload_n 0, 1), (24, .iconst 1, 1), (25, .putfield 456, 3), (28, .iconst 0, 1)]
theorem e217_23 : am_dec am_M217 q217_23 = true := by decide +kernel
theorem e217_23_r : am_dec am_M217 [(29, .ireturn, 1)] = true := by decide +kernel
theorem b217_23 {d : Nat} {Q : Option Value ⊕ Nat → am_Mem → Prop} {μ : am_Mem} {r0 : Nat} {x1 x2 x3 : Int32}
    (h1 : am_kd μ r0 = (1, 12))
    (k : Q (.inl (some (.int (Int32.ofInt 0)))) (am_pA μ r0 56 (Int32.ofInt 1))) :
    Wp d 217 (23, [some (.ref r0), some (.int x1), some (.int x2), some (.int x3), none], [], μ) Q := wp_blk rfl e217_23 (And.intro h1 (And.intro (by decide) (wp_ri (ty := .boolean) rfl e217_23_r rfl (by decide) k)))
def q217_30 : List (Nat × Instr × Nat) := [(30, .aload_n 0, 1), (31, .getfield 111, 3), (34, .iconst (-1), 1), (35, .iload_n 3, 1), (36, .isub, 1), (37, .aload_n 0, 1), (38, .getfield 453, 3), (41, .iconst 1, 1), (42, .iadd, 1), (43, .iastore, 1), (44, .aload_n 0, 1), (45, .getfield 102, 3), (48, .aload_n 0, 1), (49, .getfield 453, 3), (52, .iload_n 1, 1), (53, .iastore, 1)]
theorem e217_30 : am_dec am_M217 q217_30 = true := by decide +kernel
theorem b217_30 {d : Nat} {Q : Option Value ⊕ Nat → am_Mem → Prop} {μ : am_Mem} {r0 : Nat} {x1 x2 x3 : Int32}
    (h1 : am_kd μ r0 = (1, 12))
    (h2 : ¬ am_F μ r0 52 = 15)
    (h3 : am_kd μ r0 = (1, 12))
    (h4 : (am_kd μ (am_F μ r0 52)).1 = 2)
    (h5 : ¬ (((Int32.ofInt (-1)) - x3) < 0 ∨ (am_kd μ (am_F μ r0 52)).2 ≤ ((Int32.ofInt (-1)) - x3).toNatClampNeg))
    (h6 : am_kd (am_pA μ (am_F μ r0 52) ((Int32.ofInt (-1)) - x3).toNatClampNeg ((am_A μ r0 48) + (Int32.ofInt 1))) r0 = (1, 12))
    (h7 : ¬ am_F (am_pA μ (am_F μ r0 52) ((Int32.ofInt (-1)) - x3).toNatClampNeg ((am_A μ r0 48) + (Int32.ofInt 1))) r0 49 = 15)
    (h8 : am_kd (am_pA μ (am_F μ r0 52) ((Int32.ofInt (-1)) - x3).toNatClampNeg ((am_A μ r0 48) + (Int32.ofInt 1))) r0 = (1, 12))
    (h9 : (am_kd (am_pA μ (am_F μ r0 52) ((Int32.ofInt (-1)) - x3).toNatClampNeg ((am_A μ r0 48) + (Int32.ofInt 1))) (am_F (am_pA μ (am_F μ r0 52) ((Int32.ofInt (-1)) - x3).toNatClampNeg ((am_A μ r0 48) + (Int32.ofInt 1))) r0 49)).1 = 2)
    (h10 : ¬ ((am_A (am_pA μ (am_F μ r0 52) ((Int32.ofInt (-1)) - x3).toNatClampNeg ((am_A μ r0 48) + (Int32.ofInt 1))) r0 48) < 0 ∨ (am_kd (am_pA μ (am_F μ r0 52) ((Int32.ofInt (-1)) - x3).toNatClampNeg ((am_A μ r0 48) + (Int32.ofInt 1))) (am_F (am_pA μ (am_F μ r0 52) ((Int32.ofInt (-1)) - x3).toNatClampNeg ((am_A μ r0 48) + (Int32.ofInt 1))) r0 49)).2 ≤ (am_A (am_pA μ (am_F μ r0 52) ((Int32.ofInt (-1)) - x3).toNatClampNeg ((am_A μ r0 48) + (Int32.ofInt 1))) r0 48).toNatClampNeg))
    (k : Wp d 217 (54, [some (.ref r0), some (.int x1), some (.int x2), some (.int x3), none], [], (am_pA (am_pA μ (am_F μ r0 52) ((Int32.ofInt (-1)) - x3).toNatClampNeg ((am_A μ r0 48) + (Int32.ofInt 1))) (am_F (am_pA μ (am_F μ r0 52) ((Int32.ofInt (-1)) - x3).toNatClampNeg ((am_A μ r0 48) + (Int32.ofInt 1))) r0 49) (am_A (am_pA μ (am_F μ r0 52) ((Int32.ofInt (-1)) - x3).toNatClampNeg ((am_A μ r0 48) + (Int32.ofInt 1))) r0 48).toNatClampNeg x1)) Q) :
    Wp d 217 (30, [some (.ref r0), some (.int x1), some (.int x2), some (.int x3), none], [], μ) Q := wp_blk rfl e217_30 (And.intro h1 (And.intro h2 (And.intro h3 (And.intro h4 (And.intro h5 (And.intro h6 (And.intro h7 (And.intro h8 (And.intro h9 (And.intro h10 k))))))))))
def q217_54 : List (Nat × Instr × Nat) := [(54, .iconst 0, 1), (55, .istore 4, 2)]
theorem e217_54 : am_dec am_M217 q217_54 = true := by decide +kernel
theorem b217_54 {d : Nat} {Q : Option Value ⊕ Nat → am_Mem → Prop} {μ : am_Mem} {r0 : Nat} {x1 x2 x3 : Int32}
    (k : Wp d 217 (57, [some (.ref r0), some (.int x1), some (.int x2), some (.int x3), some (.int (Int32.ofInt 0))], [], μ) Q) :
    Wp d 217 (54, [some (.ref r0), some (.int x1), some (.int x2), some (.int x3), none], [], μ) Q := wp_blk rfl e217_54 k
def q217_57 : List (Nat × Instr × Nat) := [(57, .iload 4, 2), (59, .iload_n 2, 1), (60, .if_icmp .ge 63, 3)]
theorem e217_57 : am_dec am_M217 q217_57 = true := by decide +kernel
theorem b217_57 {d : Nat} {Q : Option Value ⊕ Nat → am_Mem → Prop} {μ : am_Mem} {r0 : Nat} {x1 x2 x3 x4 : Int32}
    (k1 : x2 ≤ x4 → Wp d 217 (123, [some (.ref r0), some (.int x1), some (.int x2), some (.int x3), some (.int x4)], [], μ) Q) (k2 : ¬ (x2 ≤ x4) → Wp d 217 (63, [some (.ref r0), some (.int x1), some (.int x2), some (.int x3), some (.int x4)], [], μ) Q) :
    Wp d 217 (57, [some (.ref r0), some (.int x1), some (.int x2), some (.int x3), some (.int x4)], [], μ) Q := wp_blk rfl e217_57 (And.intro k1 k2)
def q217_63 : List (Nat × Instr × Nat) := [(63, .aload_n 0, 1), (64, .getfield 105, 3), (67, .iconst 4, 1), (68, .aload_n 0, 1), (69, .getfield 453, 3), (72, .imul, 1), (73, .iload 4, 2), (75, .iadd, 1), (76, .aload_n 0, 1), (77, .getfield 144, 3), (80, .iload 4, 2), (82, .iaload, 1), (83, .iastore, 1), (84, .aload_n 0, 1), (85, .aload_n 0, 1), (86, .getfield 456, 3), (89, .ifCond .ne 20, 3)]
theorem e217_63 : am_dec am_M217 q217_63 = true := by decide +kernel
theorem b217_63 {d : Nat} {Q : Option Value ⊕ Nat → am_Mem → Prop} {μ : am_Mem} {r0 : Nat} {x1 x2 x3 x4 : Int32}
    (h1 : am_kd μ r0 = (1, 12))
    (h2 : ¬ am_F μ r0 50 = 15)
    (h3 : am_kd μ r0 = (1, 12))
    (h4 : am_kd μ r0 = (1, 12))
    (h5 : ¬ am_F μ r0 66 = 15)
    (h6 : (am_kd μ (am_F μ r0 66)).1 = 2 ∨ (am_kd μ (am_F μ r0 66)).1 = 8)
    (h7 : ¬ (x4 < 0 ∨ (am_kd μ (am_F μ r0 66)).2 ≤ x4.toNatClampNeg))
    (h8 : (am_kd μ (am_F μ r0 50)).1 = 2)
    (h9 : ¬ ((((Int32.ofInt 4) * (am_A μ r0 48)) + x4) < 0 ∨ (am_kd μ (am_F μ r0 50)).2 ≤ (((Int32.ofInt 4) * (am_A μ r0 48)) + x4).toNatClampNeg))
    (h10 : am_kd (am_pA μ (am_F μ r0 50) (((Int32.ofInt 4) * (am_A μ r0 48)) + x4).toNatClampNeg (am_A μ (am_F μ r0 66) x4.toNatClampNeg)) r0 = (1, 12))
    (k1 : ¬ (am_A (am_pA μ (am_F μ r0 50) (((Int32.ofInt 4) * (am_A μ r0 48)) + x4).toNatClampNeg (am_A μ (am_F μ r0 66) x4.toNatClampNeg)) r0 56) = 0 → Wp d 217 (109, [some (.ref r0), some (.int x1), some (.int x2), some (.int x3), some (.int x4)], [.ref r0], (am_pA μ (am_F μ r0 50) (((Int32.ofInt 4) * (am_A μ r0 48)) + x4).toNatClampNeg (am_A μ (am_F μ r0 66) x4.toNatClampNeg))) Q) (k2 : ¬ (¬ (am_A (am_pA μ (am_F μ r0 50) (((Int32.ofInt 4) * (am_A μ r0 48)) + x4).toNatClampNeg (am_A μ (am_F μ r0 66) x4.toNatClampNeg)) r0 56) = 0) → Wp d 217 (92, [some (.ref r0), some (.int x1), some (.int x2), some (.int x3), some (.int x4)], [.ref r0], (am_pA μ (am_F μ r0 50) (((Int32.ofInt 4) * (am_A μ r0 48)) + x4).toNatClampNeg (am_A μ (am_F μ r0 66) x4.toNatClampNeg))) Q) :
    Wp d 217 (63, [some (.ref r0), some (.int x1), some (.int x2), some (.int x3), some (.int x4)], [], μ) Q := wp_blk rfl e217_63 (And.intro h1 (And.intro h2 (And.intro h3 (And.intro h4 (And.intro h5 (And.intro h6 (And.intro h7 (And.intro h8 (And.intro h9 (And.intro h10 (And.intro k1 k2)))))))))))
def q217_92 : List (Nat × Instr × Nat) := [(92, .aload_n 0, 1), (93, .getfield 95, 3), (96, .aload_n 0, 1), (97, .getfield 144, 3), (100, .iload 4, 2), (102, .iaload, 1), (103, .iaload, 1), (104, .bipush 48, 2), (106, .if_icmp .le 7, 3)]
theorem e217_92 : am_dec am_M217 q217_92 = true := by decide +kernel
theorem b217_92 {d : Nat} {Q : Option Value ⊕ Nat → am_Mem → Prop} {μ : am_Mem} {r0 r90 : Nat} {x1 x2 x3 x4 : Int32}
    (h1 : am_kd μ r0 = (1, 12))
    (h2 : ¬ am_F μ r0 46 = 15)
    (h3 : am_kd μ r0 = (1, 12))
    (h4 : ¬ am_F μ r0 66 = 15)
    (h5 : (am_kd μ (am_F μ r0 66)).1 = 2 ∨ (am_kd μ (am_F μ r0 66)).1 = 8)
    (h6 : ¬ (x4 < 0 ∨ (am_kd μ (am_F μ r0 66)).2 ≤ x4.toNatClampNeg))
    (h7 : (am_kd μ (am_F μ r0 46)).1 = 2 ∨ (am_kd μ (am_F μ r0 46)).1 = 8)
    (h8 : ¬ ((am_A μ (am_F μ r0 66) x4.toNatClampNeg) < 0 ∨ (am_kd μ (am_F μ r0 46)).2 ≤ (am_A μ (am_F μ r0 66) x4.toNatClampNeg).toNatClampNeg))
    (k1 : (am_A μ (am_F μ r0 46) (am_A μ (am_F μ r0 66) x4.toNatClampNeg).toNatClampNeg) ≤ ((Int8.ofInt 48).toInt32) → Wp d 217 (113, [some (.ref r0), some (.int x1), some (.int x2), some (.int x3), some (.int x4)], [.ref r90], μ) Q) (k2 : ¬ ((am_A μ (am_F μ r0 46) (am_A μ (am_F μ r0 66) x4.toNatClampNeg).toNatClampNeg) ≤ ((Int8.ofInt 48).toInt32)) → Wp d 217 (109, [some (.ref r0), some (.int x1), some (.int x2), some (.int x3), some (.int x4)], [.ref r90], μ) Q) :
    Wp d 217 (92, [some (.ref r0), some (.int x1), some (.int x2), some (.int x3), some (.int x4)], [.ref r90], μ) Q := wp_blk rfl e217_92 (And.intro h1 (And.intro h2 (And.intro h3 (And.intro h4 (And.intro h5 (And.intro h6 (And.intro h7 (And.intro h8 (And.intro k1 k2)))))))))
def q217_109 : List (Nat × Instr × Nat) := [(109, .iconst 1, 1), (110, .goto 4, 3)]
theorem e217_109 : am_dec am_M217 q217_109 = true := by decide +kernel
theorem b217_109 {d : Nat} {Q : Option Value ⊕ Nat → am_Mem → Prop} {μ : am_Mem} {r0 r90 : Nat} {x1 x2 x3 x4 : Int32}
    (k : Wp d 217 (114, [some (.ref r0), some (.int x1), some (.int x2), some (.int x3), some (.int x4)], [.int (Int32.ofInt 1), .ref r90], μ) Q) :
    Wp d 217 (109, [some (.ref r0), some (.int x1), some (.int x2), some (.int x3), some (.int x4)], [.ref r90], μ) Q := wp_blk rfl e217_109 k
def q217_113 : List (Nat × Instr × Nat) := [(113, .iconst 0, 1)]
theorem e217_113 : am_dec am_M217 q217_113 = true := by decide +kernel
theorem b217_113 {d : Nat} {Q : Option Value ⊕ Nat → am_Mem → Prop} {μ : am_Mem} {r0 r90 : Nat} {x1 x2 x3 x4 : Int32}
    (k : Wp d 217 (114, [some (.ref r0), some (.int x1), some (.int x2), some (.int x3), some (.int x4)], [.int (Int32.ofInt 0), .ref r90], μ) Q) :
    Wp d 217 (113, [some (.ref r0), some (.int x1), some (.int x2), some (.int x3), some (.int x4)], [.ref r90], μ) Q := wp_blk rfl e217_113 k
def q217_114 : List (Nat × Instr × Nat) := [(114, .putfield 456, 3), (117, .iinc 4 1, 3), (120, .goto (-63), 3)]
theorem e217_114 : am_dec am_M217 q217_114 = true := by decide +kernel
theorem b217_114 {d : Nat} {Q : Option Value ⊕ Nat → am_Mem → Prop} {μ : am_Mem} {r0 r90 : Nat} {x1 x2 x3 x4 s1 : Int32}
    (h1 : am_kd μ r90 = (1, 12))
    (h2 : narrow .boolean (.int s1) = .int s1 ∧ fits .boolean (.int s1) = true)
    (k : Wp d 217 (57, [some (.ref r0), some (.int x1), some (.int x2), some (.int x3), some (.int (x4 + Int32.ofInt 1))], [], (am_pA μ r90 56 s1)) Q) :
    Wp d 217 (114, [some (.ref r0), some (.int x1), some (.int x2), some (.int x3), some (.int x4)], [.int s1, .ref r90], μ) Q := wp_blk rfl e217_114 (And.intro h1 (And.intro h2 k))
def q217_123 : List (Nat × Instr × Nat) := [(123, .aload_n 0, 1), (124, .getfield 108, 3), (127, .aload_n 0, 1), (128, .getfield 453, 3), (131, .iconst (-1), 1), (132, .iastore, 1), (133, .aload_n 0, 1), (134, .getfield 120, 3), (137, .iload_n 1, 1), (138, .iaload, 1), (139, .ifCond .ne 16, 3)]
theorem e217_123 : am_dec am_M217 q217_123 = true := by decide +kernel
theorem b217_123 {d : Nat} {Q : Option Value ⊕ Nat → am_Mem → Prop} {μ : am_Mem} {r0 : Nat} {x1 x2 x3 x4 : Int32}
    (h1 : am_kd μ r0 = (1, 12))
    (h2 : ¬ am_F μ r0 51 = 15)
    (h3 : am_kd μ r0 = (1, 12))
    (h4 : (am_kd μ (am_F μ r0 51)).1 = 2)
    (h5 : ¬ ((am_A μ r0 48) < 0 ∨ (am_kd μ (am_F μ r0 51)).2 ≤ (am_A μ r0 48).toNatClampNeg))
    (h6 : am_kd (am_pA μ (am_F μ r0 51) (am_A μ r0 48).toNatClampNeg (Int32.ofInt (-1))) r0 = (1, 12))
    (h7 : ¬ am_F (am_pA μ (am_F μ r0 51) (am_A μ r0 48).toNatClampNeg (Int32.ofInt (-1))) r0 55 = 15)
    (h8 : (am_kd (am_pA μ (am_F μ r0 51) (am_A μ r0 48).toNatClampNeg (Int32.ofInt (-1))) (am_F (am_pA μ (am_F μ r0 51) (am_A μ r0 48).toNatClampNeg (Int32.ofInt (-1))) r0 55)).1 = 2 ∨ (am_kd (am_pA μ (am_F μ r0 51) (am_A μ r0 48).toNatClampNeg (Int32.ofInt (-1))) (am_F (am_pA μ (am_F μ r0 51) (am_A μ r0 48).toNatClampNeg (Int32.ofInt (-1))) r0 55)).1 = 8)
    (h9 : ¬ (x1 < 0 ∨ (am_kd (am_pA μ (am_F μ r0 51) (am_A μ r0 48).toNatClampNeg (Int32.ofInt (-1))) (am_F (am_pA μ (am_F μ r0 51) (am_A μ r0 48).toNatClampNeg (Int32.ofInt (-1))) r0 55)).2 ≤ x1.toNatClampNeg))
    (k1 : ¬ (am_A (am_pA μ (am_F μ r0 51) (am_A μ r0 48).toNatClampNeg (Int32.ofInt (-1))) (am_F (am_pA μ (am_F μ r0 51) (am_A μ r0 48).toNatClampNeg (Int32.ofInt (-1))) r0 55) x1.toNatClampNeg) = 0 → Wp d 217 (155, [some (.ref r0), some (.int x1), some (.int x2), some (.int x3), some (.int x4)], [], (am_pA μ (am_F μ r0 51) (am_A μ r0 48).toNatClampNeg (Int32.ofInt (-1)))) Q) (k2 : ¬ (¬ (am_A (am_pA μ (am_F μ r0 51) (am_A μ r0 48).toNatClampNeg (Int32.ofInt (-1))) (am_F (am_pA μ (am_F μ r0 51) (am_A μ r0 48).toNatClampNeg (Int32.ofInt (-1))) r0 55) x1.toNatClampNeg) = 0) → Wp d 217 (142, [some (.ref r0), some (.int x1), some (.int x2), some (.int x3), some (.int x4)], [], (am_pA μ (am_F μ r0 51) (am_A μ r0 48).toNatClampNeg (Int32.ofInt (-1)))) Q) :
    Wp d 217 (123, [some (.ref r0), some (.int x1), some (.int x2), some (.int x3), some (.int x4)], [], μ) Q := wp_blk rfl e217_123 (And.intro h1 (And.intro h2 (And.intro h3 (And.intro h4 (And.intro h5 (And.intro h6 (And.intro h7 (And.intro h8 (And.intro h9 (And.intro k1 k2))))))))))
def q217_142 : List (Nat × Instr × Nat) := [(142, .aload_n 0, 1), (143, .getfield 114, 3), (146, .iload_n 1, 1), (147, .aload_n 0, 1), (148, .getfield 453, 3), (151, .iastore, 1), (152, .goto 18, 3)]
theorem e217_142 : am_dec am_M217 q217_142 = true := by decide +kernel
theorem b217_142 {d : Nat} {Q : Option Value ⊕ Nat → am_Mem → Prop} {μ : am_Mem} {r0 : Nat} {x1 x2 x3 x4 : Int32}
    (h1 : am_kd μ r0 = (1, 12))
    (h2 : ¬ am_F μ r0 53 = 15)
    (h3 : am_kd μ r0 = (1, 12))
    (h4 : (am_kd μ (am_F μ r0 53)).1 = 2)
    (h5 : ¬ (x1 < 0 ∨ (am_kd μ (am_F μ r0 53)).2 ≤ x1.toNatClampNeg))
    (k : Wp d 217 (170, [some (.ref r0), some (.int x1), some (.int x2), some (.int x3), some (.int x4)], [], (am_pA μ (am_F μ r0 53) x1.toNatClampNeg (am_A μ r0 48))) Q) :
    Wp d 217 (142, [some (.ref r0), some (.int x1), some (.int x2), some (.int x3), some (.int x4)], [], μ) Q := wp_blk rfl e217_142 (And.intro h1 (And.intro h2 (And.intro h3 (And.intro h4 (And.intro h5 k)))))
def q217_155 : List (Nat × Instr × Nat) := [(155, .aload_n 0, 1), (156, .getfield 108, 3), (159, .aload_n 0, 1), (160, .getfield 117, 3), (163, .iload_n 1, 1), (164, .iaload, 1), (165, .aload_n 0, 1), (166, .getfield 453, 3), (169, .iastore, 1)]
theorem e217_155 : am_dec am_M217 q217_155 = true := by decide +kernel
theorem b217_155 {d : Nat} {Q : Option Value ⊕ Nat → am_Mem → Prop} {μ : am_Mem} {r0 : Nat} {x1 x2 x3 x4 : Int32}
    (h1 : am_kd μ r0 = (1, 12))
    (h2 : ¬ am_F μ r0 51 = 15)
    (h3 : am_kd μ r0 = (1, 12))
    (h4 : ¬ am_F μ r0 54 = 15)
    (h5 : (am_kd μ (am_F μ r0 54)).1 = 2 ∨ (am_kd μ (am_F μ r0 54)).1 = 8)
    (h6 : ¬ (x1 < 0 ∨ (am_kd μ (am_F μ r0 54)).2 ≤ x1.toNatClampNeg))
    (h7 : am_kd μ r0 = (1, 12))
    (h8 : (am_kd μ (am_F μ r0 51)).1 = 2)
    (h9 : ¬ ((am_A μ (am_F μ r0 54) x1.toNatClampNeg) < 0 ∨ (am_kd μ (am_F μ r0 51)).2 ≤ (am_A μ (am_F μ r0 54) x1.toNatClampNeg).toNatClampNeg))
    (k : Wp d 217 (170, [some (.ref r0), some (.int x1), some (.int x2), some (.int x3), some (.int x4)], [], (am_pA μ (am_F μ r0 51) (am_A μ (am_F μ r0 54) x1.toNatClampNeg).toNatClampNeg (am_A μ r0 48))) Q) :
    Wp d 217 (155, [some (.ref r0), some (.int x1), some (.int x2), some (.int x3), some (.int x4)], [], μ) Q := wp_blk rfl e217_155 (And.intro h1 (And.intro h2 (And.intro h3 (And.intro h4 (And.intro h5 (And.intro h6 (And.intro h7 (And.intro h8 (And.intro h9 k)))))))))
def q217_170 : List (Nat × Instr × Nat) := [(170, .aload_n 0, 1), (171, .getfield 117, 3), (174, .iload_n 1, 1), (175, .aload_n 0, 1), (176, .getfield 453, 3), (179, .iastore, 1), (180, .aload_n 0, 1), (181, .getfield 120, 3), (184, .iload_n 1, 1), (185, .dup2, 1), (186, .iaload, 1), (187, .iconst 1, 1), (188, .iadd, 1), (189, .iastore, 1)]
theorem e217_170 : am_dec am_M217 q217_170 = true := by decide +kernel
theorem b217_170 {d : Nat} {Q : Option Value ⊕ Nat → am_Mem → Prop} {μ : am_Mem} {r0 : Nat} {x1 x2 x3 x4 : Int32}
    (h1 : am_kd μ r0 = (1, 12))
    (h2 : ¬ am_F μ r0 54 = 15)
    (h3 : am_kd μ r0 = (1, 12))
    (h4 : (am_kd μ (am_F μ r0 54)).1 = 2)
    (h5 : ¬ (x1 < 0 ∨ (am_kd μ (am_F μ r0 54)).2 ≤ x1.toNatClampNeg))
    (h6 : am_kd (am_pA μ (am_F μ r0 54) x1.toNatClampNeg (am_A μ r0 48)) r0 = (1, 12))
    (h7 : ¬ am_F (am_pA μ (am_F μ r0 54) x1.toNatClampNeg (am_A μ r0 48)) r0 55 = 15)
    (h8 : (am_kd (am_pA μ (am_F μ r0 54) x1.toNatClampNeg (am_A μ r0 48)) (am_F (am_pA μ (am_F μ r0 54) x1.toNatClampNeg (am_A μ r0 48)) r0 55)).1 = 2 ∨ (am_kd (am_pA μ (am_F μ r0 54) x1.toNatClampNeg (am_A μ r0 48)) (am_F (am_pA μ (am_F μ r0 54) x1.toNatClampNeg (am_A μ r0 48)) r0 55)).1 = 8)
    (h9 : ¬ (x1 < 0 ∨ (am_kd (am_pA μ (am_F μ r0 54) x1.toNatClampNeg (am_A μ r0 48)) (am_F (am_pA μ (am_F μ r0 54) x1.toNatClampNeg (am_A μ r0 48)) r0 55)).2 ≤ x1.toNatClampNeg))
    (h10 : (am_kd (am_pA μ (am_F μ r0 54) x1.toNatClampNeg (am_A μ r0 48)) (am_F (am_pA μ (am_F μ r0 54) x1.toNatClampNeg (am_A μ r0 48)) r0 55)).1 = 2)
    (h11 : ¬ (x1 < 0 ∨ (am_kd (am_pA μ (am_F μ r0 54) x1.toNatClampNeg (am_A μ r0 48)) (am_F (am_pA μ (am_F μ r0 54) x1.toNatClampNeg (am_A μ r0 48)) r0 55)).2 ≤ x1.toNatClampNeg))
    (k : Wp d 217 (190, [some (.ref r0), some (.int x1), some (.int x2), some (.int x3), some (.int x4)], [], (am_pA (am_pA μ (am_F μ r0 54) x1.toNatClampNeg (am_A μ r0 48)) (am_F (am_pA μ (am_F μ r0 54) x1.toNatClampNeg (am_A μ r0 48)) r0 55) x1.toNatClampNeg ((am_A (am_pA μ (am_F μ r0 54) x1.toNatClampNeg (am_A μ r0 48)) (am_F (am_pA μ (am_F μ r0 54) x1.toNatClampNeg (am_A μ r0 48)) r0 55) x1.toNatClampNeg) + (Int32.ofInt 1)))) Q) :
    Wp d 217 (170, [some (.ref r0), some (.int x1), some (.int x2), some (.int x3), some (.int x4)], [], μ) Q := wp_blk rfl e217_170 (And.intro h1 (And.intro h2 (And.intro h3 (And.intro h4 (And.intro h5 (And.intro h6 (And.intro h7 (And.intro h8 (And.intro h9 (And.intro h10 (And.intro h11 k)))))))))))
def q217_190 : List (Nat × Instr × Nat) := [(190, .aload_n 0, 1), (191, .dup, 1), (192, .getfield 453, 3), (195, .iconst 1, 1), (196, .iadd, 1), (197, .putfield 453, 3), (200, .iconst 1, 1)]
theorem e217_190 : am_dec am_M217 q217_190 = true := by decide +kernel
theorem e217_190_r : am_dec am_M217 [(201, .ireturn, 1)] = true := by decide +kernel
theorem b217_190 {d : Nat} {Q : Option Value ⊕ Nat → am_Mem → Prop} {μ : am_Mem} {r0 : Nat} {x1 x2 x3 x4 : Int32}
    (h1 : am_kd μ r0 = (1, 12))
    (h2 : am_kd μ r0 = (1, 12))
    (k : Q (.inl (some (.int (Int32.ofInt 1)))) (am_pA μ r0 48 ((am_A μ r0 48) + (Int32.ofInt 1)))) :
    Wp d 217 (190, [some (.ref r0), some (.int x1), some (.int x2), some (.int x3), some (.int x4)], [], μ) Q := wp_blk rfl e217_190 (And.intro h1 (And.intro h2 (And.intro ⟨rfl, rfl⟩ (wp_ri (ty := .boolean) rfl e217_190_r rfl (by decide) k))))
/-! RuleSheetsModel.find(II)I -/
def q218_0 : List (Nat × Instr × Nat) := [(0, .aload_n 0, 1), (1, .iload_n 1, 1), (2, .iload_n 2, 1)]
theorem e218_0 : am_dec am_M218 q218_0 = true := by decide +kernel
theorem e218_0_c : am_dc1 am_M218 3 (.invokevirtual 447) 3 = true := by decide +kernel
theorem b218_0 {d : Nat} {Q : Option Value ⊕ Nat → am_Mem → Prop} {μ : am_Mem} {r0 : Nat} {x1 x2 : Int32} {P : Int32 → am_Mem → Prop} {X : Nat → am_Mem → Prop}
    (hk : am_kd μ r0 = (1, 12))
    (hc : Wp d 219 (0, [some (.ref r0), some (.int x1), some (.int x2), none, none], [], μ) (pI P X)) (hr : ∀ x μ', P x μ' → Wp (d + 1) 218 (6, [some (.ref r0), some (.int x1), some (.int x2), none, none, none, none], [.int x], (μ')) Q)
    (hx : ∀ x μ', X x μ' → Q (.inr x) μ') :
    Wp (d + 1) 218 (0, [some (.ref r0), some (.int x1), some (.int x2), none, none, none, none], [], μ) Q := wp_blk rfl e218_0 (wp_cv (as := [.int x1, .int x2]) rfl e218_0_c rfl rfl rfl rfl rfl hk hc (fun v μ' hv => by obtain ⟨x, rfl, hp⟩ := pI_r hv; exact hr x μ' hp) hx)
def q218_6 : List (Nat × Instr × Nat) := [(6, .istore_n 3, 1)]
theorem e218_6 : am_dec am_M218 q218_6 = true := by decide +kernel
theorem b218_6 {d : Nat} {Q : Option Value ⊕ Nat → am_Mem → Prop} {μ : am_Mem} {r0 : Nat} {x1 x2 s0 : Int32}
    (k : Wp d 218 (7, [some (.ref r0), some (.int x1), some (.int x2), some (.int s0), none, none, none], [], μ) Q) :
    Wp d 218 (6, [some (.ref r0), some (.int x1), some (.int x2), none, none, none, none], [.int s0], μ) Q := wp_blk rfl e218_6 k
def q218_7 : List (Nat × Instr × Nat) := [(7, .aload_n 0, 1), (8, .getfield 111, 3), (11, .iload_n 3, 1), (12, .iaload, 1), (13, .ifCond .le 99, 3)]
theorem e218_7 : am_dec am_M218 q218_7 = true := by decide +kernel
theorem b218_7 {d : Nat} {Q : Option Value ⊕ Nat → am_Mem → Prop} {μ : am_Mem} {r0 : Nat} {x1 x2 x3 : Int32} {o4 o5 o6 : Option Value}
    (h1 : am_kd μ r0 = (1, 12))
    (h2 : ¬ am_F μ r0 52 = 15)
    (h3 : (am_kd μ (am_F μ r0 52)).1 = 2 ∨ (am_kd μ (am_F μ r0 52)).1 = 8)
    (h4 : ¬ (x3 < 0 ∨ (am_kd μ (am_F μ r0 52)).2 ≤ x3.toNatClampNeg))
    (k1 : (am_A μ (am_F μ r0 52) x3.toNatClampNeg) ≤ 0 → Wp d 218 (112, [some (.ref r0), some (.int x1), some (.int x2), some (.int x3), o4, o5, o6], [], μ) Q) (k2 : ¬ ((am_A μ (am_F μ r0 52) x3.toNatClampNeg) ≤ 0) → Wp d 218 (16, [some (.ref r0), some (.int x1), some (.int x2), some (.int x3), o4, o5, o6], [], μ) Q) :
    Wp d 218 (7, [some (.ref r0), some (.int x1), some (.int x2), some (.int x3), o4, o5, o6], [], μ) Q := wp_blk rfl e218_7 (And.intro h1 (And.intro h2 (And.intro h3 (And.intro h4 (And.intro k1 k2)))))
def q218_16 : List (Nat × Instr × Nat) := [(16, .aload_n 0, 1), (17, .getfield 111, 3), (20, .iload_n 3, 1), (21, .iaload, 1), (22, .iconst 1, 1), (23, .isub, 1), (24, .istore 4, 2), (26, .aload_n 0, 1), (27, .getfield 102, 3), (30, .iload 4, 2), (32, .iaload, 1), (33, .iload_n 1, 1), (34, .if_icmp .ne 7, 3)]
theorem e218_16 : am_dec am_M218 q218_16 = true := by decide +kernel
theorem b218_16 {d : Nat} {Q : Option Value ⊕ Nat → am_Mem → Prop} {μ : am_Mem} {r0 : Nat} {x1 x2 x3 : Int32} {o4 o5 o6 : Option Value}
    (h1 : am_kd μ r0 = (1, 12))
    (h2 : ¬ am_F μ r0 52 = 15)
    (h3 : (am_kd μ (am_F μ r0 52)).1 = 2 ∨ (am_kd μ (am_F μ r0 52)).1 = 8)
    (h4 : ¬ (x3 < 0 ∨ (am_kd μ (am_F μ r0 52)).2 ≤ x3.toNatClampNeg))
    (h5 : am_kd μ r0 = (1, 12))
    (h6 : ¬ am_F μ r0 49 = 15)
    (h7 : (am_kd μ (am_F μ r0 49)).1 = 2 ∨ (am_kd μ (am_F μ r0 49)).1 = 8)
    (h8 : ¬ (((am_A μ (am_F μ r0 52) x3.toNatClampNeg) - (Int32.ofInt 1)) < 0 ∨ (am_kd μ (am_F μ r0 49)).2 ≤ ((am_A μ (am_F μ r0 52) x3.toNatClampNeg) - (Int32.ofInt 1)).toNatClampNeg))
    (k1 : ¬ (am_A μ (am_F μ r0 49) ((am_A μ (am_F μ r0 52) x3.toNatClampNeg) - (Int32.ofInt 1)).toNatClampNeg) = x1 → Wp d 218 (41, [some (.ref r0), some (.int x1), some (.int x2), some (.int x3), some (.int ((am_A μ (am_F μ r0 52) x3.toNatClampNeg) - (Int32.ofInt 1))), o5, o6], [], μ) Q) (k2 : ¬ (¬ (am_A μ (am_F μ r0 49) ((am_A μ (am_F μ r0 52) x3.toNatClampNeg) - (Int32.ofInt 1)).toNatClampNeg) = x1) → Wp d 218 (37, [some (.ref r0), some (.int x1), some (.int x2), some (.int x3), some (.int ((am_A μ (am_F μ r0 52) x3.toNatClampNeg) - (Int32.ofInt 1))), o5, o6], [], μ) Q) :
    Wp d 218 (16, [some (.ref r0), some (.int x1), some (.int x2), some (.int x3), o4, o5, o6], [], μ) Q := wp_blk rfl e218_16 (And.intro h1 (And.intro h2 (And.intro h3 (And.intro h4 (And.intro h5 (And.intro h6 (And.intro h7 (And.intro h8 (And.intro k1 k2)))))))))
def q218_37 : List (Nat × Instr × Nat) := [(37, .iconst 1, 1), (38, .goto 4, 3)]
theorem e218_37 : am_dec am_M218 q218_37 = true := by decide +kernel
theorem b218_37 {d : Nat} {Q : Option Value ⊕ Nat → am_Mem → Prop} {μ : am_Mem} {r0 : Nat} {x1 x2 x3 x4 : Int32} {o5 o6 : Option Value}
    (k : Wp d 218 (42, [some (.ref r0), some (.int x1), some (.int x2), some (.int x3), some (.int x4), o5, o6], [.int (Int32.ofInt 1)], μ) Q) :
    Wp d 218 (37, [some (.ref r0), some (.int x1), some (.int x2), some (.int x3), some (.int x4), o5, o6], [], μ) Q := wp_blk rfl e218_37 k
def q218_41 : List (Nat × Instr × Nat) := [(41, .iconst 0, 1)]
theorem e218_41 : am_dec am_M218 q218_41 = true := by decide +kernel
theorem b218_41 {d : Nat} {Q : Option Value ⊕ Nat → am_Mem → Prop} {μ : am_Mem} {r0 : Nat} {x1 x2 x3 x4 : Int32} {o5 o6 : Option Value}
    (k : Wp d 218 (42, [some (.ref r0), some (.int x1), some (.int x2), some (.int x3), some (.int x4), o5, o6], [.int (Int32.ofInt 0)], μ) Q) :
    Wp d 218 (41, [some (.ref r0), some (.int x1), some (.int x2), some (.int x3), some (.int x4), o5, o6], [], μ) Q := wp_blk rfl e218_41 k
def q218_42 : List (Nat × Instr × Nat) := [(42, .istore 5, 2), (44, .iconst 0, 1), (45, .istore 6, 2)]
theorem e218_42 : am_dec am_M218 q218_42 = true := by decide +kernel
theorem b218_42 {d : Nat} {Q : Option Value ⊕ Nat → am_Mem → Prop} {μ : am_Mem} {r0 : Nat} {x1 x2 x3 x4 s0 : Int32} {o5 o6 : Option Value}
    (k : Wp d 218 (47, [some (.ref r0), some (.int x1), some (.int x2), some (.int x3), some (.int x4), some (.int s0), some (.int (Int32.ofInt 0))], [], μ) Q) :
    Wp d 218 (42, [some (.ref r0), some (.int x1), some (.int x2), some (.int x3), some (.int x4), o5, o6], [.int s0], μ) Q := wp_blk rfl e218_42 k
def q218_47 : List (Nat × Instr × Nat) := [(47, .iload 6, 2), (49, .iload_n 2, 1), (50, .if_icmp .ge 43, 3)]
theorem e218_47 : am_dec am_M218 q218_47 = true := by decide +kernel
theorem b218_47 {d : Nat} {Q : Option Value ⊕ Nat → am_Mem → Prop} {μ : am_Mem} {r0 : Nat} {x1 x2 x3 x4 x5 x6 : Int32}
    (k1 : x2 ≤ x6 → Wp d 218 (93, [some (.ref r0), some (.int x1), some (.int x2), some (.int x3), some (.int x4), some (.int x5), some (.int x6)], [], μ) Q) (k2 : ¬ (x2 ≤ x6) → Wp d 218 (53, [some (.ref r0), some (.int x1), some (.int x2), some (.int x3), some (.int x4), some (.int x5), some (.int x6)], [], μ) Q) :
    Wp d 218 (47, [some (.ref r0), some (.int x1), some (.int x2), some (.int x3), some (.int x4), some (.int x5), some (.int x6)], [], μ) Q := wp_blk rfl e218_47 (And.intro k1 k2)
def q218_53 : List (Nat × Instr × Nat) := [(53, .iload 5, 2), (55, .ifCond .eq 38, 3)]
theorem e218_53 : am_dec am_M218 q218_53 = true := by decide +kernel
theorem b218_53 {d : Nat} {Q : Option Value ⊕ Nat → am_Mem → Prop} {μ : am_Mem} {r0 : Nat} {x1 x2 x3 x4 x5 x6 : Int32}
    (k1 : x5 = 0 → Wp d 218 (93, [some (.ref r0), some (.int x1), some (.int x2), some (.int x3), some (.int x4), some (.int x5), some (.int x6)], [], μ) Q) (k2 : ¬ (x5 = 0) → Wp d 218 (58, [some (.ref r0), some (.int x1), some (.int x2), some (.int x3), some (.int x4), some (.int x5), some (.int x6)], [], μ) Q) :
    Wp d 218 (53, [some (.ref r0), some (.int x1), some (.int x2), some (.int x3), some (.int x4), some (.int x5), some (.int x6)], [], μ) Q := wp_blk rfl e218_53 (And.intro k1 k2)
def q218_58 : List (Nat × Instr × Nat) := [(58, .aload_n 0, 1), (59, .getfield 105, 3), (62, .iconst 4, 1), (63, .iload 4, 2), (65, .imul, 1), (66, .iload 6, 2), (68, .iadd, 1), (69, .iaload, 1), (70, .aload_n 0, 1), (71, .getfield 144, 3), (74, .iload 6, 2), (76, .iaload, 1), (77, .if_icmp .ne 7, 3)]
theorem e218_58 : am_dec am_M218 q218_58 = true := by decide +kernel
theorem b218_58 {d : Nat} {Q : Option Value ⊕ Nat → am_Mem → Prop} {μ : am_Mem} {r0 : Nat} {x1 x2 x3 x4 x5 x6 : Int32}
    (h1 : am_kd μ r0 = (1, 12))
    (h2 : ¬ am_F μ r0 50 = 15)
    (h3 : (am_kd μ (am_F μ r0 50)).1 = 2 ∨ (am_kd μ (am_F μ r0 50)).1 = 8)
    (h4 : ¬ ((((Int32.ofInt 4) * x4) + x6) < 0 ∨ (am_kd μ (am_F μ r0 50)).2 ≤ (((Int32.ofInt 4) * x4) + x6).toNatClampNeg))
    (h5 : am_kd μ r0 = (1, 12))
    (h6 : ¬ am_F μ r0 66 = 15)
    (h7 : (am_kd μ (am_F μ r0 66)).1 = 2 ∨ (am_kd μ (am_F μ r0 66)).1 = 8)
    (h8 : ¬ (x6 < 0 ∨ (am_kd μ (am_F μ r0 66)).2 ≤ x6.toNatClampNeg))
    (k1 : ¬ (am_A μ (am_F μ r0 50) (((Int32.ofInt 4) * x4) + x6).toNatClampNeg) = (am_A μ (am_F μ r0 66) x6.toNatClampNeg) → Wp d 218 (84, [some (.ref r0), some (.int x1), some (.int x2), some (.int x3), some (.int x4), some (.int x5), some (.int x6)], [], μ) Q) (k2 : ¬ (¬ (am_A μ (am_F μ r0 50) (((Int32.ofInt 4) * x4) + x6).toNatClampNeg) = (am_A μ (am_F μ r0 66) x6.toNatClampNeg)) → Wp d 218 (80, [some (.ref r0), some (.int x1), some (.int x2), some (.int x3), some (.int x4), some (.int x5), some (.int x6)], [], μ) Q) :
    Wp d 218 (58, [some (.ref r0), some (.int x1), some (.int x2), some (.int x3), some (.int x4), some (.int x5), some (.int x6)], [], μ) Q := wp_blk rfl e218_58 (And.intro h1 (And.intro h2 (And.intro h3 (And.intro h4 (And.intro h5 (And.intro h6 (And.intro h7 (And.intro h8 (And.intro k1 k2)))))))))
def q218_80 : List (Nat × Instr × Nat) := [(80, .iconst 1, 1), (81, .goto 4, 3)]
theorem e218_80 : am_dec am_M218 q218_80 = true := by decide +kernel
theorem b218_80 {d : Nat} {Q : Option Value ⊕ Nat → am_Mem → Prop} {μ : am_Mem} {r0 : Nat} {x1 x2 x3 x4 x5 x6 : Int32}
    (k : Wp d 218 (85, [some (.ref r0), some (.int x1), some (.int x2), some (.int x3), some (.int x4), some (.int x5), some (.int x6)], [.int (Int32.ofInt 1)], μ) Q) :
    Wp d 218 (80, [some (.ref r0), some (.int x1), some (.int x2), some (.int x3), some (.int x4), some (.int x5), some (.int x6)], [], μ) Q := wp_blk rfl e218_80 k
def q218_84 : List (Nat × Instr × Nat) := [(84, .iconst 0, 1)]
theorem e218_84 : am_dec am_M218 q218_84 = true := by decide +kernel
theorem b218_84 {d : Nat} {Q : Option Value ⊕ Nat → am_Mem → Prop} {μ : am_Mem} {r0 : Nat} {x1 x2 x3 x4 x5 x6 : Int32}
    (k : Wp d 218 (85, [some (.ref r0), some (.int x1), some (.int x2), some (.int x3), some (.int x4), some (.int x5), some (.int x6)], [.int (Int32.ofInt 0)], μ) Q) :
    Wp d 218 (84, [some (.ref r0), some (.int x1), some (.int x2), some (.int x3), some (.int x4), some (.int x5), some (.int x6)], [], μ) Q := wp_blk rfl e218_84 k
def q218_85 : List (Nat × Instr × Nat) := [(85, .istore 5, 2), (87, .iinc 6 1, 3), (90, .goto (-43), 3)]
theorem e218_85 : am_dec am_M218 q218_85 = true := by decide +kernel
theorem b218_85 {d : Nat} {Q : Option Value ⊕ Nat → am_Mem → Prop} {μ : am_Mem} {r0 : Nat} {x1 x2 x3 x4 x5 x6 s0 : Int32}
    (k : Wp d 218 (47, [some (.ref r0), some (.int x1), some (.int x2), some (.int x3), some (.int x4), some (.int s0), some (.int (x6 + Int32.ofInt 1))], [], μ) Q) :
    Wp d 218 (85, [some (.ref r0), some (.int x1), some (.int x2), some (.int x3), some (.int x4), some (.int x5), some (.int x6)], [.int s0], μ) Q := wp_blk rfl e218_85 k
def q218_93 : List (Nat × Instr × Nat) := [(93, .iload 5, 2), (95, .ifCond .eq 6, 3)]
theorem e218_93 : am_dec am_M218 q218_93 = true := by decide +kernel
theorem b218_93 {d : Nat} {Q : Option Value ⊕ Nat → am_Mem → Prop} {μ : am_Mem} {r0 : Nat} {x1 x2 x3 x4 x5 x6 : Int32}
    (k1 : x5 = 0 → Wp d 218 (101, [some (.ref r0), some (.int x1), some (.int x2), some (.int x3), some (.int x4), some (.int x5), some (.int x6)], [], μ) Q) (k2 : ¬ (x5 = 0) → Wp d 218 (98, [some (.ref r0), some (.int x1), some (.int x2), some (.int x3), some (.int x4), some (.int x5), some (.int x6)], [], μ) Q) :
    Wp d 218 (93, [some (.ref r0), some (.int x1), some (.int x2), some (.int x3), some (.int x4), some (.int x5), some (.int x6)], [], μ) Q := wp_blk rfl e218_93 (And.intro k1 k2)
def q218_98 : List (Nat × Instr × Nat) := [(98, .iload 4, 2)]
theorem e218_98 : am_dec am_M218 q218_98 = true := by decide +kernel
theorem e218_98_r : am_dec am_M218 [(100, .ireturn, 1)] = true := by decide +kernel
theorem b218_98 {d : Nat} {Q : Option Value ⊕ Nat → am_Mem → Prop} {μ : am_Mem} {r0 : Nat} {x1 x2 x3 x4 x5 x6 : Int32}
    (k : Q (.inl (some (.int x4))) μ) :
    Wp d 218 (98, [some (.ref r0), some (.int x1), some (.int x2), some (.int x3), some (.int x4), some (.int x5), some (.int x6)], [], μ) Q := wp_blk rfl e218_98 (wp_ri (ty := .int) rfl e218_98_r rfl ⟨rfl, rfl⟩ k)
def q218_101 : List (Nat × Instr × Nat) := [(101, .iload_n 3, 1), (102, .iconst 1, 1), (103, .iadd, 1), (104, .sipush 4095, 3), (107, .iand, 1), (108, .istore_n 3, 1), (109, .goto (-102), 3)]
theorem e218_101 : am_dec am_M218 q218_101 = true := by decide +kernel
theorem b218_101 {d : Nat} {Q : Option Value ⊕ Nat → am_Mem → Prop} {μ : am_Mem} {r0 : Nat} {x1 x2 x3 x4 x5 x6 : Int32}
    (k : Wp d 218 (7, [some (.ref r0), some (.int x1), some (.int x2), some (.int ((x3 + (Int32.ofInt 1)) &&& ((Int16.ofInt 4095).toInt32))), some (.int x4), some (.int x5), some (.int x6)], [], μ) Q) :
    Wp d 218 (101, [some (.ref r0), some (.int x1), some (.int x2), some (.int x3), some (.int x4), some (.int x5), some (.int x6)], [], μ) Q := wp_blk rfl e218_101 k
def q218_112 : List (Nat × Instr × Nat) := [(112, .iconst (-1), 1), (113, .iload_n 3, 1), (114, .isub, 1)]
theorem e218_112 : am_dec am_M218 q218_112 = true := by decide +kernel
theorem e218_112_r : am_dec am_M218 [(115, .ireturn, 1)] = true := by decide +kernel
theorem b218_112 {d : Nat} {Q : Option Value ⊕ Nat → am_Mem → Prop} {μ : am_Mem} {r0 : Nat} {x1 x2 x3 : Int32} {o4 o5 o6 : Option Value}
    (k : Q (.inl (some (.int ((Int32.ofInt (-1)) - x3)))) μ) :
    Wp d 218 (112, [some (.ref r0), some (.int x1), some (.int x2), some (.int x3), o4, o5, o6], [], μ) Q := wp_blk rfl e218_112 (wp_ri (ty := .int) rfl e218_112_r rfl ⟨rfl, rfl⟩ k)
/-! RuleSheetsModel.atomSpot(II)I -/
def q219_0 : List (Nat × Instr × Nat) := [(0, .iload_n 1, 1), (1, .istore_n 3, 1), (2, .iconst 0, 1), (3, .istore 4, 2)]
theorem e219_0 : am_dec am_M219 q219_0 = true := by decide +kernel
theorem b219_0 {d : Nat} {Q : Option Value ⊕ Nat → am_Mem → Prop} {μ : am_Mem} {r0 : Nat} {x1 x2 : Int32}
    (k : Wp d 219 (5, [some (.ref r0), some (.int x1), some (.int x2), some (.int x1), some (.int (Int32.ofInt 0))], [], μ) Q) :
    Wp d 219 (0, [some (.ref r0), some (.int x1), some (.int x2), none, none], [], μ) Q := wp_blk rfl e219_0 k
def q219_5 : List (Nat × Instr × Nat) := [(5, .iload 4, 2), (7, .iload_n 2, 1), (8, .if_icmp .ge 23, 3)]
theorem e219_5 : am_dec am_M219 q219_5 = true := by decide +kernel
theorem b219_5 {d : Nat} {Q : Option Value ⊕ Nat → am_Mem → Prop} {μ : am_Mem} {r0 : Nat} {x1 x2 x3 x4 : Int32}
    (k1 : x2 ≤ x4 → Wp d 219 (31, [some (.ref r0), some (.int x1), some (.int x2), some (.int x3), some (.int x4)], [], μ) Q) (k2 : ¬ (x2 ≤ x4) → Wp d 219 (11, [some (.ref r0), some (.int x1), some (.int x2), some (.int x3), some (.int x4)], [], μ) Q) :
    Wp d 219 (5, [some (.ref r0), some (.int x1), some (.int x2), some (.int x3), some (.int x4)], [], μ) Q := wp_blk rfl e219_5 (And.intro k1 k2)
def q219_11 : List (Nat × Instr × Nat) := [(11, .iload_n 3, 1), (12, .ldc_w 427, 3), (15, .imul, 1), (16, .aload_n 0, 1), (17, .getfield 144, 3), (20, .iload 4, 2), (22, .iaload, 1), (23, .iadd, 1), (24, .istore_n 3, 1), (25, .iinc 4 1, 3), (28, .goto (-23), 3)]
theorem e219_11 : am_dec am_M219 q219_11 = true := by decide +kernel
theorem b219_11 {d : Nat} {Q : Option Value ⊕ Nat → am_Mem → Prop} {μ : am_Mem} {r0 : Nat} {x1 x2 x3 x4 : Int32}
    (h1 : am_kd μ r0 = (1, 12))
    (h2 : ¬ am_F μ r0 66 = 15)
    (h3 : (am_kd μ (am_F μ r0 66)).1 = 2 ∨ (am_kd μ (am_F μ r0 66)).1 = 8)
    (h4 : ¬ (x4 < 0 ∨ (am_kd μ (am_F μ r0 66)).2 ≤ x4.toNatClampNeg))
    (k : Wp d 219 (5, [some (.ref r0), some (.int x1), some (.int x2), some (.int ((x3 * (1000003 : Int32)) + (am_A μ (am_F μ r0 66) x4.toNatClampNeg))), some (.int (x4 + Int32.ofInt 1))], [], μ) Q) :
    Wp d 219 (11, [some (.ref r0), some (.int x1), some (.int x2), some (.int x3), some (.int x4)], [], μ) Q := wp_blk rfl e219_11 (And.intro h1 (And.intro h2 (And.intro h3 (And.intro h4 k))))
def q219_31 : List (Nat × Instr × Nat) := [(31, .iload_n 3, 1), (32, .iload_n 3, 1), (33, .bipush 13, 2), (35, .iushr, 1), (36, .ixor, 1), (37, .istore_n 3, 1), (38, .iload_n 3, 1), (39, .sipush 4095, 3), (42, .iand, 1)]
theorem e219_31 : am_dec am_M219 q219_31 = true := by decide +kernel
theorem e219_31_r : am_dec am_M219 [(43, .ireturn, 1)] = true := by decide +kernel
theorem b219_31 {d : Nat} {Q : Option Value ⊕ Nat → am_Mem → Prop} {μ : am_Mem} {r0 : Nat} {x1 x2 x3 x4 : Int32}
    (k : Q (.inl (some (.int ((x3 ^^^ ((x3.toUInt32 >>> (((Int8.ofInt 13).toInt32).toUInt32 &&& Int32.toUInt32 31)).toInt32)) &&& ((Int16.ofInt 4095).toInt32))))) μ) :
    Wp d 219 (31, [some (.ref r0), some (.int x1), some (.int x2), some (.int x3), some (.int x4)], [], μ) Q := wp_blk rfl e219_31 (wp_ri (ty := .int) rfl e219_31_r rfl ⟨rfl, rfl⟩ k)
/-! RuleSheetsModel.roleTerm(I)I -/
def q220_0 : List (Nat × Instr × Nat) := [(0, .aload_n 0, 1), (1, .iconst 0, 1), (2, .putfield 522, 3)]
theorem e220_0 : am_dec am_M220 q220_0 = true := by decide +kernel
theorem b220_0 {d : Nat} {Q : Option Value ⊕ Nat → am_Mem → Prop} {μ : am_Mem} {r0 : Nat} {x1 : Int32}
    (h1 : am_kd μ r0 = (1, 12))
    (k : Wp d 220 (5, [some (.ref r0), some (.int x1)], [], (am_pA μ r0 80 (Int32.ofInt 0))) Q) :
    Wp d 220 (0, [some (.ref r0), some (.int x1)], [], μ) Q := wp_blk rfl e220_0 (And.intro h1 (And.intro ⟨rfl, rfl⟩ k))
def q220_5 : List (Nat × Instr × Nat) := [(5, .aload_n 0, 1), (6, .getfield 150, 3), (9, .sipush 3000, 3), (12, .iload_n 1, 1), (13, .imul, 1), (14, .aload_n 0, 1), (15, .getfield 522, 3), (18, .iadd, 1), (19, .iaload, 1), (20, .ifCond .le 40, 3)]
theorem e220_5 : am_dec am_M220 q220_5 = true := by decide +kernel
theorem b220_5 {d : Nat} {Q : Option Value ⊕ Nat → am_Mem → Prop} {μ : am_Mem} {r0 : Nat} {x1 : Int32}
    (h1 : am_kd μ r0 = (1, 12))
    (h2 : ¬ am_F μ r0 71 = 15)
    (h3 : am_kd μ r0 = (1, 12))
    (h4 : (am_kd μ (am_F μ r0 71)).1 = 2 ∨ (am_kd μ (am_F μ r0 71)).1 = 8)
    (h5 : ¬ (((((Int16.ofInt 3000).toInt32) * x1) + (am_A μ r0 80)) < 0 ∨ (am_kd μ (am_F μ r0 71)).2 ≤ ((((Int16.ofInt 3000).toInt32) * x1) + (am_A μ r0 80)).toNatClampNeg))
    (k1 : (am_A μ (am_F μ r0 71) ((((Int16.ofInt 3000).toInt32) * x1) + (am_A μ r0 80)).toNatClampNeg) ≤ 0 → Wp d 220 (60, [some (.ref r0), some (.int x1)], [], μ) Q) (k2 : ¬ ((am_A μ (am_F μ r0 71) ((((Int16.ofInt 3000).toInt32) * x1) + (am_A μ r0 80)).toNatClampNeg) ≤ 0) → Wp d 220 (23, [some (.ref r0), some (.int x1)], [], μ) Q) :
    Wp d 220 (5, [some (.ref r0), some (.int x1)], [], μ) Q := wp_blk rfl e220_5 (And.intro h1 (And.intro h2 (And.intro h3 (And.intro h4 (And.intro h5 (And.intro k1 k2))))))
def q220_23 : List (Nat × Instr × Nat) := [(23, .aload_n 0, 1), (24, .getfield 171, 3), (27, .aload_n 0, 1), (28, .getfield 522, 3), (31, .aload_n 0, 1), (32, .getfield 150, 3), (35, .sipush 3000, 3), (38, .iload_n 1, 1), (39, .imul, 1), (40, .aload_n 0, 1), (41, .getfield 522, 3), (44, .iadd, 1), (45, .iaload, 1), (46, .iastore, 1), (47, .aload_n 0, 1), (48, .dup, 1), (49, .getfield 522, 3), (52, .iconst 1, 1), (53, .iadd, 1), (54, .putfield 522, 3)]
theorem e220_23 : am_dec am_M220 q220_23 = true := by decide +kernel
theorem b220_23 {d : Nat} {Q : Option Value ⊕ Nat → am_Mem → Prop} {μ : am_Mem} {r0 : Nat} {x1 : Int32}
    (h1 : am_kd μ r0 = (1, 12))
    (h2 : ¬ am_F μ r0 79 = 15)
    (h3 : am_kd μ r0 = (1, 12))
    (h4 : am_kd μ r0 = (1, 12))
    (h5 : ¬ am_F μ r0 71 = 15)
    (h6 : am_kd μ r0 = (1, 12))
    (h7 : (am_kd μ (am_F μ r0 71)).1 = 2 ∨ (am_kd μ (am_F μ r0 71)).1 = 8)
    (h8 : ¬ (((((Int16.ofInt 3000).toInt32) * x1) + (am_A μ r0 80)) < 0 ∨ (am_kd μ (am_F μ r0 71)).2 ≤ ((((Int16.ofInt 3000).toInt32) * x1) + (am_A μ r0 80)).toNatClampNeg))
    (h9 : (am_kd μ (am_F μ r0 79)).1 = 2)
    (h10 : ¬ ((am_A μ r0 80) < 0 ∨ (am_kd μ (am_F μ r0 79)).2 ≤ (am_A μ r0 80).toNatClampNeg))
    (h11 : am_kd (am_pA μ (am_F μ r0 79) (am_A μ r0 80).toNatClampNeg (am_A μ (am_F μ r0 71) ((((Int16.ofInt 3000).toInt32) * x1) + (am_A μ r0 80)).toNatClampNeg)) r0 = (1, 12))
    (h12 : am_kd (am_pA μ (am_F μ r0 79) (am_A μ r0 80).toNatClampNeg (am_A μ (am_F μ r0 71) ((((Int16.ofInt 3000).toInt32) * x1) + (am_A μ r0 80)).toNatClampNeg)) r0 = (1, 12))
    (k : Wp d 220 (57, [some (.ref r0), some (.int x1)], [], (am_pA (am_pA μ (am_F μ r0 79) (am_A μ r0 80).toNatClampNeg (am_A μ (am_F μ r0 71) ((((Int16.ofInt 3000).toInt32) * x1) + (am_A μ r0 80)).toNatClampNeg)) r0 80 ((am_A (am_pA μ (am_F μ r0 79) (am_A μ r0 80).toNatClampNeg (am_A μ (am_F μ r0 71) ((((Int16.ofInt 3000).toInt32) * x1) + (am_A μ r0 80)).toNatClampNeg)) r0 80) + (Int32.ofInt 1)))) Q) :
    Wp d 220 (23, [some (.ref r0), some (.int x1)], [], μ) Q := wp_blk rfl e220_23 (And.intro h1 (And.intro h2 (And.intro h3 (And.intro h4 (And.intro h5 (And.intro h6 (And.intro h7 (And.intro h8 (And.intro h9 (And.intro h10 (And.intro h11 (And.intro h12 (And.intro ⟨rfl, rfl⟩ k)))))))))))))
def q220_57 : List (Nat × Instr × Nat) := [(57, .goto (-52), 3)]
theorem e220_57 : am_dec am_M220 q220_57 = true := by decide +kernel
theorem b220_57 {d : Nat} {Q : Option Value ⊕ Nat → am_Mem → Prop} {μ : am_Mem} {r0 : Nat} {x1 : Int32}
    (k : Wp d 220 (5, [some (.ref r0), some (.int x1)], [], μ) Q) :
    Wp d 220 (57, [some (.ref r0), some (.int x1)], [], μ) Q := wp_blk rfl e220_57 k
def q220_60 : List (Nat × Instr × Nat) := [(60, .aload_n 0, 1)]
theorem e220_60 : am_dec am_M220 q220_60 = true := by decide +kernel
theorem e220_60_c : am_dc1 am_M220 61 (.invokevirtual 548) 3 = true := by decide +kernel
theorem b220_60 {d : Nat} {Q : Option Value ⊕ Nat → am_Mem → Prop} {μ : am_Mem} {r0 : Nat} {x1 : Int32} {P : Int32 → am_Mem → Prop} {X : Nat → am_Mem → Prop}
    (hk : am_kd μ r0 = (1, 12))
    (hc : Wp d 215 (0, [some (.ref r0), none, none, none, none, none, none, none, none], [], μ) (pI P X)) (hr : ∀ x μ', P x μ' → Wp (d + 1) 220 (64, [some (.ref r0), some (.int x1)], [.int x], (μ')) Q)
    (hx : ∀ x μ', X x μ' → Q (.inr x) μ') :
    Wp (d + 1) 220 (60, [some (.ref r0), some (.int x1)], [], μ) Q := wp_blk rfl e220_60 (wp_cv (as := []) rfl e220_60_c rfl rfl rfl rfl rfl hk hc (fun v μ' hv => by obtain ⟨x, rfl, hp⟩ := pI_r hv; exact hr x μ' hp) hx)
theorem e220_64_r : am_dec am_M220 [(64, .ireturn, 1)] = true := by decide +kernel
theorem b220_64 {d : Nat} {Q : Option Value ⊕ Nat → am_Mem → Prop} {μ : am_Mem} {r0 : Nat} {x1 s0 : Int32}
    (k : Q (.inl (some (.int s0))) μ) :
    Wp d 220 (64, [some (.ref r0), some (.int x1)], [.int s0], μ) Q := (wp_ri (ty := .int) rfl e220_64_r rfl ⟨rfl, rfl⟩ k)
/-! RuleSheetsModel.workOut()V -/
def q221_0 : List (Nat × Instr × Nat) := [(0, .aload_n 0, 1)]
theorem e221_0 : am_dec am_M221 q221_0 = true := by decide +kernel
theorem e221_0_c : am_dc1 am_M221 1 (.invokevirtual 508) 3 = true := by decide +kernel
theorem b221_0 {d : Nat} {Q : Option Value ⊕ Nat → am_Mem → Prop} {μ : am_Mem} {r0 : Nat} {P : Int32 → am_Mem → Prop} {X : Nat → am_Mem → Prop}
    (hk : am_kd μ r0 = (1, 12))
    (hc : Wp d 222 (0, [some (.ref r0), none, none, none, none, none, none], [], μ) (pI P X)) (hr : ∀ x μ', P x μ' → Wp (d + 1) 221 (4, [some (.ref r0), none, none, none, none], [.int x], (μ')) Q)
    (hx : ∀ x μ', X x μ' → Q (.inr x) μ') :
    Wp (d + 1) 221 (0, [some (.ref r0), none, none, none, none], [], μ) Q := wp_blk rfl e221_0 (wp_cv (as := []) rfl e221_0_c rfl rfl rfl rfl rfl hk hc (fun v μ' hv => by obtain ⟨x, rfl, hp⟩ := pI_r hv; exact hr x μ' hp) hx)
def q221_4 : List (Nat × Instr × Nat) := [(4, .istore_n 1, 1), (5, .iconst 0, 1), (6, .istore_n 2, 1)]
theorem e221_4 : am_dec am_M221 q221_4 = true := by decide +kernel
theorem b221_4 {d : Nat} {Q : Option Value ⊕ Nat → am_Mem → Prop} {μ : am_Mem} {r0 : Nat} {s0 : Int32}
    (k : Wp d 221 (7, [some (.ref r0), some (.int s0), some (.int (Int32.ofInt 0)), none, none], [], μ) Q) :
    Wp d 221 (4, [some (.ref r0), none, none, none, none], [.int s0], μ) Q := wp_blk rfl e221_4 k
def q221_7 : List (Nat × Instr × Nat) := [(7, .iload_n 2, 1), (8, .aload_n 0, 1), (9, .getfield 287, 3), (12, .if_icmp .ge 16, 3)]
theorem e221_7 : am_dec am_M221 q221_7 = true := by decide +kernel
theorem b221_7 {d : Nat} {Q : Option Value ⊕ Nat → am_Mem → Prop} {μ : am_Mem} {r0 : Nat} {x1 x2 : Int32}
    (h1 : am_kd μ r0 = (1, 12))
    (k1 : (am_A μ r0 12) ≤ x2 → Wp d 221 (28, [some (.ref r0), some (.int x1), some (.int x2), none, none], [], μ) Q) (k2 : ¬ ((am_A μ r0 12) ≤ x2) → Wp d 221 (15, [some (.ref r0), some (.int x1), some (.int x2), none, none], [], μ) Q) :
    Wp d 221 (7, [some (.ref r0), some (.int x1), some (.int x2), none, none], [], μ) Q := wp_blk rfl e221_7 (And.intro h1 (And.intro k1 k2))
def q221_15 : List (Nat × Instr × Nat) := [(15, .aload_n 0, 1), (16, .getfield 147, 3), (19, .iload_n 2, 1), (20, .iconst (-1), 1), (21, .iastore, 1), (22, .iinc 2 1, 3), (25, .goto (-18), 3)]
theorem e221_15 : am_dec am_M221 q221_15 = true := by decide +kernel
theorem b221_15 {d : Nat} {Q : Option Value ⊕ Nat → am_Mem → Prop} {μ : am_Mem} {r0 : Nat} {x1 x2 : Int32}
    (h1 : am_kd μ r0 = (1, 12))
    (h2 : ¬ am_F μ r0 67 = 15)
    (h3 : (am_kd μ (am_F μ r0 67)).1 = 2)
    (h4 : ¬ (x2 < 0 ∨ (am_kd μ (am_F μ r0 67)).2 ≤ x2.toNatClampNeg))
    (k : Wp d 221 (7, [some (.ref r0), some (.int x1), some (.int (x2 + Int32.ofInt 1)), none, none], [], (am_pA μ (am_F μ r0 67) x2.toNatClampNeg (Int32.ofInt (-1)))) Q) :
    Wp d 221 (15, [some (.ref r0), some (.int x1), some (.int x2), none, none], [], μ) Q := wp_blk rfl e221_15 (And.intro h1 (And.intro h2 (And.intro h3 (And.intro h4 k))))
def q221_28 : List (Nat × Instr × Nat) := [(28, .iconst 0, 1), (29, .istore_n 2, 1)]
theorem e221_28 : am_dec am_M221 q221_28 = true := by decide +kernel
theorem b221_28 {d : Nat} {Q : Option Value ⊕ Nat → am_Mem → Prop} {μ : am_Mem} {r0 : Nat} {x1 x2 : Int32}
    (k : Wp d 221 (30, [some (.ref r0), some (.int x1), some (.int (Int32.ofInt 0)), none, none], [], μ) Q) :
    Wp d 221 (28, [some (.ref r0), some (.int x1), some (.int x2), none, none], [], μ) Q := wp_blk rfl e221_28 k
def q221_30 : List (Nat × Instr × Nat) := [(30, .iload_n 2, 1), (31, .iload_n 1, 1), (32, .if_icmp .gt 130, 3)]
theorem e221_30 : am_dec am_M221 q221_30 = true := by decide +kernel
theorem b221_30 {d : Nat} {Q : Option Value ⊕ Nat → am_Mem → Prop} {μ : am_Mem} {r0 : Nat} {x1 x2 : Int32} {o3 o4 : Option Value}
    (k1 : x1 < x2 → Wp d 221 (162, [some (.ref r0), some (.int x1), some (.int x2), o3, o4], [], μ) Q) (k2 : ¬ (x1 < x2) → Wp d 221 (35, [some (.ref r0), some (.int x1), some (.int x2), o3, o4], [], μ) Q) :
    Wp d 221 (30, [some (.ref r0), some (.int x1), some (.int x2), o3, o4], [], μ) Q := wp_blk rfl e221_30 (And.intro k1 k2)
def q221_35 : List (Nat × Instr × Nat) := [(35, .aload_n 0, 1), (36, .getfield 456, 3), (39, .ifCond .ne 123, 3)]
theorem e221_35 : am_dec am_M221 q221_35 = true := by decide +kernel
theorem b221_35 {d : Nat} {Q : Option Value ⊕ Nat → am_Mem → Prop} {μ : am_Mem} {r0 : Nat} {x1 x2 : Int32} {o3 o4 : Option Value}
    (h1 : am_kd μ r0 = (1, 12))
    (k1 : ¬ (am_A μ r0 56) = 0 → Wp d 221 (162, [some (.ref r0), some (.int x1), some (.int x2), o3, o4], [], μ) Q) (k2 : ¬ (¬ (am_A μ r0 56) = 0) → Wp d 221 (42, [some (.ref r0), some (.int x1), some (.int x2), o3, o4], [], μ) Q) :
    Wp d 221 (35, [some (.ref r0), some (.int x1), some (.int x2), o3, o4], [], μ) Q := wp_blk rfl e221_35 (And.intro h1 (And.intro k1 k2))
def q221_42 : List (Nat × Instr × Nat) := [(42, .iconst 1, 1), (43, .istore_n 3, 1)]
theorem e221_42 : am_dec am_M221 q221_42 = true := by decide +kernel
theorem b221_42 {d : Nat} {Q : Option Value ⊕ Nat → am_Mem → Prop} {μ : am_Mem} {r0 : Nat} {x1 x2 : Int32} {o3 o4 : Option Value}
    (k : Wp d 221 (44, [some (.ref r0), some (.int x1), some (.int x2), some (.int (Int32.ofInt 1)), o4], [], μ) Q) :
    Wp d 221 (42, [some (.ref r0), some (.int x1), some (.int x2), o3, o4], [], μ) Q := wp_blk rfl e221_42 k
def q221_44 : List (Nat × Instr × Nat) := [(44, .iload_n 3, 1), (45, .ifCond .eq 111, 3)]
theorem e221_44 : am_dec am_M221 q221_44 = true := by decide +kernel
theorem b221_44 {d : Nat} {Q : Option Value ⊕ Nat → am_Mem → Prop} {μ : am_Mem} {r0 : Nat} {x1 x2 x3 : Int32} {o4 : Option Value}
    (k1 : x3 = 0 → Wp d 221 (156, [some (.ref r0), some (.int x1), some (.int x2), some (.int x3), o4], [], μ) Q) (k2 : ¬ (x3 = 0) → Wp d 221 (48, [some (.ref r0), some (.int x1), some (.int x2), some (.int x3), o4], [], μ) Q) :
    Wp d 221 (44, [some (.ref r0), some (.int x1), some (.int x2), some (.int x3), o4], [], μ) Q := wp_blk rfl e221_44 (And.intro k1 k2)
def q221_48 : List (Nat × Instr × Nat) := [(48, .aload_n 0, 1), (49, .getfield 456, 3), (52, .ifCond .ne 104, 3)]
theorem e221_48 : am_dec am_M221 q221_48 = true := by decide +kernel
theorem b221_48 {d : Nat} {Q : Option Value ⊕ Nat → am_Mem → Prop} {μ : am_Mem} {r0 : Nat} {x1 x2 x3 : Int32} {o4 : Option Value}
    (h1 : am_kd μ r0 = (1, 12))
    (k1 : ¬ (am_A μ r0 56) = 0 → Wp d 221 (156, [some (.ref r0), some (.int x1), some (.int x2), some (.int x3), o4], [], μ) Q) (k2 : ¬ (¬ (am_A μ r0 56) = 0) → Wp d 221 (55, [some (.ref r0), some (.int x1), some (.int x2), some (.int x3), o4], [], μ) Q) :
    Wp d 221 (48, [some (.ref r0), some (.int x1), some (.int x2), some (.int x3), o4], [], μ) Q := wp_blk rfl e221_48 (And.intro h1 (And.intro k1 k2))
def q221_55 : List (Nat × Instr × Nat) := [(55, .iconst 0, 1), (56, .istore_n 3, 1), (57, .iconst 0, 1), (58, .istore 4, 2)]
theorem e221_55 : am_dec am_M221 q221_55 = true := by decide +kernel
theorem b221_55 {d : Nat} {Q : Option Value ⊕ Nat → am_Mem → Prop} {μ : am_Mem} {r0 : Nat} {x1 x2 x3 : Int32} {o4 : Option Value}
    (k : Wp d 221 (60, [some (.ref r0), some (.int x1), some (.int x2), some (.int (Int32.ofInt 0)), some (.int (Int32.ofInt 0))], [], μ) Q) :
    Wp d 221 (55, [some (.ref r0), some (.int x1), some (.int x2), some (.int x3), o4], [], μ) Q := wp_blk rfl e221_55 k
def q221_60 : List (Nat × Instr × Nat) := [(60, .iload 4, 2), (62, .aload_n 0, 1), (63, .getfield 287, 3), (66, .if_icmp .ge 87, 3)]
theorem e221_60 : am_dec am_M221 q221_60 = true := by decide +kernel
theorem b221_60 {d : Nat} {Q : Option Value ⊕ Nat → am_Mem → Prop} {μ : am_Mem} {r0 : Nat} {x1 x2 x3 x4 : Int32}
    (h1 : am_kd μ r0 = (1, 12))
    (k1 : (am_A μ r0 12) ≤ x4 → Wp d 221 (153, [some (.ref r0), some (.int x1), some (.int x2), some (.int x3), some (.int x4)], [], μ) Q) (k2 : ¬ ((am_A μ r0 12) ≤ x4) → Wp d 221 (69, [some (.ref r0), some (.int x1), some (.int x2), some (.int x3), some (.int x4)], [], μ) Q) :
    Wp d 221 (60, [some (.ref r0), some (.int x1), some (.int x2), some (.int x3), some (.int x4)], [], μ) Q := wp_blk rfl e221_60 (And.intro h1 (And.intro k1 k2))
def q221_69 : List (Nat × Instr × Nat) := [(69, .aload_n 0, 1), (70, .getfield 456, 3), (73, .ifCond .ne 80, 3)]
theorem e221_69 : am_dec am_M221 q221_69 = true := by decide +kernel
theorem b221_69 {d : Nat} {Q : Option Value ⊕ Nat → am_Mem → Prop} {μ : am_Mem} {r0 : Nat} {x1 x2 x3 x4 : Int32}
    (h1 : am_kd μ r0 = (1, 12))
    (k1 : ¬ (am_A μ r0 56) = 0 → Wp d 221 (153, [some (.ref r0), some (.int x1), some (.int x2), some (.int x3), some (.int x4)], [], μ) Q) (k2 : ¬ (¬ (am_A μ r0 56) = 0) → Wp d 221 (76, [some (.ref r0), some (.int x1), some (.int x2), some (.int x3), some (.int x4)], [], μ) Q) :
    Wp d 221 (69, [some (.ref r0), some (.int x1), some (.int x2), some (.int x3), some (.int x4)], [], μ) Q := wp_blk rfl e221_69 (And.intro h1 (And.intro k1 k2))
def q221_76 : List (Nat × Instr × Nat) := [(76, .aload_n 0, 1), (77, .getfield 81, 3), (80, .aload_n 0, 1), (81, .getfield 41, 3), (84, .aload_n 0, 1), (85, .getfield 29, 3), (88, .iload 4, 2), (90, .iaload, 1), (91, .iaload, 1), (92, .iaload, 1), (93, .iload_n 2, 1), (94, .if_icmp .eq 6, 3)]
theorem e221_76 : am_dec am_M221 q221_76 = true := by decide +kernel
theorem b221_76 {d : Nat} {Q : Option Value ⊕ Nat → am_Mem → Prop} {μ : am_Mem} {r0 : Nat} {x1 x2 x3 x4 : Int32}
    (h1 : am_kd μ r0 = (1, 12))
    (h2 : ¬ am_F μ r0 41 = 15)
    (h3 : am_kd μ r0 = (1, 12))
    (h4 : ¬ am_F μ r0 19 = 15)
    (h5 : am_kd μ r0 = (1, 12))
    (h6 : ¬ am_F μ r0 13 = 15)
    (h7 : (am_kd μ (am_F μ r0 13)).1 = 2 ∨ (am_kd μ (am_F μ r0 13)).1 = 8)
    (h8 : ¬ (x4 < 0 ∨ (am_kd μ (am_F μ r0 13)).2 ≤ x4.toNatClampNeg))
    (h9 : (am_kd μ (am_F μ r0 19)).1 = 2 ∨ (am_kd μ (am_F μ r0 19)).1 = 8)
    (h10 : ¬ ((am_A μ (am_F μ r0 13) x4.toNatClampNeg) < 0 ∨ (am_kd μ (am_F μ r0 19)).2 ≤ (am_A μ (am_F μ r0 13) x4.toNatClampNeg).toNatClampNeg))
    (h11 : (am_kd μ (am_F μ r0 41)).1 = 2 ∨ (am_kd μ (am_F μ r0 41)).1 = 8)
    (h12 : ¬ ((am_A μ (am_F μ r0 19) (am_A μ (am_F μ r0 13) x4.toNatClampNeg).toNatClampNeg) < 0 ∨ (am_kd μ (am_F μ r0 41)).2 ≤ (am_A μ (am_F μ r0 19) (am_A μ (am_F μ r0 13) x4.toNatClampNeg).toNatClampNeg).toNatClampNeg))
    (k1 : (am_A μ (am_F μ r0 41) (am_A μ (am_F μ r0 19) (am_A μ (am_F μ r0 13) x4.toNatClampNeg).toNatClampNeg).toNatClampNeg) = x2 → Wp d 221 (100, [some (.ref r0), some (.int x1), some (.int x2), some (.int x3), some (.int x4)], [], μ) Q) (k2 : ¬ ((am_A μ (am_F μ r0 41) (am_A μ (am_F μ r0 19) (am_A μ (am_F μ r0 13) x4.toNatClampNeg).toNatClampNeg).toNatClampNeg) = x2) → Wp d 221 (97, [some (.ref r0), some (.int x1), some (.int x2), some (.int x3), some (.int x4)], [], μ) Q) :
    Wp d 221 (76, [some (.ref r0), some (.int x1), some (.int x2), some (.int x3), some (.int x4)], [], μ) Q := wp_blk rfl e221_76 (And.intro h1 (And.intro h2 (And.intro h3 (And.intro h4 (And.intro h5 (And.intro h6 (And.intro h7 (And.intro h8 (And.intro h9 (And.intro h10 (And.intro h11 (And.intro h12 (And.intro k1 k2)))))))))))))
def q221_97 : List (Nat × Instr × Nat) := [(97, .goto 50, 3)]
theorem e221_97 : am_dec am_M221 q221_97 = true := by decide +kernel
theorem b221_97 {d : Nat} {Q : Option Value ⊕ Nat → am_Mem → Prop} {μ : am_Mem} {r0 : Nat} {x1 x2 x3 x4 : Int32}
    (k : Wp d 221 (147, [some (.ref r0), some (.int x1), some (.int x2), some (.int x3), some (.int x4)], [], μ) Q) :
    Wp d 221 (97, [some (.ref r0), some (.int x1), some (.int x2), some (.int x3), some (.int x4)], [], μ) Q := wp_blk rfl e221_97 k
def q221_100 : List (Nat × Instr × Nat) := [(100, .aload_n 0, 1), (101, .aload_n 0, 1), (102, .iload 4, 2)]
theorem e221_100 : am_dec am_M221 q221_100 = true := by decide +kernel
theorem e221_100_c : am_dc1 am_M221 104 (.invokevirtual 512) 3 = true := by decide +kernel
theorem b221_100 {d : Nat} {Q : Option Value ⊕ Nat → am_Mem → Prop} {μ : am_Mem} {r0 : Nat} {x1 x2 x3 x4 : Int32} {P : Int32 → am_Mem → Prop} {X : Nat → am_Mem → Prop}
    (hk : am_kd μ r0 = (1, 12))
    (hc : Wp d 223 (0, [some (.ref r0), some (.int x4), none, none, none], [], μ) (pI P X)) (hr : ∀ x μ', P x μ' → Wp (d + 1) 221 (107, [some (.ref r0), some (.int x1), some (.int x2), some (.int x3), some (.int x4)], [.int x, .ref r0], (μ')) Q)
    (hx : ∀ x μ', X x μ' → Q (.inr x) μ') :
    Wp (d + 1) 221 (100, [some (.ref r0), some (.int x1), some (.int x2), some (.int x3), some (.int x4)], [], μ) Q := wp_blk rfl e221_100 (wp_cv (as := [.int x4]) rfl e221_100_c rfl rfl rfl rfl rfl hk hc (fun v μ' hv => by obtain ⟨x, rfl, hp⟩ := pI_r hv; exact hr x μ' hp) hx)
def q221_107 : List (Nat × Instr × Nat) := [(107, .ldc_w 479, 3), (110, .if_icmp .le 7, 3)]
theorem e221_107 : am_dec am_M221 q221_107 = true := by decide +kernel
theorem b221_107 {d : Nat} {Q : Option Value ⊕ Nat → am_Mem → Prop} {μ : am_Mem} {r0 r90 : Nat} {x1 x2 x3 x4 s1 : Int32}
    (k1 : s1 ≤ (300000 : Int32) → Wp d 221 (117, [some (.ref r0), some (.int x1), some (.int x2), some (.int x3), some (.int x4)], [.ref r90], μ) Q) (k2 : ¬ (s1 ≤ (300000 : Int32)) → Wp d 221 (113, [some (.ref r0), some (.int x1), some (.int x2), some (.int x3), some (.int x4)], [.ref r90], μ) Q) :
    Wp d 221 (107, [some (.ref r0), some (.int x1), some (.int x2), some (.int x3), some (.int x4)], [.int s1, .ref r90], μ) Q := wp_blk rfl e221_107 (And.intro k1 k2)
def q221_113 : List (Nat × Instr × Nat) := [(113, .iconst 1, 1), (114, .goto 4, 3)]
theorem e221_113 : am_dec am_M221 q221_113 = true := by decide +kernel
theorem b221_113 {d : Nat} {Q : Option Value ⊕ Nat → am_Mem → Prop} {μ : am_Mem} {r0 r90 : Nat} {x1 x2 x3 x4 : Int32}
    (k : Wp d 221 (118, [some (.ref r0), some (.int x1), some (.int x2), some (.int x3), some (.int x4)], [.int (Int32.ofInt 1), .ref r90], μ) Q) :
    Wp d 221 (113, [some (.ref r0), some (.int x1), some (.int x2), some (.int x3), some (.int x4)], [.ref r90], μ) Q := wp_blk rfl e221_113 k
def q221_117 : List (Nat × Instr × Nat) := [(117, .iconst 0, 1)]
theorem e221_117 : am_dec am_M221 q221_117 = true := by decide +kernel
theorem b221_117 {d : Nat} {Q : Option Value ⊕ Nat → am_Mem → Prop} {μ : am_Mem} {r0 r90 : Nat} {x1 x2 x3 x4 : Int32}
    (k : Wp d 221 (118, [some (.ref r0), some (.int x1), some (.int x2), some (.int x3), some (.int x4)], [.int (Int32.ofInt 0), .ref r90], μ) Q) :
    Wp d 221 (117, [some (.ref r0), some (.int x1), some (.int x2), some (.int x3), some (.int x4)], [.ref r90], μ) Q := wp_blk rfl e221_117 k
def q221_118 : List (Nat × Instr × Nat) := [(118, .putfield 456, 3), (121, .aload_n 0, 1), (122, .getfield 456, 3), (125, .ifCond .ne 12, 3)]
theorem e221_118 : am_dec am_M221 q221_118 = true := by decide +kernel
theorem b221_118 {d : Nat} {Q : Option Value ⊕ Nat → am_Mem → Prop} {μ : am_Mem} {r0 r90 : Nat} {x1 x2 x3 x4 s1 : Int32}
    (h1 : am_kd μ r90 = (1, 12))
    (h2 : narrow .boolean (.int s1) = .int s1 ∧ fits .boolean (.int s1) = true)
    (h3 : am_kd (am_pA μ r90 56 s1) r0 = (1, 12))
    (k1 : ¬ (am_A (am_pA μ r90 56 s1) r0 56) = 0 → Wp d 221 (137, [some (.ref r0), some (.int x1), some (.int x2), some (.int x3), some (.int x4)], [], (am_pA μ r90 56 s1)) Q) (k2 : ¬ (¬ (am_A (am_pA μ r90 56 s1) r0 56) = 0) → Wp d 221 (128, [some (.ref r0), some (.int x1), some (.int x2), some (.int x3), some (.int x4)], [], (am_pA μ r90 56 s1)) Q) :
    Wp d 221 (118, [some (.ref r0), some (.int x1), some (.int x2), some (.int x3), some (.int x4)], [.int s1, .ref r90], μ) Q := wp_blk rfl e221_118 (And.intro h1 (And.intro h2 (And.intro h3 (And.intro k1 k2))))
def q221_128 : List (Nat × Instr × Nat) := [(128, .aload_n 0, 1), (129, .iload 4, 2)]
theorem e221_128 : am_dec am_M221 q221_128 = true := by decide +kernel
theorem e221_128_c : am_dc1 am_M221 131 (.invokevirtual 515) 3 = true := by decide +kernel
theorem b221_128 {d : Nat} {Q : Option Value ⊕ Nat → am_Mem → Prop} {μ : am_Mem} {r0 : Nat} {x1 x2 x3 x4 : Int32} {P : Int32 → am_Mem → Prop} {X : Nat → am_Mem → Prop}
    (hk : am_kd μ r0 = (1, 12))
    (hc : Wp d 224 (0, [some (.ref r0), some (.int x4), none, none, none, none], [], μ) (pI P X)) (hr : ∀ x μ', P x μ' → Wp (d + 1) 221 (134, [some (.ref r0), some (.int x1), some (.int x2), some (.int x3), some (.int x4)], [.int x], (μ')) Q)
    (hx : ∀ x μ', X x μ' → Q (.inr x) μ') :
    Wp (d + 1) 221 (128, [some (.ref r0), some (.int x1), some (.int x2), some (.int x3), some (.int x4)], [], μ) Q := wp_blk rfl e221_128 (wp_cv (as := [.int x4]) rfl e221_128_c rfl rfl rfl rfl rfl hk hc (fun v μ' hv => by obtain ⟨x, rfl, hp⟩ := pI_r hv; exact hr x μ' hp) hx)
def q221_134 : List (Nat × Instr × Nat) := [(134, .ifCond .ne 7, 3)]
theorem e221_134 : am_dec am_M221 q221_134 = true := by decide +kernel
theorem b221_134 {d : Nat} {Q : Option Value ⊕ Nat → am_Mem → Prop} {μ : am_Mem} {r0 : Nat} {x1 x2 x3 x4 s0 : Int32}
    (k1 : ¬ s0 = 0 → Wp d 221 (141, [some (.ref r0), some (.int x1), some (.int x2), some (.int x3), some (.int x4)], [], μ) Q) (k2 : ¬ (¬ s0 = 0) → Wp d 221 (137, [some (.ref r0), some (.int x1), some (.int x2), some (.int x3), some (.int x4)], [], μ) Q) :
    Wp d 221 (134, [some (.ref r0), some (.int x1), some (.int x2), some (.int x3), some (.int x4)], [.int s0], μ) Q := wp_blk rfl e221_134 (And.intro k1 k2)
def q221_137 : List (Nat × Instr × Nat) := [(137, .iload_n 3, 1), (138, .ifCond .eq 7, 3)]
theorem e221_137 : am_dec am_M221 q221_137 = true := by decide +kernel
theorem b221_137 {d : Nat} {Q : Option Value ⊕ Nat → am_Mem → Prop} {μ : am_Mem} {r0 : Nat} {x1 x2 x3 x4 : Int32}
    (k1 : x3 = 0 → Wp d 221 (145, [some (.ref r0), some (.int x1), some (.int x2), some (.int x3), some (.int x4)], [], μ) Q) (k2 : ¬ (x3 = 0) → Wp d 221 (141, [some (.ref r0), some (.int x1), some (.int x2), some (.int x3), some (.int x4)], [], μ) Q) :
    Wp d 221 (137, [some (.ref r0), some (.int x1), some (.int x2), some (.int x3), some (.int x4)], [], μ) Q := wp_blk rfl e221_137 (And.intro k1 k2)
def q221_141 : List (Nat × Instr × Nat) := [(141, .iconst 1, 1), (142, .goto 4, 3)]
theorem e221_141 : am_dec am_M221 q221_141 = true := by decide +kernel
theorem b221_141 {d : Nat} {Q : Option Value ⊕ Nat → am_Mem → Prop} {μ : am_Mem} {r0 : Nat} {x1 x2 x3 x4 : Int32}
    (k : Wp d 221 (146, [some (.ref r0), some (.int x1), some (.int x2), some (.int x3), some (.int x4)], [.int (Int32.ofInt 1)], μ) Q) :
    Wp d 221 (141, [some (.ref r0), some (.int x1), some (.int x2), some (.int x3), some (.int x4)], [], μ) Q := wp_blk rfl e221_141 k
def q221_145 : List (Nat × Instr × Nat) := [(145, .iconst 0, 1)]
theorem e221_145 : am_dec am_M221 q221_145 = true := by decide +kernel
theorem b221_145 {d : Nat} {Q : Option Value ⊕ Nat → am_Mem → Prop} {μ : am_Mem} {r0 : Nat} {x1 x2 x3 x4 : Int32}
    (k : Wp d 221 (146, [some (.ref r0), some (.int x1), some (.int x2), some (.int x3), some (.int x4)], [.int (Int32.ofInt 0)], μ) Q) :
    Wp d 221 (145, [some (.ref r0), some (.int x1), some (.int x2), some (.int x3), some (.int x4)], [], μ) Q := wp_blk rfl e221_145 k
def q221_146 : List (Nat × Instr × Nat) := [(146, .istore_n 3, 1)]
theorem e221_146 : am_dec am_M221 q221_146 = true := by decide +kernel
theorem b221_146 {d : Nat} {Q : Option Value ⊕ Nat → am_Mem → Prop} {μ : am_Mem} {r0 : Nat} {x1 x2 x3 x4 s0 : Int32}
    (k : Wp d 221 (147, [some (.ref r0), some (.int x1), some (.int x2), some (.int s0), some (.int x4)], [], μ) Q) :
    Wp d 221 (146, [some (.ref r0), some (.int x1), some (.int x2), some (.int x3), some (.int x4)], [.int s0], μ) Q := wp_blk rfl e221_146 k
def q221_147 : List (Nat × Instr × Nat) := [(147, .iinc 4 1, 3), (150, .goto (-90), 3)]
theorem e221_147 : am_dec am_M221 q221_147 = true := by decide +kernel
theorem b221_147 {d : Nat} {Q : Option Value ⊕ Nat → am_Mem → Prop} {μ : am_Mem} {r0 : Nat} {x1 x2 x3 x4 : Int32}
    (k : Wp d 221 (60, [some (.ref r0), some (.int x1), some (.int x2), some (.int x3), some (.int (x4 + Int32.ofInt 1))], [], μ) Q) :
    Wp d 221 (147, [some (.ref r0), some (.int x1), some (.int x2), some (.int x3), some (.int x4)], [], μ) Q := wp_blk rfl e221_147 k
def q221_153 : List (Nat × Instr × Nat) := [(153, .goto (-109), 3)]
theorem e221_153 : am_dec am_M221 q221_153 = true := by decide +kernel
theorem b221_153 {d : Nat} {Q : Option Value ⊕ Nat → am_Mem → Prop} {μ : am_Mem} {r0 : Nat} {x1 x2 x3 x4 : Int32}
    (k : Wp d 221 (44, [some (.ref r0), some (.int x1), some (.int x2), some (.int x3), some (.int x4)], [], μ) Q) :
    Wp d 221 (153, [some (.ref r0), some (.int x1), some (.int x2), some (.int x3), some (.int x4)], [], μ) Q := wp_blk rfl e221_153 k
def q221_156 : List (Nat × Instr × Nat) := [(156, .iinc 2 1, 3), (159, .goto (-129), 3)]
theorem e221_156 : am_dec am_M221 q221_156 = true := by decide +kernel
theorem b221_156 {d : Nat} {Q : Option Value ⊕ Nat → am_Mem → Prop} {μ : am_Mem} {r0 : Nat} {x1 x2 x3 : Int32} {o4 : Option Value}
    (k : Wp d 221 (30, [some (.ref r0), some (.int x1), some (.int (x2 + Int32.ofInt 1)), some (.int x3), o4], [], μ) Q) :
    Wp d 221 (156, [some (.ref r0), some (.int x1), some (.int x2), some (.int x3), o4], [], μ) Q := wp_blk rfl e221_156 k
def q221_162 : List (Nat × Instr × Nat) := [(162, .aload_n 0, 1), (163, .lconst 0, 1), (164, .putfield 518, 3), (167, .iconst 0, 1), (168, .istore_n 2, 1)]
theorem e221_162 : am_dec am_M221 q221_162 = true := by decide +kernel
theorem b221_162 {d : Nat} {Q : Option Value ⊕ Nat → am_Mem → Prop} {μ : am_Mem} {r0 : Nat} {x1 x2 : Int32} {o3 o4 : Option Value}
    (h1 : am_kd μ r0 = (1, 12))
    (k : Wp d 221 (169, [some (.ref r0), some (.int x1), some (.int (Int32.ofInt 0)), o3, o4], [], (am_pL μ r0 57 (Int64.ofNat 0))) Q) :
    Wp d 221 (162, [some (.ref r0), some (.int x1), some (.int x2), o3, o4], [], μ) Q := wp_blk rfl e221_162 (And.intro h1 (And.intro ⟨rfl, rfl⟩ k))
def q221_169 : List (Nat × Instr × Nat) := [(169, .iload_n 2, 1), (170, .aload_n 0, 1), (171, .getfield 287, 3), (174, .if_icmp .ge 51, 3)]
theorem e221_169 : am_dec am_M221 q221_169 = true := by decide +kernel
theorem b221_169 {d : Nat} {Q : Option Value ⊕ Nat → am_Mem → Prop} {μ : am_Mem} {r0 : Nat} {x1 x2 : Int32} {o3 o4 : Option Value}
    (h1 : am_kd μ r0 = (1, 12))
    (k1 : (am_A μ r0 12) ≤ x2 → Wp d 221 (225, [some (.ref r0), some (.int x1), some (.int x2), o3, o4], [], μ) Q) (k2 : ¬ ((am_A μ r0 12) ≤ x2) → Wp d 221 (177, [some (.ref r0), some (.int x1), some (.int x2), o3, o4], [], μ) Q) :
    Wp d 221 (169, [some (.ref r0), some (.int x1), some (.int x2), o3, o4], [], μ) Q := wp_blk rfl e221_169 (And.intro h1 (And.intro k1 k2))
def q221_177 : List (Nat × Instr × Nat) := [(177, .aload_n 0, 1), (178, .getfield 456, 3), (181, .ifCond .ne 44, 3)]
theorem e221_177 : am_dec am_M221 q221_177 = true := by decide +kernel
theorem b221_177 {d : Nat} {Q : Option Value ⊕ Nat → am_Mem → Prop} {μ : am_Mem} {r0 : Nat} {x1 x2 : Int32} {o3 o4 : Option Value}
    (h1 : am_kd μ r0 = (1, 12))
    (k1 : ¬ (am_A μ r0 56) = 0 → Wp d 221 (225, [some (.ref r0), some (.int x1), some (.int x2), o3, o4], [], μ) Q) (k2 : ¬ (¬ (am_A μ r0 56) = 0) → Wp d 221 (184, [some (.ref r0), some (.int x1), some (.int x2), o3, o4], [], μ) Q) :
    Wp d 221 (177, [some (.ref r0), some (.int x1), some (.int x2), o3, o4], [], μ) Q := wp_blk rfl e221_177 (And.intro h1 (And.intro k1 k2))
def q221_184 : List (Nat × Instr × Nat) := [(184, .aload_n 0, 1), (185, .aload_n 0, 1), (186, .iload_n 2, 1)]
theorem e221_184 : am_dec am_M221 q221_184 = true := by decide +kernel
theorem e221_184_c : am_dc1 am_M221 187 (.invokevirtual 512) 3 = true := by decide +kernel
theorem b221_184 {d : Nat} {Q : Option Value ⊕ Nat → am_Mem → Prop} {μ : am_Mem} {r0 : Nat} {x1 x2 : Int32} {o3 o4 : Option Value} {P : Int32 → am_Mem → Prop} {X : Nat → am_Mem → Prop}
    (hk : am_kd μ r0 = (1, 12))
    (hc : Wp d 223 (0, [some (.ref r0), some (.int x2), none, none, none], [], μ) (pI P X)) (hr : ∀ x μ', P x μ' → Wp (d + 1) 221 (190, [some (.ref r0), some (.int x1), some (.int x2), o3, o4], [.int x, .ref r0], (μ')) Q)
    (hx : ∀ x μ', X x μ' → Q (.inr x) μ') :
    Wp (d + 1) 221 (184, [some (.ref r0), some (.int x1), some (.int x2), o3, o4], [], μ) Q := wp_blk rfl e221_184 (wp_cv (as := [.int x2]) rfl e221_184_c rfl rfl rfl rfl rfl hk hc (fun v μ' hv => by obtain ⟨x, rfl, hp⟩ := pI_r hv; exact hr x μ' hp) hx)
def q221_190 : List (Nat × Instr × Nat) := [(190, .ldc_w 479, 3), (193, .if_icmp .le 7, 3)]
theorem e221_190 : am_dec am_M221 q221_190 = true := by decide +kernel
theorem b221_190 {d : Nat} {Q : Option Value ⊕ Nat → am_Mem → Prop} {μ : am_Mem} {r0 r90 : Nat} {x1 x2 s1 : Int32} {o3 o4 : Option Value}
    (k1 : s1 ≤ (300000 : Int32) → Wp d 221 (200, [some (.ref r0), some (.int x1), some (.int x2), o3, o4], [.ref r90], μ) Q) (k2 : ¬ (s1 ≤ (300000 : Int32)) → Wp d 221 (196, [some (.ref r0), some (.int x1), some (.int x2), o3, o4], [.ref r90], μ) Q) :
    Wp d 221 (190, [some (.ref r0), some (.int x1), some (.int x2), o3, o4], [.int s1, .ref r90], μ) Q := wp_blk rfl e221_190 (And.intro k1 k2)
def q221_196 : List (Nat × Instr × Nat) := [(196, .iconst 1, 1), (197, .goto 4, 3)]
theorem e221_196 : am_dec am_M221 q221_196 = true := by decide +kernel
theorem b221_196 {d : Nat} {Q : Option Value ⊕ Nat → am_Mem → Prop} {μ : am_Mem} {r0 r90 : Nat} {x1 x2 : Int32} {o3 o4 : Option Value}
    (k : Wp d 221 (201, [some (.ref r0), some (.int x1), some (.int x2), o3, o4], [.int (Int32.ofInt 1), .ref r90], μ) Q) :
    Wp d 221 (196, [some (.ref r0), some (.int x1), some (.int x2), o3, o4], [.ref r90], μ) Q := wp_blk rfl e221_196 k
def q221_200 : List (Nat × Instr × Nat) := [(200, .iconst 0, 1)]
theorem e221_200 : am_dec am_M221 q221_200 = true := by decide +kernel
theorem b221_200 {d : Nat} {Q : Option Value ⊕ Nat → am_Mem → Prop} {μ : am_Mem} {r0 r90 : Nat} {x1 x2 : Int32} {o3 o4 : Option Value}
    (k : Wp d 221 (201, [some (.ref r0), some (.int x1), some (.int x2), o3, o4], [.int (Int32.ofInt 0), .ref r90], μ) Q) :
    Wp d 221 (200, [some (.ref r0), some (.int x1), some (.int x2), o3, o4], [.ref r90], μ) Q := wp_blk rfl e221_200 k
def q221_201 : List (Nat × Instr × Nat) := [(201, .putfield 456, 3), (204, .aload_n 0, 1), (205, .aload_n 0, 1), (206, .getfield 518, 3), (209, .aload_n 0, 1), (210, .iload_n 2, 1)]
theorem e221_201 : am_dec am_M221 q221_201 = true := by decide +kernel
theorem e221_201_c : am_dc1 am_M221 211 (.invokevirtual 512) 3 = true := by decide +kernel
theorem b221_201 {d : Nat} {Q : Option Value ⊕ Nat → am_Mem → Prop} {μ : am_Mem} {r0 r90 : Nat} {x1 x2 s1 : Int32} {o3 o4 : Option Value} {P : Int32 → am_Mem → Prop} {X : Nat → am_Mem → Prop}
    (h1 : am_kd μ r90 = (1, 12))
    (h2 : narrow .boolean (.int s1) = .int s1 ∧ fits .boolean (.int s1) = true)
    (h3 : am_kd (am_pA μ r90 56 s1) r0 = (1, 12))
    (hk : am_kd (am_pA μ r90 56 s1) r0 = (1, 12))
    (hc : Wp d 223 (0, [some (.ref r0), some (.int x2), none, none, none], [], (am_pA μ r90 56 s1)) (pI P X)) (hr : ∀ x μ', P x μ' → Wp (d + 1) 221 (214, [some (.ref r0), some (.int x1), some (.int x2), o3, o4], [.int x, .long (am_L (am_pA μ r90 56 s1) r0 57), .ref r0], (μ')) Q)
    (hx : ∀ x μ', X x μ' → Q (.inr x) μ') :
    Wp (d + 1) 221 (201, [some (.ref r0), some (.int x1), some (.int x2), o3, o4], [.int s1, .ref r90], μ) Q := wp_blk rfl e221_201 (And.intro h1 (And.intro h2 (And.intro h3 (wp_cv (as := [.int x2]) rfl e221_201_c rfl rfl rfl rfl rfl hk hc (fun v μ' hv => by obtain ⟨x, rfl, hp⟩ := pI_r hv; exact hr x μ' hp) hx))))
def q221_214 : List (Nat × Instr × Nat) := [(214, .i2l, 1), (215, .ladd, 1), (216, .putfield 518, 3), (219, .iinc 2 1, 3), (222, .goto (-53), 3)]
theorem e221_214 : am_dec am_M221 q221_214 = true := by decide +kernel
theorem b221_214 {d : Nat} {Q : Option Value ⊕ Nat → am_Mem → Prop} {μ : am_Mem} {r0 r90 : Nat} {x1 x2 s2 : Int32} {o3 o4 : Option Value} {y91 : Int64}
    (h1 : am_kd μ r90 = (1, 12))
    (k : Wp d 221 (169, [some (.ref r0), some (.int x1), some (.int (x2 + Int32.ofInt 1)), o3, o4], [], (am_pL μ r90 57 (y91 + s2.toInt64))) Q) :
    Wp d 221 (214, [some (.ref r0), some (.int x1), some (.int x2), o3, o4], [.int s2, .long y91, .ref r90], μ) Q := wp_blk rfl e221_214 (And.intro h1 (And.intro ⟨rfl, rfl⟩ k))
theorem e221_225_r : am_dec am_M221 [(225, .return_, 1)] = true := by decide +kernel
theorem b221_225 {d : Nat} {Q : Option Value ⊕ Nat → am_Mem → Prop} {μ : am_Mem} {r0 : Nat} {x1 x2 : Int32} {o3 o4 : Option Value}
    (k : Q (.inl none) μ) :
    Wp d 221 (225, [some (.ref r0), some (.int x1), some (.int x2), o3, o4], [], μ) Q := (wp_rv rfl e221_225_r rfl k)
/-! RuleSheetsModel.layers()I -/
def q222_0 : List (Nat × Instr × Nat) := [(0, .iconst 0, 1), (1, .istore_n 1, 1)]
theorem e222_0 : am_dec am_M222 q222_0 = true := by decide +kernel
theorem b222_0 {d : Nat} {Q : Option Value ⊕ Nat → am_Mem → Prop} {μ : am_Mem} {r0 : Nat}
    (k : Wp d 222 (2, [some (.ref r0), some (.int (Int32.ofInt 0)), none, none, none, none, none], [], μ) Q) :
    Wp d 222 (0, [some (.ref r0), none, none, none, none, none, none], [], μ) Q := wp_blk rfl e222_0 k
def q222_2 : List (Nat × Instr × Nat) := [(2, .iload_n 1, 1), (3, .aload_n 0, 1), (4, .getfield 253, 3), (7, .if_icmp .ge 16, 3)]
theorem e222_2 : am_dec am_M222 q222_2 = true := by decide +kernel
theorem b222_2 {d : Nat} {Q : Option Value ⊕ Nat → am_Mem → Prop} {μ : am_Mem} {r0 : Nat} {x1 : Int32}
    (h1 : am_kd μ r0 = (1, 12))
    (k1 : (am_A μ r0 9) ≤ x1 → Wp d 222 (23, [some (.ref r0), some (.int x1), none, none, none, none, none], [], μ) Q) (k2 : ¬ ((am_A μ r0 9) ≤ x1) → Wp d 222 (10, [some (.ref r0), some (.int x1), none, none, none, none, none], [], μ) Q) :
    Wp d 222 (2, [some (.ref r0), some (.int x1), none, none, none, none, none], [], μ) Q := wp_blk rfl e222_2 (And.intro h1 (And.intro k1 k2))
def q222_10 : List (Nat × Instr × Nat) := [(10, .aload_n 0, 1), (11, .getfield 81, 3), (14, .iload_n 1, 1), (15, .iconst 0, 1), (16, .iastore, 1), (17, .iinc 1 1, 3), (20, .goto (-18), 3)]
theorem e222_10 : am_dec am_M222 q222_10 = true := by decide +kernel
theorem b222_10 {d : Nat} {Q : Option Value ⊕ Nat → am_Mem → Prop} {μ : am_Mem} {r0 : Nat} {x1 : Int32}
    (h1 : am_kd μ r0 = (1, 12))
    (h2 : ¬ am_F μ r0 41 = 15)
    (h3 : (am_kd μ (am_F μ r0 41)).1 = 2)
    (h4 : ¬ (x1 < 0 ∨ (am_kd μ (am_F μ r0 41)).2 ≤ x1.toNatClampNeg))
    (k : Wp d 222 (2, [some (.ref r0), some (.int (x1 + Int32.ofInt 1)), none, none, none, none, none], [], (am_pA μ (am_F μ r0 41) x1.toNatClampNeg (Int32.ofInt 0))) Q) :
    Wp d 222 (10, [some (.ref r0), some (.int x1), none, none, none, none, none], [], μ) Q := wp_blk rfl e222_10 (And.intro h1 (And.intro h2 (And.intro h3 (And.intro h4 k))))
def q222_23 : List (Nat × Instr × Nat) := [(23, .iconst 0, 1), (24, .istore_n 1, 1), (25, .iconst 1, 1), (26, .istore_n 2, 1)]
theorem e222_23 : am_dec am_M222 q222_23 = true := by decide +kernel
theorem b222_23 {d : Nat} {Q : Option Value ⊕ Nat → am_Mem → Prop} {μ : am_Mem} {r0 : Nat} {x1 : Int32}
    (k : Wp d 222 (27, [some (.ref r0), some (.int (Int32.ofInt 0)), some (.int (Int32.ofInt 1)), none, none, none, none], [], μ) Q) :
    Wp d 222 (23, [some (.ref r0), some (.int x1), none, none, none, none, none], [], μ) Q := wp_blk rfl e222_23 k
def q222_27 : List (Nat × Instr × Nat) := [(27, .iload_n 2, 1), (28, .ifCond .eq 151, 3)]
theorem e222_27 : am_dec am_M222 q222_27 = true := by decide +kernel
theorem b222_27 {d : Nat} {Q : Option Value ⊕ Nat → am_Mem → Prop} {μ : am_Mem} {r0 : Nat} {x1 x2 : Int32} {o3 o4 o5 o6 : Option Value}
    (k1 : x2 = 0 → Wp d 222 (179, [some (.ref r0), some (.int x1), some (.int x2), o3, o4, o5, o6], [], μ) Q) (k2 : ¬ (x2 = 0) → Wp d 222 (31, [some (.ref r0), some (.int x1), some (.int x2), o3, o4, o5, o6], [], μ) Q) :
    Wp d 222 (27, [some (.ref r0), some (.int x1), some (.int x2), o3, o4, o5, o6], [], μ) Q := wp_blk rfl e222_27 (And.intro k1 k2)
def q222_31 : List (Nat × Instr × Nat) := [(31, .iconst 0, 1), (32, .istore_n 2, 1), (33, .iconst 0, 1), (34, .istore_n 3, 1)]
theorem e222_31 : am_dec am_M222 q222_31 = true := by decide +kernel
theorem b222_31 {d : Nat} {Q : Option Value ⊕ Nat → am_Mem → Prop} {μ : am_Mem} {r0 : Nat} {x1 x2 : Int32} {o3 o4 o5 o6 : Option Value}
    (k : Wp d 222 (35, [some (.ref r0), some (.int x1), some (.int (Int32.ofInt 0)), some (.int (Int32.ofInt 0)), o4, o5, o6], [], μ) Q) :
    Wp d 222 (31, [some (.ref r0), some (.int x1), some (.int x2), o3, o4, o5, o6], [], μ) Q := wp_blk rfl e222_31 k
def q222_35 : List (Nat × Instr × Nat) := [(35, .iload_n 3, 1), (36, .aload_n 0, 1), (37, .getfield 287, 3), (40, .if_icmp .ge 136, 3)]
theorem e222_35 : am_dec am_M222 q222_35 = true := by decide +kernel
theorem b222_35 {d : Nat} {Q : Option Value ⊕ Nat → am_Mem → Prop} {μ : am_Mem} {r0 : Nat} {x1 x2 x3 : Int32} {o4 o5 o6 : Option Value}
    (h1 : am_kd μ r0 = (1, 12))
    (k1 : (am_A μ r0 12) ≤ x3 → Wp d 222 (176, [some (.ref r0), some (.int x1), some (.int x2), some (.int x3), o4, o5, o6], [], μ) Q) (k2 : ¬ ((am_A μ r0 12) ≤ x3) → Wp d 222 (43, [some (.ref r0), some (.int x1), some (.int x2), some (.int x3), o4, o5, o6], [], μ) Q) :
    Wp d 222 (35, [some (.ref r0), some (.int x1), some (.int x2), some (.int x3), o4, o5, o6], [], μ) Q := wp_blk rfl e222_35 (And.intro h1 (And.intro k1 k2))
def q222_43 : List (Nat × Instr × Nat) := [(43, .aload_n 0, 1), (44, .getfield 41, 3), (47, .aload_n 0, 1), (48, .getfield 29, 3), (51, .iload_n 3, 1), (52, .iaload, 1), (53, .iaload, 1), (54, .istore 4, 2), (56, .aload_n 0, 1), (57, .getfield 32, 3), (60, .iload_n 3, 1), (61, .iaload, 1), (62, .istore 5, 2)]
theorem e222_43 : am_dec am_M222 q222_43 = true := by decide +kernel
theorem b222_43 {d : Nat} {Q : Option Value ⊕ Nat → am_Mem → Prop} {μ : am_Mem} {r0 : Nat} {x1 x2 x3 : Int32} {o4 o5 o6 : Option Value}
    (h1 : am_kd μ r0 = (1, 12))
    (h2 : ¬ am_F μ r0 19 = 15)
    (h3 : am_kd μ r0 = (1, 12))
    (h4 : ¬ am_F μ r0 13 = 15)
    (h5 : (am_kd μ (am_F μ r0 13)).1 = 2 ∨ (am_kd μ (am_F μ r0 13)).1 = 8)
    (h6 : ¬ (x3 < 0 ∨ (am_kd μ (am_F μ r0 13)).2 ≤ x3.toNatClampNeg))
    (h7 : (am_kd μ (am_F μ r0 19)).1 = 2 ∨ (am_kd μ (am_F μ r0 19)).1 = 8)
    (h8 : ¬ ((am_A μ (am_F μ r0 13) x3.toNatClampNeg) < 0 ∨ (am_kd μ (am_F μ r0 19)).2 ≤ (am_A μ (am_F μ r0 13) x3.toNatClampNeg).toNatClampNeg))
    (h9 : am_kd μ r0 = (1, 12))
    (h10 : ¬ am_F μ r0 14 = 15)
    (h11 : (am_kd μ (am_F μ r0 14)).1 = 2 ∨ (am_kd μ (am_F μ r0 14)).1 = 8)
    (h12 : ¬ (x3 < 0 ∨ (am_kd μ (am_F μ r0 14)).2 ≤ x3.toNatClampNeg))
    (k : Wp d 222 (64, [some (.ref r0), some (.int x1), some (.int x2), some (.int x3), some (.int (am_A μ (am_F μ r0 19) (am_A μ (am_F μ r0 13) x3.toNatClampNeg).toNatClampNeg)), some (.int (am_A μ (am_F μ r0 14) x3.toNatClampNeg)), o6], [], μ) Q) :
    Wp d 222 (43, [some (.ref r0), some (.int x1), some (.int x2), some (.int x3), o4, o5, o6], [], μ) Q := wp_blk rfl e222_43 (And.intro h1 (And.intro h2 (And.intro h3 (And.intro h4 (And.intro h5 (And.intro h6 (And.intro h7 (And.intro h8 (And.intro h9 (And.intro h10 (And.intro h11 (And.intro h12 k))))))))))))
def q222_64 : List (Nat × Instr × Nat) := [(64, .iload 5, 2), (66, .aload_n 0, 1), (67, .getfield 32, 3), (70, .iload_n 3, 1), (71, .iconst 1, 1), (72, .iadd, 1), (73, .iaload, 1), (74, .if_icmp .ge 96, 3)]
theorem e222_64 : am_dec am_M222 q222_64 = true := by decide +kernel
theorem b222_64 {d : Nat} {Q : Option Value ⊕ Nat → am_Mem → Prop} {μ : am_Mem} {r0 : Nat} {x1 x2 x3 x4 x5 : Int32} {o6 : Option Value}
    (h1 : am_kd μ r0 = (1, 12))
    (h2 : ¬ am_F μ r0 14 = 15)
    (h3 : (am_kd μ (am_F μ r0 14)).1 = 2 ∨ (am_kd μ (am_F μ r0 14)).1 = 8)
    (h4 : ¬ ((x3 + (Int32.ofInt 1)) < 0 ∨ (am_kd μ (am_F μ r0 14)).2 ≤ (x3 + (Int32.ofInt 1)).toNatClampNeg))
    (k1 : (am_A μ (am_F μ r0 14) (x3 + (Int32.ofInt 1)).toNatClampNeg) ≤ x5 → Wp d 222 (170, [some (.ref r0), some (.int x1), some (.int x2), some (.int x3), some (.int x4), some (.int x5), o6], [], μ) Q) (k2 : ¬ ((am_A μ (am_F μ r0 14) (x3 + (Int32.ofInt 1)).toNatClampNeg) ≤ x5) → Wp d 222 (77, [some (.ref r0), some (.int x1), some (.int x2), some (.int x3), some (.int x4), some (.int x5), o6], [], μ) Q) :
    Wp d 222 (64, [some (.ref r0), some (.int x1), some (.int x2), some (.int x3), some (.int x4), some (.int x5), o6], [], μ) Q := wp_blk rfl e222_64 (And.intro h1 (And.intro h2 (And.intro h3 (And.intro h4 (And.intro k1 k2)))))
def q222_77 : List (Nat × Instr × Nat) := [(77, .aload_n 0, 1), (78, .getfield 35, 3), (81, .iload 5, 2), (83, .iaload, 1), (84, .iconst 3, 1), (85, .if_icmp .ne 7, 3)]
theorem e222_77 : am_dec am_M222 q222_77 = true := by decide +kernel
theorem b222_77 {d : Nat} {Q : Option Value ⊕ Nat → am_Mem → Prop} {μ : am_Mem} {r0 : Nat} {x1 x2 x3 x4 x5 : Int32} {o6 : Option Value}
    (h1 : am_kd μ r0 = (1, 12))
    (h2 : ¬ am_F μ r0 16 = 15)
    (h3 : (am_kd μ (am_F μ r0 16)).1 = 2 ∨ (am_kd μ (am_F μ r0 16)).1 = 8)
    (h4 : ¬ (x5 < 0 ∨ (am_kd μ (am_F μ r0 16)).2 ≤ x5.toNatClampNeg))
    (k1 : ¬ (am_A μ (am_F μ r0 16) x5.toNatClampNeg) = (Int32.ofInt 3) → Wp d 222 (92, [some (.ref r0), some (.int x1), some (.int x2), some (.int x3), some (.int x4), some (.int x5), o6], [], μ) Q) (k2 : ¬ (¬ (am_A μ (am_F μ r0 16) x5.toNatClampNeg) = (Int32.ofInt 3)) → Wp d 222 (88, [some (.ref r0), some (.int x1), some (.int x2), some (.int x3), some (.int x4), some (.int x5), o6], [], μ) Q) :
    Wp d 222 (77, [some (.ref r0), some (.int x1), some (.int x2), some (.int x3), some (.int x4), some (.int x5), o6], [], μ) Q := wp_blk rfl e222_77 (And.intro h1 (And.intro h2 (And.intro h3 (And.intro h4 (And.intro k1 k2)))))
def q222_88 : List (Nat × Instr × Nat) := [(88, .iconst 0, 1), (89, .goto 37, 3)]
theorem e222_88 : am_dec am_M222 q222_88 = true := by decide +kernel
theorem b222_88 {d : Nat} {Q : Option Value ⊕ Nat → am_Mem → Prop} {μ : am_Mem} {r0 : Nat} {x1 x2 x3 x4 x5 : Int32} {o6 : Option Value}
    (k : Wp d 222 (126, [some (.ref r0), some (.int x1), some (.int x2), some (.int x3), some (.int x4), some (.int x5), o6], [.int (Int32.ofInt 0)], μ) Q) :
    Wp d 222 (88, [some (.ref r0), some (.int x1), some (.int x2), some (.int x3), some (.int x4), some (.int x5), o6], [], μ) Q := wp_blk rfl e222_88 k
def q222_92 : List (Nat × Instr × Nat) := [(92, .aload_n 0, 1), (93, .getfield 81, 3), (96, .aload_n 0, 1), (97, .getfield 41, 3), (100, .aload_n 0, 1), (101, .getfield 38, 3), (104, .iload 5, 2), (106, .iaload, 1), (107, .iaload, 1), (108, .iaload, 1), (109, .aload_n 0, 1), (110, .getfield 35, 3), (113, .iload 5, 2), (115, .iaload, 1), (116, .iconst 2, 1), (117, .if_icmp .ne 7, 3)]
theorem e222_92 : am_dec am_M222 q222_92 = true := by decide +kernel
theorem b222_92 {d : Nat} {Q : Option Value ⊕ Nat → am_Mem → Prop} {μ : am_Mem} {r0 : Nat} {x1 x2 x3 x4 x5 : Int32} {o6 : Option Value}
    (h1 : am_kd μ r0 = (1, 12))
    (h2 : ¬ am_F μ r0 41 = 15)
    (h3 : am_kd μ r0 = (1, 12))
    (h4 : ¬ am_F μ r0 19 = 15)
    (h5 : am_kd μ r0 = (1, 12))
    (h6 : ¬ am_F μ r0 17 = 15)
    (h7 : (am_kd μ (am_F μ r0 17)).1 = 2 ∨ (am_kd μ (am_F μ r0 17)).1 = 8)
    (h8 : ¬ (x5 < 0 ∨ (am_kd μ (am_F μ r0 17)).2 ≤ x5.toNatClampNeg))
    (h9 : (am_kd μ (am_F μ r0 19)).1 = 2 ∨ (am_kd μ (am_F μ r0 19)).1 = 8)
    (h10 : ¬ ((am_A μ (am_F μ r0 17) x5.toNatClampNeg) < 0 ∨ (am_kd μ (am_F μ r0 19)).2 ≤ (am_A μ (am_F μ r0 17) x5.toNatClampNeg).toNatClampNeg))
    (h11 : (am_kd μ (am_F μ r0 41)).1 = 2 ∨ (am_kd μ (am_F μ r0 41)).1 = 8)
    (h12 : ¬ ((am_A μ (am_F μ r0 19) (am_A μ (am_F μ r0 17) x5.toNatClampNeg).toNatClampNeg) < 0 ∨ (am_kd μ (am_F μ r0 41)).2 ≤ (am_A μ (am_F μ r0 19) (am_A μ (am_F μ r0 17) x5.toNatClampNeg).toNatClampNeg).toNatClampNeg))
    (h13 : am_kd μ r0 = (1, 12))
    (h14 : ¬ am_F μ r0 16 = 15)
    (h15 : (am_kd μ (am_F μ r0 16)).1 = 2 ∨ (am_kd μ (am_F μ r0 16)).1 = 8)
    (h16 : ¬ (x5 < 0 ∨ (am_kd μ (am_F μ r0 16)).2 ≤ x5.toNatClampNeg))
    (k1 : ¬ (am_A μ (am_F μ r0 16) x5.toNatClampNeg) = (Int32.ofInt 2) → Wp d 222 (124, [some (.ref r0), some (.int x1), some (.int x2), some (.int x3), some (.int x4), some (.int x5), o6], [.int (am_A μ (am_F μ r0 41) (am_A μ (am_F μ r0 19) (am_A μ (am_F μ r0 17) x5.toNatClampNeg).toNatClampNeg).toNatClampNeg)], μ) Q) (k2 : ¬ (¬ (am_A μ (am_F μ r0 16) x5.toNatClampNeg) = (Int32.ofInt 2)) → Wp d 222 (120, [some (.ref r0), some (.int x1), some (.int x2), some (.int x3), some (.int x4), some (.int x5), o6], [.int (am_A μ (am_F μ r0 41) (am_A μ (am_F μ r0 19) (am_A μ (am_F μ r0 17) x5.toNatClampNeg).toNatClampNeg).toNatClampNeg)], μ) Q) :
    Wp d 222 (92, [some (.ref r0), some (.int x1), some (.int x2), some (.int x3), some (.int x4), some (.int x5), o6], [], μ) Q := wp_blk rfl e222_92 (And.intro h1 (And.intro h2 (And.intro h3 (And.intro h4 (And.intro h5 (And.intro h6 (And.intro h7 (And.intro h8 (And.intro h9 (And.intro h10 (And.intro h11 (And.intro h12 (And.intro h13 (And.intro h14 (And.intro h15 (And.intro h16 (And.intro k1 k2)))))))))))))))))
def q222_120 : List (Nat × Instr × Nat) := [(120, .iconst 1, 1), (121, .goto 4, 3)]
theorem e222_120 : am_dec am_M222 q222_120 = true := by decide +kernel
theorem b222_120 {d : Nat} {Q : Option Value ⊕ Nat → am_Mem → Prop} {μ : am_Mem} {r0 : Nat} {x1 x2 x3 x4 x5 s0 : Int32} {o6 : Option Value}
    (k : Wp d 222 (125, [some (.ref r0), some (.int x1), some (.int x2), some (.int x3), some (.int x4), some (.int x5), o6], [.int (Int32.ofInt 1), .int s0], μ) Q) :
    Wp d 222 (120, [some (.ref r0), some (.int x1), some (.int x2), some (.int x3), some (.int x4), some (.int x5), o6], [.int s0], μ) Q := wp_blk rfl e222_120 k
def q222_124 : List (Nat × Instr × Nat) := [(124, .iconst 0, 1)]
theorem e222_124 : am_dec am_M222 q222_124 = true := by decide +kernel
theorem b222_124 {d : Nat} {Q : Option Value ⊕ Nat → am_Mem → Prop} {μ : am_Mem} {r0 : Nat} {x1 x2 x3 x4 x5 s0 : Int32} {o6 : Option Value}
    (k : Wp d 222 (125, [some (.ref r0), some (.int x1), some (.int x2), some (.int x3), some (.int x4), some (.int x5), o6], [.int (Int32.ofInt 0), .int s0], μ) Q) :
    Wp d 222 (124, [some (.ref r0), some (.int x1), some (.int x2), some (.int x3), some (.int x4), some (.int x5), o6], [.int s0], μ) Q := wp_blk rfl e222_124 k
def q222_125 : List (Nat × Instr × Nat) := [(125, .iadd, 1)]
theorem e222_125 : am_dec am_M222 q222_125 = true := by decide +kernel
theorem b222_125 {d : Nat} {Q : Option Value ⊕ Nat → am_Mem → Prop} {μ : am_Mem} {r0 : Nat} {x1 x2 x3 x4 x5 s0 s1 : Int32} {o6 : Option Value}
    (k : Wp d 222 (126, [some (.ref r0), some (.int x1), some (.int x2), some (.int x3), some (.int x4), some (.int x5), o6], [.int (s0 + s1)], μ) Q) :
    Wp d 222 (125, [some (.ref r0), some (.int x1), some (.int x2), some (.int x3), some (.int x4), some (.int x5), o6], [.int s1, .int s0], μ) Q := wp_blk rfl e222_125 k
def q222_126 : List (Nat × Instr × Nat) := [(126, .istore 6, 2), (128, .iload 6, 2), (130, .aload_n 0, 1), (131, .getfield 81, 3), (134, .iload 4, 2), (136, .iaload, 1), (137, .if_icmp .le 27, 3)]
theorem e222_126 : am_dec am_M222 q222_126 = true := by decide +kernel
theorem b222_126 {d : Nat} {Q : Option Value ⊕ Nat → am_Mem → Prop} {μ : am_Mem} {r0 : Nat} {x1 x2 x3 x4 x5 s0 : Int32} {o6 : Option Value}
    (h1 : am_kd μ r0 = (1, 12))
    (h2 : ¬ am_F μ r0 41 = 15)
    (h3 : (am_kd μ (am_F μ r0 41)).1 = 2 ∨ (am_kd μ (am_F μ r0 41)).1 = 8)
    (h4 : ¬ (x4 < 0 ∨ (am_kd μ (am_F μ r0 41)).2 ≤ x4.toNatClampNeg))
    (k1 : s0 ≤ (am_A μ (am_F μ r0 41) x4.toNatClampNeg) → Wp d 222 (164, [some (.ref r0), some (.int x1), some (.int x2), some (.int x3), some (.int x4), some (.int x5), some (.int s0)], [], μ) Q) (k2 : ¬ (s0 ≤ (am_A μ (am_F μ r0 41) x4.toNatClampNeg)) → Wp d 222 (140, [some (.ref r0), some (.int x1), some (.int x2), some (.int x3), some (.int x4), some (.int x5), some (.int s0)], [], μ) Q) :
    Wp d 222 (126, [some (.ref r0), some (.int x1), some (.int x2), some (.int x3), some (.int x4), some (.int x5), o6], [.int s0], μ) Q := wp_blk rfl e222_126 (And.intro h1 (And.intro h2 (And.intro h3 (And.intro h4 (And.intro k1 k2)))))
def q222_140 : List (Nat × Instr × Nat) := [(140, .aload_n 0, 1), (141, .getfield 81, 3), (144, .iload 4, 2), (146, .iload 6, 2), (148, .iastore, 1), (149, .iload 6, 2), (151, .iload_n 1, 1), (152, .if_icmp .le 8, 3)]
theorem e222_140 : am_dec am_M222 q222_140 = true := by decide +kernel
theorem b222_140 {d : Nat} {Q : Option Value ⊕ Nat → am_Mem → Prop} {μ : am_Mem} {r0 : Nat} {x1 x2 x3 x4 x5 x6 : Int32}
    (h1 : am_kd μ r0 = (1, 12))
    (h2 : ¬ am_F μ r0 41 = 15)
    (h3 : (am_kd μ (am_F μ r0 41)).1 = 2)
    (h4 : ¬ (x4 < 0 ∨ (am_kd μ (am_F μ r0 41)).2 ≤ x4.toNatClampNeg))
    (k1 : x6 ≤ x1 → Wp d 222 (160, [some (.ref r0), some (.int x1), some (.int x2), some (.int x3), some (.int x4), some (.int x5), some (.int x6)], [], (am_pA μ (am_F μ r0 41) x4.toNatClampNeg x6)) Q) (k2 : ¬ (x6 ≤ x1) → Wp d 222 (155, [some (.ref r0), some (.int x1), some (.int x2), some (.int x3), some (.int x4), some (.int x5), some (.int x6)], [], (am_pA μ (am_F μ r0 41) x4.toNatClampNeg x6)) Q) :
    Wp d 222 (140, [some (.ref r0), some (.int x1), some (.int x2), some (.int x3), some (.int x4), some (.int x5), some (.int x6)], [], μ) Q := wp_blk rfl e222_140 (And.intro h1 (And.intro h2 (And.intro h3 (And.intro h4 (And.intro k1 k2)))))
def q222_155 : List (Nat × Instr × Nat) := [(155, .iload 6, 2), (157, .goto 4, 3)]
theorem e222_155 : am_dec am_M222 q222_155 = true := by decide +kernel
theorem b222_155 {d : Nat} {Q : Option Value ⊕ Nat → am_Mem → Prop} {μ : am_Mem} {r0 : Nat} {x1 x2 x3 x4 x5 x6 : Int32}
    (k : Wp d 222 (161, [some (.ref r0), some (.int x1), some (.int x2), some (.int x3), some (.int x4), some (.int x5), some (.int x6)], [.int x6], μ) Q) :
    Wp d 222 (155, [some (.ref r0), some (.int x1), some (.int x2), some (.int x3), some (.int x4), some (.int x5), some (.int x6)], [], μ) Q := wp_blk rfl e222_155 k
def q222_160 : List (Nat × Instr × Nat) := [(160, .iload_n 1, 1)]
theorem e222_160 : am_dec am_M222 q222_160 = true := by decide +kernel
theorem b222_160 {d : Nat} {Q : Option Value ⊕ Nat → am_Mem → Prop} {μ : am_Mem} {r0 : Nat} {x1 x2 x3 x4 x5 x6 : Int32}
    (k : Wp d 222 (161, [some (.ref r0), some (.int x1), some (.int x2), some (.int x3), some (.int x4), some (.int x5), some (.int x6)], [.int x1], μ) Q) :
    Wp d 222 (160, [some (.ref r0), some (.int x1), some (.int x2), some (.int x3), some (.int x4), some (.int x5), some (.int x6)], [], μ) Q := wp_blk rfl e222_160 k
def q222_161 : List (Nat × Instr × Nat) := [(161, .istore_n 1, 1), (162, .iconst 1, 1), (163, .istore_n 2, 1)]
theorem e222_161 : am_dec am_M222 q222_161 = true := by decide +kernel
theorem b222_161 {d : Nat} {Q : Option Value ⊕ Nat → am_Mem → Prop} {μ : am_Mem} {r0 : Nat} {x1 x2 x3 x4 x5 x6 s0 : Int32}
    (k : Wp d 222 (164, [some (.ref r0), some (.int s0), some (.int (Int32.ofInt 1)), some (.int x3), some (.int x4), some (.int x5), some (.int x6)], [], μ) Q) :
    Wp d 222 (161, [some (.ref r0), some (.int x1), some (.int x2), some (.int x3), some (.int x4), some (.int x5), some (.int x6)], [.int s0], μ) Q := wp_blk rfl e222_161 k
def q222_164 : List (Nat × Instr × Nat) := [(164, .iinc 5 1, 3), (167, .goto (-103), 3)]
theorem e222_164 : am_dec am_M222 q222_164 = true := by decide +kernel
theorem b222_164 {d : Nat} {Q : Option Value ⊕ Nat → am_Mem → Prop} {μ : am_Mem} {r0 : Nat} {x1 x2 x3 x4 x5 x6 : Int32}
    (k : Wp d 222 (64, [some (.ref r0), some (.int x1), some (.int x2), some (.int x3), some (.int x4), some (.int (x5 + Int32.ofInt 1)), some (.int x6)], [], μ) Q) :
    Wp d 222 (164, [some (.ref r0), some (.int x1), some (.int x2), some (.int x3), some (.int x4), some (.int x5), some (.int x6)], [], μ) Q := wp_blk rfl e222_164 k
def q222_170 : List (Nat × Instr × Nat) := [(170, .iinc 3 1, 3), (173, .goto (-138), 3)]
theorem e222_170 : am_dec am_M222 q222_170 = true := by decide +kernel
theorem b222_170 {d : Nat} {Q : Option Value ⊕ Nat → am_Mem → Prop} {μ : am_Mem} {r0 : Nat} {x1 x2 x3 x4 x5 : Int32} {o6 : Option Value}
    (k : Wp d 222 (35, [some (.ref r0), some (.int x1), some (.int x2), some (.int (x3 + Int32.ofInt 1)), some (.int x4), some (.int x5), o6], [], μ) Q) :
    Wp d 222 (170, [some (.ref r0), some (.int x1), some (.int x2), some (.int x3), some (.int x4), some (.int x5), o6], [], μ) Q := wp_blk rfl e222_170 k
def q222_176 : List (Nat × Instr × Nat) := [(176, .goto (-149), 3)]
theorem e222_176 : am_dec am_M222 q222_176 = true := by decide +kernel
theorem b222_176 {d : Nat} {Q : Option Value ⊕ Nat → am_Mem → Prop} {μ : am_Mem} {r0 : Nat} {x1 x2 x3 : Int32} {o4 o5 o6 : Option Value}
    (k : Wp d 222 (27, [some (.ref r0), some (.int x1), some (.int x2), some (.int x3), o4, o5, o6], [], μ) Q) :
    Wp d 222 (176, [some (.ref r0), some (.int x1), some (.int x2), some (.int x3), o4, o5, o6], [], μ) Q := wp_blk rfl e222_176 k
def q222_179 : List (Nat × Instr × Nat) := [(179, .iload_n 1, 1)]
theorem e222_179 : am_dec am_M222 q222_179 = true := by decide +kernel
theorem e222_179_r : am_dec am_M222 [(180, .ireturn, 1)] = true := by decide +kernel
theorem b222_179 {d : Nat} {Q : Option Value ⊕ Nat → am_Mem → Prop} {μ : am_Mem} {r0 : Nat} {x1 x2 : Int32} {o3 o4 o5 o6 : Option Value}
    (k : Q (.inl (some (.int x1))) μ) :
    Wp d 222 (179, [some (.ref r0), some (.int x1), some (.int x2), o3, o4, o5, o6], [], μ) Q := wp_blk rfl e222_179 (wp_ri (ty := .int) rfl e222_179_r rfl ⟨rfl, rfl⟩ k)
/-! RuleSheetsModel.room(I)I -/
def q223_0 : List (Nat × Instr × Nat) := [(0, .iconst 0, 1), (1, .istore_n 2, 1), (2, .aload_n 0, 1), (3, .getfield 32, 3), (6, .iload_n 1, 1), (7, .iaload, 1), (8, .istore_n 3, 1)]
theorem e223_0 : am_dec am_M223 q223_0 = true := by decide +kernel
theorem b223_0 {d : Nat} {Q : Option Value ⊕ Nat → am_Mem → Prop} {μ : am_Mem} {r0 : Nat} {x1 : Int32}
    (h1 : am_kd μ r0 = (1, 12))
    (h2 : ¬ am_F μ r0 14 = 15)
    (h3 : (am_kd μ (am_F μ r0 14)).1 = 2 ∨ (am_kd μ (am_F μ r0 14)).1 = 8)
    (h4 : ¬ (x1 < 0 ∨ (am_kd μ (am_F μ r0 14)).2 ≤ x1.toNatClampNeg))
    (k : Wp d 223 (9, [some (.ref r0), some (.int x1), some (.int (Int32.ofInt 0)), some (.int (am_A μ (am_F μ r0 14) x1.toNatClampNeg)), none], [], μ) Q) :
    Wp d 223 (0, [some (.ref r0), some (.int x1), none, none, none], [], μ) Q := wp_blk rfl e223_0 (And.intro h1 (And.intro h2 (And.intro h3 (And.intro h4 k))))
def q223_9 : List (Nat × Instr × Nat) := [(9, .iload_n 3, 1), (10, .aload_n 0, 1), (11, .getfield 32, 3), (14, .iload_n 1, 1), (15, .iconst 1, 1), (16, .iadd, 1), (17, .iaload, 1), (18, .if_icmp .ge 48, 3)]
theorem e223_9 : am_dec am_M223 q223_9 = true := by decide +kernel
theorem b223_9 {d : Nat} {Q : Option Value ⊕ Nat → am_Mem → Prop} {μ : am_Mem} {r0 : Nat} {x1 x2 x3 : Int32}
    (h1 : am_kd μ r0 = (1, 12))
    (h2 : ¬ am_F μ r0 14 = 15)
    (h3 : (am_kd μ (am_F μ r0 14)).1 = 2 ∨ (am_kd μ (am_F μ r0 14)).1 = 8)
    (h4 : ¬ ((x1 + (Int32.ofInt 1)) < 0 ∨ (am_kd μ (am_F μ r0 14)).2 ≤ (x1 + (Int32.ofInt 1)).toNatClampNeg))
    (k1 : (am_A μ (am_F μ r0 14) (x1 + (Int32.ofInt 1)).toNatClampNeg) ≤ x3 → Wp d 223 (66, [some (.ref r0), some (.int x1), some (.int x2), some (.int x3), none], [], μ) Q) (k2 : ¬ ((am_A μ (am_F μ r0 14) (x1 + (Int32.ofInt 1)).toNatClampNeg) ≤ x3) → Wp d 223 (21, [some (.ref r0), some (.int x1), some (.int x2), some (.int x3), none], [], μ) Q) :
    Wp d 223 (9, [some (.ref r0), some (.int x1), some (.int x2), some (.int x3), none], [], μ) Q := wp_blk rfl e223_9 (And.intro h1 (And.intro h2 (And.intro h3 (And.intro h4 (And.intro k1 k2)))))
def q223_21 : List (Nat × Instr × Nat) := [(21, .iload_n 2, 1), (22, .ifCond .ne 32, 3)]
theorem e223_21 : am_dec am_M223 q223_21 = true := by decide +kernel
theorem b223_21 {d : Nat} {Q : Option Value ⊕ Nat → am_Mem → Prop} {μ : am_Mem} {r0 : Nat} {x1 x2 x3 : Int32}
    (k1 : ¬ x2 = 0 → Wp d 223 (54, [some (.ref r0), some (.int x1), some (.int x2), some (.int x3), none], [], μ) Q) (k2 : ¬ (¬ x2 = 0) → Wp d 223 (25, [some (.ref r0), some (.int x1), some (.int x2), some (.int x3), none], [], μ) Q) :
    Wp d 223 (21, [some (.ref r0), some (.int x1), some (.int x2), some (.int x3), none], [], μ) Q := wp_blk rfl e223_21 (And.intro k1 k2)
def q223_25 : List (Nat × Instr × Nat) := [(25, .aload_n 0, 1), (26, .getfield 35, 3), (29, .iload_n 3, 1), (30, .iaload, 1), (31, .iconst 1, 1), (32, .if_icmp .ne 26, 3)]
theorem e223_25 : am_dec am_M223 q223_25 = true := by decide +kernel
theorem b223_25 {d : Nat} {Q : Option Value ⊕ Nat → am_Mem → Prop} {μ : am_Mem} {r0 : Nat} {x1 x2 x3 : Int32}
    (h1 : am_kd μ r0 = (1, 12))
    (h2 : ¬ am_F μ r0 16 = 15)
    (h3 : (am_kd μ (am_F μ r0 16)).1 = 2 ∨ (am_kd μ (am_F μ r0 16)).1 = 8)
    (h4 : ¬ (x3 < 0 ∨ (am_kd μ (am_F μ r0 16)).2 ≤ x3.toNatClampNeg))
    (k1 : ¬ (am_A μ (am_F μ r0 16) x3.toNatClampNeg) = (Int32.ofInt 1) → Wp d 223 (58, [some (.ref r0), some (.int x1), some (.int x2), some (.int x3), none], [], μ) Q) (k2 : ¬ (¬ (am_A μ (am_F μ r0 16) x3.toNatClampNeg) = (Int32.ofInt 1)) → Wp d 223 (35, [some (.ref r0), some (.int x1), some (.int x2), some (.int x3), none], [], μ) Q) :
    Wp d 223 (25, [some (.ref r0), some (.int x1), some (.int x2), some (.int x3), none], [], μ) Q := wp_blk rfl e223_25 (And.intro h1 (And.intro h2 (And.intro h3 (And.intro h4 (And.intro k1 k2)))))
def q223_35 : List (Nat × Instr × Nat) := [(35, .aload_n 0, 1), (36, .getfield 120, 3), (39, .aload_n 0, 1), (40, .getfield 41, 3), (43, .aload_n 0, 1), (44, .getfield 38, 3), (47, .iload_n 3, 1), (48, .iaload, 1), (49, .iaload, 1), (50, .iaload, 1), (51, .ifCond .ne 7, 3)]
theorem e223_35 : am_dec am_M223 q223_35 = true := by decide +kernel
theorem b223_35 {d : Nat} {Q : Option Value ⊕ Nat → am_Mem → Prop} {μ : am_Mem} {r0 : Nat} {x1 x2 x3 : Int32}
    (h1 : am_kd μ r0 = (1, 12))
    (h2 : ¬ am_F μ r0 55 = 15)
    (h3 : am_kd μ r0 = (1, 12))
    (h4 : ¬ am_F μ r0 19 = 15)
    (h5 : am_kd μ r0 = (1, 12))
    (h6 : ¬ am_F μ r0 17 = 15)
    (h7 : (am_kd μ (am_F μ r0 17)).1 = 2 ∨ (am_kd μ (am_F μ r0 17)).1 = 8)
    (h8 : ¬ (x3 < 0 ∨ (am_kd μ (am_F μ r0 17)).2 ≤ x3.toNatClampNeg))
    (h9 : (am_kd μ (am_F μ r0 19)).1 = 2 ∨ (am_kd μ (am_F μ r0 19)).1 = 8)
    (h10 : ¬ ((am_A μ (am_F μ r0 17) x3.toNatClampNeg) < 0 ∨ (am_kd μ (am_F μ r0 19)).2 ≤ (am_A μ (am_F μ r0 17) x3.toNatClampNeg).toNatClampNeg))
    (h11 : (am_kd μ (am_F μ r0 55)).1 = 2 ∨ (am_kd μ (am_F μ r0 55)).1 = 8)
    (h12 : ¬ ((am_A μ (am_F μ r0 19) (am_A μ (am_F μ r0 17) x3.toNatClampNeg).toNatClampNeg) < 0 ∨ (am_kd μ (am_F μ r0 55)).2 ≤ (am_A μ (am_F μ r0 19) (am_A μ (am_F μ r0 17) x3.toNatClampNeg).toNatClampNeg).toNatClampNeg))
    (k1 : ¬ (am_A μ (am_F μ r0 55) (am_A μ (am_F μ r0 19) (am_A μ (am_F μ r0 17) x3.toNatClampNeg).toNatClampNeg).toNatClampNeg) = 0 → Wp d 223 (58, [some (.ref r0), some (.int x1), some (.int x2), some (.int x3), none], [], μ) Q) (k2 : ¬ (¬ (am_A μ (am_F μ r0 55) (am_A μ (am_F μ r0 19) (am_A μ (am_F μ r0 17) x3.toNatClampNeg).toNatClampNeg).toNatClampNeg) = 0) → Wp d 223 (54, [some (.ref r0), some (.int x1), some (.int x2), some (.int x3), none], [], μ) Q) :
    Wp d 223 (35, [some (.ref r0), some (.int x1), some (.int x2), some (.int x3), none], [], μ) Q := wp_blk rfl e223_35 (And.intro h1 (And.intro h2 (And.intro h3 (And.intro h4 (And.intro h5 (And.intro h6 (And.intro h7 (And.intro h8 (And.intro h9 (And.intro h10 (And.intro h11 (And.intro h12 (And.intro k1 k2)))))))))))))
def q223_54 : List (Nat × Instr × Nat) := [(54, .iconst 1, 1), (55, .goto 4, 3)]
theorem e223_54 : am_dec am_M223 q223_54 = true := by decide +kernel
theorem b223_54 {d : Nat} {Q : Option Value ⊕ Nat → am_Mem → Prop} {μ : am_Mem} {r0 : Nat} {x1 x2 x3 : Int32}
    (k : Wp d 223 (59, [some (.ref r0), some (.int x1), some (.int x2), some (.int x3), none], [.int (Int32.ofInt 1)], μ) Q) :
    Wp d 223 (54, [some (.ref r0), some (.int x1), some (.int x2), some (.int x3), none], [], μ) Q := wp_blk rfl e223_54 k
def q223_58 : List (Nat × Instr × Nat) := [(58, .iconst 0, 1)]
theorem e223_58 : am_dec am_M223 q223_58 = true := by decide +kernel
theorem b223_58 {d : Nat} {Q : Option Value ⊕ Nat → am_Mem → Prop} {μ : am_Mem} {r0 : Nat} {x1 x2 x3 : Int32}
    (k : Wp d 223 (59, [some (.ref r0), some (.int x1), some (.int x2), some (.int x3), none], [.int (Int32.ofInt 0)], μ) Q) :
    Wp d 223 (58, [some (.ref r0), some (.int x1), some (.int x2), some (.int x3), none], [], μ) Q := wp_blk rfl e223_58 k
def q223_59 : List (Nat × Instr × Nat) := [(59, .istore_n 2, 1), (60, .iinc 3 1, 3), (63, .goto (-54), 3)]
theorem e223_59 : am_dec am_M223 q223_59 = true := by decide +kernel
theorem b223_59 {d : Nat} {Q : Option Value ⊕ Nat → am_Mem → Prop} {μ : am_Mem} {r0 : Nat} {x1 x2 x3 s0 : Int32}
    (k : Wp d 223 (9, [some (.ref r0), some (.int x1), some (.int s0), some (.int (x3 + Int32.ofInt 1)), none], [], μ) Q) :
    Wp d 223 (59, [some (.ref r0), some (.int x1), some (.int x2), some (.int x3), none], [.int s0], μ) Q := wp_blk rfl e223_59 k
def q223_66 : List (Nat × Instr × Nat) := [(66, .iload_n 2, 1), (67, .ifCond .eq 7, 3)]
theorem e223_66 : am_dec am_M223 q223_66 = true := by decide +kernel
theorem b223_66 {d : Nat} {Q : Option Value ⊕ Nat → am_Mem → Prop} {μ : am_Mem} {r0 : Nat} {x1 x2 x3 : Int32}
    (k1 : x2 = 0 → Wp d 223 (74, [some (.ref r0), some (.int x1), some (.int x2), some (.int x3), none], [], μ) Q) (k2 : ¬ (x2 = 0) → Wp d 223 (70, [some (.ref r0), some (.int x1), some (.int x2), some (.int x3), none], [], μ) Q) :
    Wp d 223 (66, [some (.ref r0), some (.int x1), some (.int x2), some (.int x3), none], [], μ) Q := wp_blk rfl e223_66 (And.intro k1 k2)
def q223_70 : List (Nat × Instr × Nat) := [(70, .iconst 0, 1), (71, .goto 4, 3)]
theorem e223_70 : am_dec am_M223 q223_70 = true := by decide +kernel
theorem b223_70 {d : Nat} {Q : Option Value ⊕ Nat → am_Mem → Prop} {μ : am_Mem} {r0 : Nat} {x1 x2 x3 : Int32}
    (k : Wp d 223 (75, [some (.ref r0), some (.int x1), some (.int x2), some (.int x3), none], [.int (Int32.ofInt 0)], μ) Q) :
    Wp d 223 (70, [some (.ref r0), some (.int x1), some (.int x2), some (.int x3), none], [], μ) Q := wp_blk rfl e223_70 k
def q223_74 : List (Nat × Instr × Nat) := [(74, .iconst 1, 1)]
theorem e223_74 : am_dec am_M223 q223_74 = true := by decide +kernel
theorem b223_74 {d : Nat} {Q : Option Value ⊕ Nat → am_Mem → Prop} {μ : am_Mem} {r0 : Nat} {x1 x2 x3 : Int32}
    (k : Wp d 223 (75, [some (.ref r0), some (.int x1), some (.int x2), some (.int x3), none], [.int (Int32.ofInt 1)], μ) Q) :
    Wp d 223 (74, [some (.ref r0), some (.int x1), some (.int x2), some (.int x3), none], [], μ) Q := wp_blk rfl e223_74 k
def q223_75 : List (Nat × Instr × Nat) := [(75, .istore_n 3, 1), (76, .aload_n 0, 1), (77, .getfield 32, 3), (80, .iload_n 1, 1), (81, .iaload, 1), (82, .istore 4, 2)]
theorem e223_75 : am_dec am_M223 q223_75 = true := by decide +kernel
theorem b223_75 {d : Nat} {Q : Option Value ⊕ Nat → am_Mem → Prop} {μ : am_Mem} {r0 : Nat} {x1 x2 x3 s0 : Int32}
    (h1 : am_kd μ r0 = (1, 12))
    (h2 : ¬ am_F μ r0 14 = 15)
    (h3 : (am_kd μ (am_F μ r0 14)).1 = 2 ∨ (am_kd μ (am_F μ r0 14)).1 = 8)
    (h4 : ¬ (x1 < 0 ∨ (am_kd μ (am_F μ r0 14)).2 ≤ x1.toNatClampNeg))
    (k : Wp d 223 (84, [some (.ref r0), some (.int x1), some (.int x2), some (.int s0), some (.int (am_A μ (am_F μ r0 14) x1.toNatClampNeg))], [], μ) Q) :
    Wp d 223 (75, [some (.ref r0), some (.int x1), some (.int x2), some (.int x3), none], [.int s0], μ) Q := wp_blk rfl e223_75 (And.intro h1 (And.intro h2 (And.intro h3 (And.intro h4 k))))
def q223_84 : List (Nat × Instr × Nat) := [(84, .iload 4, 2), (86, .aload_n 0, 1), (87, .getfield 32, 3), (90, .iload_n 1, 1), (91, .iconst 1, 1), (92, .iadd, 1), (93, .iaload, 1), (94, .if_icmp .ge 51, 3)]
theorem e223_84 : am_dec am_M223 q223_84 = true := by decide +kernel
theorem b223_84 {d : Nat} {Q : Option Value ⊕ Nat → am_Mem → Prop} {μ : am_Mem} {r0 : Nat} {x1 x2 x3 x4 : Int32}
    (h1 : am_kd μ r0 = (1, 12))
    (h2 : ¬ am_F μ r0 14 = 15)
    (h3 : (am_kd μ (am_F μ r0 14)).1 = 2 ∨ (am_kd μ (am_F μ r0 14)).1 = 8)
    (h4 : ¬ ((x1 + (Int32.ofInt 1)) < 0 ∨ (am_kd μ (am_F μ r0 14)).2 ≤ (x1 + (Int32.ofInt 1)).toNatClampNeg))
    (k1 : (am_A μ (am_F μ r0 14) (x1 + (Int32.ofInt 1)).toNatClampNeg) ≤ x4 → Wp d 223 (145, [some (.ref r0), some (.int x1), some (.int x2), some (.int x3), some (.int x4)], [], μ) Q) (k2 : ¬ ((am_A μ (am_F μ r0 14) (x1 + (Int32.ofInt 1)).toNatClampNeg) ≤ x4) → Wp d 223 (97, [some (.ref r0), some (.int x1), some (.int x2), some (.int x3), some (.int x4)], [], μ) Q) :
    Wp d 223 (84, [some (.ref r0), some (.int x1), some (.int x2), some (.int x3), some (.int x4)], [], μ) Q := wp_blk rfl e223_84 (And.intro h1 (And.intro h2 (And.intro h3 (And.intro h4 (And.intro k1 k2)))))
def q223_97 : List (Nat × Instr × Nat) := [(97, .iload_n 3, 1), (98, .ldc_w 479, 3), (101, .if_icmp .gt 44, 3)]
theorem e223_97 : am_dec am_M223 q223_97 = true := by decide +kernel
theorem b223_97 {d : Nat} {Q : Option Value ⊕ Nat → am_Mem → Prop} {μ : am_Mem} {r0 : Nat} {x1 x2 x3 x4 : Int32}
    (k1 : (300000 : Int32) < x3 → Wp d 223 (145, [some (.ref r0), some (.int x1), some (.int x2), some (.int x3), some (.int x4)], [], μ) Q) (k2 : ¬ ((300000 : Int32) < x3) → Wp d 223 (104, [some (.ref r0), some (.int x1), some (.int x2), some (.int x3), some (.int x4)], [], μ) Q) :
    Wp d 223 (97, [some (.ref r0), some (.int x1), some (.int x2), some (.int x3), some (.int x4)], [], μ) Q := wp_blk rfl e223_97 (And.intro k1 k2)
def q223_104 : List (Nat × Instr × Nat) := [(104, .aload_n 0, 1), (105, .getfield 35, 3), (108, .iload 4, 2), (110, .iaload, 1), (111, .iconst 1, 1), (112, .if_icmp .ne 25, 3)]
theorem e223_104 : am_dec am_M223 q223_104 = true := by decide +kernel
theorem b223_104 {d : Nat} {Q : Option Value ⊕ Nat → am_Mem → Prop} {μ : am_Mem} {r0 : Nat} {x1 x2 x3 x4 : Int32}
    (h1 : am_kd μ r0 = (1, 12))
    (h2 : ¬ am_F μ r0 16 = 15)
    (h3 : (am_kd μ (am_F μ r0 16)).1 = 2 ∨ (am_kd μ (am_F μ r0 16)).1 = 8)
    (h4 : ¬ (x4 < 0 ∨ (am_kd μ (am_F μ r0 16)).2 ≤ x4.toNatClampNeg))
    (k1 : ¬ (am_A μ (am_F μ r0 16) x4.toNatClampNeg) = (Int32.ofInt 1) → Wp d 223 (137, [some (.ref r0), some (.int x1), some (.int x2), some (.int x3), some (.int x4)], [], μ) Q) (k2 : ¬ (¬ (am_A μ (am_F μ r0 16) x4.toNatClampNeg) = (Int32.ofInt 1)) → Wp d 223 (115, [some (.ref r0), some (.int x1), some (.int x2), some (.int x3), some (.int x4)], [], μ) Q) :
    Wp d 223 (104, [some (.ref r0), some (.int x1), some (.int x2), some (.int x3), some (.int x4)], [], μ) Q := wp_blk rfl e223_104 (And.intro h1 (And.intro h2 (And.intro h3 (And.intro h4 (And.intro k1 k2)))))
def q223_115 : List (Nat × Instr × Nat) := [(115, .iload_n 3, 1), (116, .aload_n 0, 1), (117, .getfield 120, 3), (120, .aload_n 0, 1), (121, .getfield 41, 3), (124, .aload_n 0, 1), (125, .getfield 38, 3), (128, .iload 4, 2), (130, .iaload, 1), (131, .iaload, 1), (132, .iaload, 1), (133, .imul, 1), (134, .goto 4, 3)]
theorem e223_115 : am_dec am_M223 q223_115 = true := by decide +kernel
theorem b223_115 {d : Nat} {Q : Option Value ⊕ Nat → am_Mem → Prop} {μ : am_Mem} {r0 : Nat} {x1 x2 x3 x4 : Int32}
    (h1 : am_kd μ r0 = (1, 12))
    (h2 : ¬ am_F μ r0 55 = 15)
    (h3 : am_kd μ r0 = (1, 12))
    (h4 : ¬ am_F μ r0 19 = 15)
    (h5 : am_kd μ r0 = (1, 12))
    (h6 : ¬ am_F μ r0 17 = 15)
    (h7 : (am_kd μ (am_F μ r0 17)).1 = 2 ∨ (am_kd μ (am_F μ r0 17)).1 = 8)
    (h8 : ¬ (x4 < 0 ∨ (am_kd μ (am_F μ r0 17)).2 ≤ x4.toNatClampNeg))
    (h9 : (am_kd μ (am_F μ r0 19)).1 = 2 ∨ (am_kd μ (am_F μ r0 19)).1 = 8)
    (h10 : ¬ ((am_A μ (am_F μ r0 17) x4.toNatClampNeg) < 0 ∨ (am_kd μ (am_F μ r0 19)).2 ≤ (am_A μ (am_F μ r0 17) x4.toNatClampNeg).toNatClampNeg))
    (h11 : (am_kd μ (am_F μ r0 55)).1 = 2 ∨ (am_kd μ (am_F μ r0 55)).1 = 8)
    (h12 : ¬ ((am_A μ (am_F μ r0 19) (am_A μ (am_F μ r0 17) x4.toNatClampNeg).toNatClampNeg) < 0 ∨ (am_kd μ (am_F μ r0 55)).2 ≤ (am_A μ (am_F μ r0 19) (am_A μ (am_F μ r0 17) x4.toNatClampNeg).toNatClampNeg).toNatClampNeg))
    (k : Wp d 223 (138, [some (.ref r0), some (.int x1), some (.int x2), some (.int x3), some (.int x4)], [.int (x3 * (am_A μ (am_F μ r0 55) (am_A μ (am_F μ r0 19) (am_A μ (am_F μ r0 17) x4.toNatClampNeg).toNatClampNeg).toNatClampNeg))], μ) Q) :
    Wp d 223 (115, [some (.ref r0), some (.int x1), some (.int x2), some (.int x3), some (.int x4)], [], μ) Q := wp_blk rfl e223_115 (And.intro h1 (And.intro h2 (And.intro h3 (And.intro h4 (And.intro h5 (And.intro h6 (And.intro h7 (And.intro h8 (And.intro h9 (And.intro h10 (And.intro h11 (And.intro h12 k))))))))))))
def q223_137 : List (Nat × Instr × Nat) := [(137, .iload_n 3, 1)]
theorem e223_137 : am_dec am_M223 q223_137 = true := by decide +kernel
theorem b223_137 {d : Nat} {Q : Option Value ⊕ Nat → am_Mem → Prop} {μ : am_Mem} {r0 : Nat} {x1 x2 x3 x4 : Int32}
    (k : Wp d 223 (138, [some (.ref r0), some (.int x1), some (.int x2), some (.int x3), some (.int x4)], [.int x3], μ) Q) :
    Wp d 223 (137, [some (.ref r0), some (.int x1), some (.int x2), some (.int x3), some (.int x4)], [], μ) Q := wp_blk rfl e223_137 k
def q223_138 : List (Nat × Instr × Nat) := [(138, .istore_n 3, 1), (139, .iinc 4 1, 3), (142, .goto (-58), 3)]
theorem e223_138 : am_dec am_M223 q223_138 = true := by decide +kernel
theorem b223_138 {d : Nat} {Q : Option Value ⊕ Nat → am_Mem → Prop} {μ : am_Mem} {r0 : Nat} {x1 x2 x3 x4 s0 : Int32}
    (k : Wp d 223 (84, [some (.ref r0), some (.int x1), some (.int x2), some (.int s0), some (.int (x4 + Int32.ofInt 1))], [], μ) Q) :
    Wp d 223 (138, [some (.ref r0), some (.int x1), some (.int x2), some (.int x3), some (.int x4)], [.int s0], μ) Q := wp_blk rfl e223_138 k
def q223_145 : List (Nat × Instr × Nat) := [(145, .iload_n 3, 1), (146, .ldc_w 479, 3), (149, .if_icmp .le 9, 3)]
theorem e223_145 : am_dec am_M223 q223_145 = true := by decide +kernel
theorem b223_145 {d : Nat} {Q : Option Value ⊕ Nat → am_Mem → Prop} {μ : am_Mem} {r0 : Nat} {x1 x2 x3 x4 : Int32}
    (k1 : x3 ≤ (300000 : Int32) → Wp d 223 (158, [some (.ref r0), some (.int x1), some (.int x2), some (.int x3), some (.int x4)], [], μ) Q) (k2 : ¬ (x3 ≤ (300000 : Int32)) → Wp d 223 (152, [some (.ref r0), some (.int x1), some (.int x2), some (.int x3), some (.int x4)], [], μ) Q) :
    Wp d 223 (145, [some (.ref r0), some (.int x1), some (.int x2), some (.int x3), some (.int x4)], [], μ) Q := wp_blk rfl e223_145 (And.intro k1 k2)
def q223_152 : List (Nat × Instr × Nat) := [(152, .ldc_w 480, 3), (155, .goto 4, 3)]
theorem e223_152 : am_dec am_M223 q223_152 = true := by decide +kernel
theorem b223_152 {d : Nat} {Q : Option Value ⊕ Nat → am_Mem → Prop} {μ : am_Mem} {r0 : Nat} {x1 x2 x3 x4 : Int32}
    (k : Wp d 223 (159, [some (.ref r0), some (.int x1), some (.int x2), some (.int x3), some (.int x4)], [.int (300001 : Int32)], μ) Q) :
    Wp d 223 (152, [some (.ref r0), some (.int x1), some (.int x2), some (.int x3), some (.int x4)], [], μ) Q := wp_blk rfl e223_152 k
def q223_158 : List (Nat × Instr × Nat) := [(158, .iload_n 3, 1)]
theorem e223_158 : am_dec am_M223 q223_158 = true := by decide +kernel
theorem b223_158 {d : Nat} {Q : Option Value ⊕ Nat → am_Mem → Prop} {μ : am_Mem} {r0 : Nat} {x1 x2 x3 x4 : Int32}
    (k : Wp d 223 (159, [some (.ref r0), some (.int x1), some (.int x2), some (.int x3), some (.int x4)], [.int x3], μ) Q) :
    Wp d 223 (158, [some (.ref r0), some (.int x1), some (.int x2), some (.int x3), some (.int x4)], [], μ) Q := wp_blk rfl e223_158 k
theorem e223_159_r : am_dec am_M223 [(159, .ireturn, 1)] = true := by decide +kernel
theorem b223_159 {d : Nat} {Q : Option Value ⊕ Nat → am_Mem → Prop} {μ : am_Mem} {r0 : Nat} {x1 x2 x3 x4 s0 : Int32}
    (k : Q (.inl (some (.int s0))) μ) :
    Wp d 223 (159, [some (.ref r0), some (.int x1), some (.int x2), some (.int x3), some (.int x4)], [.int s0], μ) Q := (wp_ri (ty := .int) rfl e223_159_r rfl ⟨rfl, rfl⟩ k)
/-! RuleSheetsModel.tryRule(I)Z -/
def q224_0 : List (Nat × Instr × Nat) := [(0, .aload_n 0, 1), (1, .iload_n 1, 1)]
theorem e224_0 : am_dec am_M224 q224_0 = true := by decide +kernel
theorem e224_0_c : am_dc1 am_M224 2 (.invokevirtual 490) 3 = true := by decide +kernel
theorem b224_0 {d : Nat} {Q : Option Value ⊕ Nat → am_Mem → Prop} {μ : am_Mem} {r0 : Nat} {x1 : Int32} {P : am_Mem → Prop} {X : Nat → am_Mem → Prop}
    (hk : am_kd μ r0 = (1, 12))
    (hc : Wp d 203 (0, [some (.ref r0), some (.int x1), none], [], μ) (pV P X)) (hr : ∀ μ', P μ' → Wp (d + 1) 224 (5, [some (.ref r0), some (.int x1), none, none, none, none], [], (μ')) Q)
    (hx : ∀ x μ', X x μ' → Q (.inr x) μ') :
    Wp (d + 1) 224 (0, [some (.ref r0), some (.int x1), none, none, none, none], [], μ) Q := wp_blk rfl e224_0 (wp_cv (as := [.int x1]) rfl e224_0_c rfl rfl rfl rfl rfl hk hc (fun v μ' hv => by obtain ⟨rfl, hp⟩ := pV_r hv; exact hr μ' hp) hx)
def q224_5 : List (Nat × Instr × Nat) := [(5, .aload_n 0, 1), (6, .getfield 147, 3), (9, .iload_n 1, 1), (10, .iaload, 1), (11, .istore_n 2, 1), (12, .aload_n 0, 1), (13, .getfield 147, 3), (16, .iload_n 1, 1), (17, .aload_n 0, 1), (18, .getfield 453, 3), (21, .iastore, 1), (22, .aload_n 0, 1), (23, .iconst (-1), 1), (24, .putfield 484, 3), (27, .aload_n 0, 1), (28, .iconst (-1), 1), (29, .putfield 487, 3)]
theorem e224_5 : am_dec am_M224 q224_5 = true := by decide +kernel
theorem b224_5 {d : Nat} {Q : Option Value ⊕ Nat → am_Mem → Prop} {μ : am_Mem} {r0 : Nat} {x1 : Int32}
    (h1 : am_kd μ r0 = (1, 12))
    (h2 : ¬ am_F μ r0 67 = 15)
    (h3 : (am_kd μ (am_F μ r0 67)).1 = 2 ∨ (am_kd μ (am_F μ r0 67)).1 = 8)
    (h4 : ¬ (x1 < 0 ∨ (am_kd μ (am_F μ r0 67)).2 ≤ x1.toNatClampNeg))
    (h5 : am_kd μ r0 = (1, 12))
    (h6 : ¬ am_F μ r0 67 = 15)
    (h7 : am_kd μ r0 = (1, 12))
    (h8 : (am_kd μ (am_F μ r0 67)).1 = 2)
    (h9 : ¬ (x1 < 0 ∨ (am_kd μ (am_F μ r0 67)).2 ≤ x1.toNatClampNeg))
    (h10 : am_kd (am_pA μ (am_F μ r0 67) x1.toNatClampNeg (am_A μ r0 48)) r0 = (1, 12))
    (h11 : am_kd (am_pA (am_pA μ (am_F μ r0 67) x1.toNatClampNeg (am_A μ r0 48)) r0 68 (Int32.ofInt (-1))) r0 = (1, 12))
    (k : Wp d 224 (32, [some (.ref r0), some (.int x1), some (.int (am_A μ (am_F μ r0 67) x1.toNatClampNeg)), none, none, none], [], (am_pA (am_pA (am_pA μ (am_F μ r0 67) x1.toNatClampNeg (am_A μ r0 48)) r0 68 (Int32.ofInt (-1))) r0 69 (Int32.ofInt (-1)))) Q) :
    Wp d 224 (5, [some (.ref r0), some (.int x1), none, none, none, none], [], μ) Q := wp_blk rfl e224_5 (And.intro h1 (And.intro h2 (And.intro h3 (And.intro h4 (And.intro h5 (And.intro h6 (And.intro h7 (And.intro h8 (And.intro h9 (And.intro h10 (And.intro ⟨rfl, rfl⟩ (And.intro h11 (And.intro ⟨rfl, rfl⟩ k)))))))))))))
def q224_32 : List (Nat × Instr × Nat) := [(32, .iload_n 2, 1), (33, .ifCond .ge 10, 3)]
theorem e224_32 : am_dec am_M224 q224_32 = true := by decide +kernel
theorem b224_32 {d : Nat} {Q : Option Value ⊕ Nat → am_Mem → Prop} {μ : am_Mem} {r0 : Nat} {x1 x2 : Int32}
    (k1 : 0 ≤ x2 → Wp d 224 (43, [some (.ref r0), some (.int x1), some (.int x2), none, none, none], [], μ) Q) (k2 : ¬ (0 ≤ x2) → Wp d 224 (36, [some (.ref r0), some (.int x1), some (.int x2), none, none, none], [], μ) Q) :
    Wp d 224 (32, [some (.ref r0), some (.int x1), some (.int x2), none, none, none], [], μ) Q := wp_blk rfl e224_32 (And.intro k1 k2)
def q224_36 : List (Nat × Instr × Nat) := [(36, .aload_n 0, 1), (37, .iload_n 1, 1), (38, .iconst 0, 1)]
theorem e224_36 : am_dec am_M224 q224_36 = true := by decide +kernel
theorem e224_36_c : am_dc1 am_M224 39 (.invokevirtual 493) 3 = true := by decide +kernel
theorem b224_36 {d : Nat} {Q : Option Value ⊕ Nat → am_Mem → Prop} {μ : am_Mem} {r0 : Nat} {x1 x2 : Int32} {P : Int32 → am_Mem → Prop} {X : Nat → am_Mem → Prop}
    (hk : am_kd μ r0 = (1, 12))
    (hc : Wp d 225 (0, [some (.ref r0), some (.int x1), some (.int (Int32.ofInt 0)), none, none, none], [], μ) (pI P X)) (hr : ∀ x μ', P x μ' → Wp (d + 1) 224 (42, [some (.ref r0), some (.int x1), some (.int x2), none, none, none], [.int x], (μ')) Q)
    (hx : ∀ x μ', X x μ' → Q (.inr x) μ') :
    Wp (d + 1) 224 (36, [some (.ref r0), some (.int x1), some (.int x2), none, none, none], [], μ) Q := wp_blk rfl e224_36 (wp_cv (as := [.int x1, .int (Int32.ofInt 0)]) rfl e224_36_c rfl rfl rfl rfl rfl hk hc (fun v μ' hv => by obtain ⟨x, rfl, hp⟩ := pI_r hv; exact hr x μ' hp) hx)
theorem e224_42_r : am_dec am_M224 [(42, .ireturn, 1)] = true := by decide +kernel
theorem b224_42 {d : Nat} {Q : Option Value ⊕ Nat → am_Mem → Prop} {μ : am_Mem} {r0 : Nat} {x1 x2 s0 : Int32}
    (hn : narrow .boolean (.int s0) = .int s0 ∧ fits .boolean (.int s0) = true)
    (k : Q (.inl (some (.int s0))) μ) :
    Wp d 224 (42, [some (.ref r0), some (.int x1), some (.int x2), none, none, none], [.int s0], μ) Q := (wp_ri (ty := .boolean) rfl e224_42_r rfl hn k)
def q224_43 : List (Nat × Instr × Nat) := [(43, .iconst 0, 1), (44, .istore_n 3, 1), (45, .iconst 0, 1), (46, .istore 4, 2)]
theorem e224_43 : am_dec am_M224 q224_43 = true := by decide +kernel
theorem b224_43 {d : Nat} {Q : Option Value ⊕ Nat → am_Mem → Prop} {μ : am_Mem} {r0 : Nat} {x1 x2 : Int32}
    (k : Wp d 224 (48, [some (.ref r0), some (.int x1), some (.int x2), some (.int (Int32.ofInt 0)), some (.int (Int32.ofInt 0)), none], [], μ) Q) :
    Wp d 224 (43, [some (.ref r0), some (.int x1), some (.int x2), none, none, none], [], μ) Q := wp_blk rfl e224_43 k
def q224_48 : List (Nat × Instr × Nat) := [(48, .iload 4, 2), (50, .aload_n 0, 1), (51, .getfield 481, 3), (54, .if_icmp .ge 94, 3)]
theorem e224_48 : am_dec am_M224 q224_48 = true := by decide +kernel
theorem b224_48 {d : Nat} {Q : Option Value ⊕ Nat → am_Mem → Prop} {μ : am_Mem} {r0 : Nat} {x1 x2 x3 x4 : Int32} {o5 : Option Value}
    (h1 : am_kd μ r0 = (1, 12))
    (k1 : (am_A μ r0 58) ≤ x4 → Wp d 224 (148, [some (.ref r0), some (.int x1), some (.int x2), some (.int x3), some (.int x4), o5], [], μ) Q) (k2 : ¬ ((am_A μ r0 58) ≤ x4) → Wp d 224 (57, [some (.ref r0), some (.int x1), some (.int x2), some (.int x3), some (.int x4), o5], [], μ) Q) :
    Wp d 224 (48, [some (.ref r0), some (.int x1), some (.int x2), some (.int x3), some (.int x4), o5], [], μ) Q := wp_blk rfl e224_48 (And.intro h1 (And.intro k1 k2))
def q224_57 : List (Nat × Instr × Nat) := [(57, .aload_n 0, 1), (58, .getfield 456, 3), (61, .ifCond .ne 87, 3)]
theorem e224_57 : am_dec am_M224 q224_57 = true := by decide +kernel
theorem b224_57 {d : Nat} {Q : Option Value ⊕ Nat → am_Mem → Prop} {μ : am_Mem} {r0 : Nat} {x1 x2 x3 x4 : Int32} {o5 : Option Value}
    (h1 : am_kd μ r0 = (1, 12))
    (k1 : ¬ (am_A μ r0 56) = 0 → Wp d 224 (148, [some (.ref r0), some (.int x1), some (.int x2), some (.int x3), some (.int x4), o5], [], μ) Q) (k2 : ¬ (¬ (am_A μ r0 56) = 0) → Wp d 224 (64, [some (.ref r0), some (.int x1), some (.int x2), some (.int x3), some (.int x4), o5], [], μ) Q) :
    Wp d 224 (57, [some (.ref r0), some (.int x1), some (.int x2), some (.int x3), some (.int x4), o5], [], μ) Q := wp_blk rfl e224_57 (And.intro h1 (And.intro k1 k2))
def q224_64 : List (Nat × Instr × Nat) := [(64, .aload_n 0, 1), (65, .getfield 114, 3), (68, .aload_n 0, 1), (69, .getfield 41, 3), (72, .aload_n 0, 1), (73, .getfield 123, 3), (76, .iload 4, 2), (78, .iaload, 1), (79, .iaload, 1), (80, .iaload, 1), (81, .istore 5, 2)]
theorem e224_64 : am_dec am_M224 q224_64 = true := by decide +kernel
theorem b224_64 {d : Nat} {Q : Option Value ⊕ Nat → am_Mem → Prop} {μ : am_Mem} {r0 : Nat} {x1 x2 x3 x4 : Int32} {o5 : Option Value}
    (h1 : am_kd μ r0 = (1, 12))
    (h2 : ¬ am_F μ r0 53 = 15)
    (h3 : am_kd μ r0 = (1, 12))
    (h4 : ¬ am_F μ r0 19 = 15)
    (h5 : am_kd μ r0 = (1, 12))
    (h6 : ¬ am_F μ r0 59 = 15)
    (h7 : (am_kd μ (am_F μ r0 59)).1 = 2 ∨ (am_kd μ (am_F μ r0 59)).1 = 8)
    (h8 : ¬ (x4 < 0 ∨ (am_kd μ (am_F μ r0 59)).2 ≤ x4.toNatClampNeg))
    (h9 : (am_kd μ (am_F μ r0 19)).1 = 2 ∨ (am_kd μ (am_F μ r0 19)).1 = 8)
    (h10 : ¬ ((am_A μ (am_F μ r0 59) x4.toNatClampNeg) < 0 ∨ (am_kd μ (am_F μ r0 19)).2 ≤ (am_A μ (am_F μ r0 59) x4.toNatClampNeg).toNatClampNeg))
    (h11 : (am_kd μ (am_F μ r0 53)).1 = 2 ∨ (am_kd μ (am_F μ r0 53)).1 = 8)
    (h12 : ¬ ((am_A μ (am_F μ r0 19) (am_A μ (am_F μ r0 59) x4.toNatClampNeg).toNatClampNeg) < 0 ∨ (am_kd μ (am_F μ r0 53)).2 ≤ (am_A μ (am_F μ r0 19) (am_A μ (am_F μ r0 59) x4.toNatClampNeg).toNatClampNeg).toNatClampNeg))
    (k : Wp d 224 (83, [some (.ref r0), some (.int x1), some (.int x2), some (.int x3), some (.int x4), some (.int (am_A μ (am_F μ r0 53) (am_A μ (am_F μ r0 19) (am_A μ (am_F μ r0 59) x4.toNatClampNeg).toNatClampNeg).toNatClampNeg))], [], μ) Q) :
    Wp d 224 (64, [some (.ref r0), some (.int x1), some (.int x2), some (.int x3), some (.int x4), o5], [], μ) Q := wp_blk rfl e224_64 (And.intro h1 (And.intro h2 (And.intro h3 (And.intro h4 (And.intro h5 (And.intro h6 (And.intro h7 (And.intro h8 (And.intro h9 (And.intro h10 (And.intro h11 (And.intro h12 k))))))))))))
def q224_83 : List (Nat × Instr × Nat) := [(83, .iload 5, 2), (85, .ifCond .lt 21, 3)]
theorem e224_83 : am_dec am_M224 q224_83 = true := by decide +kernel
theorem b224_83 {d : Nat} {Q : Option Value ⊕ Nat → am_Mem → Prop} {μ : am_Mem} {r0 : Nat} {x1 x2 x3 x4 x5 : Int32}
    (k1 : x5 < 0 → Wp d 224 (106, [some (.ref r0), some (.int x1), some (.int x2), some (.int x3), some (.int x4), some (.int x5)], [], μ) Q) (k2 : ¬ (x5 < 0) → Wp d 224 (88, [some (.ref r0), some (.int x1), some (.int x2), some (.int x3), some (.int x4), some (.int x5)], [], μ) Q) :
    Wp d 224 (83, [some (.ref r0), some (.int x1), some (.int x2), some (.int x3), some (.int x4), some (.int x5)], [], μ) Q := wp_blk rfl e224_83 (And.intro k1 k2)
def q224_88 : List (Nat × Instr × Nat) := [(88, .iload 5, 2), (90, .iload_n 2, 1), (91, .if_icmp .ge 15, 3)]
theorem e224_88 : am_dec am_M224 q224_88 = true := by decide +kernel
theorem b224_88 {d : Nat} {Q : Option Value ⊕ Nat → am_Mem → Prop} {μ : am_Mem} {r0 : Nat} {x1 x2 x3 x4 x5 : Int32}
    (k1 : x2 ≤ x5 → Wp d 224 (106, [some (.ref r0), some (.int x1), some (.int x2), some (.int x3), some (.int x4), some (.int x5)], [], μ) Q) (k2 : ¬ (x2 ≤ x5) → Wp d 224 (94, [some (.ref r0), some (.int x1), some (.int x2), some (.int x3), some (.int x4), some (.int x5)], [], μ) Q) :
    Wp d 224 (88, [some (.ref r0), some (.int x1), some (.int x2), some (.int x3), some (.int x4), some (.int x5)], [], μ) Q := wp_blk rfl e224_88 (And.intro k1 k2)
def q224_94 : List (Nat × Instr × Nat) := [(94, .aload_n 0, 1), (95, .getfield 108, 3), (98, .iload 5, 2), (100, .iaload, 1), (101, .istore 5, 2), (103, .goto (-20), 3)]
theorem e224_94 : am_dec am_M224 q224_94 = true := by decide +kernel
theorem b224_94 {d : Nat} {Q : Option Value ⊕ Nat → am_Mem → Prop} {μ : am_Mem} {r0 : Nat} {x1 x2 x3 x4 x5 : Int32}
    (h1 : am_kd μ r0 = (1, 12))
    (h2 : ¬ am_F μ r0 51 = 15)
    (h3 : (am_kd μ (am_F μ r0 51)).1 = 2 ∨ (am_kd μ (am_F μ r0 51)).1 = 8)
    (h4 : ¬ (x5 < 0 ∨ (am_kd μ (am_F μ r0 51)).2 ≤ x5.toNatClampNeg))
    (k : Wp d 224 (83, [some (.ref r0), some (.int x1), some (.int x2), some (.int x3), some (.int x4), some (.int (am_A μ (am_F μ r0 51) x5.toNatClampNeg))], [], μ) Q) :
    Wp d 224 (94, [some (.ref r0), some (.int x1), some (.int x2), some (.int x3), some (.int x4), some (.int x5)], [], μ) Q := wp_blk rfl e224_94 (And.intro h1 (And.intro h2 (And.intro h3 (And.intro h4 k))))
def q224_106 : List (Nat × Instr × Nat) := [(106, .aload_n 0, 1), (107, .iload 4, 2), (109, .putfield 484, 3), (112, .aload_n 0, 1), (113, .iload 5, 2), (115, .putfield 487, 3), (118, .iload 5, 2), (120, .ifCond .lt 12, 3)]
theorem e224_106 : am_dec am_M224 q224_106 = true := by decide +kernel
theorem b224_106 {d : Nat} {Q : Option Value ⊕ Nat → am_Mem → Prop} {μ : am_Mem} {r0 : Nat} {x1 x2 x3 x4 x5 : Int32}
    (h1 : am_kd μ r0 = (1, 12))
    (h2 : am_kd (am_pA μ r0 68 x4) r0 = (1, 12))
    (k1 : x5 < 0 → Wp d 224 (132, [some (.ref r0), some (.int x1), some (.int x2), some (.int x3), some (.int x4), some (.int x5)], [], (am_pA (am_pA μ r0 68 x4) r0 69 x5)) Q) (k2 : ¬ (x5 < 0) → Wp d 224 (123, [some (.ref r0), some (.int x1), some (.int x2), some (.int x3), some (.int x4), some (.int x5)], [], (am_pA (am_pA μ r0 68 x4) r0 69 x5)) Q) :
    Wp d 224 (106, [some (.ref r0), some (.int x1), some (.int x2), some (.int x3), some (.int x4), some (.int x5)], [], μ) Q := wp_blk rfl e224_106 (And.intro h1 (And.intro ⟨rfl, rfl⟩ (And.intro h2 (And.intro ⟨rfl, rfl⟩ (And.intro k1 k2)))))
def q224_123 : List (Nat × Instr × Nat) := [(123, .aload_n 0, 1), (124, .iload_n 1, 1), (125, .iload_n 2, 1)]
theorem e224_123 : am_dec am_M224 q224_123 = true := by decide +kernel
theorem e224_123_c : am_dc1 am_M224 126 (.invokevirtual 493) 3 = true := by decide +kernel
theorem b224_123 {d : Nat} {Q : Option Value ⊕ Nat → am_Mem → Prop} {μ : am_Mem} {r0 : Nat} {x1 x2 x3 x4 x5 : Int32} {P : Int32 → am_Mem → Prop} {X : Nat → am_Mem → Prop}
    (hk : am_kd μ r0 = (1, 12))
    (hc : Wp d 225 (0, [some (.ref r0), some (.int x1), some (.int x2), none, none, none], [], μ) (pI P X)) (hr : ∀ x μ', P x μ' → Wp (d + 1) 224 (129, [some (.ref r0), some (.int x1), some (.int x2), some (.int x3), some (.int x4), some (.int x5)], [.int x], (μ')) Q)
    (hx : ∀ x μ', X x μ' → Q (.inr x) μ') :
    Wp (d + 1) 224 (123, [some (.ref r0), some (.int x1), some (.int x2), some (.int x3), some (.int x4), some (.int x5)], [], μ) Q := wp_blk rfl e224_123 (wp_cv (as := [.int x1, .int x2]) rfl e224_123_c rfl rfl rfl rfl rfl hk hc (fun v μ' hv => by obtain ⟨x, rfl, hp⟩ := pI_r hv; exact hr x μ' hp) hx)
def q224_129 : List (Nat × Instr × Nat) := [(129, .ifCond .ne 7, 3)]
theorem e224_129 : am_dec am_M224 q224_129 = true := by decide +kernel
theorem b224_129 {d : Nat} {Q : Option Value ⊕ Nat → am_Mem → Prop} {μ : am_Mem} {r0 : Nat} {x1 x2 x3 x4 x5 s0 : Int32}
    (k1 : ¬ s0 = 0 → Wp d 224 (136, [some (.ref r0), some (.int x1), some (.int x2), some (.int x3), some (.int x4), some (.int x5)], [], μ) Q) (k2 : ¬ (¬ s0 = 0) → Wp d 224 (132, [some (.ref r0), some (.int x1), some (.int x2), some (.int x3), some (.int x4), some (.int x5)], [], μ) Q) :
    Wp d 224 (129, [some (.ref r0), some (.int x1), some (.int x2), some (.int x3), some (.int x4), some (.int x5)], [.int s0], μ) Q := wp_blk rfl e224_129 (And.intro k1 k2)
def q224_132 : List (Nat × Instr × Nat) := [(132, .iload_n 3, 1), (133, .ifCond .eq 7, 3)]
theorem e224_132 : am_dec am_M224 q224_132 = true := by decide +kernel
theorem b224_132 {d : Nat} {Q : Option Value ⊕ Nat → am_Mem → Prop} {μ : am_Mem} {r0 : Nat} {x1 x2 x3 x4 x5 : Int32}
    (k1 : x3 = 0 → Wp d 224 (140, [some (.ref r0), some (.int x1), some (.int x2), some (.int x3), some (.int x4), some (.int x5)], [], μ) Q) (k2 : ¬ (x3 = 0) → Wp d 224 (136, [some (.ref r0), some (.int x1), some (.int x2), some (.int x3), some (.int x4), some (.int x5)], [], μ) Q) :
    Wp d 224 (132, [some (.ref r0), some (.int x1), some (.int x2), some (.int x3), some (.int x4), some (.int x5)], [], μ) Q := wp_blk rfl e224_132 (And.intro k1 k2)
def q224_136 : List (Nat × Instr × Nat) := [(136, .iconst 1, 1), (137, .goto 4, 3)]
theorem e224_136 : am_dec am_M224 q224_136 = true := by decide +kernel
theorem b224_136 {d : Nat} {Q : Option Value ⊕ Nat → am_Mem → Prop} {μ : am_Mem} {r0 : Nat} {x1 x2 x3 x4 x5 : Int32}
    (k : Wp d 224 (141, [some (.ref r0), some (.int x1), some (.int x2), some (.int x3), some (.int x4), some (.int x5)], [.int (Int32.ofInt 1)], μ) Q) :
    Wp d 224 (136, [some (.ref r0), some (.int x1), some (.int x2), some (.int x3), some (.int x4), some (.int x5)], [], μ) Q := wp_blk rfl e224_136 k
def q224_140 : List (Nat × Instr × Nat) := [(140, .iconst 0, 1)]
theorem e224_140 : am_dec am_M224 q224_140 = true := by decide +kernel
theorem b224_140 {d : Nat} {Q : Option Value ⊕ Nat → am_Mem → Prop} {μ : am_Mem} {r0 : Nat} {x1 x2 x3 x4 x5 : Int32}
    (k : Wp d 224 (141, [some (.ref r0), some (.int x1), some (.int x2), some (.int x3), some (.int x4), some (.int x5)], [.int (Int32.ofInt 0)], μ) Q) :
    Wp d 224 (140, [some (.ref r0), some (.int x1), some (.int x2), some (.int x3), some (.int x4), some (.int x5)], [], μ) Q := wp_blk rfl e224_140 k
def q224_141 : List (Nat × Instr × Nat) := [(141, .istore_n 3, 1), (142, .iinc 4 1, 3), (145, .goto (-97), 3)]
theorem e224_141 : am_dec am_M224 q224_141 = true := by decide +kernel
theorem b224_141 {d : Nat} {Q : Option Value ⊕ Nat → am_Mem → Prop} {μ : am_Mem} {r0 : Nat} {x1 x2 x3 x4 x5 s0 : Int32}
    (k : Wp d 224 (48, [some (.ref r0), some (.int x1), some (.int x2), some (.int s0), some (.int (x4 + Int32.ofInt 1)), some (.int x5)], [], μ) Q) :
    Wp d 224 (141, [some (.ref r0), some (.int x1), some (.int x2), some (.int x3), some (.int x4), some (.int x5)], [.int s0], μ) Q := wp_blk rfl e224_141 k
def q224_148 : List (Nat × Instr × Nat) := [(148, .iload_n 3, 1)]
theorem e224_148 : am_dec am_M224 q224_148 = true := by decide +kernel
theorem e224_148_r : am_dec am_M224 [(149, .ireturn, 1)] = true := by decide +kernel
theorem b224_148 {d : Nat} {Q : Option Value ⊕ Nat → am_Mem → Prop} {μ : am_Mem} {r0 : Nat} {x1 x2 x3 x4 : Int32} {o5 : Option Value}
    (hn : narrow .boolean (.int x3) = .int x3 ∧ fits .boolean (.int x3) = true)
    (k : Q (.inl (some (.int x3))) μ) :
    Wp d 224 (148, [some (.ref r0), some (.int x1), some (.int x2), some (.int x3), some (.int x4), o5], [], μ) Q := wp_blk rfl e224_148 (wp_ri (ty := .boolean) rfl e224_148_r rfl hn k)
/-! RuleSheetsModel.tryPass(II)Z -/
def q225_0 : List (Nat × Instr × Nat) := [(0, .iconst 0, 1), (1, .istore_n 3, 1), (2, .iconst 0, 1), (3, .istore 4, 2), (5, .aload_n 0, 1), (6, .iconst 0, 1)]
theorem e225_0 : am_dec am_M225 q225_0 = true := by decide +kernel
theorem e225_0_c : am_dc1 am_M225 7 (.invokevirtual 496) 3 = true := by decide +kernel
theorem b225_0 {d : Nat} {Q : Option Value ⊕ Nat → am_Mem → Prop} {μ : am_Mem} {r0 : Nat} {x1 x2 : Int32} {P : am_Mem → Prop} {X : Nat → am_Mem → Prop}
    (hk : am_kd μ r0 = (1, 12))
    (hc : Wp d 226 (0, [some (.ref r0), some (.int (Int32.ofInt 0))], [], μ) (pV P X)) (hr : ∀ μ', P μ' → Wp (d + 1) 225 (10, [some (.ref r0), some (.int x1), some (.int x2), some (.int (Int32.ofInt 0)), some (.int (Int32.ofInt 0)), none], [], (μ')) Q)
    (hx : ∀ x μ', X x μ' → Q (.inr x) μ') :
    Wp (d + 1) 225 (0, [some (.ref r0), some (.int x1), some (.int x2), none, none, none], [], μ) Q := wp_blk rfl e225_0 (wp_cv (as := [.int (Int32.ofInt 0)]) rfl e225_0_c rfl rfl rfl rfl rfl hk hc (fun v μ' hv => by obtain ⟨rfl, hp⟩ := pV_r hv; exact hr μ' hp) hx)
def q225_10 : List (Nat × Instr × Nat) := [(10, .iload 4, 2), (12, .ifCond .lt 128, 3)]
theorem e225_10 : am_dec am_M225 q225_10 = true := by decide +kernel
theorem b225_10 {d : Nat} {Q : Option Value ⊕ Nat → am_Mem → Prop} {μ : am_Mem} {r0 : Nat} {x1 x2 x3 x4 : Int32} {o5 : Option Value}
    (k1 : x4 < 0 → Wp d 225 (140, [some (.ref r0), some (.int x1), some (.int x2), some (.int x3), some (.int x4), o5], [], μ) Q) (k2 : ¬ (x4 < 0) → Wp d 225 (15, [some (.ref r0), some (.int x1), some (.int x2), some (.int x3), some (.int x4), o5], [], μ) Q) :
    Wp d 225 (10, [some (.ref r0), some (.int x1), some (.int x2), some (.int x3), some (.int x4), o5], [], μ) Q := wp_blk rfl e225_10 (And.intro k1 k2)
def q225_15 : List (Nat × Instr × Nat) := [(15, .aload_n 0, 1), (16, .getfield 456, 3), (19, .ifCond .ne 121, 3)]
theorem e225_15 : am_dec am_M225 q225_15 = true := by decide +kernel
theorem b225_15 {d : Nat} {Q : Option Value ⊕ Nat → am_Mem → Prop} {μ : am_Mem} {r0 : Nat} {x1 x2 x3 x4 : Int32} {o5 : Option Value}
    (h1 : am_kd μ r0 = (1, 12))
    (k1 : ¬ (am_A μ r0 56) = 0 → Wp d 225 (140, [some (.ref r0), some (.int x1), some (.int x2), some (.int x3), some (.int x4), o5], [], μ) Q) (k2 : ¬ (¬ (am_A μ r0 56) = 0) → Wp d 225 (22, [some (.ref r0), some (.int x1), some (.int x2), some (.int x3), some (.int x4), o5], [], μ) Q) :
    Wp d 225 (15, [some (.ref r0), some (.int x1), some (.int x2), some (.int x3), some (.int x4), o5], [], μ) Q := wp_blk rfl e225_15 (And.intro h1 (And.intro k1 k2))
def q225_22 : List (Nat × Instr × Nat) := [(22, .iload 4, 2), (24, .aload_n 0, 1), (25, .getfield 481, 3), (28, .if_icmp .ne 27, 3)]
theorem e225_22 : am_dec am_M225 q225_22 = true := by decide +kernel
theorem b225_22 {d : Nat} {Q : Option Value ⊕ Nat → am_Mem → Prop} {μ : am_Mem} {r0 : Nat} {x1 x2 x3 x4 : Int32} {o5 : Option Value}
    (h1 : am_kd μ r0 = (1, 12))
    (k1 : ¬ x4 = (am_A μ r0 58) → Wp d 225 (55, [some (.ref r0), some (.int x1), some (.int x2), some (.int x3), some (.int x4), o5], [], μ) Q) (k2 : ¬ (¬ x4 = (am_A μ r0 58)) → Wp d 225 (31, [some (.ref r0), some (.int x1), some (.int x2), some (.int x3), some (.int x4), o5], [], μ) Q) :
    Wp d 225 (22, [some (.ref r0), some (.int x1), some (.int x2), some (.int x3), some (.int x4), o5], [], μ) Q := wp_blk rfl e225_22 (And.intro h1 (And.intro k1 k2))
def q225_31 : List (Nat × Instr × Nat) := [(31, .aload_n 0, 1), (32, .iload_n 1, 1)]
theorem e225_31 : am_dec am_M225 q225_31 = true := by decide +kernel
theorem e225_31_c : am_dc1 am_M225 33 (.invokevirtual 499) 3 = true := by decide +kernel
theorem b225_31 {d : Nat} {Q : Option Value ⊕ Nat → am_Mem → Prop} {μ : am_Mem} {r0 : Nat} {x1 x2 x3 x4 : Int32} {o5 : Option Value} {P : Int32 → am_Mem → Prop} {X : Nat → am_Mem → Prop}
    (hk : am_kd μ r0 = (1, 12))
    (hc : Wp d 227 (0, [some (.ref r0), some (.int x1), none, none, none], [], μ) (pI P X)) (hr : ∀ x μ', P x μ' → Wp (d + 1) 225 (36, [some (.ref r0), some (.int x1), some (.int x2), some (.int x3), some (.int x4), o5], [.int x], (μ')) Q)
    (hx : ∀ x μ', X x μ' → Q (.inr x) μ') :
    Wp (d + 1) 225 (31, [some (.ref r0), some (.int x1), some (.int x2), some (.int x3), some (.int x4), o5], [], μ) Q := wp_blk rfl e225_31 (wp_cv (as := [.int x1]) rfl e225_31_c rfl rfl rfl rfl rfl hk hc (fun v μ' hv => by obtain ⟨x, rfl, hp⟩ := pI_r hv; exact hr x μ' hp) hx)
def q225_36 : List (Nat × Instr × Nat) := [(36, .ifCond .ne 7, 3)]
theorem e225_36 : am_dec am_M225 q225_36 = true := by decide +kernel
theorem b225_36 {d : Nat} {Q : Option Value ⊕ Nat → am_Mem → Prop} {μ : am_Mem} {r0 : Nat} {x1 x2 x3 x4 s0 : Int32} {o5 : Option Value}
    (k1 : ¬ s0 = 0 → Wp d 225 (43, [some (.ref r0), some (.int x1), some (.int x2), some (.int x3), some (.int x4), o5], [], μ) Q) (k2 : ¬ (¬ s0 = 0) → Wp d 225 (39, [some (.ref r0), some (.int x1), some (.int x2), some (.int x3), some (.int x4), o5], [], μ) Q) :
    Wp d 225 (36, [some (.ref r0), some (.int x1), some (.int x2), some (.int x3), some (.int x4), o5], [.int s0], μ) Q := wp_blk rfl e225_36 (And.intro k1 k2)
def q225_39 : List (Nat × Instr × Nat) := [(39, .iload_n 3, 1), (40, .ifCond .eq 7, 3)]
theorem e225_39 : am_dec am_M225 q225_39 = true := by decide +kernel
theorem b225_39 {d : Nat} {Q : Option Value ⊕ Nat → am_Mem → Prop} {μ : am_Mem} {r0 : Nat} {x1 x2 x3 x4 : Int32} {o5 : Option Value}
    (k1 : x3 = 0 → Wp d 225 (47, [some (.ref r0), some (.int x1), some (.int x2), some (.int x3), some (.int x4), o5], [], μ) Q) (k2 : ¬ (x3 = 0) → Wp d 225 (43, [some (.ref r0), some (.int x1), some (.int x2), some (.int x3), some (.int x4), o5], [], μ) Q) :
    Wp d 225 (39, [some (.ref r0), some (.int x1), some (.int x2), some (.int x3), some (.int x4), o5], [], μ) Q := wp_blk rfl e225_39 (And.intro k1 k2)
def q225_43 : List (Nat × Instr × Nat) := [(43, .iconst 1, 1), (44, .goto 4, 3)]
theorem e225_43 : am_dec am_M225 q225_43 = true := by decide +kernel
theorem b225_43 {d : Nat} {Q : Option Value ⊕ Nat → am_Mem → Prop} {μ : am_Mem} {r0 : Nat} {x1 x2 x3 x4 : Int32} {o5 : Option Value}
    (k : Wp d 225 (48, [some (.ref r0), some (.int x1), some (.int x2), some (.int x3), some (.int x4), o5], [.int (Int32.ofInt 1)], μ) Q) :
    Wp d 225 (43, [some (.ref r0), some (.int x1), some (.int x2), some (.int x3), some (.int x4), o5], [], μ) Q := wp_blk rfl e225_43 k
def q225_47 : List (Nat × Instr × Nat) := [(47, .iconst 0, 1)]
theorem e225_47 : am_dec am_M225 q225_47 = true := by decide +kernel
theorem b225_47 {d : Nat} {Q : Option Value ⊕ Nat → am_Mem → Prop} {μ : am_Mem} {r0 : Nat} {x1 x2 x3 x4 : Int32} {o5 : Option Value}
    (k : Wp d 225 (48, [some (.ref r0), some (.int x1), some (.int x2), some (.int x3), some (.int x4), o5], [.int (Int32.ofInt 0)], μ) Q) :
    Wp d 225 (47, [some (.ref r0), some (.int x1), some (.int x2), some (.int x3), some (.int x4), o5], [], μ) Q := wp_blk rfl e225_47 k
def q225_48 : List (Nat × Instr × Nat) := [(48, .istore_n 3, 1), (49, .iinc 4 (-1), 3), (52, .goto (-42), 3)]
theorem e225_48 : am_dec am_M225 q225_48 = true := by decide +kernel
theorem b225_48 {d : Nat} {Q : Option Value ⊕ Nat → am_Mem → Prop} {μ : am_Mem} {r0 : Nat} {x1 x2 x3 x4 s0 : Int32} {o5 : Option Value}
    (k : Wp d 225 (10, [some (.ref r0), some (.int x1), some (.int x2), some (.int s0), some (.int (x4 + Int32.ofInt (-1))), o5], [], μ) Q) :
    Wp d 225 (48, [some (.ref r0), some (.int x1), some (.int x2), some (.int x3), some (.int x4), o5], [.int s0], μ) Q := wp_blk rfl e225_48 k
def q225_55 : List (Nat × Instr × Nat) := [(55, .aload_n 0, 1), (56, .iload 4, 2)]
theorem e225_55 : am_dec am_M225 q225_55 = true := by decide +kernel
theorem e225_55_c : am_dc1 am_M225 58 (.invokevirtual 502) 3 = true := by decide +kernel
theorem b225_55 {d : Nat} {Q : Option Value ⊕ Nat → am_Mem → Prop} {μ : am_Mem} {r0 : Nat} {x1 x2 x3 x4 : Int32} {o5 : Option Value} {P : am_Mem → Prop} {X : Nat → am_Mem → Prop}
    (hk : am_kd μ r0 = (1, 12))
    (hc : Wp d 232 (0, [some (.ref r0), some (.int x4), none], [], μ) (pV P X)) (hr : ∀ μ', P μ' → Wp (d + 1) 225 (61, [some (.ref r0), some (.int x1), some (.int x2), some (.int x3), some (.int x4), o5], [], (μ')) Q)
    (hx : ∀ x μ', X x μ' → Q (.inr x) μ') :
    Wp (d + 1) 225 (55, [some (.ref r0), some (.int x1), some (.int x2), some (.int x3), some (.int x4), o5], [], μ) Q := wp_blk rfl e225_55 (wp_cv (as := [.int x4]) rfl e225_55_c rfl rfl rfl rfl rfl hk hc (fun v μ' hv => by obtain ⟨rfl, hp⟩ := pV_r hv; exact hr μ' hp) hx)
def q225_61 : List (Nat × Instr × Nat) := [(61, .aload_n 0, 1), (62, .getfield 126, 3), (65, .iload 4, 2), (67, .iaload, 1), (68, .istore 5, 2), (70, .iload 5, 2), (72, .ifCond .lt 18, 3)]
theorem e225_61 : am_dec am_M225 q225_61 = true := by decide +kernel
theorem b225_61 {d : Nat} {Q : Option Value ⊕ Nat → am_Mem → Prop} {μ : am_Mem} {r0 : Nat} {x1 x2 x3 x4 : Int32} {o5 : Option Value}
    (h1 : am_kd μ r0 = (1, 12))
    (h2 : ¬ am_F μ r0 60 = 15)
    (h3 : (am_kd μ (am_F μ r0 60)).1 = 2 ∨ (am_kd μ (am_F μ r0 60)).1 = 8)
    (h4 : ¬ (x4 < 0 ∨ (am_kd μ (am_F μ r0 60)).2 ≤ x4.toNatClampNeg))
    (k1 : (am_A μ (am_F μ r0 60) x4.toNatClampNeg) < 0 → Wp d 225 (90, [some (.ref r0), some (.int x1), some (.int x2), some (.int x3), some (.int x4), some (.int (am_A μ (am_F μ r0 60) x4.toNatClampNeg))], [], μ) Q) (k2 : ¬ ((am_A μ (am_F μ r0 60) x4.toNatClampNeg) < 0) → Wp d 225 (75, [some (.ref r0), some (.int x1), some (.int x2), some (.int x3), some (.int x4), some (.int (am_A μ (am_F μ r0 60) x4.toNatClampNeg))], [], μ) Q) :
    Wp d 225 (61, [some (.ref r0), some (.int x1), some (.int x2), some (.int x3), some (.int x4), o5], [], μ) Q := wp_blk rfl e225_61 (And.intro h1 (And.intro h2 (And.intro h3 (And.intro h4 (And.intro k1 k2)))))
def q225_75 : List (Nat × Instr × Nat) := [(75, .iload 4, 2), (77, .aload_n 0, 1), (78, .getfield 484, 3), (81, .if_icmp .ge 15, 3)]
theorem e225_75 : am_dec am_M225 q225_75 = true := by decide +kernel
theorem b225_75 {d : Nat} {Q : Option Value ⊕ Nat → am_Mem → Prop} {μ : am_Mem} {r0 : Nat} {x1 x2 x3 x4 x5 : Int32}
    (h1 : am_kd μ r0 = (1, 12))
    (k1 : (am_A μ r0 68) ≤ x4 → Wp d 225 (96, [some (.ref r0), some (.int x1), some (.int x2), some (.int x3), some (.int x4), some (.int x5)], [], μ) Q) (k2 : ¬ ((am_A μ r0 68) ≤ x4) → Wp d 225 (84, [some (.ref r0), some (.int x1), some (.int x2), some (.int x3), some (.int x4), some (.int x5)], [], μ) Q) :
    Wp d 225 (75, [some (.ref r0), some (.int x1), some (.int x2), some (.int x3), some (.int x4), some (.int x5)], [], μ) Q := wp_blk rfl e225_75 (And.intro h1 (And.intro k1 k2))
def q225_84 : List (Nat × Instr × Nat) := [(84, .iload 5, 2), (86, .iload_n 2, 1), (87, .if_icmp .lt 9, 3)]
theorem e225_84 : am_dec am_M225 q225_84 = true := by decide +kernel
theorem b225_84 {d : Nat} {Q : Option Value ⊕ Nat → am_Mem → Prop} {μ : am_Mem} {r0 : Nat} {x1 x2 x3 x4 x5 : Int32}
    (k1 : x5 < x2 → Wp d 225 (96, [some (.ref r0), some (.int x1), some (.int x2), some (.int x3), some (.int x4), some (.int x5)], [], μ) Q) (k2 : ¬ (x5 < x2) → Wp d 225 (90, [some (.ref r0), some (.int x1), some (.int x2), some (.int x3), some (.int x4), some (.int x5)], [], μ) Q) :
    Wp d 225 (84, [some (.ref r0), some (.int x1), some (.int x2), some (.int x3), some (.int x4), some (.int x5)], [], μ) Q := wp_blk rfl e225_84 (And.intro k1 k2)
def q225_90 : List (Nat × Instr × Nat) := [(90, .iinc 4 (-1), 3), (93, .goto (-83), 3)]
theorem e225_90 : am_dec am_M225 q225_90 = true := by decide +kernel
theorem b225_90 {d : Nat} {Q : Option Value ⊕ Nat → am_Mem → Prop} {μ : am_Mem} {r0 : Nat} {x1 x2 x3 x4 x5 : Int32}
    (k : Wp d 225 (10, [some (.ref r0), some (.int x1), some (.int x2), some (.int x3), some (.int (x4 + Int32.ofInt (-1))), some (.int x5)], [], μ) Q) :
    Wp d 225 (90, [some (.ref r0), some (.int x1), some (.int x2), some (.int x3), some (.int x4), some (.int x5)], [], μ) Q := wp_blk rfl e225_90 k
def q225_96 : List (Nat × Instr × Nat) := [(96, .aload_n 0, 1), (97, .getfield 126, 3), (100, .iload 4, 2), (102, .aload_n 0, 1), (103, .getfield 108, 3), (106, .iload 5, 2), (108, .iaload, 1), (109, .iastore, 1), (110, .aload_n 0, 1), (111, .aload_n 0, 1), (112, .getfield 123, 3), (115, .iload 4, 2), (117, .iaload, 1), (118, .iload 5, 2), (120, .iload 4, 2)]
theorem e225_96 : am_dec am_M225 q225_96 = true := by decide +kernel
theorem e225_96_c : am_dc1 am_M225 122 (.invokevirtual 505) 3 = true := by decide +kernel
theorem b225_96 {d : Nat} {Q : Option Value ⊕ Nat → am_Mem → Prop} {μ : am_Mem} {r0 : Nat} {x1 x2 x3 x4 x5 : Int32} {P : Int32 → am_Mem → Prop} {X : Nat → am_Mem → Prop}
    (h1 : am_kd μ r0 = (1, 12))
    (h2 : ¬ am_F μ r0 60 = 15)
    (h3 : am_kd μ r0 = (1, 12))
    (h4 : ¬ am_F μ r0 51 = 15)
    (h5 : (am_kd μ (am_F μ r0 51)).1 = 2 ∨ (am_kd μ (am_F μ r0 51)).1 = 8)
    (h6 : ¬ (x5 < 0 ∨ (am_kd μ (am_F μ r0 51)).2 ≤ x5.toNatClampNeg))
    (h7 : (am_kd μ (am_F μ r0 60)).1 = 2)
    (h8 : ¬ (x4 < 0 ∨ (am_kd μ (am_F μ r0 60)).2 ≤ x4.toNatClampNeg))
    (h9 : am_kd (am_pA μ (am_F μ r0 60) x4.toNatClampNeg (am_A μ (am_F μ r0 51) x5.toNatClampNeg)) r0 = (1, 12))
    (h10 : ¬ am_F (am_pA μ (am_F μ r0 60) x4.toNatClampNeg (am_A μ (am_F μ r0 51) x5.toNatClampNeg)) r0 59 = 15)
    (h11 : (am_kd (am_pA μ (am_F μ r0 60) x4.toNatClampNeg (am_A μ (am_F μ r0 51) x5.toNatClampNeg)) (am_F (am_pA μ (am_F μ r0 60) x4.toNatClampNeg (am_A μ (am_F μ r0 51) x5.toNatClampNeg)) r0 59)).1 = 2 ∨ (am_kd (am_pA μ (am_F μ r0 60) x4.toNatClampNeg (am_A μ (am_F μ r0 51) x5.toNatClampNeg)) (am_F (am_pA μ (am_F μ r0 60) x4.toNatClampNeg (am_A μ (am_F μ r0 51) x5.toNatClampNeg)) r0 59)).1 = 8)
    (h12 : ¬ (x4 < 0 ∨ (am_kd (am_pA μ (am_F μ r0 60) x4.toNatClampNeg (am_A μ (am_F μ r0 51) x5.toNatClampNeg)) (am_F (am_pA μ (am_F μ r0 60) x4.toNatClampNeg (am_A μ (am_F μ r0 51) x5.toNatClampNeg)) r0 59)).2 ≤ x4.toNatClampNeg))
    (hk : am_kd (am_pA μ (am_F μ r0 60) x4.toNatClampNeg (am_A μ (am_F μ r0 51) x5.toNatClampNeg)) r0 = (1, 12))
    (hc : Wp d 233 (0, [some (.ref r0), some (.int (am_A (am_pA μ (am_F μ r0 60) x4.toNatClampNeg (am_A μ (am_F μ r0 51) x5.toNatClampNeg)) (am_F (am_pA μ (am_F μ r0 60) x4.toNatClampNeg (am_A μ (am_F μ r0 51) x5.toNatClampNeg)) r0 59) x4.toNatClampNeg)), some (.int x5), some (.int x4), none, none], [], (am_pA μ (am_F μ r0 60) x4.toNatClampNeg (am_A μ (am_F μ r0 51) x5.toNatClampNeg))) (pI P X)) (hr : ∀ x μ', P x μ' → Wp (d + 1) 225 (125, [some (.ref r0), some (.int x1), some (.int x2), some (.int x3), some (.int x4), some (.int x5)], [.int x], (μ')) Q)
    (hx : ∀ x μ', X x μ' → Q (.inr x) μ') :
    Wp (d + 1) 225 (96, [some (.ref r0), some (.int x1), some (.int x2), some (.int x3), some (.int x4), some (.int x5)], [], μ) Q := wp_blk rfl e225_96 (And.intro h1 (And.intro h2 (And.intro h3 (And.intro h4 (And.intro h5 (And.intro h6 (And.intro h7 (And.intro h8 (And.intro h9 (And.intro h10 (And.intro h11 (And.intro h12 (wp_cv (as := [.int (am_A (am_pA μ (am_F μ r0 60) x4.toNatClampNeg (am_A μ (am_F μ r0 51) x5.toNatClampNeg)) (am_F (am_pA μ (am_F μ r0 60) x4.toNatClampNeg (am_A μ (am_F μ r0 51) x5.toNatClampNeg)) r0 59) x4.toNatClampNeg), .int x5, .int x4]) rfl e225_96_c rfl rfl rfl rfl rfl hk hc (fun v μ' hv => by obtain ⟨x, rfl, hp⟩ := pI_r hv; exact hr x μ' hp) hx)))))))))))))
def q225_125 : List (Nat × Instr × Nat) := [(125, .ifCond .eq 12, 3)]
theorem e225_125 : am_dec am_M225 q225_125 = true := by decide +kernel
theorem b225_125 {d : Nat} {Q : Option Value ⊕ Nat → am_Mem → Prop} {μ : am_Mem} {r0 : Nat} {x1 x2 x3 x4 x5 s0 : Int32}
    (k1 : s0 = 0 → Wp d 225 (137, [some (.ref r0), some (.int x1), some (.int x2), some (.int x3), some (.int x4), some (.int x5)], [], μ) Q) (k2 : ¬ (s0 = 0) → Wp d 225 (128, [some (.ref r0), some (.int x1), some (.int x2), some (.int x3), some (.int x4), some (.int x5)], [], μ) Q) :
    Wp d 225 (125, [some (.ref r0), some (.int x1), some (.int x2), some (.int x3), some (.int x4), some (.int x5)], [.int s0], μ) Q := wp_blk rfl e225_125 (And.intro k1 k2)
def q225_128 : List (Nat × Instr × Nat) := [(128, .iinc 4 1, 3), (131, .aload_n 0, 1), (132, .iload 4, 2)]
theorem e225_128 : am_dec am_M225 q225_128 = true := by decide +kernel
theorem e225_128_c : am_dc1 am_M225 134 (.invokevirtual 496) 3 = true := by decide +kernel
theorem b225_128 {d : Nat} {Q : Option Value ⊕ Nat → am_Mem → Prop} {μ : am_Mem} {r0 : Nat} {x1 x2 x3 x4 x5 : Int32} {P : am_Mem → Prop} {X : Nat → am_Mem → Prop}
    (hk : am_kd μ r0 = (1, 12))
    (hc : Wp d 226 (0, [some (.ref r0), some (.int (x4 + Int32.ofInt 1))], [], μ) (pV P X)) (hr : ∀ μ', P μ' → Wp (d + 1) 225 (137, [some (.ref r0), some (.int x1), some (.int x2), some (.int x3), some (.int (x4 + Int32.ofInt 1)), some (.int x5)], [], (μ')) Q)
    (hx : ∀ x μ', X x μ' → Q (.inr x) μ') :
    Wp (d + 1) 225 (128, [some (.ref r0), some (.int x1), some (.int x2), some (.int x3), some (.int x4), some (.int x5)], [], μ) Q := wp_blk rfl e225_128 (wp_cv (as := [.int (x4 + Int32.ofInt 1)]) rfl e225_128_c rfl rfl rfl rfl rfl hk hc (fun v μ' hv => by obtain ⟨rfl, hp⟩ := pV_r hv; exact hr μ' hp) hx)
def q225_137 : List (Nat × Instr × Nat) := [(137, .goto (-127), 3)]
theorem e225_137 : am_dec am_M225 q225_137 = true := by decide +kernel
theorem b225_137 {d : Nat} {Q : Option Value ⊕ Nat → am_Mem → Prop} {μ : am_Mem} {r0 : Nat} {x1 x2 x3 x4 x5 : Int32}
    (k : Wp d 225 (10, [some (.ref r0), some (.int x1), some (.int x2), some (.int x3), some (.int x4), some (.int x5)], [], μ) Q) :
    Wp d 225 (137, [some (.ref r0), some (.int x1), some (.int x2), some (.int x3), some (.int x4), some (.int x5)], [], μ) Q := wp_blk rfl e225_137 k
def q225_140 : List (Nat × Instr × Nat) := [(140, .iload_n 3, 1)]
theorem e225_140 : am_dec am_M225 q225_140 = true := by decide +kernel
theorem e225_140_r : am_dec am_M225 [(141, .ireturn, 1)] = true := by decide +kernel
theorem b225_140 {d : Nat} {Q : Option Value ⊕ Nat → am_Mem → Prop} {μ : am_Mem} {r0 : Nat} {x1 x2 x3 x4 : Int32} {o5 : Option Value}
    (hn : narrow .boolean (.int x3) = .int x3 ∧ fits .boolean (.int x3) = true)
    (k : Q (.inl (some (.int x3))) μ) :
    Wp d 225 (140, [some (.ref r0), some (.int x1), some (.int x2), some (.int x3), some (.int x4), o5], [], μ) Q := wp_blk rfl e225_140 (wp_ri (ty := .boolean) rfl e225_140_r rfl hn k)
/-! RuleSheetsModel.begin(I)V -/
def q226_0 : List (Nat × Instr × Nat) := [(0, .iload_n 1, 1), (1, .aload_n 0, 1), (2, .getfield 481, 3), (5, .if_icmp .ge 40, 3)]
theorem e226_0 : am_dec am_M226 q226_0 = true := by decide +kernel
theorem b226_0 {d : Nat} {Q : Option Value ⊕ Nat → am_Mem → Prop} {μ : am_Mem} {r0 : Nat} {x1 : Int32}
    (h1 : am_kd μ r0 = (1, 12))
    (k1 : (am_A μ r0 58) ≤ x1 → Wp d 226 (45, [some (.ref r0), some (.int x1)], [], μ) Q) (k2 : ¬ ((am_A μ r0 58) ≤ x1) → Wp d 226 (8, [some (.ref r0), some (.int x1)], [], μ) Q) :
    Wp d 226 (0, [some (.ref r0), some (.int x1)], [], μ) Q := wp_blk rfl e226_0 (And.intro h1 (And.intro k1 k2))
def q226_8 : List (Nat × Instr × Nat) := [(8, .aload_n 0, 1), (9, .getfield 126, 3), (12, .iload_n 1, 1), (13, .iload_n 1, 1), (14, .aload_n 0, 1), (15, .getfield 484, 3), (18, .if_icmp .ne 10, 3)]
theorem e226_8 : am_dec am_M226 q226_8 = true := by decide +kernel
theorem b226_8 {d : Nat} {Q : Option Value ⊕ Nat → am_Mem → Prop} {μ : am_Mem} {r0 : Nat} {x1 : Int32}
    (h1 : am_kd μ r0 = (1, 12))
    (h2 : ¬ am_F μ r0 60 = 15)
    (h3 : am_kd μ r0 = (1, 12))
    (k1 : ¬ x1 = (am_A μ r0 68) → Wp d 226 (28, [some (.ref r0), some (.int x1)], [.int x1, .ref (am_F μ r0 60)], μ) Q) (k2 : ¬ (¬ x1 = (am_A μ r0 68)) → Wp d 226 (21, [some (.ref r0), some (.int x1)], [.int x1, .ref (am_F μ r0 60)], μ) Q) :
    Wp d 226 (8, [some (.ref r0), some (.int x1)], [], μ) Q := wp_blk rfl e226_8 (And.intro h1 (And.intro h2 (And.intro h3 (And.intro k1 k2))))
def q226_21 : List (Nat × Instr × Nat) := [(21, .aload_n 0, 1), (22, .getfield 487, 3), (25, .goto 19, 3)]
theorem e226_21 : am_dec am_M226 q226_21 = true := by decide +kernel
theorem b226_21 {d : Nat} {Q : Option Value ⊕ Nat → am_Mem → Prop} {μ : am_Mem} {r0 r90 : Nat} {x1 s1 : Int32}
    (h1 : am_kd μ r0 = (1, 12))
    (k : Wp d 226 (44, [some (.ref r0), some (.int x1)], [.int (am_A μ r0 69), .int s1, .ref r90], μ) Q) :
    Wp d 226 (21, [some (.ref r0), some (.int x1)], [.int s1, .ref r90], μ) Q := wp_blk rfl e226_21 (And.intro h1 k)
def q226_28 : List (Nat × Instr × Nat) := [(28, .aload_n 0, 1), (29, .getfield 114, 3), (32, .aload_n 0, 1), (33, .getfield 41, 3), (36, .aload_n 0, 1), (37, .getfield 123, 3), (40, .iload_n 1, 1), (41, .iaload, 1), (42, .iaload, 1), (43, .iaload, 1)]
theorem e226_28 : am_dec am_M226 q226_28 = true := by decide +kernel
theorem b226_28 {d : Nat} {Q : Option Value ⊕ Nat → am_Mem → Prop} {μ : am_Mem} {r0 r90 : Nat} {x1 s1 : Int32}
    (h1 : am_kd μ r0 = (1, 12))
    (h2 : ¬ am_F μ r0 53 = 15)
    (h3 : am_kd μ r0 = (1, 12))
    (h4 : ¬ am_F μ r0 19 = 15)
    (h5 : am_kd μ r0 = (1, 12))
    (h6 : ¬ am_F μ r0 59 = 15)
    (h7 : (am_kd μ (am_F μ r0 59)).1 = 2 ∨ (am_kd μ (am_F μ r0 59)).1 = 8)
    (h8 : ¬ (x1 < 0 ∨ (am_kd μ (am_F μ r0 59)).2 ≤ x1.toNatClampNeg))
    (h9 : (am_kd μ (am_F μ r0 19)).1 = 2 ∨ (am_kd μ (am_F μ r0 19)).1 = 8)
    (h10 : ¬ ((am_A μ (am_F μ r0 59) x1.toNatClampNeg) < 0 ∨ (am_kd μ (am_F μ r0 19)).2 ≤ (am_A μ (am_F μ r0 59) x1.toNatClampNeg).toNatClampNeg))
    (h11 : (am_kd μ (am_F μ r0 53)).1 = 2 ∨ (am_kd μ (am_F μ r0 53)).1 = 8)
    (h12 : ¬ ((am_A μ (am_F μ r0 19) (am_A μ (am_F μ r0 59) x1.toNatClampNeg).toNatClampNeg) < 0 ∨ (am_kd μ (am_F μ r0 53)).2 ≤ (am_A μ (am_F μ r0 19) (am_A μ (am_F μ r0 59) x1.toNatClampNeg).toNatClampNeg).toNatClampNeg))
    (k : Wp d 226 (44, [some (.ref r0), some (.int x1)], [.int (am_A μ (am_F μ r0 53) (am_A μ (am_F μ r0 19) (am_A μ (am_F μ r0 59) x1.toNatClampNeg).toNatClampNeg).toNatClampNeg), .int s1, .ref r90], μ) Q) :
    Wp d 226 (28, [some (.ref r0), some (.int x1)], [.int s1, .ref r90], μ) Q := wp_blk rfl e226_28 (And.intro h1 (And.intro h2 (And.intro h3 (And.intro h4 (And.intro h5 (And.intro h6 (And.intro h7 (And.intro h8 (And.intro h9 (And.intro h10 (And.intro h11 (And.intro h12 k))))))))))))
def q226_44 : List (Nat × Instr × Nat) := [(44, .iastore, 1)]
theorem e226_44 : am_dec am_M226 q226_44 = true := by decide +kernel
theorem b226_44 {d : Nat} {Q : Option Value ⊕ Nat → am_Mem → Prop} {μ : am_Mem} {r0 r90 : Nat} {x1 s1 s2 : Int32}
    (h1 : (am_kd μ r90).1 = 2)
    (h2 : ¬ (s1 < 0 ∨ (am_kd μ r90).2 ≤ s1.toNatClampNeg))
    (k : Wp d 226 (45, [some (.ref r0), some (.int x1)], [], (am_pA μ r90 s1.toNatClampNeg s2)) Q) :
    Wp d 226 (44, [some (.ref r0), some (.int x1)], [.int s2, .int s1, .ref r90], μ) Q := wp_blk rfl e226_44 (And.intro h1 (And.intro h2 k))
theorem e226_45_r : am_dec am_M226 [(45, .return_, 1)] = true := by decide +kernel
theorem b226_45 {d : Nat} {Q : Option Value ⊕ Nat → am_Mem → Prop} {μ : am_Mem} {r0 : Nat} {x1 : Int32}
    (k : Q (.inl none) μ) :
    Wp d 226 (45, [some (.ref r0), some (.int x1)], [], μ) Q := (wp_rv rfl e226_45_r rfl k)
/-! RuleSheetsModel.fire(I)Z -/
def q227_0 : List (Nat × Instr × Nat) := [(0, .aload_n 0, 1), (1, .iload_n 1, 1)]
theorem e227_0 : am_dec am_M227 q227_0 = true := by decide +kernel
theorem e227_0_c : am_dc1 am_M227 2 (.invokevirtual 470) 3 = true := by decide +kernel
theorem b227_0 {d : Nat} {Q : Option Value ⊕ Nat → am_Mem → Prop} {μ : am_Mem} {r0 : Nat} {x1 : Int32} {P : Int32 → am_Mem → Prop} {X : Nat → am_Mem → Prop}
    (hk : am_kd μ r0 = (1, 12))
    (hc : Wp d 228 (0, [some (.ref r0), some (.int x1), none, none, none], [], μ) (pI P X)) (hr : ∀ x μ', P x μ' → Wp (d + 1) 227 (5, [some (.ref r0), some (.int x1), none, none, none], [.int x], (μ')) Q)
    (hx : ∀ x μ', X x μ' → Q (.inr x) μ') :
    Wp (d + 1) 227 (0, [some (.ref r0), some (.int x1), none, none, none], [], μ) Q := wp_blk rfl e227_0 (wp_cv (as := [.int x1]) rfl e227_0_c rfl rfl rfl rfl rfl hk hc (fun v μ' hv => by obtain ⟨x, rfl, hp⟩ := pI_r hv; exact hr x μ' hp) hx)
def q227_5 : List (Nat × Instr × Nat) := [(5, .ifCond .ne 5, 3)]
theorem e227_5 : am_dec am_M227 q227_5 = true := by decide +kernel
theorem b227_5 {d : Nat} {Q : Option Value ⊕ Nat → am_Mem → Prop} {μ : am_Mem} {r0 : Nat} {x1 s0 : Int32}
    (k1 : ¬ s0 = 0 → Wp d 227 (10, [some (.ref r0), some (.int x1), none, none, none], [], μ) Q) (k2 : ¬ (¬ s0 = 0) → Wp d 227 (8, [some (.ref r0), some (.int x1), none, none, none], [], μ) Q) :
    Wp d 227 (5, [some (.ref r0), some (.int x1), none, none, none], [.int s0], μ) Q := wp_blk rfl e227_5 (And.intro k1 k2)
def q227_8 : List (Nat × Instr × Nat) := [(8, .iconst 0, 1)]
theorem e227_8 : am_dec am_M227 q227_8 = true := by decide +kernel
theorem e227_8_r : am_dec am_M227 [(9, .ireturn, 1)] = true := by decide +kernel
theorem b227_8 {d : Nat} {Q : Option Value ⊕ Nat → am_Mem → Prop} {μ : am_Mem} {r0 : Nat} {x1 : Int32}
    (k : Q (.inl (some (.int (Int32.ofInt 0)))) μ) :
    Wp d 227 (8, [some (.ref r0), some (.int x1), none, none, none], [], μ) Q := wp_blk rfl e227_8 (wp_ri (ty := .boolean) rfl e227_8_r rfl (by decide) k)
def q227_10 : List (Nat × Instr × Nat) := [(10, .aload_n 0, 1), (11, .getfield 29, 3), (14, .iload_n 1, 1), (15, .iaload, 1), (16, .istore_n 2, 1), (17, .iconst 0, 1), (18, .istore_n 3, 1)]
theorem e227_10 : am_dec am_M227 q227_10 = true := by decide +kernel
theorem b227_10 {d : Nat} {Q : Option Value ⊕ Nat → am_Mem → Prop} {μ : am_Mem} {r0 : Nat} {x1 : Int32}
    (h1 : am_kd μ r0 = (1, 12))
    (h2 : ¬ am_F μ r0 13 = 15)
    (h3 : (am_kd μ (am_F μ r0 13)).1 = 2 ∨ (am_kd μ (am_F μ r0 13)).1 = 8)
    (h4 : ¬ (x1 < 0 ∨ (am_kd μ (am_F μ r0 13)).2 ≤ x1.toNatClampNeg))
    (k : Wp d 227 (19, [some (.ref r0), some (.int x1), some (.int (am_A μ (am_F μ r0 13) x1.toNatClampNeg)), some (.int (Int32.ofInt 0)), none], [], μ) Q) :
    Wp d 227 (10, [some (.ref r0), some (.int x1), none, none, none], [], μ) Q := wp_blk rfl e227_10 (And.intro h1 (And.intro h2 (And.intro h3 (And.intro h4 k))))
def q227_19 : List (Nat × Instr × Nat) := [(19, .iload_n 3, 1), (20, .aload_n 0, 1), (21, .getfield 47, 3), (24, .iload_n 2, 1), (25, .iaload, 1), (26, .if_icmp .ge 39, 3)]
theorem e227_19 : am_dec am_M227 q227_19 = true := by decide +kernel
theorem b227_19 {d : Nat} {Q : Option Value ⊕ Nat → am_Mem → Prop} {μ : am_Mem} {r0 : Nat} {x1 x2 x3 : Int32} {o4 : Option Value}
    (h1 : am_kd μ r0 = (1, 12))
    (h2 : ¬ am_F μ r0 21 = 15)
    (h3 : (am_kd μ (am_F μ r0 21)).1 = 2 ∨ (am_kd μ (am_F μ r0 21)).1 = 8)
    (h4 : ¬ (x2 < 0 ∨ (am_kd μ (am_F μ r0 21)).2 ≤ x2.toNatClampNeg))
    (k1 : (am_A μ (am_F μ r0 21) x2.toNatClampNeg) ≤ x3 → Wp d 227 (65, [some (.ref r0), some (.int x1), some (.int x2), some (.int x3), o4], [], μ) Q) (k2 : ¬ ((am_A μ (am_F μ r0 21) x2.toNatClampNeg) ≤ x3) → Wp d 227 (29, [some (.ref r0), some (.int x1), some (.int x2), some (.int x3), o4], [], μ) Q) :
    Wp d 227 (19, [some (.ref r0), some (.int x1), some (.int x2), some (.int x3), o4], [], μ) Q := wp_blk rfl e227_19 (And.intro h1 (And.intro h2 (And.intro h3 (And.intro h4 (And.intro k1 k2)))))
def q227_29 : List (Nat × Instr × Nat) := [(29, .aload_n 0, 1), (30, .getfield 44, 3), (33, .iconst 4, 1), (34, .iload_n 2, 1), (35, .imul, 1), (36, .iload_n 3, 1), (37, .iadd, 1), (38, .iaload, 1), (39, .istore 4, 2), (41, .aload_n 0, 1), (42, .iload 4, 2)]
theorem e227_29 : am_dec am_M227 q227_29 = true := by decide +kernel
theorem e227_29_c : am_dc1 am_M227 44 (.invokevirtual 473) 3 = true := by decide +kernel
theorem b227_29 {d : Nat} {Q : Option Value ⊕ Nat → am_Mem → Prop} {μ : am_Mem} {r0 : Nat} {x1 x2 x3 : Int32} {o4 : Option Value} {P : Int32 → am_Mem → Prop} {X : Nat → am_Mem → Prop}
    (h1 : am_kd μ r0 = (1, 12))
    (h2 : ¬ am_F μ r0 20 = 15)
    (h3 : (am_kd μ (am_F μ r0 20)).1 = 2 ∨ (am_kd μ (am_F μ r0 20)).1 = 8)
    (h4 : ¬ ((((Int32.ofInt 4) * x2) + x3) < 0 ∨ (am_kd μ (am_F μ r0 20)).2 ≤ (((Int32.ofInt 4) * x2) + x3).toNatClampNeg))
    (hk : am_kd μ r0 = (1, 12))
    (hc : Wp d 231 (0, [some (.ref r0), some (.int (am_A μ (am_F μ r0 20) (((Int32.ofInt 4) * x2) + x3).toNatClampNeg)), none, none], [], μ) (pI P X)) (hr : ∀ x μ', P x μ' → Wp (d + 1) 227 (47, [some (.ref r0), some (.int x1), some (.int x2), some (.int x3), some (.int (am_A μ (am_F μ r0 20) (((Int32.ofInt 4) * x2) + x3).toNatClampNeg))], [.int x], (μ')) Q)
    (hx : ∀ x μ', X x μ' → Q (.inr x) μ') :
    Wp (d + 1) 227 (29, [some (.ref r0), some (.int x1), some (.int x2), some (.int x3), o4], [], μ) Q := wp_blk rfl e227_29 (And.intro h1 (And.intro h2 (And.intro h3 (And.intro h4 (wp_cv (as := [.int (am_A μ (am_F μ r0 20) (((Int32.ofInt 4) * x2) + x3).toNatClampNeg)]) rfl e227_29_c rfl rfl rfl rfl rfl hk hc (fun v μ' hv => by obtain ⟨x, rfl, hp⟩ := pI_r hv; exact hr x μ' hp) hx)))))
def q227_47 : List (Nat × Instr × Nat) := [(47, .bipush 48, 2), (49, .if_icmp .le 10, 3)]
theorem e227_47 : am_dec am_M227 q227_47 = true := by decide +kernel
theorem b227_47 {d : Nat} {Q : Option Value ⊕ Nat → am_Mem → Prop} {μ : am_Mem} {r0 : Nat} {x1 x2 x3 x4 s0 : Int32}
    (k1 : s0 ≤ ((Int8.ofInt 48).toInt32) → Wp d 227 (59, [some (.ref r0), some (.int x1), some (.int x2), some (.int x3), some (.int x4)], [], μ) Q) (k2 : ¬ (s0 ≤ ((Int8.ofInt 48).toInt32)) → Wp d 227 (52, [some (.ref r0), some (.int x1), some (.int x2), some (.int x3), some (.int x4)], [], μ) Q) :
    Wp d 227 (47, [some (.ref r0), some (.int x1), some (.int x2), some (.int x3), some (.int x4)], [.int s0], μ) Q := wp_blk rfl e227_47 (And.intro k1 k2)
def q227_52 : List (Nat × Instr × Nat) := [(52, .aload_n 0, 1), (53, .iconst 1, 1), (54, .putfield 456, 3), (57, .iconst 0, 1)]
theorem e227_52 : am_dec am_M227 q227_52 = true := by decide +kernel
theorem e227_52_r : am_dec am_M227 [(58, .ireturn, 1)] = true := by decide +kernel
theorem b227_52 {d : Nat} {Q : Option Value ⊕ Nat → am_Mem → Prop} {μ : am_Mem} {r0 : Nat} {x1 x2 x3 x4 : Int32}
    (h1 : am_kd μ r0 = (1, 12))
    (k : Q (.inl (some (.int (Int32.ofInt 0)))) (am_pA μ r0 56 (Int32.ofInt 1))) :
    Wp d 227 (52, [some (.ref r0), some (.int x1), some (.int x2), some (.int x3), some (.int x4)], [], μ) Q := wp_blk rfl e227_52 (And.intro h1 (And.intro (by decide) (wp_ri (ty := .boolean) rfl e227_52_r rfl (by decide) k)))
def q227_59 : List (Nat × Instr × Nat) := [(59, .iinc 3 1, 3), (62, .goto (-43), 3)]
theorem e227_59 : am_dec am_M227 q227_59 = true := by decide +kernel
theorem b227_59 {d : Nat} {Q : Option Value ⊕ Nat → am_Mem → Prop} {μ : am_Mem} {r0 : Nat} {x1 x2 x3 x4 : Int32}
    (k : Wp d 227 (19, [some (.ref r0), some (.int x1), some (.int x2), some (.int (x3 + Int32.ofInt 1)), some (.int x4)], [], μ) Q) :
    Wp d 227 (59, [some (.ref r0), some (.int x1), some (.int x2), some (.int x3), some (.int x4)], [], μ) Q := wp_blk rfl e227_59 k
def q227_65 : List (Nat × Instr × Nat) := [(65, .iconst 0, 1), (66, .istore_n 3, 1)]
theorem e227_65 : am_dec am_M227 q227_65 = true := by decide +kernel
theorem b227_65 {d : Nat} {Q : Option Value ⊕ Nat → am_Mem → Prop} {μ : am_Mem} {r0 : Nat} {x1 x2 x3 : Int32} {o4 : Option Value}
    (k : Wp d 227 (67, [some (.ref r0), some (.int x1), some (.int x2), some (.int (Int32.ofInt 0)), o4], [], μ) Q) :
    Wp d 227 (65, [some (.ref r0), some (.int x1), some (.int x2), some (.int x3), o4], [], μ) Q := wp_blk rfl e227_65 k
def q227_67 : List (Nat × Instr × Nat) := [(67, .iload_n 3, 1), (68, .aload_n 0, 1), (69, .getfield 47, 3), (72, .iload_n 2, 1), (73, .iaload, 1), (74, .if_icmp .ge 34, 3)]
theorem e227_67 : am_dec am_M227 q227_67 = true := by decide +kernel
theorem b227_67 {d : Nat} {Q : Option Value ⊕ Nat → am_Mem → Prop} {μ : am_Mem} {r0 : Nat} {x1 x2 x3 : Int32} {o4 : Option Value}
    (h1 : am_kd μ r0 = (1, 12))
    (h2 : ¬ am_F μ r0 21 = 15)
    (h3 : (am_kd μ (am_F μ r0 21)).1 = 2 ∨ (am_kd μ (am_F μ r0 21)).1 = 8)
    (h4 : ¬ (x2 < 0 ∨ (am_kd μ (am_F μ r0 21)).2 ≤ x2.toNatClampNeg))
    (k1 : (am_A μ (am_F μ r0 21) x2.toNatClampNeg) ≤ x3 → Wp d 227 (108, [some (.ref r0), some (.int x1), some (.int x2), some (.int x3), o4], [], μ) Q) (k2 : ¬ ((am_A μ (am_F μ r0 21) x2.toNatClampNeg) ≤ x3) → Wp d 227 (77, [some (.ref r0), some (.int x1), some (.int x2), some (.int x3), o4], [], μ) Q) :
    Wp d 227 (67, [some (.ref r0), some (.int x1), some (.int x2), some (.int x3), o4], [], μ) Q := wp_blk rfl e227_67 (And.intro h1 (And.intro h2 (And.intro h3 (And.intro h4 (And.intro k1 k2)))))
def q227_77 : List (Nat × Instr × Nat) := [(77, .aload_n 0, 1), (78, .aload_n 0, 1), (79, .getfield 44, 3), (82, .iconst 4, 1), (83, .iload_n 2, 1), (84, .imul, 1), (85, .iload_n 3, 1), (86, .iadd, 1), (87, .iaload, 1), (88, .iconst 1, 1)]
theorem e227_77 : am_dec am_M227 q227_77 = true := by decide +kernel
theorem e227_77_c : am_dc1 am_M227 89 (.invokevirtual 444) 3 = true := by decide +kernel
theorem b227_77 {d : Nat} {Q : Option Value ⊕ Nat → am_Mem → Prop} {μ : am_Mem} {r0 : Nat} {x1 x2 x3 : Int32} {o4 : Option Value} {P : Int32 → am_Mem → Prop} {X : Nat → am_Mem → Prop}
    (h1 : am_kd μ r0 = (1, 12))
    (h2 : ¬ am_F μ r0 20 = 15)
    (h3 : (am_kd μ (am_F μ r0 20)).1 = 2 ∨ (am_kd μ (am_F μ r0 20)).1 = 8)
    (h4 : ¬ ((((Int32.ofInt 4) * x2) + x3) < 0 ∨ (am_kd μ (am_F μ r0 20)).2 ≤ (((Int32.ofInt 4) * x2) + x3).toNatClampNeg))
    (hk : am_kd μ r0 = (1, 12))
    (hc : Wp d 204 (0, [some (.ref r0), some (.int (am_A μ (am_F μ r0 20) (((Int32.ofInt 4) * x2) + x3).toNatClampNeg)), some (.int (Int32.ofInt 1)), none, none, none, none], [], μ) (pI P X)) (hr : ∀ x μ', P x μ' → Wp (d + 1) 227 (92, [some (.ref r0), some (.int x1), some (.int x2), some (.int x3), o4], [.int x], (μ')) Q)
    (hx : ∀ x μ', X x μ' → Q (.inr x) μ') :
    Wp (d + 1) 227 (77, [some (.ref r0), some (.int x1), some (.int x2), some (.int x3), o4], [], μ) Q := wp_blk rfl e227_77 (And.intro h1 (And.intro h2 (And.intro h3 (And.intro h4 (wp_cv (as := [.int (am_A μ (am_F μ r0 20) (((Int32.ofInt 4) * x2) + x3).toNatClampNeg), .int (Int32.ofInt 1)]) rfl e227_77_c rfl rfl rfl rfl rfl hk hc (fun v μ' hv => by obtain ⟨x, rfl, hp⟩ := pI_r hv; exact hr x μ' hp) hx)))))
def q227_92 : List (Nat × Instr × Nat) := [(92, .istore 4, 2), (94, .aload_n 0, 1), (95, .getfield 144, 3), (98, .iload_n 3, 1), (99, .iload 4, 2), (101, .iastore, 1), (102, .iinc 3 1, 3), (105, .goto (-38), 3)]
theorem e227_92 : am_dec am_M227 q227_92 = true := by decide +kernel
theorem b227_92 {d : Nat} {Q : Option Value ⊕ Nat → am_Mem → Prop} {μ : am_Mem} {r0 : Nat} {x1 x2 x3 s0 : Int32} {o4 : Option Value}
    (h1 : am_kd μ r0 = (1, 12))
    (h2 : ¬ am_F μ r0 66 = 15)
    (h3 : (am_kd μ (am_F μ r0 66)).1 = 2)
    (h4 : ¬ (x3 < 0 ∨ (am_kd μ (am_F μ r0 66)).2 ≤ x3.toNatClampNeg))
    (k : Wp d 227 (67, [some (.ref r0), some (.int x1), some (.int x2), some (.int (x3 + Int32.ofInt 1)), some (.int s0)], [], (am_pA μ (am_F μ r0 66) x3.toNatClampNeg s0)) Q) :
    Wp d 227 (92, [some (.ref r0), some (.int x1), some (.int x2), some (.int x3), o4], [.int s0], μ) Q := wp_blk rfl e227_92 (And.intro h1 (And.intro h2 (And.intro h3 (And.intro h4 k))))
def q227_108 : List (Nat × Instr × Nat) := [(108, .aload_n 0, 1), (109, .aload_n 0, 1), (110, .getfield 41, 3), (113, .iload_n 2, 1), (114, .iaload, 1), (115, .aload_n 0, 1), (116, .getfield 47, 3), (119, .iload_n 2, 1), (120, .iaload, 1)]
theorem e227_108 : am_dec am_M227 q227_108 = true := by decide +kernel
theorem e227_108_c : am_dc1 am_M227 121 (.invokevirtual 476) 3 = true := by decide +kernel
theorem b227_108 {d : Nat} {Q : Option Value ⊕ Nat → am_Mem → Prop} {μ : am_Mem} {r0 : Nat} {x1 x2 x3 : Int32} {o4 : Option Value} {P : Int32 → am_Mem → Prop} {X : Nat → am_Mem → Prop}
    (h1 : am_kd μ r0 = (1, 12))
    (h2 : ¬ am_F μ r0 19 = 15)
    (h3 : (am_kd μ (am_F μ r0 19)).1 = 2 ∨ (am_kd μ (am_F μ r0 19)).1 = 8)
    (h4 : ¬ (x2 < 0 ∨ (am_kd μ (am_F μ r0 19)).2 ≤ x2.toNatClampNeg))
    (h5 : am_kd μ r0 = (1, 12))
    (h6 : ¬ am_F μ r0 21 = 15)
    (h7 : (am_kd μ (am_F μ r0 21)).1 = 2 ∨ (am_kd μ (am_F μ r0 21)).1 = 8)
    (h8 : ¬ (x2 < 0 ∨ (am_kd μ (am_F μ r0 21)).2 ≤ x2.toNatClampNeg))
    (hk : am_kd μ r0 = (1, 12))
    (hc : Wp d 217 (0, [some (.ref r0), some (.int (am_A μ (am_F μ r0 19) x2.toNatClampNeg)), some (.int (am_A μ (am_F μ r0 21) x2.toNatClampNeg)), none, none], [], μ) (pI P X)) (hr : ∀ x μ', P x μ' → Wp (d + 1) 227 (124, [some (.ref r0), some (.int x1), some (.int x2), some (.int x3), o4], [.int x], (μ')) Q)
    (hx : ∀ x μ', X x μ' → Q (.inr x) μ') :
    Wp (d + 1) 227 (108, [some (.ref r0), some (.int x1), some (.int x2), some (.int x3), o4], [], μ) Q := wp_blk rfl e227_108 (And.intro h1 (And.intro h2 (And.intro h3 (And.intro h4 (And.intro h5 (And.intro h6 (And.intro h7 (And.intro h8 (wp_cv (as := [.int (am_A μ (am_F μ r0 19) x2.toNatClampNeg), .int (am_A μ (am_F μ r0 21) x2.toNatClampNeg)]) rfl e227_108_c rfl rfl rfl rfl rfl hk hc (fun v μ' hv => by obtain ⟨x, rfl, hp⟩ := pI_r hv; exact hr x μ' hp) hx)))))))))
theorem e227_124_r : am_dec am_M227 [(124, .ireturn, 1)] = true := by decide +kernel
theorem b227_124 {d : Nat} {Q : Option Value ⊕ Nat → am_Mem → Prop} {μ : am_Mem} {r0 : Nat} {x1 x2 x3 s0 : Int32} {o4 : Option Value}
    (hn : narrow .boolean (.int s0) = .int s0 ∧ fits .boolean (.int s0) = true)
    (k : Q (.inl (some (.int s0))) μ) :
    Wp d 227 (124, [some (.ref r0), some (.int x1), some (.int x2), some (.int x3), o4], [.int s0], μ) Q := (wp_ri (ty := .boolean) rfl e227_124_r rfl hn k)
/-! RuleSheetsModel.othersDo(I)Z -/
def q228_0 : List (Nat × Instr × Nat) := [(0, .iconst 1, 1), (1, .istore_n 2, 1), (2, .aload_n 0, 1), (3, .getfield 32, 3), (6, .iload_n 1, 1), (7, .iaload, 1), (8, .istore_n 3, 1)]
theorem e228_0 : am_dec am_M228 q228_0 = true := by decide +kernel
theorem b228_0 {d : Nat} {Q : Option Value ⊕ Nat → am_Mem → Prop} {μ : am_Mem} {r0 : Nat} {x1 : Int32}
    (h1 : am_kd μ r0 = (1, 12))
    (h2 : ¬ am_F μ r0 14 = 15)
    (h3 : (am_kd μ (am_F μ r0 14)).1 = 2 ∨ (am_kd μ (am_F μ r0 14)).1 = 8)
    (h4 : ¬ (x1 < 0 ∨ (am_kd μ (am_F μ r0 14)).2 ≤ x1.toNatClampNeg))
    (k : Wp d 228 (9, [some (.ref r0), some (.int x1), some (.int (Int32.ofInt 1)), some (.int (am_A μ (am_F μ r0 14) x1.toNatClampNeg)), none], [], μ) Q) :
    Wp d 228 (0, [some (.ref r0), some (.int x1), none, none, none], [], μ) Q := wp_blk rfl e228_0 (And.intro h1 (And.intro h2 (And.intro h3 (And.intro h4 k))))
def q228_9 : List (Nat × Instr × Nat) := [(9, .iload_n 3, 1), (10, .aload_n 0, 1), (11, .getfield 32, 3), (14, .iload_n 1, 1), (15, .iconst 1, 1), (16, .iadd, 1), (17, .iaload, 1), (18, .if_icmp .ge 92, 3)]
theorem e228_9 : am_dec am_M228 q228_9 = true := by decide +kernel
theorem b228_9 {d : Nat} {Q : Option Value ⊕ Nat → am_Mem → Prop} {μ : am_Mem} {r0 : Nat} {x1 x2 x3 : Int32} {o4 : Option Value}
    (h1 : am_kd μ r0 = (1, 12))
    (h2 : ¬ am_F μ r0 14 = 15)
    (h3 : (am_kd μ (am_F μ r0 14)).1 = 2 ∨ (am_kd μ (am_F μ r0 14)).1 = 8)
    (h4 : ¬ ((x1 + (Int32.ofInt 1)) < 0 ∨ (am_kd μ (am_F μ r0 14)).2 ≤ (x1 + (Int32.ofInt 1)).toNatClampNeg))
    (k1 : (am_A μ (am_F μ r0 14) (x1 + (Int32.ofInt 1)).toNatClampNeg) ≤ x3 → Wp d 228 (110, [some (.ref r0), some (.int x1), some (.int x2), some (.int x3), o4], [], μ) Q) (k2 : ¬ ((am_A μ (am_F μ r0 14) (x1 + (Int32.ofInt 1)).toNatClampNeg) ≤ x3) → Wp d 228 (21, [some (.ref r0), some (.int x1), some (.int x2), some (.int x3), o4], [], μ) Q) :
    Wp d 228 (9, [some (.ref r0), some (.int x1), some (.int x2), some (.int x3), o4], [], μ) Q := wp_blk rfl e228_9 (And.intro h1 (And.intro h2 (And.intro h3 (And.intro h4 (And.intro k1 k2)))))
def q228_21 : List (Nat × Instr × Nat) := [(21, .iload_n 2, 1), (22, .ifCond .eq 88, 3)]
theorem e228_21 : am_dec am_M228 q228_21 = true := by decide +kernel
theorem b228_21 {d : Nat} {Q : Option Value ⊕ Nat → am_Mem → Prop} {μ : am_Mem} {r0 : Nat} {x1 x2 x3 : Int32} {o4 : Option Value}
    (k1 : x2 = 0 → Wp d 228 (110, [some (.ref r0), some (.int x1), some (.int x2), some (.int x3), o4], [], μ) Q) (k2 : ¬ (x2 = 0) → Wp d 228 (25, [some (.ref r0), some (.int x1), some (.int x2), some (.int x3), o4], [], μ) Q) :
    Wp d 228 (21, [some (.ref r0), some (.int x1), some (.int x2), some (.int x3), o4], [], μ) Q := wp_blk rfl e228_21 (And.intro k1 k2)
def q228_25 : List (Nat × Instr × Nat) := [(25, .aload_n 0, 1), (26, .getfield 38, 3), (29, .iload_n 3, 1), (30, .iaload, 1), (31, .istore 4, 2), (33, .aload_n 0, 1), (34, .getfield 35, 3), (37, .iload_n 3, 1), (38, .iaload, 1), (39, .iconst 2, 1), (40, .if_icmp .ne 21, 3)]
theorem e228_25 : am_dec am_M228 q228_25 = true := by decide +kernel
theorem b228_25 {d : Nat} {Q : Option Value ⊕ Nat → am_Mem → Prop} {μ : am_Mem} {r0 : Nat} {x1 x2 x3 : Int32} {o4 : Option Value}
    (h1 : am_kd μ r0 = (1, 12))
    (h2 : ¬ am_F μ r0 17 = 15)
    (h3 : (am_kd μ (am_F μ r0 17)).1 = 2 ∨ (am_kd μ (am_F μ r0 17)).1 = 8)
    (h4 : ¬ (x3 < 0 ∨ (am_kd μ (am_F μ r0 17)).2 ≤ x3.toNatClampNeg))
    (h5 : am_kd μ r0 = (1, 12))
    (h6 : ¬ am_F μ r0 16 = 15)
    (h7 : (am_kd μ (am_F μ r0 16)).1 = 2 ∨ (am_kd μ (am_F μ r0 16)).1 = 8)
    (h8 : ¬ (x3 < 0 ∨ (am_kd μ (am_F μ r0 16)).2 ≤ x3.toNatClampNeg))
    (k1 : ¬ (am_A μ (am_F μ r0 16) x3.toNatClampNeg) = (Int32.ofInt 2) → Wp d 228 (61, [some (.ref r0), some (.int x1), some (.int x2), some (.int x3), some (.int (am_A μ (am_F μ r0 17) x3.toNatClampNeg))], [], μ) Q) (k2 : ¬ (¬ (am_A μ (am_F μ r0 16) x3.toNatClampNeg) = (Int32.ofInt 2)) → Wp d 228 (43, [some (.ref r0), some (.int x1), some (.int x2), some (.int x3), some (.int (am_A μ (am_F μ r0 17) x3.toNatClampNeg))], [], μ) Q) :
    Wp d 228 (25, [some (.ref r0), some (.int x1), some (.int x2), some (.int x3), o4], [], μ) Q := wp_blk rfl e228_25 (And.intro h1 (And.intro h2 (And.intro h3 (And.intro h4 (And.intro h5 (And.intro h6 (And.intro h7 (And.intro h8 (And.intro k1 k2)))))))))
def q228_43 : List (Nat × Instr × Nat) := [(43, .aload_n 0, 1), (44, .iload 4, 2)]
theorem e228_43 : am_dec am_M228 q228_43 = true := by decide +kernel
theorem e228_43_c : am_dc1 am_M228 46 (.invokevirtual 464) 3 = true := by decide +kernel
theorem b228_43 {d : Nat} {Q : Option Value ⊕ Nat → am_Mem → Prop} {μ : am_Mem} {r0 : Nat} {x1 x2 x3 x4 : Int32} {P : Int32 → am_Mem → Prop} {X : Nat → am_Mem → Prop}
    (hk : am_kd μ r0 = (1, 12))
    (hc : Wp d 229 (0, [some (.ref r0), some (.int x4), none, none, none], [], μ) (pI P X)) (hr : ∀ x μ', P x μ' → Wp (d + 1) 228 (49, [some (.ref r0), some (.int x1), some (.int x2), some (.int x3), some (.int x4)], [.int x], (μ')) Q)
    (hx : ∀ x μ', X x μ' → Q (.inr x) μ') :
    Wp (d + 1) 228 (43, [some (.ref r0), some (.int x1), some (.int x2), some (.int x3), some (.int x4)], [], μ) Q := wp_blk rfl e228_43 (wp_cv (as := [.int x4]) rfl e228_43_c rfl rfl rfl rfl rfl hk hc (fun v μ' hv => by obtain ⟨x, rfl, hp⟩ := pI_r hv; exact hr x μ' hp) hx)
def q228_49 : List (Nat × Instr × Nat) := [(49, .ifCond .ne 7, 3)]
theorem e228_49 : am_dec am_M228 q228_49 = true := by decide +kernel
theorem b228_49 {d : Nat} {Q : Option Value ⊕ Nat → am_Mem → Prop} {μ : am_Mem} {r0 : Nat} {x1 x2 x3 x4 s0 : Int32}
    (k1 : ¬ s0 = 0 → Wp d 228 (56, [some (.ref r0), some (.int x1), some (.int x2), some (.int x3), some (.int x4)], [], μ) Q) (k2 : ¬ (¬ s0 = 0) → Wp d 228 (52, [some (.ref r0), some (.int x1), some (.int x2), some (.int x3), some (.int x4)], [], μ) Q) :
    Wp d 228 (49, [some (.ref r0), some (.int x1), some (.int x2), some (.int x3), some (.int x4)], [.int s0], μ) Q := wp_blk rfl e228_49 (And.intro k1 k2)
def q228_52 : List (Nat × Instr × Nat) := [(52, .iconst 1, 1), (53, .goto 4, 3)]
theorem e228_52 : am_dec am_M228 q228_52 = true := by decide +kernel
theorem b228_52 {d : Nat} {Q : Option Value ⊕ Nat → am_Mem → Prop} {μ : am_Mem} {r0 : Nat} {x1 x2 x3 x4 : Int32}
    (k : Wp d 228 (57, [some (.ref r0), some (.int x1), some (.int x2), some (.int x3), some (.int x4)], [.int (Int32.ofInt 1)], μ) Q) :
    Wp d 228 (52, [some (.ref r0), some (.int x1), some (.int x2), some (.int x3), some (.int x4)], [], μ) Q := wp_blk rfl e228_52 k
def q228_56 : List (Nat × Instr × Nat) := [(56, .iconst 0, 1)]
theorem e228_56 : am_dec am_M228 q228_56 = true := by decide +kernel
theorem b228_56 {d : Nat} {Q : Option Value ⊕ Nat → am_Mem → Prop} {μ : am_Mem} {r0 : Nat} {x1 x2 x3 x4 : Int32}
    (k : Wp d 228 (57, [some (.ref r0), some (.int x1), some (.int x2), some (.int x3), some (.int x4)], [.int (Int32.ofInt 0)], μ) Q) :
    Wp d 228 (56, [some (.ref r0), some (.int x1), some (.int x2), some (.int x3), some (.int x4)], [], μ) Q := wp_blk rfl e228_56 k
def q228_57 : List (Nat × Instr × Nat) := [(57, .istore_n 2, 1), (58, .goto 46, 3)]
theorem e228_57 : am_dec am_M228 q228_57 = true := by decide +kernel
theorem b228_57 {d : Nat} {Q : Option Value ⊕ Nat → am_Mem → Prop} {μ : am_Mem} {r0 : Nat} {x1 x2 x3 x4 s0 : Int32}
    (k : Wp d 228 (104, [some (.ref r0), some (.int x1), some (.int s0), some (.int x3), some (.int x4)], [], μ) Q) :
    Wp d 228 (57, [some (.ref r0), some (.int x1), some (.int x2), some (.int x3), some (.int x4)], [.int s0], μ) Q := wp_blk rfl e228_57 k
def q228_61 : List (Nat × Instr × Nat) := [(61, .aload_n 0, 1), (62, .getfield 35, 3), (65, .iload_n 3, 1), (66, .iaload, 1), (67, .iconst 3, 1), (68, .if_icmp .ne 36, 3)]
theorem e228_61 : am_dec am_M228 q228_61 = true := by decide +kernel
theorem b228_61 {d : Nat} {Q : Option Value ⊕ Nat → am_Mem → Prop} {μ : am_Mem} {r0 : Nat} {x1 x2 x3 x4 : Int32}
    (h1 : am_kd μ r0 = (1, 12))
    (h2 : ¬ am_F μ r0 16 = 15)
    (h3 : (am_kd μ (am_F μ r0 16)).1 = 2 ∨ (am_kd μ (am_F μ r0 16)).1 = 8)
    (h4 : ¬ (x3 < 0 ∨ (am_kd μ (am_F μ r0 16)).2 ≤ x3.toNatClampNeg))
    (k1 : ¬ (am_A μ (am_F μ r0 16) x3.toNatClampNeg) = (Int32.ofInt 3) → Wp d 228 (104, [some (.ref r0), some (.int x1), some (.int x2), some (.int x3), some (.int x4)], [], μ) Q) (k2 : ¬ (¬ (am_A μ (am_F μ r0 16) x3.toNatClampNeg) = (Int32.ofInt 3)) → Wp d 228 (71, [some (.ref r0), some (.int x1), some (.int x2), some (.int x3), some (.int x4)], [], μ) Q) :
    Wp d 228 (61, [some (.ref r0), some (.int x1), some (.int x2), some (.int x3), some (.int x4)], [], μ) Q := wp_blk rfl e228_61 (And.intro h1 (And.intro h2 (And.intro h3 (And.intro h4 (And.intro k1 k2)))))
def q228_71 : List (Nat × Instr × Nat) := [(71, .aload_n 0, 1), (72, .aload_n 0, 1), (73, .getfield 44, 3), (76, .iconst 4, 1), (77, .iload 4, 2), (79, .imul, 1), (80, .iaload, 1), (81, .aload_n 0, 1), (82, .getfield 44, 3), (85, .iconst 4, 1), (86, .iload 4, 2), (88, .imul, 1), (89, .iconst 1, 1), (90, .iadd, 1), (91, .iaload, 1)]
theorem e228_71 : am_dec am_M228 q228_71 = true := by decide +kernel
theorem e228_71_c : am_dc1 am_M228 92 (.invokevirtual 467) 3 = true := by decide +kernel
theorem b228_71 {d : Nat} {Q : Option Value ⊕ Nat → am_Mem → Prop} {μ : am_Mem} {r0 : Nat} {x1 x2 x3 x4 : Int32} {P : Int32 → am_Mem → Prop} {X : Nat → am_Mem → Prop}
    (h1 : am_kd μ r0 = (1, 12))
    (h2 : ¬ am_F μ r0 20 = 15)
    (h3 : (am_kd μ (am_F μ r0 20)).1 = 2 ∨ (am_kd μ (am_F μ r0 20)).1 = 8)
    (h4 : ¬ (((Int32.ofInt 4) * x4) < 0 ∨ (am_kd μ (am_F μ r0 20)).2 ≤ ((Int32.ofInt 4) * x4).toNatClampNeg))
    (h5 : am_kd μ r0 = (1, 12))
    (h6 : ¬ am_F μ r0 20 = 15)
    (h7 : (am_kd μ (am_F μ r0 20)).1 = 2 ∨ (am_kd μ (am_F μ r0 20)).1 = 8)
    (h8 : ¬ ((((Int32.ofInt 4) * x4) + (Int32.ofInt 1)) < 0 ∨ (am_kd μ (am_F μ r0 20)).2 ≤ (((Int32.ofInt 4) * x4) + (Int32.ofInt 1)).toNatClampNeg))
    (hk : am_kd μ r0 = (1, 12))
    (hc : Wp d 230 (0, [some (.ref r0), some (.int (am_A μ (am_F μ r0 20) ((Int32.ofInt 4) * x4).toNatClampNeg)), some (.int (am_A μ (am_F μ r0 20) (((Int32.ofInt 4) * x4) + (Int32.ofInt 1)).toNatClampNeg)), none, none, none, none], [], μ) (pI P X)) (hr : ∀ x μ', P x μ' → Wp (d + 1) 228 (95, [some (.ref r0), some (.int x1), some (.int x2), some (.int x3), some (.int x4)], [.int x], (μ')) Q)
    (hx : ∀ x μ', X x μ' → Q (.inr x) μ') :
    Wp (d + 1) 228 (71, [some (.ref r0), some (.int x1), some (.int x2), some (.int x3), some (.int x4)], [], μ) Q := wp_blk rfl e228_71 (And.intro h1 (And.intro h2 (And.intro h3 (And.intro h4 (And.intro h5 (And.intro h6 (And.intro h7 (And.intro h8 (wp_cv (as := [.int (am_A μ (am_F μ r0 20) ((Int32.ofInt 4) * x4).toNatClampNeg), .int (am_A μ (am_F μ r0 20) (((Int32.ofInt 4) * x4) + (Int32.ofInt 1)).toNatClampNeg)]) rfl e228_71_c rfl rfl rfl rfl rfl hk hc (fun v μ' hv => by obtain ⟨x, rfl, hp⟩ := pI_r hv; exact hr x μ' hp) hx)))))))))
def q228_95 : List (Nat × Instr × Nat) := [(95, .ifCond .ne 7, 3)]
theorem e228_95 : am_dec am_M228 q228_95 = true := by decide +kernel
theorem b228_95 {d : Nat} {Q : Option Value ⊕ Nat → am_Mem → Prop} {μ : am_Mem} {r0 : Nat} {x1 x2 x3 x4 s0 : Int32}
    (k1 : ¬ s0 = 0 → Wp d 228 (102, [some (.ref r0), some (.int x1), some (.int x2), some (.int x3), some (.int x4)], [], μ) Q) (k2 : ¬ (¬ s0 = 0) → Wp d 228 (98, [some (.ref r0), some (.int x1), some (.int x2), some (.int x3), some (.int x4)], [], μ) Q) :
    Wp d 228 (95, [some (.ref r0), some (.int x1), some (.int x2), some (.int x3), some (.int x4)], [.int s0], μ) Q := wp_blk rfl e228_95 (And.intro k1 k2)
def q228_98 : List (Nat × Instr × Nat) := [(98, .iconst 1, 1), (99, .goto 4, 3)]
theorem e228_98 : am_dec am_M228 q228_98 = true := by decide +kernel
theorem b228_98 {d : Nat} {Q : Option Value ⊕ Nat → am_Mem → Prop} {μ : am_Mem} {r0 : Nat} {x1 x2 x3 x4 : Int32}
    (k : Wp d 228 (103, [some (.ref r0), some (.int x1), some (.int x2), some (.int x3), some (.int x4)], [.int (Int32.ofInt 1)], μ) Q) :
    Wp d 228 (98, [some (.ref r0), some (.int x1), some (.int x2), some (.int x3), some (.int x4)], [], μ) Q := wp_blk rfl e228_98 k
def q228_102 : List (Nat × Instr × Nat) := [(102, .iconst 0, 1)]
theorem e228_102 : am_dec am_M228 q228_102 = true := by decide +kernel
theorem b228_102 {d : Nat} {Q : Option Value ⊕ Nat → am_Mem → Prop} {μ : am_Mem} {r0 : Nat} {x1 x2 x3 x4 : Int32}
    (k : Wp d 228 (103, [some (.ref r0), some (.int x1), some (.int x2), some (.int x3), some (.int x4)], [.int (Int32.ofInt 0)], μ) Q) :
    Wp d 228 (102, [some (.ref r0), some (.int x1), some (.int x2), some (.int x3), some (.int x4)], [], μ) Q := wp_blk rfl e228_102 k
def q228_103 : List (Nat × Instr × Nat) := [(103, .istore_n 2, 1)]
theorem e228_103 : am_dec am_M228 q228_103 = true := by decide +kernel
theorem b228_103 {d : Nat} {Q : Option Value ⊕ Nat → am_Mem → Prop} {μ : am_Mem} {r0 : Nat} {x1 x2 x3 x4 s0 : Int32}
    (k : Wp d 228 (104, [some (.ref r0), some (.int x1), some (.int s0), some (.int x3), some (.int x4)], [], μ) Q) :
    Wp d 228 (103, [some (.ref r0), some (.int x1), some (.int x2), some (.int x3), some (.int x4)], [.int s0], μ) Q := wp_blk rfl e228_103 k
def q228_104 : List (Nat × Instr × Nat) := [(104, .iinc 3 1, 3), (107, .goto (-98), 3)]
theorem e228_104 : am_dec am_M228 q228_104 = true := by decide +kernel
theorem b228_104 {d : Nat} {Q : Option Value ⊕ Nat → am_Mem → Prop} {μ : am_Mem} {r0 : Nat} {x1 x2 x3 x4 : Int32}
    (k : Wp d 228 (9, [some (.ref r0), some (.int x1), some (.int x2), some (.int (x3 + Int32.ofInt 1)), some (.int x4)], [], μ) Q) :
    Wp d 228 (104, [some (.ref r0), some (.int x1), some (.int x2), some (.int x3), some (.int x4)], [], μ) Q := wp_blk rfl e228_104 k
def q228_110 : List (Nat × Instr × Nat) := [(110, .iload_n 2, 1)]
theorem e228_110 : am_dec am_M228 q228_110 = true := by decide +kernel
theorem e228_110_r : am_dec am_M228 [(111, .ireturn, 1)] = true := by decide +kernel
theorem b228_110 {d : Nat} {Q : Option Value ⊕ Nat → am_Mem → Prop} {μ : am_Mem} {r0 : Nat} {x1 x2 x3 : Int32} {o4 : Option Value}
    (hn : narrow .boolean (.int x2) = .int x2 ∧ fits .boolean (.int x2) = true)
    (k : Q (.inl (some (.int x2))) μ) :
    Wp d 228 (110, [some (.ref r0), some (.int x1), some (.int x2), some (.int x3), o4], [], μ) Q := wp_blk rfl e228_110 (wp_ri (ty := .boolean) rfl e228_110_r rfl hn k)
/-! RuleSheetsModel.isHeld(I)Z -/
def q229_0 : List (Nat × Instr × Nat) := [(0, .iconst 1, 1), (1, .istore_n 2, 1), (2, .iconst 0, 1), (3, .istore_n 3, 1)]
theorem e229_0 : am_dec am_M229 q229_0 = true := by decide +kernel
theorem b229_0 {d : Nat} {Q : Option Value ⊕ Nat → am_Mem → Prop} {μ : am_Mem} {r0 : Nat} {x1 : Int32}
    (k : Wp d 229 (4, [some (.ref r0), some (.int x1), some (.int (Int32.ofInt 1)), some (.int (Int32.ofInt 0)), none], [], μ) Q) :
    Wp d 229 (0, [some (.ref r0), some (.int x1), none, none, none], [], μ) Q := wp_blk rfl e229_0 k
def q229_4 : List (Nat × Instr × Nat) := [(4, .iload_n 3, 1), (5, .aload_n 0, 1), (6, .getfield 47, 3), (9, .iload_n 1, 1), (10, .iaload, 1), (11, .if_icmp .ge 49, 3)]
theorem e229_4 : am_dec am_M229 q229_4 = true := by decide +kernel
theorem b229_4 {d : Nat} {Q : Option Value ⊕ Nat → am_Mem → Prop} {μ : am_Mem} {r0 : Nat} {x1 x2 x3 : Int32} {o4 : Option Value}
    (h1 : am_kd μ r0 = (1, 12))
    (h2 : ¬ am_F μ r0 21 = 15)
    (h3 : (am_kd μ (am_F μ r0 21)).1 = 2 ∨ (am_kd μ (am_F μ r0 21)).1 = 8)
    (h4 : ¬ (x1 < 0 ∨ (am_kd μ (am_F μ r0 21)).2 ≤ x1.toNatClampNeg))
    (k1 : (am_A μ (am_F μ r0 21) x1.toNatClampNeg) ≤ x3 → Wp d 229 (60, [some (.ref r0), some (.int x1), some (.int x2), some (.int x3), o4], [], μ) Q) (k2 : ¬ ((am_A μ (am_F μ r0 21) x1.toNatClampNeg) ≤ x3) → Wp d 229 (14, [some (.ref r0), some (.int x1), some (.int x2), some (.int x3), o4], [], μ) Q) :
    Wp d 229 (4, [some (.ref r0), some (.int x1), some (.int x2), some (.int x3), o4], [], μ) Q := wp_blk rfl e229_4 (And.intro h1 (And.intro h2 (And.intro h3 (And.intro h4 (And.intro k1 k2)))))
def q229_14 : List (Nat × Instr × Nat) := [(14, .iload_n 2, 1), (15, .ifCond .eq 45, 3)]
theorem e229_14 : am_dec am_M229 q229_14 = true := by decide +kernel
theorem b229_14 {d : Nat} {Q : Option Value ⊕ Nat → am_Mem → Prop} {μ : am_Mem} {r0 : Nat} {x1 x2 x3 : Int32} {o4 : Option Value}
    (k1 : x2 = 0 → Wp d 229 (60, [some (.ref r0), some (.int x1), some (.int x2), some (.int x3), o4], [], μ) Q) (k2 : ¬ (x2 = 0) → Wp d 229 (18, [some (.ref r0), some (.int x1), some (.int x2), some (.int x3), o4], [], μ) Q) :
    Wp d 229 (14, [some (.ref r0), some (.int x1), some (.int x2), some (.int x3), o4], [], μ) Q := wp_blk rfl e229_14 (And.intro k1 k2)
def q229_18 : List (Nat × Instr × Nat) := [(18, .aload_n 0, 1), (19, .aload_n 0, 1), (20, .getfield 44, 3), (23, .iconst 4, 1), (24, .iload_n 1, 1), (25, .imul, 1), (26, .iload_n 3, 1), (27, .iadd, 1), (28, .iaload, 1), (29, .iconst 0, 1)]
theorem e229_18 : am_dec am_M229 q229_18 = true := by decide +kernel
theorem e229_18_c : am_dc1 am_M229 30 (.invokevirtual 444) 3 = true := by decide +kernel
theorem b229_18 {d : Nat} {Q : Option Value ⊕ Nat → am_Mem → Prop} {μ : am_Mem} {r0 : Nat} {x1 x2 x3 : Int32} {o4 : Option Value} {P : Int32 → am_Mem → Prop} {X : Nat → am_Mem → Prop}
    (h1 : am_kd μ r0 = (1, 12))
    (h2 : ¬ am_F μ r0 20 = 15)
    (h3 : (am_kd μ (am_F μ r0 20)).1 = 2 ∨ (am_kd μ (am_F μ r0 20)).1 = 8)
    (h4 : ¬ ((((Int32.ofInt 4) * x1) + x3) < 0 ∨ (am_kd μ (am_F μ r0 20)).2 ≤ (((Int32.ofInt 4) * x1) + x3).toNatClampNeg))
    (hk : am_kd μ r0 = (1, 12))
    (hc : Wp d 204 (0, [some (.ref r0), some (.int (am_A μ (am_F μ r0 20) (((Int32.ofInt 4) * x1) + x3).toNatClampNeg)), some (.int (Int32.ofInt 0)), none, none, none, none], [], μ) (pI P X)) (hr : ∀ x μ', P x μ' → Wp (d + 1) 229 (33, [some (.ref r0), some (.int x1), some (.int x2), some (.int x3), o4], [.int x], (μ')) Q)
    (hx : ∀ x μ', X x μ' → Q (.inr x) μ') :
    Wp (d + 1) 229 (18, [some (.ref r0), some (.int x1), some (.int x2), some (.int x3), o4], [], μ) Q := wp_blk rfl e229_18 (And.intro h1 (And.intro h2 (And.intro h3 (And.intro h4 (wp_cv (as := [.int (am_A μ (am_F μ r0 20) (((Int32.ofInt 4) * x1) + x3).toNatClampNeg), .int (Int32.ofInt 0)]) rfl e229_18_c rfl rfl rfl rfl rfl hk hc (fun v μ' hv => by obtain ⟨x, rfl, hp⟩ := pI_r hv; exact hr x μ' hp) hx)))))
def q229_33 : List (Nat × Instr × Nat) := [(33, .istore 4, 2), (35, .iload 4, 2), (37, .ifCond .lt 7, 3)]
theorem e229_33 : am_dec am_M229 q229_33 = true := by decide +kernel
theorem b229_33 {d : Nat} {Q : Option Value ⊕ Nat → am_Mem → Prop} {μ : am_Mem} {r0 : Nat} {x1 x2 x3 s0 : Int32} {o4 : Option Value}
    (k1 : s0 < 0 → Wp d 229 (44, [some (.ref r0), some (.int x1), some (.int x2), some (.int x3), some (.int s0)], [], μ) Q) (k2 : ¬ (s0 < 0) → Wp d 229 (40, [some (.ref r0), some (.int x1), some (.int x2), some (.int x3), some (.int s0)], [], μ) Q) :
    Wp d 229 (33, [some (.ref r0), some (.int x1), some (.int x2), some (.int x3), o4], [.int s0], μ) Q := wp_blk rfl e229_33 (And.intro k1 k2)
def q229_40 : List (Nat × Instr × Nat) := [(40, .iconst 1, 1), (41, .goto 4, 3)]
theorem e229_40 : am_dec am_M229 q229_40 = true := by decide +kernel
theorem b229_40 {d : Nat} {Q : Option Value ⊕ Nat → am_Mem → Prop} {μ : am_Mem} {r0 : Nat} {x1 x2 x3 x4 : Int32}
    (k : Wp d 229 (45, [some (.ref r0), some (.int x1), some (.int x2), some (.int x3), some (.int x4)], [.int (Int32.ofInt 1)], μ) Q) :
    Wp d 229 (40, [some (.ref r0), some (.int x1), some (.int x2), some (.int x3), some (.int x4)], [], μ) Q := wp_blk rfl e229_40 k
def q229_44 : List (Nat × Instr × Nat) := [(44, .iconst 0, 1)]
theorem e229_44 : am_dec am_M229 q229_44 = true := by decide +kernel
theorem b229_44 {d : Nat} {Q : Option Value ⊕ Nat → am_Mem → Prop} {μ : am_Mem} {r0 : Nat} {x1 x2 x3 x4 : Int32}
    (k : Wp d 229 (45, [some (.ref r0), some (.int x1), some (.int x2), some (.int x3), some (.int x4)], [.int (Int32.ofInt 0)], μ) Q) :
    Wp d 229 (44, [some (.ref r0), some (.int x1), some (.int x2), some (.int x3), some (.int x4)], [], μ) Q := wp_blk rfl e229_44 k
def q229_45 : List (Nat × Instr × Nat) := [(45, .istore_n 2, 1), (46, .aload_n 0, 1), (47, .getfield 144, 3), (50, .iload_n 3, 1), (51, .iload 4, 2), (53, .iastore, 1), (54, .iinc 3 1, 3), (57, .goto (-53), 3)]
theorem e229_45 : am_dec am_M229 q229_45 = true := by decide +kernel
theorem b229_45 {d : Nat} {Q : Option Value ⊕ Nat → am_Mem → Prop} {μ : am_Mem} {r0 : Nat} {x1 x2 x3 x4 s0 : Int32}
    (h1 : am_kd μ r0 = (1, 12))
    (h2 : ¬ am_F μ r0 66 = 15)
    (h3 : (am_kd μ (am_F μ r0 66)).1 = 2)
    (h4 : ¬ (x3 < 0 ∨ (am_kd μ (am_F μ r0 66)).2 ≤ x3.toNatClampNeg))
    (k : Wp d 229 (4, [some (.ref r0), some (.int x1), some (.int s0), some (.int (x3 + Int32.ofInt 1)), some (.int x4)], [], (am_pA μ (am_F μ r0 66) x3.toNatClampNeg x4)) Q) :
    Wp d 229 (45, [some (.ref r0), some (.int x1), some (.int x2), some (.int x3), some (.int x4)], [.int s0], μ) Q := wp_blk rfl e229_45 (And.intro h1 (And.intro h2 (And.intro h3 (And.intro h4 k))))
def q229_60 : List (Nat × Instr × Nat) := [(60, .iload_n 2, 1), (61, .ifCond .eq 26, 3)]
theorem e229_60 : am_dec am_M229 q229_60 = true := by decide +kernel
theorem b229_60 {d : Nat} {Q : Option Value ⊕ Nat → am_Mem → Prop} {μ : am_Mem} {r0 : Nat} {x1 x2 x3 : Int32} {o4 : Option Value}
    (k1 : x2 = 0 → Wp d 229 (87, [some (.ref r0), some (.int x1), some (.int x2), some (.int x3), o4], [], μ) Q) (k2 : ¬ (x2 = 0) → Wp d 229 (64, [some (.ref r0), some (.int x1), some (.int x2), some (.int x3), o4], [], μ) Q) :
    Wp d 229 (60, [some (.ref r0), some (.int x1), some (.int x2), some (.int x3), o4], [], μ) Q := wp_blk rfl e229_60 (And.intro k1 k2)
def q229_64 : List (Nat × Instr × Nat) := [(64, .aload_n 0, 1), (65, .aload_n 0, 1), (66, .getfield 41, 3), (69, .iload_n 1, 1), (70, .iaload, 1), (71, .aload_n 0, 1), (72, .getfield 47, 3), (75, .iload_n 1, 1), (76, .iaload, 1)]
theorem e229_64 : am_dec am_M229 q229_64 = true := by decide +kernel
theorem e229_64_c : am_dc1 am_M229 77 (.invokevirtual 450) 3 = true := by decide +kernel
theorem b229_64 {d : Nat} {Q : Option Value ⊕ Nat → am_Mem → Prop} {μ : am_Mem} {r0 : Nat} {x1 x2 x3 : Int32} {o4 : Option Value} {P : Int32 → am_Mem → Prop} {X : Nat → am_Mem → Prop}
    (h1 : am_kd μ r0 = (1, 12))
    (h2 : ¬ am_F μ r0 19 = 15)
    (h3 : (am_kd μ (am_F μ r0 19)).1 = 2 ∨ (am_kd μ (am_F μ r0 19)).1 = 8)
    (h4 : ¬ (x1 < 0 ∨ (am_kd μ (am_F μ r0 19)).2 ≤ x1.toNatClampNeg))
    (h5 : am_kd μ r0 = (1, 12))
    (h6 : ¬ am_F μ r0 21 = 15)
    (h7 : (am_kd μ (am_F μ r0 21)).1 = 2 ∨ (am_kd μ (am_F μ r0 21)).1 = 8)
    (h8 : ¬ (x1 < 0 ∨ (am_kd μ (am_F μ r0 21)).2 ≤ x1.toNatClampNeg))
    (hk : am_kd μ r0 = (1, 12))
    (hc : Wp d 218 (0, [some (.ref r0), some (.int (am_A μ (am_F μ r0 19) x1.toNatClampNeg)), some (.int (am_A μ (am_F μ r0 21) x1.toNatClampNeg)), none, none, none, none], [], μ) (pI P X)) (hr : ∀ x μ', P x μ' → Wp (d + 1) 229 (80, [some (.ref r0), some (.int x1), some (.int x2), some (.int x3), o4], [.int x], (μ')) Q)
    (hx : ∀ x μ', X x μ' → Q (.inr x) μ') :
    Wp (d + 1) 229 (64, [some (.ref r0), some (.int x1), some (.int x2), some (.int x3), o4], [], μ) Q := wp_blk rfl e229_64 (And.intro h1 (And.intro h2 (And.intro h3 (And.intro h4 (And.intro h5 (And.intro h6 (And.intro h7 (And.intro h8 (wp_cv (as := [.int (am_A μ (am_F μ r0 19) x1.toNatClampNeg), .int (am_A μ (am_F μ r0 21) x1.toNatClampNeg)]) rfl e229_64_c rfl rfl rfl rfl rfl hk hc (fun v μ' hv => by obtain ⟨x, rfl, hp⟩ := pI_r hv; exact hr x μ' hp) hx)))))))))
def q229_80 : List (Nat × Instr × Nat) := [(80, .ifCond .lt 7, 3)]
theorem e229_80 : am_dec am_M229 q229_80 = true := by decide +kernel
theorem b229_80 {d : Nat} {Q : Option Value ⊕ Nat → am_Mem → Prop} {μ : am_Mem} {r0 : Nat} {x1 x2 x3 s0 : Int32} {o4 : Option Value}
    (k1 : s0 < 0 → Wp d 229 (87, [some (.ref r0), some (.int x1), some (.int x2), some (.int x3), o4], [], μ) Q) (k2 : ¬ (s0 < 0) → Wp d 229 (83, [some (.ref r0), some (.int x1), some (.int x2), some (.int x3), o4], [], μ) Q) :
    Wp d 229 (80, [some (.ref r0), some (.int x1), some (.int x2), some (.int x3), o4], [.int s0], μ) Q := wp_blk rfl e229_80 (And.intro k1 k2)
def q229_83 : List (Nat × Instr × Nat) := [(83, .iconst 1, 1), (84, .goto 4, 3)]
theorem e229_83 : am_dec am_M229 q229_83 = true := by decide +kernel
theorem b229_83 {d : Nat} {Q : Option Value ⊕ Nat → am_Mem → Prop} {μ : am_Mem} {r0 : Nat} {x1 x2 x3 : Int32} {o4 : Option Value}
    (k : Wp d 229 (88, [some (.ref r0), some (.int x1), some (.int x2), some (.int x3), o4], [.int (Int32.ofInt 1)], μ) Q) :
    Wp d 229 (83, [some (.ref r0), some (.int x1), some (.int x2), some (.int x3), o4], [], μ) Q := wp_blk rfl e229_83 k
def q229_87 : List (Nat × Instr × Nat) := [(87, .iconst 0, 1)]
theorem e229_87 : am_dec am_M229 q229_87 = true := by decide +kernel
theorem b229_87 {d : Nat} {Q : Option Value ⊕ Nat → am_Mem → Prop} {μ : am_Mem} {r0 : Nat} {x1 x2 x3 : Int32} {o4 : Option Value}
    (k : Wp d 229 (88, [some (.ref r0), some (.int x1), some (.int x2), some (.int x3), o4], [.int (Int32.ofInt 0)], μ) Q) :
    Wp d 229 (87, [some (.ref r0), some (.int x1), some (.int x2), some (.int x3), o4], [], μ) Q := wp_blk rfl e229_87 k
theorem e229_88_r : am_dec am_M229 [(88, .ireturn, 1)] = true := by decide +kernel
theorem b229_88 {d : Nat} {Q : Option Value ⊕ Nat → am_Mem → Prop} {μ : am_Mem} {r0 : Nat} {x1 x2 x3 s0 : Int32} {o4 : Option Value}
    (hn : narrow .boolean (.int s0) = .int s0 ∧ fits .boolean (.int s0) = true)
    (k : Q (.inl (some (.int s0))) μ) :
    Wp d 229 (88, [some (.ref r0), some (.int x1), some (.int x2), some (.int x3), o4], [.int s0], μ) Q := (wp_ri (ty := .boolean) rfl e229_88_r rfl hn k)
/-! RuleSheetsModel.isLike(II)Z -/
def q230_0 : List (Nat × Instr × Nat) := [(0, .aload_n 0, 1), (1, .iload_n 1, 1), (2, .iconst 0, 1)]
theorem e230_0 : am_dec am_M230 q230_0 = true := by decide +kernel
theorem e230_0_c : am_dc1 am_M230 3 (.invokevirtual 444) 3 = true := by decide +kernel
theorem b230_0 {d : Nat} {Q : Option Value ⊕ Nat → am_Mem → Prop} {μ : am_Mem} {r0 : Nat} {x1 x2 : Int32} {P : Int32 → am_Mem → Prop} {X : Nat → am_Mem → Prop}
    (hk : am_kd μ r0 = (1, 12))
    (hc : Wp d 204 (0, [some (.ref r0), some (.int x1), some (.int (Int32.ofInt 0)), none, none, none, none], [], μ) (pI P X)) (hr : ∀ x μ', P x μ' → Wp (d + 1) 230 (6, [some (.ref r0), some (.int x1), some (.int x2), none, none, none, none], [.int x], (μ')) Q)
    (hx : ∀ x μ', X x μ' → Q (.inr x) μ') :
    Wp (d + 1) 230 (0, [some (.ref r0), some (.int x1), some (.int x2), none, none, none, none], [], μ) Q := wp_blk rfl e230_0 (wp_cv (as := [.int x1, .int (Int32.ofInt 0)]) rfl e230_0_c rfl rfl rfl rfl rfl hk hc (fun v μ' hv => by obtain ⟨x, rfl, hp⟩ := pI_r hv; exact hr x μ' hp) hx)
def q230_6 : List (Nat × Instr × Nat) := [(6, .pop, 1), (7, .aload_n 0, 1), (8, .iload_n 2, 1), (9, .iconst 0, 1)]
theorem e230_6 : am_dec am_M230 q230_6 = true := by decide +kernel
theorem e230_6_c : am_dc1 am_M230 10 (.invokevirtual 444) 3 = true := by decide +kernel
theorem b230_6 {d : Nat} {Q : Option Value ⊕ Nat → am_Mem → Prop} {μ : am_Mem} {r0 : Nat} {x1 x2 s0 : Int32} {P : Int32 → am_Mem → Prop} {X : Nat → am_Mem → Prop}
    (hk : am_kd μ r0 = (1, 12))
    (hc : Wp d 204 (0, [some (.ref r0), some (.int x2), some (.int (Int32.ofInt 0)), none, none, none, none], [], μ) (pI P X)) (hr : ∀ x μ', P x μ' → Wp (d + 1) 230 (13, [some (.ref r0), some (.int x1), some (.int x2), none, none, none, none], [.int x], (μ')) Q)
    (hx : ∀ x μ', X x μ' → Q (.inr x) μ') :
    Wp (d + 1) 230 (6, [some (.ref r0), some (.int x1), some (.int x2), none, none, none, none], [.int s0], μ) Q := wp_blk rfl e230_6 (wp_cv (as := [.int x2, .int (Int32.ofInt 0)]) rfl e230_6_c rfl rfl rfl rfl rfl hk hc (fun v μ' hv => by obtain ⟨x, rfl, hp⟩ := pI_r hv; exact hr x μ' hp) hx)
def q230_13 : List (Nat × Instr × Nat) := [(13, .pop, 1), (14, .iconst 1, 1), (15, .istore_n 3, 1), (16, .aload_n 0, 1), (17, .getfield 138, 3), (20, .iconst 0, 1), (21, .iload_n 1, 1), (22, .iastore, 1), (23, .aload_n 0, 1), (24, .getfield 141, 3), (27, .iconst 0, 1), (28, .iload_n 2, 1), (29, .iastore, 1)]
theorem e230_13 : am_dec am_M230 q230_13 = true := by decide +kernel
theorem b230_13 {d : Nat} {Q : Option Value ⊕ Nat → am_Mem → Prop} {μ : am_Mem} {r0 : Nat} {x1 x2 s0 : Int32}
    (h1 : am_kd μ r0 = (1, 12))
    (h2 : ¬ am_F μ r0 64 = 15)
    (h3 : (am_kd μ (am_F μ r0 64)).1 = 2)
    (h4 : ¬ ((Int32.ofInt 0) < 0 ∨ (am_kd μ (am_F μ r0 64)).2 ≤ (Int32.ofInt 0).toNatClampNeg))
    (h5 : am_kd (am_pA μ (am_F μ r0 64) (Int32.ofInt 0).toNatClampNeg x1) r0 = (1, 12))
    (h6 : ¬ am_F (am_pA μ (am_F μ r0 64) (Int32.ofInt 0).toNatClampNeg x1) r0 65 = 15)
    (h7 : (am_kd (am_pA μ (am_F μ r0 64) (Int32.ofInt 0).toNatClampNeg x1) (am_F (am_pA μ (am_F μ r0 64) (Int32.ofInt 0).toNatClampNeg x1) r0 65)).1 = 2)
    (h8 : ¬ ((Int32.ofInt 0) < 0 ∨ (am_kd (am_pA μ (am_F μ r0 64) (Int32.ofInt 0).toNatClampNeg x1) (am_F (am_pA μ (am_F μ r0 64) (Int32.ofInt 0).toNatClampNeg x1) r0 65)).2 ≤ (Int32.ofInt 0).toNatClampNeg))
    (k : Wp d 230 (30, [some (.ref r0), some (.int x1), some (.int x2), some (.int (Int32.ofInt 1)), none, none, none], [], (am_pA (am_pA μ (am_F μ r0 64) (Int32.ofInt 0).toNatClampNeg x1) (am_F (am_pA μ (am_F μ r0 64) (Int32.ofInt 0).toNatClampNeg x1) r0 65) (Int32.ofInt 0).toNatClampNeg x2)) Q) :
    Wp d 230 (13, [some (.ref r0), some (.int x1), some (.int x2), none, none, none, none], [.int s0], μ) Q := wp_blk rfl e230_13 (And.intro h1 (And.intro h2 (And.intro h3 (And.intro h4 (And.intro h5 (And.intro h6 (And.intro h7 (And.intro h8 k))))))))
def q230_30 : List (Nat × Instr × Nat) := [(30, .iload_n 3, 1), (31, .ifCond .le 153, 3)]
theorem e230_30 : am_dec am_M230 q230_30 = true := by decide +kernel
theorem b230_30 {d : Nat} {Q : Option Value ⊕ Nat → am_Mem → Prop} {μ : am_Mem} {r0 : Nat} {x1 x2 x3 : Int32} {o4 o5 o6 : Option Value}
    (k1 : x3 ≤ 0 → Wp d 230 (184, [some (.ref r0), some (.int x1), some (.int x2), some (.int x3), o4, o5, o6], [], μ) Q) (k2 : ¬ (x3 ≤ 0) → Wp d 230 (34, [some (.ref r0), some (.int x1), some (.int x2), some (.int x3), o4, o5, o6], [], μ) Q) :
    Wp d 230 (30, [some (.ref r0), some (.int x1), some (.int x2), some (.int x3), o4, o5, o6], [], μ) Q := wp_blk rfl e230_30 (And.intro k1 k2)
def q230_34 : List (Nat × Instr × Nat) := [(34, .iinc 3 (-1), 3), (37, .aload_n 0, 1), (38, .getfield 138, 3), (41, .iload_n 3, 1), (42, .iaload, 1), (43, .istore 4, 2), (45, .aload_n 0, 1), (46, .getfield 141, 3), (49, .iload_n 3, 1), (50, .iaload, 1), (51, .istore 5, 2), (53, .aload_n 0, 1), (54, .getfield 135, 3), (57, .iload 4, 2), (59, .iaload, 1), (60, .aload_n 0, 1), (61, .getfield 135, 3), (64, .iload 5, 2), (66, .iaload, 1), (67, .if_icmp .eq 5, 3)]
theorem e230_34 : am_dec am_M230 q230_34 = true := by decide +kernel
theorem b230_34 {d : Nat} {Q : Option Value ⊕ Nat → am_Mem → Prop} {μ : am_Mem} {r0 : Nat} {x1 x2 x3 : Int32} {o4 o5 o6 : Option Value}
    (h1 : am_kd μ r0 = (1, 12))
    (h2 : ¬ am_F μ r0 64 = 15)
    (h3 : (am_kd μ (am_F μ r0 64)).1 = 2 ∨ (am_kd μ (am_F μ r0 64)).1 = 8)
    (h4 : ¬ ((x3 + Int32.ofInt (-1)) < 0 ∨ (am_kd μ (am_F μ r0 64)).2 ≤ (x3 + Int32.ofInt (-1)).toNatClampNeg))
    (h5 : am_kd μ r0 = (1, 12))
    (h6 : ¬ am_F μ r0 65 = 15)
    (h7 : (am_kd μ (am_F μ r0 65)).1 = 2 ∨ (am_kd μ (am_F μ r0 65)).1 = 8)
    (h8 : ¬ ((x3 + Int32.ofInt (-1)) < 0 ∨ (am_kd μ (am_F μ r0 65)).2 ≤ (x3 + Int32.ofInt (-1)).toNatClampNeg))
    (h9 : am_kd μ r0 = (1, 12))
    (h10 : ¬ am_F μ r0 63 = 15)
    (h11 : (am_kd μ (am_F μ r0 63)).1 = 2 ∨ (am_kd μ (am_F μ r0 63)).1 = 8)
    (h12 : ¬ ((am_A μ (am_F μ r0 64) (x3 + Int32.ofInt (-1)).toNatClampNeg) < 0 ∨ (am_kd μ (am_F μ r0 63)).2 ≤ (am_A μ (am_F μ r0 64) (x3 + Int32.ofInt (-1)).toNatClampNeg).toNatClampNeg))
    (h13 : am_kd μ r0 = (1, 12))
    (h14 : ¬ am_F μ r0 63 = 15)
    (h15 : (am_kd μ (am_F μ r0 63)).1 = 2 ∨ (am_kd μ (am_F μ r0 63)).1 = 8)
    (h16 : ¬ ((am_A μ (am_F μ r0 65) (x3 + Int32.ofInt (-1)).toNatClampNeg) < 0 ∨ (am_kd μ (am_F μ r0 63)).2 ≤ (am_A μ (am_F μ r0 65) (x3 + Int32.ofInt (-1)).toNatClampNeg).toNatClampNeg))
    (k1 : (am_A μ (am_F μ r0 63) (am_A μ (am_F μ r0 64) (x3 + Int32.ofInt (-1)).toNatClampNeg).toNatClampNeg) = (am_A μ (am_F μ r0 63) (am_A μ (am_F μ r0 65) (x3 + Int32.ofInt (-1)).toNatClampNeg).toNatClampNeg) → Wp d 230 (72, [some (.ref r0), some (.int x1), some (.int x2), some (.int (x3 + Int32.ofInt (-1))), some (.int (am_A μ (am_F μ r0 64) (x3 + Int32.ofInt (-1)).toNatClampNeg)), some (.int (am_A μ (am_F μ r0 65) (x3 + Int32.ofInt (-1)).toNatClampNeg)), o6], [], μ) Q) (k2 : ¬ ((am_A μ (am_F μ r0 63) (am_A μ (am_F μ r0 64) (x3 + Int32.ofInt (-1)).toNatClampNeg).toNatClampNeg) = (am_A μ (am_F μ r0 63) (am_A μ (am_F μ r0 65) (x3 + Int32.ofInt (-1)).toNatClampNeg).toNatClampNeg)) → Wp d 230 (70, [some (.ref r0), some (.int x1), some (.int x2), some (.int (x3 + Int32.ofInt (-1))), some (.int (am_A μ (am_F μ r0 64) (x3 + Int32.ofInt (-1)).toNatClampNeg)), some (.int (am_A μ (am_F μ r0 65) (x3 + Int32.ofInt (-1)).toNatClampNeg)), o6], [], μ) Q) :
    Wp d 230 (34, [some (.ref r0), some (.int x1), some (.int x2), some (.int x3), o4, o5, o6], [], μ) Q := wp_blk rfl e230_34 (And.intro h1 (And.intro h2 (And.intro h3 (And.intro h4 (And.intro h5 (And.intro h6 (And.intro h7 (And.intro h8 (And.intro h9 (And.intro h10 (And.intro h11 (And.intro h12 (And.intro h13 (And.intro h14 (And.intro h15 (And.intro h16 (And.intro k1 k2)))))))))))))))))
def q230_70 : List (Nat × Instr × Nat) := [(70, .iconst 0, 1)]
theorem e230_70 : am_dec am_M230 q230_70 = true := by decide +kernel
theorem e230_70_r : am_dec am_M230 [(71, .ireturn, 1)] = true := by decide +kernel
theorem b230_70 {d : Nat} {Q : Option Value ⊕ Nat → am_Mem → Prop} {μ : am_Mem} {r0 : Nat} {x1 x2 x3 x4 x5 : Int32} {o6 : Option Value}
    (k : Q (.inl (some (.int (Int32.ofInt 0)))) μ) :
    Wp d 230 (70, [some (.ref r0), some (.int x1), some (.int x2), some (.int x3), some (.int x4), some (.int x5), o6], [], μ) Q := wp_blk rfl e230_70 (wp_ri (ty := .boolean) rfl e230_70_r rfl (by decide) k)
def q230_72 : List (Nat × Instr × Nat) := [(72, .aload_n 0, 1), (73, .getfield 135, 3), (76, .iload 4, 2), (78, .iaload, 1), (79, .ifCond .lt 6, 3)]
theorem e230_72 : am_dec am_M230 q230_72 = true := by decide +kernel
theorem b230_72 {d : Nat} {Q : Option Value ⊕ Nat → am_Mem → Prop} {μ : am_Mem} {r0 : Nat} {x1 x2 x3 x4 x5 : Int32} {o6 : Option Value}
    (h1 : am_kd μ r0 = (1, 12))
    (h2 : ¬ am_F μ r0 63 = 15)
    (h3 : (am_kd μ (am_F μ r0 63)).1 = 2 ∨ (am_kd μ (am_F μ r0 63)).1 = 8)
    (h4 : ¬ (x4 < 0 ∨ (am_kd μ (am_F μ r0 63)).2 ≤ x4.toNatClampNeg))
    (k1 : (am_A μ (am_F μ r0 63) x4.toNatClampNeg) < 0 → Wp d 230 (85, [some (.ref r0), some (.int x1), some (.int x2), some (.int x3), some (.int x4), some (.int x5), o6], [], μ) Q) (k2 : ¬ ((am_A μ (am_F μ r0 63) x4.toNatClampNeg) < 0) → Wp d 230 (82, [some (.ref r0), some (.int x1), some (.int x2), some (.int x3), some (.int x4), some (.int x5), o6], [], μ) Q) :
    Wp d 230 (72, [some (.ref r0), some (.int x1), some (.int x2), some (.int x3), some (.int x4), some (.int x5), o6], [], μ) Q := wp_blk rfl e230_72 (And.intro h1 (And.intro h2 (And.intro h3 (And.intro h4 (And.intro k1 k2)))))
def q230_82 : List (Nat × Instr × Nat) := [(82, .goto (-52), 3)]
theorem e230_82 : am_dec am_M230 q230_82 = true := by decide +kernel
theorem b230_82 {d : Nat} {Q : Option Value ⊕ Nat → am_Mem → Prop} {μ : am_Mem} {r0 : Nat} {x1 x2 x3 x4 x5 : Int32} {o6 : Option Value}
    (k : Wp d 230 (30, [some (.ref r0), some (.int x1), some (.int x2), some (.int x3), some (.int x4), some (.int x5), o6], [], μ) Q) :
    Wp d 230 (82, [some (.ref r0), some (.int x1), some (.int x2), some (.int x3), some (.int x4), some (.int x5), o6], [], μ) Q := wp_blk rfl e230_82 k
def q230_85 : List (Nat × Instr × Nat) := [(85, .aload_n 0, 1), (86, .getfield 50, 3), (89, .iload 4, 2), (91, .iaload, 1), (92, .aload_n 0, 1), (93, .getfield 50, 3), (96, .iload 5, 2), (98, .iaload, 1), (99, .if_icmp .ne 20, 3)]
theorem e230_85 : am_dec am_M230 q230_85 = true := by decide +kernel
theorem b230_85 {d : Nat} {Q : Option Value ⊕ Nat → am_Mem → Prop} {μ : am_Mem} {r0 : Nat} {x1 x2 x3 x4 x5 : Int32} {o6 : Option Value}
    (h1 : am_kd μ r0 = (1, 12))
    (h2 : ¬ am_F μ r0 23 = 15)
    (h3 : (am_kd μ (am_F μ r0 23)).1 = 2 ∨ (am_kd μ (am_F μ r0 23)).1 = 8)
    (h4 : ¬ (x4 < 0 ∨ (am_kd μ (am_F μ r0 23)).2 ≤ x4.toNatClampNeg))
    (h5 : am_kd μ r0 = (1, 12))
    (h6 : ¬ am_F μ r0 23 = 15)
    (h7 : (am_kd μ (am_F μ r0 23)).1 = 2 ∨ (am_kd μ (am_F μ r0 23)).1 = 8)
    (h8 : ¬ (x5 < 0 ∨ (am_kd μ (am_F μ r0 23)).2 ≤ x5.toNatClampNeg))
    (k1 : ¬ (am_A μ (am_F μ r0 23) x4.toNatClampNeg) = (am_A μ (am_F μ r0 23) x5.toNatClampNeg) → Wp d 230 (119, [some (.ref r0), some (.int x1), some (.int x2), some (.int x3), some (.int x4), some (.int x5), o6], [], μ) Q) (k2 : ¬ (¬ (am_A μ (am_F μ r0 23) x4.toNatClampNeg) = (am_A μ (am_F μ r0 23) x5.toNatClampNeg)) → Wp d 230 (102, [some (.ref r0), some (.int x1), some (.int x2), some (.int x3), some (.int x4), some (.int x5), o6], [], μ) Q) :
    Wp d 230 (85, [some (.ref r0), some (.int x1), some (.int x2), some (.int x3), some (.int x4), some (.int x5), o6], [], μ) Q := wp_blk rfl e230_85 (And.intro h1 (And.intro h2 (And.intro h3 (And.intro h4 (And.intro h5 (And.intro h6 (And.intro h7 (And.intro h8 (And.intro k1 k2)))))))))
def q230_102 : List (Nat × Instr × Nat) := [(102, .aload_n 0, 1), (103, .getfield 56, 3), (106, .iload 4, 2), (108, .iaload, 1), (109, .aload_n 0, 1), (110, .getfield 56, 3), (113, .iload 5, 2), (115, .iaload, 1), (116, .if_icmp .eq 5, 3)]
theorem e230_102 : am_dec am_M230 q230_102 = true := by decide +kernel
theorem b230_102 {d : Nat} {Q : Option Value ⊕ Nat → am_Mem → Prop} {μ : am_Mem} {r0 : Nat} {x1 x2 x3 x4 x5 : Int32} {o6 : Option Value}
    (h1 : am_kd μ r0 = (1, 12))
    (h2 : ¬ am_F μ r0 25 = 15)
    (h3 : (am_kd μ (am_F μ r0 25)).1 = 2 ∨ (am_kd μ (am_F μ r0 25)).1 = 8)
    (h4 : ¬ (x4 < 0 ∨ (am_kd μ (am_F μ r0 25)).2 ≤ x4.toNatClampNeg))
    (h5 : am_kd μ r0 = (1, 12))
    (h6 : ¬ am_F μ r0 25 = 15)
    (h7 : (am_kd μ (am_F μ r0 25)).1 = 2 ∨ (am_kd μ (am_F μ r0 25)).1 = 8)
    (h8 : ¬ (x5 < 0 ∨ (am_kd μ (am_F μ r0 25)).2 ≤ x5.toNatClampNeg))
    (k1 : (am_A μ (am_F μ r0 25) x4.toNatClampNeg) = (am_A μ (am_F μ r0 25) x5.toNatClampNeg) → Wp d 230 (121, [some (.ref r0), some (.int x1), some (.int x2), some (.int x3), some (.int x4), some (.int x5), o6], [], μ) Q) (k2 : ¬ ((am_A μ (am_F μ r0 25) x4.toNatClampNeg) = (am_A μ (am_F μ r0 25) x5.toNatClampNeg)) → Wp d 230 (119, [some (.ref r0), some (.int x1), some (.int x2), some (.int x3), some (.int x4), some (.int x5), o6], [], μ) Q) :
    Wp d 230 (102, [some (.ref r0), some (.int x1), some (.int x2), some (.int x3), some (.int x4), some (.int x5), o6], [], μ) Q := wp_blk rfl e230_102 (And.intro h1 (And.intro h2 (And.intro h3 (And.intro h4 (And.intro h5 (And.intro h6 (And.intro h7 (And.intro h8 (And.intro k1 k2)))))))))
def q230_119 : List (Nat × Instr × Nat) := [(119, .iconst 0, 1)]
theorem e230_119 : am_dec am_M230 q230_119 = true := by decide +kernel
theorem e230_119_r : am_dec am_M230 [(120, .ireturn, 1)] = true := by decide +kernel
theorem b230_119 {d : Nat} {Q : Option Value ⊕ Nat → am_Mem → Prop} {μ : am_Mem} {r0 : Nat} {x1 x2 x3 x4 x5 : Int32} {o6 : Option Value}
    (k : Q (.inl (some (.int (Int32.ofInt 0)))) μ) :
    Wp d 230 (119, [some (.ref r0), some (.int x1), some (.int x2), some (.int x3), some (.int x4), some (.int x5), o6], [], μ) Q := wp_blk rfl e230_119 (wp_ri (ty := .boolean) rfl e230_119_r rfl (by decide) k)
def q230_121 : List (Nat × Instr × Nat) := [(121, .iconst 0, 1), (122, .istore 6, 2)]
theorem e230_121 : am_dec am_M230 q230_121 = true := by decide +kernel
theorem b230_121 {d : Nat} {Q : Option Value ⊕ Nat → am_Mem → Prop} {μ : am_Mem} {r0 : Nat} {x1 x2 x3 x4 x5 : Int32} {o6 : Option Value}
    (k : Wp d 230 (124, [some (.ref r0), some (.int x1), some (.int x2), some (.int x3), some (.int x4), some (.int x5), some (.int (Int32.ofInt 0))], [], μ) Q) :
    Wp d 230 (121, [some (.ref r0), some (.int x1), some (.int x2), some (.int x3), some (.int x4), some (.int x5), o6], [], μ) Q := wp_blk rfl e230_121 k
def q230_124 : List (Nat × Instr × Nat) := [(124, .iload 6, 2), (126, .aload_n 0, 1), (127, .getfield 56, 3), (130, .iload 4, 2), (132, .iaload, 1), (133, .if_icmp .ge 48, 3)]
theorem e230_124 : am_dec am_M230 q230_124 = true := by decide +kernel
theorem b230_124 {d : Nat} {Q : Option Value ⊕ Nat → am_Mem → Prop} {μ : am_Mem} {r0 : Nat} {x1 x2 x3 x4 x5 x6 : Int32}
    (h1 : am_kd μ r0 = (1, 12))
    (h2 : ¬ am_F μ r0 25 = 15)
    (h3 : (am_kd μ (am_F μ r0 25)).1 = 2 ∨ (am_kd μ (am_F μ r0 25)).1 = 8)
    (h4 : ¬ (x4 < 0 ∨ (am_kd μ (am_F μ r0 25)).2 ≤ x4.toNatClampNeg))
    (k1 : (am_A μ (am_F μ r0 25) x4.toNatClampNeg) ≤ x6 → Wp d 230 (181, [some (.ref r0), some (.int x1), some (.int x2), some (.int x3), some (.int x4), some (.int x5), some (.int x6)], [], μ) Q) (k2 : ¬ ((am_A μ (am_F μ r0 25) x4.toNatClampNeg) ≤ x6) → Wp d 230 (136, [some (.ref r0), some (.int x1), some (.int x2), some (.int x3), some (.int x4), some (.int x5), some (.int x6)], [], μ) Q) :
    Wp d 230 (124, [some (.ref r0), some (.int x1), some (.int x2), some (.int x3), some (.int x4), some (.int x5), some (.int x6)], [], μ) Q := wp_blk rfl e230_124 (And.intro h1 (And.intro h2 (And.intro h3 (And.intro h4 (And.intro k1 k2)))))
def q230_136 : List (Nat × Instr × Nat) := [(136, .aload_n 0, 1), (137, .getfield 138, 3), (140, .iload_n 3, 1), (141, .aload_n 0, 1), (142, .getfield 59, 3), (145, .iconst 4, 1), (146, .iload 4, 2), (148, .imul, 1), (149, .iload 6, 2), (151, .iadd, 1), (152, .iaload, 1), (153, .iastore, 1), (154, .aload_n 0, 1), (155, .getfield 141, 3), (158, .iload_n 3, 1), (159, .aload_n 0, 1), (160, .getfield 59, 3), (163, .iconst 4, 1), (164, .iload 5, 2), (166, .imul, 1), (167, .iload 6, 2), (169, .iadd, 1), (170, .iaload, 1), (171, .iastore, 1)]
theorem e230_136 : am_dec am_M230 q230_136 = true := by decide +kernel
theorem b230_136 {d : Nat} {Q : Option Value ⊕ Nat → am_Mem → Prop} {μ : am_Mem} {r0 : Nat} {x1 x2 x3 x4 x5 x6 : Int32}
    (h1 : am_kd μ r0 = (1, 12))
    (h2 : ¬ am_F μ r0 64 = 15)
    (h3 : am_kd μ r0 = (1, 12))
    (h4 : ¬ am_F μ r0 26 = 15)
    (h5 : (am_kd μ (am_F μ r0 26)).1 = 2 ∨ (am_kd μ (am_F μ r0 26)).1 = 8)
    (h6 : ¬ ((((Int32.ofInt 4) * x4) + x6) < 0 ∨ (am_kd μ (am_F μ r0 26)).2 ≤ (((Int32.ofInt 4) * x4) + x6).toNatClampNeg))
    (h7 : (am_kd μ (am_F μ r0 64)).1 = 2)
    (h8 : ¬ (x3 < 0 ∨ (am_kd μ (am_F μ r0 64)).2 ≤ x3.toNatClampNeg))
    (h9 : am_kd (am_pA μ (am_F μ r0 64) x3.toNatClampNeg (am_A μ (am_F μ r0 26) (((Int32.ofInt 4) * x4) + x6).toNatClampNeg)) r0 = (1, 12))
    (h10 : ¬ am_F (am_pA μ (am_F μ r0 64) x3.toNatClampNeg (am_A μ (am_F μ r0 26) (((Int32.ofInt 4) * x4) + x6).toNatClampNeg)) r0 65 = 15)
    (h11 : am_kd (am_pA μ (am_F μ r0 64) x3.toNatClampNeg (am_A μ (am_F μ r0 26) (((Int32.ofInt 4) * x4) + x6).toNatClampNeg)) r0 = (1, 12))
    (h12 : ¬ am_F (am_pA μ (am_F μ r0 64) x3.toNatClampNeg (am_A μ (am_F μ r0 26) (((Int32.ofInt 4) * x4) + x6).toNatClampNeg)) r0 26 = 15)
    (h13 : (am_kd (am_pA μ (am_F μ r0 64) x3.toNatClampNeg (am_A μ (am_F μ r0 26) (((Int32.ofInt 4) * x4) + x6).toNatClampNeg)) (am_F (am_pA μ (am_F μ r0 64) x3.toNatClampNeg (am_A μ (am_F μ r0 26) (((Int32.ofInt 4) * x4) + x6).toNatClampNeg)) r0 26)).1 = 2 ∨ (am_kd (am_pA μ (am_F μ r0 64) x3.toNatClampNeg (am_A μ (am_F μ r0 26) (((Int32.ofInt 4) * x4) + x6).toNatClampNeg)) (am_F (am_pA μ (am_F μ r0 64) x3.toNatClampNeg (am_A μ (am_F μ r0 26) (((Int32.ofInt 4) * x4) + x6).toNatClampNeg)) r0 26)).1 = 8)
    (h14 : ¬ ((((Int32.ofInt 4) * x5) + x6) < 0 ∨ (am_kd (am_pA μ (am_F μ r0 64) x3.toNatClampNeg (am_A μ (am_F μ r0 26) (((Int32.ofInt 4) * x4) + x6).toNatClampNeg)) (am_F (am_pA μ (am_F μ r0 64) x3.toNatClampNeg (am_A μ (am_F μ r0 26) (((Int32.ofInt 4) * x4) + x6).toNatClampNeg)) r0 26)).2 ≤ (((Int32.ofInt 4) * x5) + x6).toNatClampNeg))
    (h15 : (am_kd (am_pA μ (am_F μ r0 64) x3.toNatClampNeg (am_A μ (am_F μ r0 26) (((Int32.ofInt 4) * x4) + x6).toNatClampNeg)) (am_F (am_pA μ (am_F μ r0 64) x3.toNatClampNeg (am_A μ (am_F μ r0 26) (((Int32.ofInt 4) * x4) + x6).toNatClampNeg)) r0 65)).1 = 2)
    (h16 : ¬ (x3 < 0 ∨ (am_kd (am_pA μ (am_F μ r0 64) x3.toNatClampNeg (am_A μ (am_F μ r0 26) (((Int32.ofInt 4) * x4) + x6).toNatClampNeg)) (am_F (am_pA μ (am_F μ r0 64) x3.toNatClampNeg (am_A μ (am_F μ r0 26) (((Int32.ofInt 4) * x4) + x6).toNatClampNeg)) r0 65)).2 ≤ x3.toNatClampNeg))
    (k : Wp d 230 (172, [some (.ref r0), some (.int x1), some (.int x2), some (.int x3), some (.int x4), some (.int x5), some (.int x6)], [], (am_pA (am_pA μ (am_F μ r0 64) x3.toNatClampNeg (am_A μ (am_F μ r0 26) (((Int32.ofInt 4) * x4) + x6).toNatClampNeg)) (am_F (am_pA μ (am_F μ r0 64) x3.toNatClampNeg (am_A μ (am_F μ r0 26) (((Int32.ofInt 4) * x4) + x6).toNatClampNeg)) r0 65) x3.toNatClampNeg (am_A (am_pA μ (am_F μ r0 64) x3.toNatClampNeg (am_A μ (am_F μ r0 26) (((Int32.ofInt 4) * x4) + x6).toNatClampNeg)) (am_F (am_pA μ (am_F μ r0 64) x3.toNatClampNeg (am_A μ (am_F μ r0 26) (((Int32.ofInt 4) * x4) + x6).toNatClampNeg)) r0 26) (((Int32.ofInt 4) * x5) + x6).toNatClampNeg))) Q) :
    Wp d 230 (136, [some (.ref r0), some (.int x1), some (.int x2), some (.int x3), some (.int x4), some (.int x5), some (.int x6)], [], μ) Q := wp_blk rfl e230_136 (And.intro h1 (And.intro h2 (And.intro h3 (And.intro h4 (And.intro h5 (And.intro h6 (And.intro h7 (And.intro h8 (And.intro h9 (And.intro h10 (And.intro h11 (And.intro h12 (And.intro h13 (And.intro h14 (And.intro h15 (And.intro h16 k))))))))))))))))
def q230_172 : List (Nat × Instr × Nat) := [(172, .iinc 3 1, 3), (175, .iinc 6 1, 3), (178, .goto (-54), 3)]
theorem e230_172 : am_dec am_M230 q230_172 = true := by decide +kernel
theorem b230_172 {d : Nat} {Q : Option Value ⊕ Nat → am_Mem → Prop} {μ : am_Mem} {r0 : Nat} {x1 x2 x3 x4 x5 x6 : Int32}
    (k : Wp d 230 (124, [some (.ref r0), some (.int x1), some (.int x2), some (.int (x3 + Int32.ofInt 1)), some (.int x4), some (.int x5), some (.int (x6 + Int32.ofInt 1))], [], μ) Q) :
    Wp d 230 (172, [some (.ref r0), some (.int x1), some (.int x2), some (.int x3), some (.int x4), some (.int x5), some (.int x6)], [], μ) Q := wp_blk rfl e230_172 k
def q230_181 : List (Nat × Instr × Nat) := [(181, .goto (-151), 3)]
theorem e230_181 : am_dec am_M230 q230_181 = true := by decide +kernel
theorem b230_181 {d : Nat} {Q : Option Value ⊕ Nat → am_Mem → Prop} {μ : am_Mem} {r0 : Nat} {x1 x2 x3 x4 x5 x6 : Int32}
    (k : Wp d 230 (30, [some (.ref r0), some (.int x1), some (.int x2), some (.int x3), some (.int x4), some (.int x5), some (.int x6)], [], μ) Q) :
    Wp d 230 (181, [some (.ref r0), some (.int x1), some (.int x2), some (.int x3), some (.int x4), some (.int x5), some (.int x6)], [], μ) Q := wp_blk rfl e230_181 k
def q230_184 : List (Nat × Instr × Nat) := [(184, .iconst 1, 1)]
theorem e230_184 : am_dec am_M230 q230_184 = true := by decide +kernel
theorem e230_184_r : am_dec am_M230 [(185, .ireturn, 1)] = true := by decide +kernel
theorem b230_184 {d : Nat} {Q : Option Value ⊕ Nat → am_Mem → Prop} {μ : am_Mem} {r0 : Nat} {x1 x2 x3 : Int32} {o4 o5 o6 : Option Value}
    (k : Q (.inl (some (.int (Int32.ofInt 1)))) μ) :
    Wp d 230 (184, [some (.ref r0), some (.int x1), some (.int x2), some (.int x3), o4, o5, o6], [], μ) Q := wp_blk rfl e230_184 (wp_ri (ty := .boolean) rfl e230_184_r rfl (by decide) k)
/-! RuleSheetsModel.lengthOf(I)I -/
def q231_0 : List (Nat × Instr × Nat) := [(0, .iconst 0, 1), (1, .istore_n 2, 1), (2, .iload_n 1, 1), (3, .istore_n 3, 1)]
theorem e231_0 : am_dec am_M231 q231_0 = true := by decide +kernel
theorem b231_0 {d : Nat} {Q : Option Value ⊕ Nat → am_Mem → Prop} {μ : am_Mem} {r0 : Nat} {x1 : Int32}
    (k : Wp d 231 (4, [some (.ref r0), some (.int x1), some (.int (Int32.ofInt 0)), some (.int x1)], [], μ) Q) :
    Wp d 231 (0, [some (.ref r0), some (.int x1), none, none], [], μ) Q := wp_blk rfl e231_0 k
def q231_4 : List (Nat × Instr × Nat) := [(4, .iload_n 3, 1), (5, .aload_n 0, 1), (6, .getfield 62, 3), (9, .iload_n 1, 1), (10, .iaload, 1), (11, .if_icmp .ge 76, 3)]
theorem e231_4 : am_dec am_M231 q231_4 = true := by decide +kernel
theorem b231_4 {d : Nat} {Q : Option Value ⊕ Nat → am_Mem → Prop} {μ : am_Mem} {r0 : Nat} {x1 x2 x3 : Int32}
    (h1 : am_kd μ r0 = (1, 12))
    (h2 : ¬ am_F μ r0 27 = 15)
    (h3 : (am_kd μ (am_F μ r0 27)).1 = 2 ∨ (am_kd μ (am_F μ r0 27)).1 = 8)
    (h4 : ¬ (x1 < 0 ∨ (am_kd μ (am_F μ r0 27)).2 ≤ x1.toNatClampNeg))
    (k1 : (am_A μ (am_F μ r0 27) x1.toNatClampNeg) ≤ x3 → Wp d 231 (87, [some (.ref r0), some (.int x1), some (.int x2), some (.int x3)], [], μ) Q) (k2 : ¬ ((am_A μ (am_F μ r0 27) x1.toNatClampNeg) ≤ x3) → Wp d 231 (14, [some (.ref r0), some (.int x1), some (.int x2), some (.int x3)], [], μ) Q) :
    Wp d 231 (4, [some (.ref r0), some (.int x1), some (.int x2), some (.int x3)], [], μ) Q := wp_blk rfl e231_4 (And.intro h1 (And.intro h2 (And.intro h3 (And.intro h4 (And.intro k1 k2)))))
def q231_14 : List (Nat × Instr × Nat) := [(14, .aload_n 0, 1), (15, .getfield 53, 3), (18, .iload_n 3, 1), (19, .iaload, 1), (20, .ifCond .lt 25, 3)]
theorem e231_14 : am_dec am_M231 q231_14 = true := by decide +kernel
theorem b231_14 {d : Nat} {Q : Option Value ⊕ Nat → am_Mem → Prop} {μ : am_Mem} {r0 : Nat} {x1 x2 x3 : Int32}
    (h1 : am_kd μ r0 = (1, 12))
    (h2 : ¬ am_F μ r0 24 = 15)
    (h3 : (am_kd μ (am_F μ r0 24)).1 = 2 ∨ (am_kd μ (am_F μ r0 24)).1 = 8)
    (h4 : ¬ (x3 < 0 ∨ (am_kd μ (am_F μ r0 24)).2 ≤ x3.toNatClampNeg))
    (k1 : (am_A μ (am_F μ r0 24) x3.toNatClampNeg) < 0 → Wp d 231 (45, [some (.ref r0), some (.int x1), some (.int x2), some (.int x3)], [], μ) Q) (k2 : ¬ ((am_A μ (am_F μ r0 24) x3.toNatClampNeg) < 0) → Wp d 231 (23, [some (.ref r0), some (.int x1), some (.int x2), some (.int x3)], [], μ) Q) :
    Wp d 231 (14, [some (.ref r0), some (.int x1), some (.int x2), some (.int x3)], [], μ) Q := wp_blk rfl e231_14 (And.intro h1 (And.intro h2 (And.intro h3 (And.intro h4 (And.intro k1 k2)))))
def q231_23 : List (Nat × Instr × Nat) := [(23, .iload_n 2, 1), (24, .aload_n 0, 1), (25, .getfield 95, 3), (28, .aload_n 0, 1), (29, .getfield 129, 3), (32, .aload_n 0, 1), (33, .getfield 53, 3), (36, .iload_n 3, 1), (37, .iaload, 1), (38, .iaload, 1), (39, .iaload, 1), (40, .iadd, 1), (41, .istore_n 2, 1), (42, .goto 39, 3)]
theorem e231_23 : am_dec am_M231 q231_23 = true := by decide +kernel
theorem b231_23 {d : Nat} {Q : Option Value ⊕ Nat → am_Mem → Prop} {μ : am_Mem} {r0 : Nat} {x1 x2 x3 : Int32}
    (h1 : am_kd μ r0 = (1, 12))
    (h2 : ¬ am_F μ r0 46 = 15)
    (h3 : am_kd μ r0 = (1, 12))
    (h4 : ¬ am_F μ r0 61 = 15)
    (h5 : am_kd μ r0 = (1, 12))
    (h6 : ¬ am_F μ r0 24 = 15)
    (h7 : (am_kd μ (am_F μ r0 24)).1 = 2 ∨ (am_kd μ (am_F μ r0 24)).1 = 8)
    (h8 : ¬ (x3 < 0 ∨ (am_kd μ (am_F μ r0 24)).2 ≤ x3.toNatClampNeg))
    (h9 : (am_kd μ (am_F μ r0 61)).1 = 2 ∨ (am_kd μ (am_F μ r0 61)).1 = 8)
    (h10 : ¬ ((am_A μ (am_F μ r0 24) x3.toNatClampNeg) < 0 ∨ (am_kd μ (am_F μ r0 61)).2 ≤ (am_A μ (am_F μ r0 24) x3.toNatClampNeg).toNatClampNeg))
    (h11 : (am_kd μ (am_F μ r0 46)).1 = 2 ∨ (am_kd μ (am_F μ r0 46)).1 = 8)
    (h12 : ¬ ((am_A μ (am_F μ r0 61) (am_A μ (am_F μ r0 24) x3.toNatClampNeg).toNatClampNeg) < 0 ∨ (am_kd μ (am_F μ r0 46)).2 ≤ (am_A μ (am_F μ r0 61) (am_A μ (am_F μ r0 24) x3.toNatClampNeg).toNatClampNeg).toNatClampNeg))
    (k : Wp d 231 (81, [some (.ref r0), some (.int x1), some (.int (x2 + (am_A μ (am_F μ r0 46) (am_A μ (am_F μ r0 61) (am_A μ (am_F μ r0 24) x3.toNatClampNeg).toNatClampNeg).toNatClampNeg))), some (.int x3)], [], μ) Q) :
    Wp d 231 (23, [some (.ref r0), some (.int x1), some (.int x2), some (.int x3)], [], μ) Q := wp_blk rfl e231_23 (And.intro h1 (And.intro h2 (And.intro h3 (And.intro h4 (And.intro h5 (And.intro h6 (And.intro h7 (And.intro h8 (And.intro h9 (And.intro h10 (And.intro h11 (And.intro h12 k))))))))))))
def q231_45 : List (Nat × Instr × Nat) := [(45, .iload_n 2, 1), (46, .aload_n 0, 1), (47, .getfield 26, 3), (50, .aload_n 0, 1), (51, .getfield 50, 3), (54, .iload_n 3, 1), (55, .iaload, 1), (56, .iaload, 1), (57, .iadd, 1), (58, .aload_n 0, 1), (59, .getfield 56, 3), (62, .iload_n 3, 1), (63, .iaload, 1), (64, .ifCond .le 14, 3)]
theorem e231_45 : am_dec am_M231 q231_45 = true := by decide +kernel
theorem b231_45 {d : Nat} {Q : Option Value ⊕ Nat → am_Mem → Prop} {μ : am_Mem} {r0 : Nat} {x1 x2 x3 : Int32}
    (h1 : am_kd μ r0 = (1, 12))
    (h2 : ¬ am_F μ r0 11 = 15)
    (h3 : am_kd μ r0 = (1, 12))
    (h4 : ¬ am_F μ r0 23 = 15)
    (h5 : (am_kd μ (am_F μ r0 23)).1 = 2 ∨ (am_kd μ (am_F μ r0 23)).1 = 8)
    (h6 : ¬ (x3 < 0 ∨ (am_kd μ (am_F μ r0 23)).2 ≤ x3.toNatClampNeg))
    (h7 : (am_kd μ (am_F μ r0 11)).1 = 2 ∨ (am_kd μ (am_F μ r0 11)).1 = 8)
    (h8 : ¬ ((am_A μ (am_F μ r0 23) x3.toNatClampNeg) < 0 ∨ (am_kd μ (am_F μ r0 11)).2 ≤ (am_A μ (am_F μ r0 23) x3.toNatClampNeg).toNatClampNeg))
    (h9 : am_kd μ r0 = (1, 12))
    (h10 : ¬ am_F μ r0 25 = 15)
    (h11 : (am_kd μ (am_F μ r0 25)).1 = 2 ∨ (am_kd μ (am_F μ r0 25)).1 = 8)
    (h12 : ¬ (x3 < 0 ∨ (am_kd μ (am_F μ r0 25)).2 ≤ x3.toNatClampNeg))
    (k1 : (am_A μ (am_F μ r0 25) x3.toNatClampNeg) ≤ 0 → Wp d 231 (78, [some (.ref r0), some (.int x1), some (.int x2), some (.int x3)], [.int (x2 + (am_A μ (am_F μ r0 11) (am_A μ (am_F μ r0 23) x3.toNatClampNeg).toNatClampNeg))], μ) Q) (k2 : ¬ ((am_A μ (am_F μ r0 25) x3.toNatClampNeg) ≤ 0) → Wp d 231 (67, [some (.ref r0), some (.int x1), some (.int x2), some (.int x3)], [.int (x2 + (am_A μ (am_F μ r0 11) (am_A μ (am_F μ r0 23) x3.toNatClampNeg).toNatClampNeg))], μ) Q) :
    Wp d 231 (45, [some (.ref r0), some (.int x1), some (.int x2), some (.int x3)], [], μ) Q := wp_blk rfl e231_45 (And.intro h1 (And.intro h2 (And.intro h3 (And.intro h4 (And.intro h5 (And.intro h6 (And.intro h7 (And.intro h8 (And.intro h9 (And.intro h10 (And.intro h11 (And.intro h12 (And.intro k1 k2)))))))))))))
def q231_67 : List (Nat × Instr × Nat) := [(67, .iconst 2, 1), (68, .aload_n 0, 1), (69, .getfield 56, 3), (72, .iload_n 3, 1), (73, .iaload, 1), (74, .iadd, 1), (75, .goto 4, 3)]
theorem e231_67 : am_dec am_M231 q231_67 = true := by decide +kernel
theorem b231_67 {d : Nat} {Q : Option Value ⊕ Nat → am_Mem → Prop} {μ : am_Mem} {r0 : Nat} {x1 x2 x3 s0 : Int32}
    (h1 : am_kd μ r0 = (1, 12))
    (h2 : ¬ am_F μ r0 25 = 15)
    (h3 : (am_kd μ (am_F μ r0 25)).1 = 2 ∨ (am_kd μ (am_F μ r0 25)).1 = 8)
    (h4 : ¬ (x3 < 0 ∨ (am_kd μ (am_F μ r0 25)).2 ≤ x3.toNatClampNeg))
    (k : Wp d 231 (79, [some (.ref r0), some (.int x1), some (.int x2), some (.int x3)], [.int ((Int32.ofInt 2) + (am_A μ (am_F μ r0 25) x3.toNatClampNeg)), .int s0], μ) Q) :
    Wp d 231 (67, [some (.ref r0), some (.int x1), some (.int x2), some (.int x3)], [.int s0], μ) Q := wp_blk rfl e231_67 (And.intro h1 (And.intro h2 (And.intro h3 (And.intro h4 k))))
def q231_78 : List (Nat × Instr × Nat) := [(78, .iconst 0, 1)]
theorem e231_78 : am_dec am_M231 q231_78 = true := by decide +kernel
theorem b231_78 {d : Nat} {Q : Option Value ⊕ Nat → am_Mem → Prop} {μ : am_Mem} {r0 : Nat} {x1 x2 x3 s0 : Int32}
    (k : Wp d 231 (79, [some (.ref r0), some (.int x1), some (.int x2), some (.int x3)], [.int (Int32.ofInt 0), .int s0], μ) Q) :
    Wp d 231 (78, [some (.ref r0), some (.int x1), some (.int x2), some (.int x3)], [.int s0], μ) Q := wp_blk rfl e231_78 k
def q231_79 : List (Nat × Instr × Nat) := [(79, .iadd, 1), (80, .istore_n 2, 1)]
theorem e231_79 : am_dec am_M231 q231_79 = true := by decide +kernel
theorem b231_79 {d : Nat} {Q : Option Value ⊕ Nat → am_Mem → Prop} {μ : am_Mem} {r0 : Nat} {x1 x2 x3 s0 s1 : Int32}
    (k : Wp d 231 (81, [some (.ref r0), some (.int x1), some (.int (s0 + s1)), some (.int x3)], [], μ) Q) :
    Wp d 231 (79, [some (.ref r0), some (.int x1), some (.int x2), some (.int x3)], [.int s1, .int s0], μ) Q := wp_blk rfl e231_79 k
def q231_81 : List (Nat × Instr × Nat) := [(81, .iinc 3 1, 3), (84, .goto (-80), 3)]
theorem e231_81 : am_dec am_M231 q231_81 = true := by decide +kernel
theorem b231_81 {d : Nat} {Q : Option Value ⊕ Nat → am_Mem → Prop} {μ : am_Mem} {r0 : Nat} {x1 x2 x3 : Int32}
    (k : Wp d 231 (4, [some (.ref r0), some (.int x1), some (.int x2), some (.int (x3 + Int32.ofInt 1))], [], μ) Q) :
    Wp d 231 (81, [some (.ref r0), some (.int x1), some (.int x2), some (.int x3)], [], μ) Q := wp_blk rfl e231_81 k
def q231_87 : List (Nat × Instr × Nat) := [(87, .iload_n 2, 1)]
theorem e231_87 : am_dec am_M231 q231_87 = true := by decide +kernel
theorem e231_87_r : am_dec am_M231 [(88, .ireturn, 1)] = true := by decide +kernel
theorem b231_87 {d : Nat} {Q : Option Value ⊕ Nat → am_Mem → Prop} {μ : am_Mem} {r0 : Nat} {x1 x2 x3 : Int32}
    (k : Q (.inl (some (.int x2))) μ) :
    Wp d 231 (87, [some (.ref r0), some (.int x1), some (.int x2), some (.int x3)], [], μ) Q := wp_blk rfl e231_87 (wp_ri (ty := .int) rfl e231_87_r rfl ⟨rfl, rfl⟩ k)
/-! RuleSheetsModel.unbind(I)V -/
def q232_0 : List (Nat × Instr × Nat) := [(0, .iconst 0, 1), (1, .istore_n 2, 1)]
theorem e232_0 : am_dec am_M232 q232_0 = true := by decide +kernel
theorem b232_0 {d : Nat} {Q : Option Value ⊕ Nat → am_Mem → Prop} {μ : am_Mem} {r0 : Nat} {x1 : Int32}
    (k : Wp d 232 (2, [some (.ref r0), some (.int x1), some (.int (Int32.ofInt 0))], [], μ) Q) :
    Wp d 232 (0, [some (.ref r0), some (.int x1), none], [], μ) Q := wp_blk rfl e232_0 k
def q232_2 : List (Nat × Instr × Nat) := [(2, .iload_n 2, 1), (3, .bipush 8, 2), (5, .if_icmp .ge 61, 3)]
theorem e232_2 : am_dec am_M232 q232_2 = true := by decide +kernel
theorem b232_2 {d : Nat} {Q : Option Value ⊕ Nat → am_Mem → Prop} {μ : am_Mem} {r0 : Nat} {x1 x2 : Int32}
    (k1 : ((Int8.ofInt 8).toInt32) ≤ x2 → Wp d 232 (66, [some (.ref r0), some (.int x1), some (.int x2)], [], μ) Q) (k2 : ¬ (((Int8.ofInt 8).toInt32) ≤ x2) → Wp d 232 (8, [some (.ref r0), some (.int x1), some (.int x2)], [], μ) Q) :
    Wp d 232 (2, [some (.ref r0), some (.int x1), some (.int x2)], [], μ) Q := wp_blk rfl e232_2 (And.intro k1 k2)
def q232_8 : List (Nat × Instr × Nat) := [(8, .aload_n 0, 1), (9, .getfield 129, 3), (12, .iload_n 2, 1), (13, .aload_n 0, 1), (14, .getfield 132, 3), (17, .iload_n 2, 1), (18, .iaload, 1), (19, .iload_n 1, 1), (20, .if_icmp .lt 7, 3)]
theorem e232_8 : am_dec am_M232 q232_8 = true := by decide +kernel
theorem b232_8 {d : Nat} {Q : Option Value ⊕ Nat → am_Mem → Prop} {μ : am_Mem} {r0 : Nat} {x1 x2 : Int32}
    (h1 : am_kd μ r0 = (1, 12))
    (h2 : ¬ am_F μ r0 61 = 15)
    (h3 : am_kd μ r0 = (1, 12))
    (h4 : ¬ am_F μ r0 62 = 15)
    (h5 : (am_kd μ (am_F μ r0 62)).1 = 2 ∨ (am_kd μ (am_F μ r0 62)).1 = 8)
    (h6 : ¬ (x2 < 0 ∨ (am_kd μ (am_F μ r0 62)).2 ≤ x2.toNatClampNeg))
    (k1 : (am_A μ (am_F μ r0 62) x2.toNatClampNeg) < x1 → Wp d 232 (27, [some (.ref r0), some (.int x1), some (.int x2)], [.int x2, .ref (am_F μ r0 61)], μ) Q) (k2 : ¬ ((am_A μ (am_F μ r0 62) x2.toNatClampNeg) < x1) → Wp d 232 (23, [some (.ref r0), some (.int x1), some (.int x2)], [.int x2, .ref (am_F μ r0 61)], μ) Q) :
    Wp d 232 (8, [some (.ref r0), some (.int x1), some (.int x2)], [], μ) Q := wp_blk rfl e232_8 (And.intro h1 (And.intro h2 (And.intro h3 (And.intro h4 (And.intro h5 (And.intro h6 (And.intro k1 k2)))))))
def q232_23 : List (Nat × Instr × Nat) := [(23, .iconst (-1), 1), (24, .goto 9, 3)]
theorem e232_23 : am_dec am_M232 q232_23 = true := by decide +kernel
theorem b232_23 {d : Nat} {Q : Option Value ⊕ Nat → am_Mem → Prop} {μ : am_Mem} {r0 r90 : Nat} {x1 x2 s1 : Int32}
    (k : Wp d 232 (33, [some (.ref r0), some (.int x1), some (.int x2)], [.int (Int32.ofInt (-1)), .int s1, .ref r90], μ) Q) :
    Wp d 232 (23, [some (.ref r0), some (.int x1), some (.int x2)], [.int s1, .ref r90], μ) Q := wp_blk rfl e232_23 k
def q232_27 : List (Nat × Instr × Nat) := [(27, .aload_n 0, 1), (28, .getfield 129, 3), (31, .iload_n 2, 1), (32, .iaload, 1)]
theorem e232_27 : am_dec am_M232 q232_27 = true := by decide +kernel
theorem b232_27 {d : Nat} {Q : Option Value ⊕ Nat → am_Mem → Prop} {μ : am_Mem} {r0 r90 : Nat} {x1 x2 s1 : Int32}
    (h1 : am_kd μ r0 = (1, 12))
    (h2 : ¬ am_F μ r0 61 = 15)
    (h3 : (am_kd μ (am_F μ r0 61)).1 = 2 ∨ (am_kd μ (am_F μ r0 61)).1 = 8)
    (h4 : ¬ (x2 < 0 ∨ (am_kd μ (am_F μ r0 61)).2 ≤ x2.toNatClampNeg))
    (k : Wp d 232 (33, [some (.ref r0), some (.int x1), some (.int x2)], [.int (am_A μ (am_F μ r0 61) x2.toNatClampNeg), .int s1, .ref r90], μ) Q) :
    Wp d 232 (27, [some (.ref r0), some (.int x1), some (.int x2)], [.int s1, .ref r90], μ) Q := wp_blk rfl e232_27 (And.intro h1 (And.intro h2 (And.intro h3 (And.intro h4 k))))
def q232_33 : List (Nat × Instr × Nat) := [(33, .iastore, 1), (34, .aload_n 0, 1), (35, .getfield 132, 3), (38, .iload_n 2, 1), (39, .aload_n 0, 1), (40, .getfield 132, 3), (43, .iload_n 2, 1), (44, .iaload, 1), (45, .iload_n 1, 1), (46, .if_icmp .lt 7, 3)]
theorem e232_33 : am_dec am_M232 q232_33 = true := by decide +kernel
theorem b232_33 {d : Nat} {Q : Option Value ⊕ Nat → am_Mem → Prop} {μ : am_Mem} {r0 r90 : Nat} {x1 x2 s1 s2 : Int32}
    (h1 : (am_kd μ r90).1 = 2)
    (h2 : ¬ (s1 < 0 ∨ (am_kd μ r90).2 ≤ s1.toNatClampNeg))
    (h3 : am_kd (am_pA μ r90 s1.toNatClampNeg s2) r0 = (1, 12))
    (h4 : ¬ am_F (am_pA μ r90 s1.toNatClampNeg s2) r0 62 = 15)
    (h5 : am_kd (am_pA μ r90 s1.toNatClampNeg s2) r0 = (1, 12))
    (h6 : ¬ am_F (am_pA μ r90 s1.toNatClampNeg s2) r0 62 = 15)
    (h7 : (am_kd (am_pA μ r90 s1.toNatClampNeg s2) (am_F (am_pA μ r90 s1.toNatClampNeg s2) r0 62)).1 = 2 ∨ (am_kd (am_pA μ r90 s1.toNatClampNeg s2) (am_F (am_pA μ r90 s1.toNatClampNeg s2) r0 62)).1 = 8)
    (h8 : ¬ (x2 < 0 ∨ (am_kd (am_pA μ r90 s1.toNatClampNeg s2) (am_F (am_pA μ r90 s1.toNatClampNeg s2) r0 62)).2 ≤ x2.toNatClampNeg))
    (k1 : (am_A (am_pA μ r90 s1.toNatClampNeg s2) (am_F (am_pA μ r90 s1.toNatClampNeg s2) r0 62) x2.toNatClampNeg) < x1 → Wp d 232 (53, [some (.ref r0), some (.int x1), some (.int x2)], [.int x2, .ref (am_F (am_pA μ r90 s1.toNatClampNeg s2) r0 62)], (am_pA μ r90 s1.toNatClampNeg s2)) Q) (k2 : ¬ ((am_A (am_pA μ r90 s1.toNatClampNeg s2) (am_F (am_pA μ r90 s1.toNatClampNeg s2) r0 62) x2.toNatClampNeg) < x1) → Wp d 232 (49, [some (.ref r0), some (.int x1), some (.int x2)], [.int x2, .ref (am_F (am_pA μ r90 s1.toNatClampNeg s2) r0 62)], (am_pA μ r90 s1.toNatClampNeg s2)) Q) :
    Wp d 232 (33, [some (.ref r0), some (.int x1), some (.int x2)], [.int s2, .int s1, .ref r90], μ) Q := wp_blk rfl e232_33 (And.intro h1 (And.intro h2 (And.intro h3 (And.intro h4 (And.intro h5 (And.intro h6 (And.intro h7 (And.intro h8 (And.intro k1 k2)))))))))
def q232_49 : List (Nat × Instr × Nat) := [(49, .iconst (-1), 1), (50, .goto 9, 3)]
theorem e232_49 : am_dec am_M232 q232_49 = true := by decide +kernel
theorem b232_49 {d : Nat} {Q : Option Value ⊕ Nat → am_Mem → Prop} {μ : am_Mem} {r0 r90 : Nat} {x1 x2 s1 : Int32}
    (k : Wp d 232 (59, [some (.ref r0), some (.int x1), some (.int x2)], [.int (Int32.ofInt (-1)), .int s1, .ref r90], μ) Q) :
    Wp d 232 (49, [some (.ref r0), some (.int x1), some (.int x2)], [.int s1, .ref r90], μ) Q := wp_blk rfl e232_49 k
def q232_53 : List (Nat × Instr × Nat) := [(53, .aload_n 0, 1), (54, .getfield 132, 3), (57, .iload_n 2, 1), (58, .iaload, 1)]
theorem e232_53 : am_dec am_M232 q232_53 = true := by decide +kernel
theorem b232_53 {d : Nat} {Q : Option Value ⊕ Nat → am_Mem → Prop} {μ : am_Mem} {r0 r90 : Nat} {x1 x2 s1 : Int32}
    (h1 : am_kd μ r0 = (1, 12))
    (h2 : ¬ am_F μ r0 62 = 15)
    (h3 : (am_kd μ (am_F μ r0 62)).1 = 2 ∨ (am_kd μ (am_F μ r0 62)).1 = 8)
    (h4 : ¬ (x2 < 0 ∨ (am_kd μ (am_F μ r0 62)).2 ≤ x2.toNatClampNeg))
    (k : Wp d 232 (59, [some (.ref r0), some (.int x1), some (.int x2)], [.int (am_A μ (am_F μ r0 62) x2.toNatClampNeg), .int s1, .ref r90], μ) Q) :
    Wp d 232 (53, [some (.ref r0), some (.int x1), some (.int x2)], [.int s1, .ref r90], μ) Q := wp_blk rfl e232_53 (And.intro h1 (And.intro h2 (And.intro h3 (And.intro h4 k))))
def q232_59 : List (Nat × Instr × Nat) := [(59, .iastore, 1), (60, .iinc 2 1, 3), (63, .goto (-61), 3)]
theorem e232_59 : am_dec am_M232 q232_59 = true := by decide +kernel
theorem b232_59 {d : Nat} {Q : Option Value ⊕ Nat → am_Mem → Prop} {μ : am_Mem} {r0 r90 : Nat} {x1 x2 s1 s2 : Int32}
    (h1 : (am_kd μ r90).1 = 2)
    (h2 : ¬ (s1 < 0 ∨ (am_kd μ r90).2 ≤ s1.toNatClampNeg))
    (k : Wp d 232 (2, [some (.ref r0), some (.int x1), some (.int (x2 + Int32.ofInt 1))], [], (am_pA μ r90 s1.toNatClampNeg s2)) Q) :
    Wp d 232 (59, [some (.ref r0), some (.int x1), some (.int x2)], [.int s2, .int s1, .ref r90], μ) Q := wp_blk rfl e232_59 (And.intro h1 (And.intro h2 k))
theorem e232_66_r : am_dec am_M232 [(66, .return_, 1)] = true := by decide +kernel
theorem b232_66 {d : Nat} {Q : Option Value ⊕ Nat → am_Mem → Prop} {μ : am_Mem} {r0 : Nat} {x1 x2 : Int32}
    (k : Q (.inl none) μ) :
    Wp d 232 (66, [some (.ref r0), some (.int x1), some (.int x2)], [], μ) Q := (wp_rv rfl e232_66_r rfl k)
/-! RuleSheetsModel.fitsAtom(III)Z -/
def q233_0 : List (Nat × Instr × Nat) := [(0, .iconst 1, 1), (1, .istore 4, 2), (3, .iconst 0, 1), (4, .istore 5, 2)]
theorem e233_0 : am_dec am_M233 q233_0 = true := by decide +kernel
theorem b233_0 {d : Nat} {Q : Option Value ⊕ Nat → am_Mem → Prop} {μ : am_Mem} {r0 : Nat} {x1 x2 x3 : Int32}
    (k : Wp d 233 (6, [some (.ref r0), some (.int x1), some (.int x2), some (.int x3), some (.int (Int32.ofInt 1)), some (.int (Int32.ofInt 0))], [], μ) Q) :
    Wp d 233 (0, [some (.ref r0), some (.int x1), some (.int x2), some (.int x3), none, none], [], μ) Q := wp_blk rfl e233_0 k
def q233_6 : List (Nat × Instr × Nat) := [(6, .iload 5, 2), (8, .aload_n 0, 1), (9, .getfield 47, 3), (12, .iload_n 1, 1), (13, .iaload, 1), (14, .if_icmp .ge 43, 3)]
theorem e233_6 : am_dec am_M233 q233_6 = true := by decide +kernel
theorem b233_6 {d : Nat} {Q : Option Value ⊕ Nat → am_Mem → Prop} {μ : am_Mem} {r0 : Nat} {x1 x2 x3 x4 x5 : Int32}
    (h1 : am_kd μ r0 = (1, 12))
    (h2 : ¬ am_F μ r0 21 = 15)
    (h3 : (am_kd μ (am_F μ r0 21)).1 = 2 ∨ (am_kd μ (am_F μ r0 21)).1 = 8)
    (h4 : ¬ (x1 < 0 ∨ (am_kd μ (am_F μ r0 21)).2 ≤ x1.toNatClampNeg))
    (k1 : (am_A μ (am_F μ r0 21) x1.toNatClampNeg) ≤ x5 → Wp d 233 (57, [some (.ref r0), some (.int x1), some (.int x2), some (.int x3), some (.int x4), some (.int x5)], [], μ) Q) (k2 : ¬ ((am_A μ (am_F μ r0 21) x1.toNatClampNeg) ≤ x5) → Wp d 233 (17, [some (.ref r0), some (.int x1), some (.int x2), some (.int x3), some (.int x4), some (.int x5)], [], μ) Q) :
    Wp d 233 (6, [some (.ref r0), some (.int x1), some (.int x2), some (.int x3), some (.int x4), some (.int x5)], [], μ) Q := wp_blk rfl e233_6 (And.intro h1 (And.intro h2 (And.intro h3 (And.intro h4 (And.intro k1 k2)))))
def q233_17 : List (Nat × Instr × Nat) := [(17, .iload 4, 2), (19, .ifCond .eq 38, 3)]
theorem e233_17 : am_dec am_M233 q233_17 = true := by decide +kernel
theorem b233_17 {d : Nat} {Q : Option Value ⊕ Nat → am_Mem → Prop} {μ : am_Mem} {r0 : Nat} {x1 x2 x3 x4 x5 : Int32}
    (k1 : x4 = 0 → Wp d 233 (57, [some (.ref r0), some (.int x1), some (.int x2), some (.int x3), some (.int x4), some (.int x5)], [], μ) Q) (k2 : ¬ (x4 = 0) → Wp d 233 (22, [some (.ref r0), some (.int x1), some (.int x2), some (.int x3), some (.int x4), some (.int x5)], [], μ) Q) :
    Wp d 233 (17, [some (.ref r0), some (.int x1), some (.int x2), some (.int x3), some (.int x4), some (.int x5)], [], μ) Q := wp_blk rfl e233_17 (And.intro k1 k2)
def q233_22 : List (Nat × Instr × Nat) := [(22, .aload_n 0, 1), (23, .aload_n 0, 1), (24, .getfield 44, 3), (27, .iconst 4, 1), (28, .iload_n 1, 1), (29, .imul, 1), (30, .iload 5, 2), (32, .iadd, 1), (33, .iaload, 1), (34, .aload_n 0, 1), (35, .getfield 105, 3), (38, .iconst 4, 1), (39, .iload_n 2, 1), (40, .imul, 1), (41, .iload 5, 2), (43, .iadd, 1), (44, .iaload, 1), (45, .iload_n 3, 1)]
theorem e233_22 : am_dec am_M233 q233_22 = true := by decide +kernel
theorem e233_22_c : am_dc1 am_M233 46 (.invokevirtual 460) 3 = true := by decide +kernel
theorem b233_22 {d : Nat} {Q : Option Value ⊕ Nat → am_Mem → Prop} {μ : am_Mem} {r0 : Nat} {x1 x2 x3 x4 x5 : Int32} {P : Int32 → am_Mem → Prop} {X : Nat → am_Mem → Prop}
    (h1 : am_kd μ r0 = (1, 12))
    (h2 : ¬ am_F μ r0 20 = 15)
    (h3 : (am_kd μ (am_F μ r0 20)).1 = 2 ∨ (am_kd μ (am_F μ r0 20)).1 = 8)
    (h4 : ¬ ((((Int32.ofInt 4) * x1) + x5) < 0 ∨ (am_kd μ (am_F μ r0 20)).2 ≤ (((Int32.ofInt 4) * x1) + x5).toNatClampNeg))
    (h5 : am_kd μ r0 = (1, 12))
    (h6 : ¬ am_F μ r0 50 = 15)
    (h7 : (am_kd μ (am_F μ r0 50)).1 = 2 ∨ (am_kd μ (am_F μ r0 50)).1 = 8)
    (h8 : ¬ ((((Int32.ofInt 4) * x2) + x5) < 0 ∨ (am_kd μ (am_F μ r0 50)).2 ≤ (((Int32.ofInt 4) * x2) + x5).toNatClampNeg))
    (hk : am_kd μ r0 = (1, 12))
    (hc : Wp d 234 (0, [some (.ref r0), some (.int (am_A μ (am_F μ r0 20) (((Int32.ofInt 4) * x1) + x5).toNatClampNeg)), some (.int (am_A μ (am_F μ r0 50) (((Int32.ofInt 4) * x2) + x5).toNatClampNeg)), some (.int x3), none, none, none, none, none], [], μ) (pI P X)) (hr : ∀ x μ', P x μ' → Wp (d + 1) 233 (49, [some (.ref r0), some (.int x1), some (.int x2), some (.int x3), some (.int x4), some (.int x5)], [.int x], (μ')) Q)
    (hx : ∀ x μ', X x μ' → Q (.inr x) μ') :
    Wp (d + 1) 233 (22, [some (.ref r0), some (.int x1), some (.int x2), some (.int x3), some (.int x4), some (.int x5)], [], μ) Q := wp_blk rfl e233_22 (And.intro h1 (And.intro h2 (And.intro h3 (And.intro h4 (And.intro h5 (And.intro h6 (And.intro h7 (And.intro h8 (wp_cv (as := [.int (am_A μ (am_F μ r0 20) (((Int32.ofInt 4) * x1) + x5).toNatClampNeg), .int (am_A μ (am_F μ r0 50) (((Int32.ofInt 4) * x2) + x5).toNatClampNeg), .int x3]) rfl e233_22_c rfl rfl rfl rfl rfl hk hc (fun v μ' hv => by obtain ⟨x, rfl, hp⟩ := pI_r hv; exact hr x μ' hp) hx)))))))))
def q233_49 : List (Nat × Instr × Nat) := [(49, .istore 4, 2), (51, .iinc 5 1, 3), (54, .goto (-48), 3)]
theorem e233_49 : am_dec am_M233 q233_49 = true := by decide +kernel
theorem b233_49 {d : Nat} {Q : Option Value ⊕ Nat → am_Mem → Prop} {μ : am_Mem} {r0 : Nat} {x1 x2 x3 x4 x5 s0 : Int32}
    (k : Wp d 233 (6, [some (.ref r0), some (.int x1), some (.int x2), some (.int x3), some (.int s0), some (.int (x5 + Int32.ofInt 1))], [], μ) Q) :
    Wp d 233 (49, [some (.ref r0), some (.int x1), some (.int x2), some (.int x3), some (.int x4), some (.int x5)], [.int s0], μ) Q := wp_blk rfl e233_49 k
def q233_57 : List (Nat × Instr × Nat) := [(57, .iload 4, 2)]
theorem e233_57 : am_dec am_M233 q233_57 = true := by decide +kernel
theorem e233_57_r : am_dec am_M233 [(59, .ireturn, 1)] = true := by decide +kernel
theorem b233_57 {d : Nat} {Q : Option Value ⊕ Nat → am_Mem → Prop} {μ : am_Mem} {r0 : Nat} {x1 x2 x3 x4 x5 : Int32}
    (hn : narrow .boolean (.int x4) = .int x4 ∧ fits .boolean (.int x4) = true)
    (k : Q (.inl (some (.int x4))) μ) :
    Wp d 233 (57, [some (.ref r0), some (.int x1), some (.int x2), some (.int x3), some (.int x4), some (.int x5)], [], μ) Q := wp_blk rfl e233_57 (wp_ri (ty := .boolean) rfl e233_57_r rfl hn k)
/-! RuleSheetsModel.fits(III)Z -/
def q234_0 : List (Nat × Instr × Nat) := [(0, .iconst 1, 1), (1, .istore 4, 2), (3, .aload_n 0, 1), (4, .getfield 138, 3), (7, .iconst 0, 1), (8, .iload_n 1, 1), (9, .iastore, 1), (10, .aload_n 0, 1), (11, .getfield 141, 3), (14, .iconst 0, 1), (15, .iload_n 2, 1), (16, .iastore, 1)]
theorem e234_0 : am_dec am_M234 q234_0 = true := by decide +kernel
theorem b234_0 {d : Nat} {Q : Option Value ⊕ Nat → am_Mem → Prop} {μ : am_Mem} {r0 : Nat} {x1 x2 x3 : Int32}
    (h1 : am_kd μ r0 = (1, 12))
    (h2 : ¬ am_F μ r0 64 = 15)
    (h3 : (am_kd μ (am_F μ r0 64)).1 = 2)
    (h4 : ¬ ((Int32.ofInt 0) < 0 ∨ (am_kd μ (am_F μ r0 64)).2 ≤ (Int32.ofInt 0).toNatClampNeg))
    (h5 : am_kd (am_pA μ (am_F μ r0 64) (Int32.ofInt 0).toNatClampNeg x1) r0 = (1, 12))
    (h6 : ¬ am_F (am_pA μ (am_F μ r0 64) (Int32.ofInt 0).toNatClampNeg x1) r0 65 = 15)
    (h7 : (am_kd (am_pA μ (am_F μ r0 64) (Int32.ofInt 0).toNatClampNeg x1) (am_F (am_pA μ (am_F μ r0 64) (Int32.ofInt 0).toNatClampNeg x1) r0 65)).1 = 2)
    (h8 : ¬ ((Int32.ofInt 0) < 0 ∨ (am_kd (am_pA μ (am_F μ r0 64) (Int32.ofInt 0).toNatClampNeg x1) (am_F (am_pA μ (am_F μ r0 64) (Int32.ofInt 0).toNatClampNeg x1) r0 65)).2 ≤ (Int32.ofInt 0).toNatClampNeg))
    (k : Wp d 234 (17, [some (.ref r0), some (.int x1), some (.int x2), some (.int x3), some (.int (Int32.ofInt 1)), none, none, none, none], [], (am_pA (am_pA μ (am_F μ r0 64) (Int32.ofInt 0).toNatClampNeg x1) (am_F (am_pA μ (am_F μ r0 64) (Int32.ofInt 0).toNatClampNeg x1) r0 65) (Int32.ofInt 0).toNatClampNeg x2)) Q) :
    Wp d 234 (0, [some (.ref r0), some (.int x1), some (.int x2), some (.int x3), none, none, none, none, none], [], μ) Q := wp_blk rfl e234_0 (And.intro h1 (And.intro h2 (And.intro h3 (And.intro h4 (And.intro h5 (And.intro h6 (And.intro h7 (And.intro h8 k))))))))
def q234_17 : List (Nat × Instr × Nat) := [(17, .iload 4, 2), (19, .ifCond .le 180, 3)]
theorem e234_17 : am_dec am_M234 q234_17 = true := by decide +kernel
theorem b234_17 {d : Nat} {Q : Option Value ⊕ Nat → am_Mem → Prop} {μ : am_Mem} {r0 : Nat} {x1 x2 x3 x4 : Int32} {o5 o6 o7 o8 : Option Value}
    (k1 : x4 ≤ 0 → Wp d 234 (199, [some (.ref r0), some (.int x1), some (.int x2), some (.int x3), some (.int x4), o5, o6, o7, o8], [], μ) Q) (k2 : ¬ (x4 ≤ 0) → Wp d 234 (22, [some (.ref r0), some (.int x1), some (.int x2), some (.int x3), some (.int x4), o5, o6, o7, o8], [], μ) Q) :
    Wp d 234 (17, [some (.ref r0), some (.int x1), some (.int x2), some (.int x3), some (.int x4), o5, o6, o7, o8], [], μ) Q := wp_blk rfl e234_17 (And.intro k1 k2)
def q234_22 : List (Nat × Instr × Nat) := [(22, .iinc 4 (-1), 3), (25, .aload_n 0, 1), (26, .getfield 138, 3), (29, .iload 4, 2), (31, .iaload, 1), (32, .istore 5, 2), (34, .aload_n 0, 1), (35, .getfield 141, 3), (38, .iload 4, 2), (40, .iaload, 1), (41, .istore 6, 2), (43, .aload_n 0, 1), (44, .getfield 53, 3), (47, .iload 5, 2), (49, .iaload, 1), (50, .istore 7, 2), (52, .iload 7, 2), (54, .ifCond .lt 44, 3)]
theorem e234_22 : am_dec am_M234 q234_22 = true := by decide +kernel
theorem b234_22 {d : Nat} {Q : Option Value ⊕ Nat → am_Mem → Prop} {μ : am_Mem} {r0 : Nat} {x1 x2 x3 x4 : Int32} {o5 o6 o7 o8 : Option Value}
    (h1 : am_kd μ r0 = (1, 12))
    (h2 : ¬ am_F μ r0 64 = 15)
    (h3 : (am_kd μ (am_F μ r0 64)).1 = 2 ∨ (am_kd μ (am_F μ r0 64)).1 = 8)
    (h4 : ¬ ((x4 + Int32.ofInt (-1)) < 0 ∨ (am_kd μ (am_F μ r0 64)).2 ≤ (x4 + Int32.ofInt (-1)).toNatClampNeg))
    (h5 : am_kd μ r0 = (1, 12))
    (h6 : ¬ am_F μ r0 65 = 15)
    (h7 : (am_kd μ (am_F μ r0 65)).1 = 2 ∨ (am_kd μ (am_F μ r0 65)).1 = 8)
    (h8 : ¬ ((x4 + Int32.ofInt (-1)) < 0 ∨ (am_kd μ (am_F μ r0 65)).2 ≤ (x4 + Int32.ofInt (-1)).toNatClampNeg))
    (h9 : am_kd μ r0 = (1, 12))
    (h10 : ¬ am_F μ r0 24 = 15)
    (h11 : (am_kd μ (am_F μ r0 24)).1 = 2 ∨ (am_kd μ (am_F μ r0 24)).1 = 8)
    (h12 : ¬ ((am_A μ (am_F μ r0 64) (x4 + Int32.ofInt (-1)).toNatClampNeg) < 0 ∨ (am_kd μ (am_F μ r0 24)).2 ≤ (am_A μ (am_F μ r0 64) (x4 + Int32.ofInt (-1)).toNatClampNeg).toNatClampNeg))
    (k1 : (am_A μ (am_F μ r0 24) (am_A μ (am_F μ r0 64) (x4 + Int32.ofInt (-1)).toNatClampNeg).toNatClampNeg) < 0 → Wp d 234 (98, [some (.ref r0), some (.int x1), some (.int x2), some (.int x3), some (.int (x4 + Int32.ofInt (-1))), some (.int (am_A μ (am_F μ r0 64) (x4 + Int32.ofInt (-1)).toNatClampNeg)), some (.int (am_A μ (am_F μ r0 65) (x4 + Int32.ofInt (-1)).toNatClampNeg)), some (.int (am_A μ (am_F μ r0 24) (am_A μ (am_F μ r0 64) (x4 + Int32.ofInt (-1)).toNatClampNeg).toNatClampNeg)), o8], [], μ) Q) (k2 : ¬ ((am_A μ (am_F μ r0 24) (am_A μ (am_F μ r0 64) (x4 + Int32.ofInt (-1)).toNatClampNeg).toNatClampNeg) < 0) → Wp d 234 (57, [some (.ref r0), some (.int x1), some (.int x2), some (.int x3), some (.int (x4 + Int32.ofInt (-1))), some (.int (am_A μ (am_F μ r0 64) (x4 + Int32.ofInt (-1)).toNatClampNeg)), some (.int (am_A μ (am_F μ r0 65) (x4 + Int32.ofInt (-1)).toNatClampNeg)), some (.int (am_A μ (am_F μ r0 24) (am_A μ (am_F μ r0 64) (x4 + Int32.ofInt (-1)).toNatClampNeg).toNatClampNeg)), o8], [], μ) Q) :
    Wp d 234 (22, [some (.ref r0), some (.int x1), some (.int x2), some (.int x3), some (.int x4), o5, o6, o7, o8], [], μ) Q := wp_blk rfl e234_22 (And.intro h1 (And.intro h2 (And.intro h3 (And.intro h4 (And.intro h5 (And.intro h6 (And.intro h7 (And.intro h8 (And.intro h9 (And.intro h10 (And.intro h11 (And.intro h12 (And.intro k1 k2)))))))))))))
def q234_57 : List (Nat × Instr × Nat) := [(57, .aload_n 0, 1), (58, .getfield 132, 3), (61, .iload 7, 2), (63, .iaload, 1), (64, .ifCond .ge 20, 3)]
theorem e234_57 : am_dec am_M234 q234_57 = true := by decide +kernel
theorem b234_57 {d : Nat} {Q : Option Value ⊕ Nat → am_Mem → Prop} {μ : am_Mem} {r0 : Nat} {x1 x2 x3 x4 x5 x6 x7 : Int32} {o8 : Option Value}
    (h1 : am_kd μ r0 = (1, 12))
    (h2 : ¬ am_F μ r0 62 = 15)
    (h3 : (am_kd μ (am_F μ r0 62)).1 = 2 ∨ (am_kd μ (am_F μ r0 62)).1 = 8)
    (h4 : ¬ (x7 < 0 ∨ (am_kd μ (am_F μ r0 62)).2 ≤ x7.toNatClampNeg))
    (k1 : 0 ≤ (am_A μ (am_F μ r0 62) x7.toNatClampNeg) → Wp d 234 (84, [some (.ref r0), some (.int x1), some (.int x2), some (.int x3), some (.int x4), some (.int x5), some (.int x6), some (.int x7), o8], [], μ) Q) (k2 : ¬ (0 ≤ (am_A μ (am_F μ r0 62) x7.toNatClampNeg)) → Wp d 234 (67, [some (.ref r0), some (.int x1), some (.int x2), some (.int x3), some (.int x4), some (.int x5), some (.int x6), some (.int x7), o8], [], μ) Q) :
    Wp d 234 (57, [some (.ref r0), some (.int x1), some (.int x2), some (.int x3), some (.int x4), some (.int x5), some (.int x6), some (.int x7), o8], [], μ) Q := wp_blk rfl e234_57 (And.intro h1 (And.intro h2 (And.intro h3 (And.intro h4 (And.intro k1 k2)))))
def q234_67 : List (Nat × Instr × Nat) := [(67, .aload_n 0, 1), (68, .getfield 129, 3), (71, .iload 7, 2), (73, .iload 6, 2), (75, .iastore, 1), (76, .aload_n 0, 1), (77, .getfield 132, 3), (80, .iload 7, 2), (82, .iload_n 3, 1), (83, .iastore, 1)]
theorem e234_67 : am_dec am_M234 q234_67 = true := by decide +kernel
theorem b234_67 {d : Nat} {Q : Option Value ⊕ Nat → am_Mem → Prop} {μ : am_Mem} {r0 : Nat} {x1 x2 x3 x4 x5 x6 x7 : Int32} {o8 : Option Value}
    (h1 : am_kd μ r0 = (1, 12))
    (h2 : ¬ am_F μ r0 61 = 15)
    (h3 : (am_kd μ (am_F μ r0 61)).1 = 2)
    (h4 : ¬ (x7 < 0 ∨ (am_kd μ (am_F μ r0 61)).2 ≤ x7.toNatClampNeg))
    (h5 : am_kd (am_pA μ (am_F μ r0 61) x7.toNatClampNeg x6) r0 = (1, 12))
    (h6 : ¬ am_F (am_pA μ (am_F μ r0 61) x7.toNatClampNeg x6) r0 62 = 15)
    (h7 : (am_kd (am_pA μ (am_F μ r0 61) x7.toNatClampNeg x6) (am_F (am_pA μ (am_F μ r0 61) x7.toNatClampNeg x6) r0 62)).1 = 2)
    (h8 : ¬ (x7 < 0 ∨ (am_kd (am_pA μ (am_F μ r0 61) x7.toNatClampNeg x6) (am_F (am_pA μ (am_F μ r0 61) x7.toNatClampNeg x6) r0 62)).2 ≤ x7.toNatClampNeg))
    (k : Wp d 234 (84, [some (.ref r0), some (.int x1), some (.int x2), some (.int x3), some (.int x4), some (.int x5), some (.int x6), some (.int x7), o8], [], (am_pA (am_pA μ (am_F μ r0 61) x7.toNatClampNeg x6) (am_F (am_pA μ (am_F μ r0 61) x7.toNatClampNeg x6) r0 62) x7.toNatClampNeg x3)) Q) :
    Wp d 234 (67, [some (.ref r0), some (.int x1), some (.int x2), some (.int x3), some (.int x4), some (.int x5), some (.int x6), some (.int x7), o8], [], μ) Q := wp_blk rfl e234_67 (And.intro h1 (And.intro h2 (And.intro h3 (And.intro h4 (And.intro h5 (And.intro h6 (And.intro h7 (And.intro h8 k))))))))
def q234_84 : List (Nat × Instr × Nat) := [(84, .aload_n 0, 1), (85, .getfield 129, 3), (88, .iload 7, 2), (90, .iaload, 1), (91, .iload 6, 2), (93, .if_icmp .eq (-76), 3)]
theorem e234_84 : am_dec am_M234 q234_84 = true := by decide +kernel
theorem b234_84 {d : Nat} {Q : Option Value ⊕ Nat → am_Mem → Prop} {μ : am_Mem} {r0 : Nat} {x1 x2 x3 x4 x5 x6 x7 : Int32} {o8 : Option Value}
    (h1 : am_kd μ r0 = (1, 12))
    (h2 : ¬ am_F μ r0 61 = 15)
    (h3 : (am_kd μ (am_F μ r0 61)).1 = 2 ∨ (am_kd μ (am_F μ r0 61)).1 = 8)
    (h4 : ¬ (x7 < 0 ∨ (am_kd μ (am_F μ r0 61)).2 ≤ x7.toNatClampNeg))
    (k1 : (am_A μ (am_F μ r0 61) x7.toNatClampNeg) = x6 → Wp d 234 (17, [some (.ref r0), some (.int x1), some (.int x2), some (.int x3), some (.int x4), some (.int x5), some (.int x6), some (.int x7), o8], [], μ) Q) (k2 : ¬ ((am_A μ (am_F μ r0 61) x7.toNatClampNeg) = x6) → Wp d 234 (96, [some (.ref r0), some (.int x1), some (.int x2), some (.int x3), some (.int x4), some (.int x5), some (.int x6), some (.int x7), o8], [], μ) Q) :
    Wp d 234 (84, [some (.ref r0), some (.int x1), some (.int x2), some (.int x3), some (.int x4), some (.int x5), some (.int x6), some (.int x7), o8], [], μ) Q := wp_blk rfl e234_84 (And.intro h1 (And.intro h2 (And.intro h3 (And.intro h4 (And.intro k1 k2)))))
def q234_96 : List (Nat × Instr × Nat) := [(96, .iconst 0, 1)]
theorem e234_96 : am_dec am_M234 q234_96 = true := by decide +kernel
theorem e234_96_r : am_dec am_M234 [(97, .ireturn, 1)] = true := by decide +kernel
theorem b234_96 {d : Nat} {Q : Option Value ⊕ Nat → am_Mem → Prop} {μ : am_Mem} {r0 : Nat} {x1 x2 x3 x4 x5 x6 x7 : Int32} {o8 : Option Value}
    (k : Q (.inl (some (.int (Int32.ofInt 0)))) μ) :
    Wp d 234 (96, [some (.ref r0), some (.int x1), some (.int x2), some (.int x3), some (.int x4), some (.int x5), some (.int x6), some (.int x7), o8], [], μ) Q := wp_blk rfl e234_96 (wp_ri (ty := .boolean) rfl e234_96_r rfl (by decide) k)
def q234_98 : List (Nat × Instr × Nat) := [(98, .aload_n 0, 1), (99, .getfield 50, 3), (102, .iload 5, 2), (104, .iaload, 1), (105, .aload_n 0, 1), (106, .getfield 85, 3), (109, .iload 6, 2), (111, .iaload, 1), (112, .if_icmp .ne 20, 3)]
theorem e234_98 : am_dec am_M234 q234_98 = true := by decide +kernel
theorem b234_98 {d : Nat} {Q : Option Value ⊕ Nat → am_Mem → Prop} {μ : am_Mem} {r0 : Nat} {x1 x2 x3 x4 x5 x6 x7 : Int32} {o8 : Option Value}
    (h1 : am_kd μ r0 = (1, 12))
    (h2 : ¬ am_F μ r0 23 = 15)
    (h3 : (am_kd μ (am_F μ r0 23)).1 = 2 ∨ (am_kd μ (am_F μ r0 23)).1 = 8)
    (h4 : ¬ (x5 < 0 ∨ (am_kd μ (am_F μ r0 23)).2 ≤ x5.toNatClampNeg))
    (h5 : am_kd μ r0 = (1, 12))
    (h6 : ¬ am_F μ r0 43 = 15)
    (h7 : (am_kd μ (am_F μ r0 43)).1 = 2 ∨ (am_kd μ (am_F μ r0 43)).1 = 8)
    (h8 : ¬ (x6 < 0 ∨ (am_kd μ (am_F μ r0 43)).2 ≤ x6.toNatClampNeg))
    (k1 : ¬ (am_A μ (am_F μ r0 23) x5.toNatClampNeg) = (am_A μ (am_F μ r0 43) x6.toNatClampNeg) → Wp d 234 (132, [some (.ref r0), some (.int x1), some (.int x2), some (.int x3), some (.int x4), some (.int x5), some (.int x6), some (.int x7), o8], [], μ) Q) (k2 : ¬ (¬ (am_A μ (am_F μ r0 23) x5.toNatClampNeg) = (am_A μ (am_F μ r0 43) x6.toNatClampNeg)) → Wp d 234 (115, [some (.ref r0), some (.int x1), some (.int x2), some (.int x3), some (.int x4), some (.int x5), some (.int x6), some (.int x7), o8], [], μ) Q) :
    Wp d 234 (98, [some (.ref r0), some (.int x1), some (.int x2), some (.int x3), some (.int x4), some (.int x5), some (.int x6), some (.int x7), o8], [], μ) Q := wp_blk rfl e234_98 (And.intro h1 (And.intro h2 (And.intro h3 (And.intro h4 (And.intro h5 (And.intro h6 (And.intro h7 (And.intro h8 (And.intro k1 k2)))))))))
def q234_115 : List (Nat × Instr × Nat) := [(115, .aload_n 0, 1), (116, .getfield 56, 3), (119, .iload 5, 2), (121, .iaload, 1), (122, .aload_n 0, 1), (123, .getfield 88, 3), (126, .iload 6, 2), (128, .iaload, 1), (129, .if_icmp .eq 5, 3)]
theorem e234_115 : am_dec am_M234 q234_115 = true := by decide +kernel
theorem b234_115 {d : Nat} {Q : Option Value ⊕ Nat → am_Mem → Prop} {μ : am_Mem} {r0 : Nat} {x1 x2 x3 x4 x5 x6 x7 : Int32} {o8 : Option Value}
    (h1 : am_kd μ r0 = (1, 12))
    (h2 : ¬ am_F μ r0 25 = 15)
    (h3 : (am_kd μ (am_F μ r0 25)).1 = 2 ∨ (am_kd μ (am_F μ r0 25)).1 = 8)
    (h4 : ¬ (x5 < 0 ∨ (am_kd μ (am_F μ r0 25)).2 ≤ x5.toNatClampNeg))
    (h5 : am_kd μ r0 = (1, 12))
    (h6 : ¬ am_F μ r0 44 = 15)
    (h7 : (am_kd μ (am_F μ r0 44)).1 = 2 ∨ (am_kd μ (am_F μ r0 44)).1 = 8)
    (h8 : ¬ (x6 < 0 ∨ (am_kd μ (am_F μ r0 44)).2 ≤ x6.toNatClampNeg))
    (k1 : (am_A μ (am_F μ r0 25) x5.toNatClampNeg) = (am_A μ (am_F μ r0 44) x6.toNatClampNeg) → Wp d 234 (134, [some (.ref r0), some (.int x1), some (.int x2), some (.int x3), some (.int x4), some (.int x5), some (.int x6), some (.int x7), o8], [], μ) Q) (k2 : ¬ ((am_A μ (am_F μ r0 25) x5.toNatClampNeg) = (am_A μ (am_F μ r0 44) x6.toNatClampNeg)) → Wp d 234 (132, [some (.ref r0), some (.int x1), some (.int x2), some (.int x3), some (.int x4), some (.int x5), some (.int x6), some (.int x7), o8], [], μ) Q) :
    Wp d 234 (115, [some (.ref r0), some (.int x1), some (.int x2), some (.int x3), some (.int x4), some (.int x5), some (.int x6), some (.int x7), o8], [], μ) Q := wp_blk rfl e234_115 (And.intro h1 (And.intro h2 (And.intro h3 (And.intro h4 (And.intro h5 (And.intro h6 (And.intro h7 (And.intro h8 (And.intro k1 k2)))))))))
def q234_132 : List (Nat × Instr × Nat) := [(132, .iconst 0, 1)]
theorem e234_132 : am_dec am_M234 q234_132 = true := by decide +kernel
theorem e234_132_r : am_dec am_M234 [(133, .ireturn, 1)] = true := by decide +kernel
theorem b234_132 {d : Nat} {Q : Option Value ⊕ Nat → am_Mem → Prop} {μ : am_Mem} {r0 : Nat} {x1 x2 x3 x4 x5 x6 x7 : Int32} {o8 : Option Value}
    (k : Q (.inl (some (.int (Int32.ofInt 0)))) μ) :
    Wp d 234 (132, [some (.ref r0), some (.int x1), some (.int x2), some (.int x3), some (.int x4), some (.int x5), some (.int x6), some (.int x7), o8], [], μ) Q := wp_blk rfl e234_132 (wp_ri (ty := .boolean) rfl e234_132_r rfl (by decide) k)
def q234_134 : List (Nat × Instr × Nat) := [(134, .iconst 0, 1), (135, .istore 8, 2)]
theorem e234_134 : am_dec am_M234 q234_134 = true := by decide +kernel
theorem b234_134 {d : Nat} {Q : Option Value ⊕ Nat → am_Mem → Prop} {μ : am_Mem} {r0 : Nat} {x1 x2 x3 x4 x5 x6 x7 : Int32} {o8 : Option Value}
    (k : Wp d 234 (137, [some (.ref r0), some (.int x1), some (.int x2), some (.int x3), some (.int x4), some (.int x5), some (.int x6), some (.int x7), some (.int (Int32.ofInt 0))], [], μ) Q) :
    Wp d 234 (134, [some (.ref r0), some (.int x1), some (.int x2), some (.int x3), some (.int x4), some (.int x5), some (.int x6), some (.int x7), o8], [], μ) Q := wp_blk rfl e234_134 k
def q234_137 : List (Nat × Instr × Nat) := [(137, .iload 8, 2), (139, .aload_n 0, 1), (140, .getfield 56, 3), (143, .iload 5, 2), (145, .iaload, 1), (146, .if_icmp .ge 50, 3)]
theorem e234_137 : am_dec am_M234 q234_137 = true := by decide +kernel
theorem b234_137 {d : Nat} {Q : Option Value ⊕ Nat → am_Mem → Prop} {μ : am_Mem} {r0 : Nat} {x1 x2 x3 x4 x5 x6 x7 x8 : Int32}
    (h1 : am_kd μ r0 = (1, 12))
    (h2 : ¬ am_F μ r0 25 = 15)
    (h3 : (am_kd μ (am_F μ r0 25)).1 = 2 ∨ (am_kd μ (am_F μ r0 25)).1 = 8)
    (h4 : ¬ (x5 < 0 ∨ (am_kd μ (am_F μ r0 25)).2 ≤ x5.toNatClampNeg))
    (k1 : (am_A μ (am_F μ r0 25) x5.toNatClampNeg) ≤ x8 → Wp d 234 (196, [some (.ref r0), some (.int x1), some (.int x2), some (.int x3), some (.int x4), some (.int x5), some (.int x6), some (.int x7), some (.int x8)], [], μ) Q) (k2 : ¬ ((am_A μ (am_F μ r0 25) x5.toNatClampNeg) ≤ x8) → Wp d 234 (149, [some (.ref r0), some (.int x1), some (.int x2), some (.int x3), some (.int x4), some (.int x5), some (.int x6), some (.int x7), some (.int x8)], [], μ) Q) :
    Wp d 234 (137, [some (.ref r0), some (.int x1), some (.int x2), some (.int x3), some (.int x4), some (.int x5), some (.int x6), some (.int x7), some (.int x8)], [], μ) Q := wp_blk rfl e234_137 (And.intro h1 (And.intro h2 (And.intro h3 (And.intro h4 (And.intro k1 k2)))))
def q234_149 : List (Nat × Instr × Nat) := [(149, .aload_n 0, 1), (150, .getfield 138, 3), (153, .iload 4, 2), (155, .aload_n 0, 1), (156, .getfield 59, 3), (159, .iconst 4, 1), (160, .iload 5, 2), (162, .imul, 1), (163, .iload 8, 2), (165, .iadd, 1), (166, .iaload, 1), (167, .iastore, 1), (168, .aload_n 0, 1), (169, .getfield 141, 3), (172, .iload 4, 2), (174, .aload_n 0, 1), (175, .getfield 92, 3), (178, .iconst 4, 1), (179, .iload 6, 2), (181, .imul, 1), (182, .iload 8, 2), (184, .iadd, 1), (185, .iaload, 1), (186, .iastore, 1)]
theorem e234_149 : am_dec am_M234 q234_149 = true := by decide +kernel
theorem b234_149 {d : Nat} {Q : Option Value ⊕ Nat → am_Mem → Prop} {μ : am_Mem} {r0 : Nat} {x1 x2 x3 x4 x5 x6 x7 x8 : Int32}
    (h1 : am_kd μ r0 = (1, 12))
    (h2 : ¬ am_F μ r0 64 = 15)
    (h3 : am_kd μ r0 = (1, 12))
    (h4 : ¬ am_F μ r0 26 = 15)
    (h5 : (am_kd μ (am_F μ r0 26)).1 = 2 ∨ (am_kd μ (am_F μ r0 26)).1 = 8)
    (h6 : ¬ ((((Int32.ofInt 4) * x5) + x8) < 0 ∨ (am_kd μ (am_F μ r0 26)).2 ≤ (((Int32.ofInt 4) * x5) + x8).toNatClampNeg))
    (h7 : (am_kd μ (am_F μ r0 64)).1 = 2)
    (h8 : ¬ (x4 < 0 ∨ (am_kd μ (am_F μ r0 64)).2 ≤ x4.toNatClampNeg))
    (h9 : am_kd (am_pA μ (am_F μ r0 64) x4.toNatClampNeg (am_A μ (am_F μ r0 26) (((Int32.ofInt 4) * x5) + x8).toNatClampNeg)) r0 = (1, 12))
    (h10 : ¬ am_F (am_pA μ (am_F μ r0 64) x4.toNatClampNeg (am_A μ (am_F μ r0 26) (((Int32.ofInt 4) * x5) + x8).toNatClampNeg)) r0 65 = 15)
    (h11 : am_kd (am_pA μ (am_F μ r0 64) x4.toNatClampNeg (am_A μ (am_F μ r0 26) (((Int32.ofInt 4) * x5) + x8).toNatClampNeg)) r0 = (1, 12))
    (h12 : ¬ am_F (am_pA μ (am_F μ r0 64) x4.toNatClampNeg (am_A μ (am_F μ r0 26) (((Int32.ofInt 4) * x5) + x8).toNatClampNeg)) r0 45 = 15)
    (h13 : (am_kd (am_pA μ (am_F μ r0 64) x4.toNatClampNeg (am_A μ (am_F μ r0 26) (((Int32.ofInt 4) * x5) + x8).toNatClampNeg)) (am_F (am_pA μ (am_F μ r0 64) x4.toNatClampNeg (am_A μ (am_F μ r0 26) (((Int32.ofInt 4) * x5) + x8).toNatClampNeg)) r0 45)).1 = 2 ∨ (am_kd (am_pA μ (am_F μ r0 64) x4.toNatClampNeg (am_A μ (am_F μ r0 26) (((Int32.ofInt 4) * x5) + x8).toNatClampNeg)) (am_F (am_pA μ (am_F μ r0 64) x4.toNatClampNeg (am_A μ (am_F μ r0 26) (((Int32.ofInt 4) * x5) + x8).toNatClampNeg)) r0 45)).1 = 8)
    (h14 : ¬ ((((Int32.ofInt 4) * x6) + x8) < 0 ∨ (am_kd (am_pA μ (am_F μ r0 64) x4.toNatClampNeg (am_A μ (am_F μ r0 26) (((Int32.ofInt 4) * x5) + x8).toNatClampNeg)) (am_F (am_pA μ (am_F μ r0 64) x4.toNatClampNeg (am_A μ (am_F μ r0 26) (((Int32.ofInt 4) * x5) + x8).toNatClampNeg)) r0 45)).2 ≤ (((Int32.ofInt 4) * x6) + x8).toNatClampNeg))
    (h15 : (am_kd (am_pA μ (am_F μ r0 64) x4.toNatClampNeg (am_A μ (am_F μ r0 26) (((Int32.ofInt 4) * x5) + x8).toNatClampNeg)) (am_F (am_pA μ (am_F μ r0 64) x4.toNatClampNeg (am_A μ (am_F μ r0 26) (((Int32.ofInt 4) * x5) + x8).toNatClampNeg)) r0 65)).1 = 2)
    (h16 : ¬ (x4 < 0 ∨ (am_kd (am_pA μ (am_F μ r0 64) x4.toNatClampNeg (am_A μ (am_F μ r0 26) (((Int32.ofInt 4) * x5) + x8).toNatClampNeg)) (am_F (am_pA μ (am_F μ r0 64) x4.toNatClampNeg (am_A μ (am_F μ r0 26) (((Int32.ofInt 4) * x5) + x8).toNatClampNeg)) r0 65)).2 ≤ x4.toNatClampNeg))
    (k : Wp d 234 (187, [some (.ref r0), some (.int x1), some (.int x2), some (.int x3), some (.int x4), some (.int x5), some (.int x6), some (.int x7), some (.int x8)], [], (am_pA (am_pA μ (am_F μ r0 64) x4.toNatClampNeg (am_A μ (am_F μ r0 26) (((Int32.ofInt 4) * x5) + x8).toNatClampNeg)) (am_F (am_pA μ (am_F μ r0 64) x4.toNatClampNeg (am_A μ (am_F μ r0 26) (((Int32.ofInt 4) * x5) + x8).toNatClampNeg)) r0 65) x4.toNatClampNeg (am_A (am_pA μ (am_F μ r0 64) x4.toNatClampNeg (am_A μ (am_F μ r0 26) (((Int32.ofInt 4) * x5) + x8).toNatClampNeg)) (am_F (am_pA μ (am_F μ r0 64) x4.toNatClampNeg (am_A μ (am_F μ r0 26) (((Int32.ofInt 4) * x5) + x8).toNatClampNeg)) r0 45) (((Int32.ofInt 4) * x6) + x8).toNatClampNeg))) Q) :
    Wp d 234 (149, [some (.ref r0), some (.int x1), some (.int x2), some (.int x3), some (.int x4), some (.int x5), some (.int x6), some (.int x7), some (.int x8)], [], μ) Q := wp_blk rfl e234_149 (And.intro h1 (And.intro h2 (And.intro h3 (And.intro h4 (And.intro h5 (And.intro h6 (And.intro h7 (And.intro h8 (And.intro h9 (And.intro h10 (And.intro h11 (And.intro h12 (And.intro h13 (And.intro h14 (And.intro h15 (And.intro h16 k))))))))))))))))
def q234_187 : List (Nat × Instr × Nat) := [(187, .iinc 4 1, 3), (190, .iinc 8 1, 3), (193, .goto (-56), 3)]
theorem e234_187 : am_dec am_M234 q234_187 = true := by decide +kernel
theorem b234_187 {d : Nat} {Q : Option Value ⊕ Nat → am_Mem → Prop} {μ : am_Mem} {r0 : Nat} {x1 x2 x3 x4 x5 x6 x7 x8 : Int32}
    (k : Wp d 234 (137, [some (.ref r0), some (.int x1), some (.int x2), some (.int x3), some (.int (x4 + Int32.ofInt 1)), some (.int x5), some (.int x6), some (.int x7), some (.int (x8 + Int32.ofInt 1))], [], μ) Q) :
    Wp d 234 (187, [some (.ref r0), some (.int x1), some (.int x2), some (.int x3), some (.int x4), some (.int x5), some (.int x6), some (.int x7), some (.int x8)], [], μ) Q := wp_blk rfl e234_187 k
def q234_196 : List (Nat × Instr × Nat) := [(196, .goto (-179), 3)]
theorem e234_196 : am_dec am_M234 q234_196 = true := by decide +kernel
theorem b234_196 {d : Nat} {Q : Option Value ⊕ Nat → am_Mem → Prop} {μ : am_Mem} {r0 : Nat} {x1 x2 x3 x4 x5 x6 x7 x8 : Int32}
    (k : Wp d 234 (17, [some (.ref r0), some (.int x1), some (.int x2), some (.int x3), some (.int x4), some (.int x5), some (.int x6), some (.int x7), some (.int x8)], [], μ) Q) :
    Wp d 234 (196, [some (.ref r0), some (.int x1), some (.int x2), some (.int x3), some (.int x4), some (.int x5), some (.int x6), some (.int x7), some (.int x8)], [], μ) Q := wp_blk rfl e234_196 k
def q234_199 : List (Nat × Instr × Nat) := [(199, .iconst 1, 1)]
theorem e234_199 : am_dec am_M234 q234_199 = true := by decide +kernel
theorem e234_199_r : am_dec am_M234 [(200, .ireturn, 1)] = true := by decide +kernel
theorem b234_199 {d : Nat} {Q : Option Value ⊕ Nat → am_Mem → Prop} {μ : am_Mem} {r0 : Nat} {x1 x2 x3 x4 : Int32} {o5 o6 o7 o8 : Option Value}
    (k : Q (.inl (some (.int (Int32.ofInt 1)))) μ) :
    Wp d 234 (199, [some (.ref r0), some (.int x1), some (.int x2), some (.int x3), some (.int x4), o5, o6, o7, o8], [], μ) Q := wp_blk rfl e234_199 (wp_ri (ty := .boolean) rfl e234_199_r rfl (by decide) k)
/-! RuleSheetsModel.gather(II)Z -/
def q235_0 : List (Nat × Instr × Nat) := [(0, .aload_n 0, 1), (1, .getfield 158, 3), (4, .iload_n 2, 1), (5, .iconst 0, 1), (6, .iastore, 1), (7, .aload_n 0, 1), (8, .getfield 114, 3), (11, .iload_n 1, 1), (12, .iaload, 1), (13, .istore_n 3, 1)]
theorem e235_0 : am_dec am_M235 q235_0 = true := by decide +kernel
theorem b235_0 {d : Nat} {Q : Option Value ⊕ Nat → am_Mem → Prop} {μ : am_Mem} {r0 : Nat} {x1 x2 : Int32}
    (h1 : am_kd μ r0 = (1, 12))
    (h2 : ¬ am_F μ r0 74 = 15)
    (h3 : (am_kd μ (am_F μ r0 74)).1 = 2)
    (h4 : ¬ (x2 < 0 ∨ (am_kd μ (am_F μ r0 74)).2 ≤ x2.toNatClampNeg))
    (h5 : am_kd (am_pA μ (am_F μ r0 74) x2.toNatClampNeg (Int32.ofInt 0)) r0 = (1, 12))
    (h6 : ¬ am_F (am_pA μ (am_F μ r0 74) x2.toNatClampNeg (Int32.ofInt 0)) r0 53 = 15)
    (h7 : (am_kd (am_pA μ (am_F μ r0 74) x2.toNatClampNeg (Int32.ofInt 0)) (am_F (am_pA μ (am_F μ r0 74) x2.toNatClampNeg (Int32.ofInt 0)) r0 53)).1 = 2 ∨ (am_kd (am_pA μ (am_F μ r0 74) x2.toNatClampNeg (Int32.ofInt 0)) (am_F (am_pA μ (am_F μ r0 74) x2.toNatClampNeg (Int32.ofInt 0)) r0 53)).1 = 8)
    (h8 : ¬ (x1 < 0 ∨ (am_kd (am_pA μ (am_F μ r0 74) x2.toNatClampNeg (Int32.ofInt 0)) (am_F (am_pA μ (am_F μ r0 74) x2.toNatClampNeg (Int32.ofInt 0)) r0 53)).2 ≤ x1.toNatClampNeg))
    (k : Wp d 235 (14, [some (.ref r0), some (.int x1), some (.int x2), some (.int (am_A (am_pA μ (am_F μ r0 74) x2.toNatClampNeg (Int32.ofInt 0)) (am_F (am_pA μ (am_F μ r0 74) x2.toNatClampNeg (Int32.ofInt 0)) r0 53) x1.toNatClampNeg))], [], (am_pA μ (am_F μ r0 74) x2.toNatClampNeg (Int32.ofInt 0))) Q) :
    Wp d 235 (0, [some (.ref r0), some (.int x1), some (.int x2), none], [], μ) Q := wp_blk rfl e235_0 (And.intro h1 (And.intro h2 (And.intro h3 (And.intro h4 (And.intro h5 (And.intro h6 (And.intro h7 (And.intro h8 k))))))))
def q235_14 : List (Nat × Instr × Nat) := [(14, .iload_n 3, 1), (15, .ifCond .lt 68, 3)]
theorem e235_14 : am_dec am_M235 q235_14 = true := by decide +kernel
theorem b235_14 {d : Nat} {Q : Option Value ⊕ Nat → am_Mem → Prop} {μ : am_Mem} {r0 : Nat} {x1 x2 x3 : Int32}
    (k1 : x3 < 0 → Wp d 235 (83, [some (.ref r0), some (.int x1), some (.int x2), some (.int x3)], [], μ) Q) (k2 : ¬ (x3 < 0) → Wp d 235 (18, [some (.ref r0), some (.int x1), some (.int x2), some (.int x3)], [], μ) Q) :
    Wp d 235 (14, [some (.ref r0), some (.int x1), some (.int x2), some (.int x3)], [], μ) Q := wp_blk rfl e235_14 (And.intro k1 k2)
def q235_18 : List (Nat × Instr × Nat) := [(18, .aload_n 0, 1), (19, .getfield 158, 3), (22, .iload_n 2, 1), (23, .iaload, 1), (24, .bipush 60, 2), (26, .if_icmp .ne 5, 3)]
theorem e235_18 : am_dec am_M235 q235_18 = true := by decide +kernel
theorem b235_18 {d : Nat} {Q : Option Value ⊕ Nat → am_Mem → Prop} {μ : am_Mem} {r0 : Nat} {x1 x2 x3 : Int32}
    (h1 : am_kd μ r0 = (1, 12))
    (h2 : ¬ am_F μ r0 74 = 15)
    (h3 : (am_kd μ (am_F μ r0 74)).1 = 2 ∨ (am_kd μ (am_F μ r0 74)).1 = 8)
    (h4 : ¬ (x2 < 0 ∨ (am_kd μ (am_F μ r0 74)).2 ≤ x2.toNatClampNeg))
    (k1 : ¬ (am_A μ (am_F μ r0 74) x2.toNatClampNeg) = ((Int8.ofInt 60).toInt32) → Wp d 235 (31, [some (.ref r0), some (.int x1), some (.int x2), some (.int x3)], [], μ) Q) (k2 : ¬ (¬ (am_A μ (am_F μ r0 74) x2.toNatClampNeg) = ((Int8.ofInt 60).toInt32)) → Wp d 235 (29, [some (.ref r0), some (.int x1), some (.int x2), some (.int x3)], [], μ) Q) :
    Wp d 235 (18, [some (.ref r0), some (.int x1), some (.int x2), some (.int x3)], [], μ) Q := wp_blk rfl e235_18 (And.intro h1 (And.intro h2 (And.intro h3 (And.intro h4 (And.intro k1 k2)))))
def q235_29 : List (Nat × Instr × Nat) := [(29, .iconst 0, 1)]
theorem e235_29 : am_dec am_M235 q235_29 = true := by decide +kernel
theorem e235_29_r : am_dec am_M235 [(30, .ireturn, 1)] = true := by decide +kernel
theorem b235_29 {d : Nat} {Q : Option Value ⊕ Nat → am_Mem → Prop} {μ : am_Mem} {r0 : Nat} {x1 x2 x3 : Int32}
    (k : Q (.inl (some (.int (Int32.ofInt 0)))) μ) :
    Wp d 235 (29, [some (.ref r0), some (.int x1), some (.int x2), some (.int x3)], [], μ) Q := wp_blk rfl e235_29 (wp_ri (ty := .boolean) rfl e235_29_r rfl (by decide) k)
def q235_31 : List (Nat × Instr × Nat) := [(31, .aload_n 0, 1), (32, .aload_n 0, 1), (33, .getfield 105, 3), (36, .iconst 4, 1), (37, .iload_n 3, 1), (38, .imul, 1), (39, .iaload, 1)]
theorem e235_31 : am_dec am_M235 q235_31 = true := by decide +kernel
theorem e235_31_c : am_dc1 am_M235 40 (.invokevirtual 561) 3 = true := by decide +kernel
theorem b235_31 {d : Nat} {Q : Option Value ⊕ Nat → am_Mem → Prop} {μ : am_Mem} {r0 : Nat} {x1 x2 x3 : Int32} {P : am_Mem → Prop} {X : Nat → am_Mem → Prop}
    (h1 : am_kd μ r0 = (1, 12))
    (h2 : ¬ am_F μ r0 50 = 15)
    (h3 : (am_kd μ (am_F μ r0 50)).1 = 2 ∨ (am_kd μ (am_F μ r0 50)).1 = 8)
    (h4 : ¬ (((Int32.ofInt 4) * x3) < 0 ∨ (am_kd μ (am_F μ r0 50)).2 ≤ ((Int32.ofInt 4) * x3).toNatClampNeg))
    (hk : am_kd μ r0 = (1, 12))
    (hc : Wp d 208 (0, [some (.ref r0), some (.int (am_A μ (am_F μ r0 50) ((Int32.ofInt 4) * x3).toNatClampNeg)), none, none, none], [], μ) (pV P X)) (hr : ∀ μ', P μ' → Wp (d + 1) 235 (43, [some (.ref r0), some (.int x1), some (.int x2), some (.int x3)], [], (μ')) Q)
    (hx : ∀ x μ', X x μ' → Q (.inr x) μ') :
    Wp (d + 1) 235 (31, [some (.ref r0), some (.int x1), some (.int x2), some (.int x3)], [], μ) Q := wp_blk rfl e235_31 (And.intro h1 (And.intro h2 (And.intro h3 (And.intro h4 (wp_cv (as := [.int (am_A μ (am_F μ r0 50) ((Int32.ofInt 4) * x3).toNatClampNeg)]) rfl e235_31_c rfl rfl rfl rfl rfl hk hc (fun v μ' hv => by obtain ⟨rfl, hp⟩ := pV_r hv; exact hr μ' hp) hx)))))
def q235_43 : List (Nat × Instr × Nat) := [(43, .aload_n 0, 1), (44, .aload_n 0, 1), (45, .getfield 154, 3), (48, .sipush 2940, 3), (51, .iload_n 2, 1), (52, .imul, 1), (53, .aload_n 0, 1), (54, .getfield 158, 3), (57, .iload_n 2, 1), (58, .iaload, 1)]
theorem e235_43 : am_dec am_M235 q235_43 = true := by decide +kernel
theorem e235_43_c : am_dc1 am_M235 59 (.invokevirtual 564) 3 = true := by decide +kernel
theorem b235_43 {d : Nat} {Q : Option Value ⊕ Nat → am_Mem → Prop} {μ : am_Mem} {r0 : Nat} {x1 x2 x3 : Int32} {P : Int32 → am_Mem → Prop} {X : Nat → am_Mem → Prop}
    (h1 : am_kd μ r0 = (1, 12))
    (h2 : ¬ am_F μ r0 73 = 15)
    (h3 : am_kd μ r0 = (1, 12))
    (h4 : ¬ am_F μ r0 74 = 15)
    (h5 : (am_kd μ (am_F μ r0 74)).1 = 2 ∨ (am_kd μ (am_F μ r0 74)).1 = 8)
    (h6 : ¬ (x2 < 0 ∨ (am_kd μ (am_F μ r0 74)).2 ≤ x2.toNatClampNeg))
    (hk : am_kd μ r0 = (1, 12))
    (hc : Wp d 236 (0, [some (.ref r0), some (.ref (am_F μ r0 73)), some (.int (((Int16.ofInt 2940).toInt32) * x2)), some (.int (am_A μ (am_F μ r0 74) x2.toNatClampNeg)), none, none], [], μ) (pI P X)) (hr : ∀ x μ', P x μ' → Wp (d + 1) 235 (62, [some (.ref r0), some (.int x1), some (.int x2), some (.int x3)], [.int x], (μ')) Q)
    (hx : ∀ x μ', X x μ' → Q (.inr x) μ') :
    Wp (d + 1) 235 (43, [some (.ref r0), some (.int x1), some (.int x2), some (.int x3)], [], μ) Q := wp_blk rfl e235_43 (And.intro h1 (And.intro h2 (And.intro h3 (And.intro h4 (And.intro h5 (And.intro h6 (wp_cv (as := [.ref (am_F μ r0 73), .int (((Int16.ofInt 2940).toInt32) * x2), .int (am_A μ (am_F μ r0 74) x2.toNatClampNeg)]) rfl e235_43_c rfl rfl rfl rfl rfl hk hc (fun v μ' hv => by obtain ⟨x, rfl, hp⟩ := pI_r hv; exact hr x μ' hp) hx)))))))
def q235_62 : List (Nat × Instr × Nat) := [(62, .pop, 1), (63, .aload_n 0, 1), (64, .getfield 158, 3), (67, .iload_n 2, 1), (68, .dup2, 1), (69, .iaload, 1), (70, .iconst 1, 1), (71, .iadd, 1), (72, .iastore, 1), (73, .aload_n 0, 1), (74, .getfield 108, 3), (77, .iload_n 3, 1), (78, .iaload, 1), (79, .istore_n 3, 1), (80, .goto (-66), 3)]
theorem e235_62 : am_dec am_M235 q235_62 = true := by decide +kernel
theorem b235_62 {d : Nat} {Q : Option Value ⊕ Nat → am_Mem → Prop} {μ : am_Mem} {r0 : Nat} {x1 x2 x3 s0 : Int32}
    (h1 : am_kd μ r0 = (1, 12))
    (h2 : ¬ am_F μ r0 74 = 15)
    (h3 : (am_kd μ (am_F μ r0 74)).1 = 2 ∨ (am_kd μ (am_F μ r0 74)).1 = 8)
    (h4 : ¬ (x2 < 0 ∨ (am_kd μ (am_F μ r0 74)).2 ≤ x2.toNatClampNeg))
    (h5 : (am_kd μ (am_F μ r0 74)).1 = 2)
    (h6 : ¬ (x2 < 0 ∨ (am_kd μ (am_F μ r0 74)).2 ≤ x2.toNatClampNeg))
    (h7 : am_kd (am_pA μ (am_F μ r0 74) x2.toNatClampNeg ((am_A μ (am_F μ r0 74) x2.toNatClampNeg) + (Int32.ofInt 1))) r0 = (1, 12))
    (h8 : ¬ am_F (am_pA μ (am_F μ r0 74) x2.toNatClampNeg ((am_A μ (am_F μ r0 74) x2.toNatClampNeg) + (Int32.ofInt 1))) r0 51 = 15)
    (h9 : (am_kd (am_pA μ (am_F μ r0 74) x2.toNatClampNeg ((am_A μ (am_F μ r0 74) x2.toNatClampNeg) + (Int32.ofInt 1))) (am_F (am_pA μ (am_F μ r0 74) x2.toNatClampNeg ((am_A μ (am_F μ r0 74) x2.toNatClampNeg) + (Int32.ofInt 1))) r0 51)).1 = 2 ∨ (am_kd (am_pA μ (am_F μ r0 74) x2.toNatClampNeg ((am_A μ (am_F μ r0 74) x2.toNatClampNeg) + (Int32.ofInt 1))) (am_F (am_pA μ (am_F μ r0 74) x2.toNatClampNeg ((am_A μ (am_F μ r0 74) x2.toNatClampNeg) + (Int32.ofInt 1))) r0 51)).1 = 8)
    (h10 : ¬ (x3 < 0 ∨ (am_kd (am_pA μ (am_F μ r0 74) x2.toNatClampNeg ((am_A μ (am_F μ r0 74) x2.toNatClampNeg) + (Int32.ofInt 1))) (am_F (am_pA μ (am_F μ r0 74) x2.toNatClampNeg ((am_A μ (am_F μ r0 74) x2.toNatClampNeg) + (Int32.ofInt 1))) r0 51)).2 ≤ x3.toNatClampNeg))
    (k : Wp d 235 (14, [some (.ref r0), some (.int x1), some (.int x2), some (.int (am_A (am_pA μ (am_F μ r0 74) x2.toNatClampNeg ((am_A μ (am_F μ r0 74) x2.toNatClampNeg) + (Int32.ofInt 1))) (am_F (am_pA μ (am_F μ r0 74) x2.toNatClampNeg ((am_A μ (am_F μ r0 74) x2.toNatClampNeg) + (Int32.ofInt 1))) r0 51) x3.toNatClampNeg))], [], (am_pA μ (am_F μ r0 74) x2.toNatClampNeg ((am_A μ (am_F μ r0 74) x2.toNatClampNeg) + (Int32.ofInt 1)))) Q) :
    Wp d 235 (62, [some (.ref r0), some (.int x1), some (.int x2), some (.int x3)], [.int s0], μ) Q := wp_blk rfl e235_62 (And.intro h1 (And.intro h2 (And.intro h3 (And.intro h4 (And.intro h5 (And.intro h6 (And.intro h7 (And.intro h8 (And.intro h9 (And.intro h10 k))))))))))
def q235_83 : List (Nat × Instr × Nat) := [(83, .iconst 1, 1)]
theorem e235_83 : am_dec am_M235 q235_83 = true := by decide +kernel
theorem e235_83_r : am_dec am_M235 [(84, .ireturn, 1)] = true := by decide +kernel
theorem b235_83 {d : Nat} {Q : Option Value ⊕ Nat → am_Mem → Prop} {μ : am_Mem} {r0 : Nat} {x1 x2 x3 : Int32}
    (k : Q (.inl (some (.int (Int32.ofInt 1)))) μ) :
    Wp d 235 (83, [some (.ref r0), some (.int x1), some (.int x2), some (.int x3)], [], μ) Q := wp_blk rfl e235_83 (wp_ri (ty := .boolean) rfl e235_83_r rfl (by decide) k)
/-! RuleSheetsModel.insert([BII)Z -/
def q236_0 : List (Nat × Instr × Nat) := [(0, .iconst 0, 1), (1, .istore 4, 2)]
theorem e236_0 : am_dec am_M236 q236_0 = true := by decide +kernel
theorem b236_0 {d : Nat} {Q : Option Value ⊕ Nat → am_Mem → Prop} {μ : am_Mem} {r0 r1 : Nat} {x2 x3 : Int32}
    (k : Wp d 236 (3, [some (.ref r0), some (.ref r1), some (.int x2), some (.int x3), some (.int (Int32.ofInt 0)), none], [], μ) Q) :
    Wp d 236 (0, [some (.ref r0), some (.ref r1), some (.int x2), some (.int x3), none, none], [], μ) Q := wp_blk rfl e236_0 k
def q236_3 : List (Nat × Instr × Nat) := [(3, .iload 4, 2), (5, .iload_n 3, 1), (6, .if_icmp .ge 24, 3)]
theorem e236_3 : am_dec am_M236 q236_3 = true := by decide +kernel
theorem b236_3 {d : Nat} {Q : Option Value ⊕ Nat → am_Mem → Prop} {μ : am_Mem} {r0 r1 : Nat} {x2 x3 x4 : Int32}
    (k1 : x3 ≤ x4 → Wp d 236 (30, [some (.ref r0), some (.ref r1), some (.int x2), some (.int x3), some (.int x4), none], [], μ) Q) (k2 : ¬ (x3 ≤ x4) → Wp d 236 (9, [some (.ref r0), some (.ref r1), some (.int x2), some (.int x3), some (.int x4), none], [], μ) Q) :
    Wp d 236 (3, [some (.ref r0), some (.ref r1), some (.int x2), some (.int x3), some (.int x4), none], [], μ) Q := wp_blk rfl e236_3 (And.intro k1 k2)
def q236_9 : List (Nat × Instr × Nat) := [(9, .aload_n 0, 1), (10, .aload_n 1, 1), (11, .iload_n 2, 1), (12, .bipush 49, 2), (14, .iload 4, 2), (16, .imul, 1), (17, .iadd, 1)]
theorem e236_9 : am_dec am_M236 q236_9 = true := by decide +kernel
theorem e236_9_c : am_dc1 am_M236 18 (.invokevirtual 528) 3 = true := by decide +kernel
theorem b236_9 {d : Nat} {Q : Option Value ⊕ Nat → am_Mem → Prop} {μ : am_Mem} {r0 r1 : Nat} {x2 x3 x4 : Int32} {P : Int32 → am_Mem → Prop} {X : Nat → am_Mem → Prop}
    (hk : am_kd μ r0 = (1, 12))
    (hc : Wp d 237 (0, [some (.ref r0), some (.ref r1), some (.int (x2 + (((Int8.ofInt 49).toInt32) * x4))), none], [], μ) (pI P X)) (hr : ∀ x μ', P x μ' → Wp (d + 1) 236 (21, [some (.ref r0), some (.ref r1), some (.int x2), some (.int x3), some (.int x4), none], [.int x], (μ')) Q)
    (hx : ∀ x μ', X x μ' → Q (.inr x) μ') :
    Wp (d + 1) 236 (9, [some (.ref r0), some (.ref r1), some (.int x2), some (.int x3), some (.int x4), none], [], μ) Q := wp_blk rfl e236_9 (wp_cv (as := [.ref r1, .int (x2 + (((Int8.ofInt 49).toInt32) * x4))]) rfl e236_9_c rfl rfl rfl rfl rfl hk hc (fun v μ' hv => by obtain ⟨x, rfl, hp⟩ := pI_r hv; exact hr x μ' hp) hx)
def q236_21 : List (Nat × Instr × Nat) := [(21, .ifCond .le 9, 3)]
theorem e236_21 : am_dec am_M236 q236_21 = true := by decide +kernel
theorem b236_21 {d : Nat} {Q : Option Value ⊕ Nat → am_Mem → Prop} {μ : am_Mem} {r0 r1 : Nat} {x2 x3 x4 s0 : Int32}
    (k1 : s0 ≤ 0 → Wp d 236 (30, [some (.ref r0), some (.ref r1), some (.int x2), some (.int x3), some (.int x4), none], [], μ) Q) (k2 : ¬ (s0 ≤ 0) → Wp d 236 (24, [some (.ref r0), some (.ref r1), some (.int x2), some (.int x3), some (.int x4), none], [], μ) Q) :
    Wp d 236 (21, [some (.ref r0), some (.ref r1), some (.int x2), some (.int x3), some (.int x4), none], [.int s0], μ) Q := wp_blk rfl e236_21 (And.intro k1 k2)
def q236_24 : List (Nat × Instr × Nat) := [(24, .iinc 4 1, 3), (27, .goto (-24), 3)]
theorem e236_24 : am_dec am_M236 q236_24 = true := by decide +kernel
theorem b236_24 {d : Nat} {Q : Option Value ⊕ Nat → am_Mem → Prop} {μ : am_Mem} {r0 r1 : Nat} {x2 x3 x4 : Int32}
    (k : Wp d 236 (3, [some (.ref r0), some (.ref r1), some (.int x2), some (.int x3), some (.int (x4 + Int32.ofInt 1)), none], [], μ) Q) :
    Wp d 236 (24, [some (.ref r0), some (.ref r1), some (.int x2), some (.int x3), some (.int x4), none], [], μ) Q := wp_blk rfl e236_24 k
def q236_30 : List (Nat × Instr × Nat) := [(30, .iload 4, 2), (32, .iload_n 3, 1), (33, .if_icmp .ge 20, 3)]
theorem e236_30 : am_dec am_M236 q236_30 = true := by decide +kernel
theorem b236_30 {d : Nat} {Q : Option Value ⊕ Nat → am_Mem → Prop} {μ : am_Mem} {r0 r1 : Nat} {x2 x3 x4 : Int32}
    (k1 : x3 ≤ x4 → Wp d 236 (53, [some (.ref r0), some (.ref r1), some (.int x2), some (.int x3), some (.int x4), none], [], μ) Q) (k2 : ¬ (x3 ≤ x4) → Wp d 236 (36, [some (.ref r0), some (.ref r1), some (.int x2), some (.int x3), some (.int x4), none], [], μ) Q) :
    Wp d 236 (30, [some (.ref r0), some (.ref r1), some (.int x2), some (.int x3), some (.int x4), none], [], μ) Q := wp_blk rfl e236_30 (And.intro k1 k2)
def q236_36 : List (Nat × Instr × Nat) := [(36, .aload_n 0, 1), (37, .aload_n 1, 1), (38, .iload_n 2, 1), (39, .bipush 49, 2), (41, .iload 4, 2), (43, .imul, 1), (44, .iadd, 1)]
theorem e236_36 : am_dec am_M236 q236_36 = true := by decide +kernel
theorem e236_36_c : am_dc1 am_M236 45 (.invokevirtual 528) 3 = true := by decide +kernel
theorem b236_36 {d : Nat} {Q : Option Value ⊕ Nat → am_Mem → Prop} {μ : am_Mem} {r0 r1 : Nat} {x2 x3 x4 : Int32} {P : Int32 → am_Mem → Prop} {X : Nat → am_Mem → Prop}
    (hk : am_kd μ r0 = (1, 12))
    (hc : Wp d 237 (0, [some (.ref r0), some (.ref r1), some (.int (x2 + (((Int8.ofInt 49).toInt32) * x4))), none], [], μ) (pI P X)) (hr : ∀ x μ', P x μ' → Wp (d + 1) 236 (48, [some (.ref r0), some (.ref r1), some (.int x2), some (.int x3), some (.int x4), none], [.int x], (μ')) Q)
    (hx : ∀ x μ', X x μ' → Q (.inr x) μ') :
    Wp (d + 1) 236 (36, [some (.ref r0), some (.ref r1), some (.int x2), some (.int x3), some (.int x4), none], [], μ) Q := wp_blk rfl e236_36 (wp_cv (as := [.ref r1, .int (x2 + (((Int8.ofInt 49).toInt32) * x4))]) rfl e236_36_c rfl rfl rfl rfl rfl hk hc (fun v μ' hv => by obtain ⟨x, rfl, hp⟩ := pI_r hv; exact hr x μ' hp) hx)
def q236_48 : List (Nat × Instr × Nat) := [(48, .ifCond .ne 5, 3)]
theorem e236_48 : am_dec am_M236 q236_48 = true := by decide +kernel
theorem b236_48 {d : Nat} {Q : Option Value ⊕ Nat → am_Mem → Prop} {μ : am_Mem} {r0 r1 : Nat} {x2 x3 x4 s0 : Int32}
    (k1 : ¬ s0 = 0 → Wp d 236 (53, [some (.ref r0), some (.ref r1), some (.int x2), some (.int x3), some (.int x4), none], [], μ) Q) (k2 : ¬ (¬ s0 = 0) → Wp d 236 (51, [some (.ref r0), some (.ref r1), some (.int x2), some (.int x3), some (.int x4), none], [], μ) Q) :
    Wp d 236 (48, [some (.ref r0), some (.ref r1), some (.int x2), some (.int x3), some (.int x4), none], [.int s0], μ) Q := wp_blk rfl e236_48 (And.intro k1 k2)
def q236_51 : List (Nat × Instr × Nat) := [(51, .iconst 0, 1)]
theorem e236_51 : am_dec am_M236 q236_51 = true := by decide +kernel
theorem e236_51_r : am_dec am_M236 [(52, .ireturn, 1)] = true := by decide +kernel
theorem b236_51 {d : Nat} {Q : Option Value ⊕ Nat → am_Mem → Prop} {μ : am_Mem} {r0 r1 : Nat} {x2 x3 x4 : Int32}
    (k : Q (.inl (some (.int (Int32.ofInt 0)))) μ) :
    Wp d 236 (51, [some (.ref r0), some (.ref r1), some (.int x2), some (.int x3), some (.int x4), none], [], μ) Q := wp_blk rfl e236_51 (wp_ri (ty := .boolean) rfl e236_51_r rfl (by decide) k)
def q236_53 : List (Nat × Instr × Nat) := [(53, .bipush 49, 2), (55, .iload_n 3, 1), (56, .imul, 1), (57, .iconst 1, 1), (58, .isub, 1), (59, .istore 5, 2)]
theorem e236_53 : am_dec am_M236 q236_53 = true := by decide +kernel
theorem b236_53 {d : Nat} {Q : Option Value ⊕ Nat → am_Mem → Prop} {μ : am_Mem} {r0 r1 : Nat} {x2 x3 x4 : Int32}
    (k : Wp d 236 (61, [some (.ref r0), some (.ref r1), some (.int x2), some (.int x3), some (.int x4), some (.int ((((Int8.ofInt 49).toInt32) * x3) - (Int32.ofInt 1)))], [], μ) Q) :
    Wp d 236 (53, [some (.ref r0), some (.ref r1), some (.int x2), some (.int x3), some (.int x4), none], [], μ) Q := wp_blk rfl e236_53 k
def q236_61 : List (Nat × Instr × Nat) := [(61, .iload 5, 2), (63, .bipush 49, 2), (65, .iload 4, 2), (67, .imul, 1), (68, .if_icmp .lt 24, 3)]
theorem e236_61 : am_dec am_M236 q236_61 = true := by decide +kernel
theorem b236_61 {d : Nat} {Q : Option Value ⊕ Nat → am_Mem → Prop} {μ : am_Mem} {r0 r1 : Nat} {x2 x3 x4 x5 : Int32}
    (k1 : x5 < (((Int8.ofInt 49).toInt32) * x4) → Wp d 236 (92, [some (.ref r0), some (.ref r1), some (.int x2), some (.int x3), some (.int x4), some (.int x5)], [], μ) Q) (k2 : ¬ (x5 < (((Int8.ofInt 49).toInt32) * x4)) → Wp d 236 (71, [some (.ref r0), some (.ref r1), some (.int x2), some (.int x3), some (.int x4), some (.int x5)], [], μ) Q) :
    Wp d 236 (61, [some (.ref r0), some (.ref r1), some (.int x2), some (.int x3), some (.int x4), some (.int x5)], [], μ) Q := wp_blk rfl e236_61 (And.intro k1 k2)
def q236_71 : List (Nat × Instr × Nat) := [(71, .aload_n 1, 1), (72, .iload_n 2, 1), (73, .iload 5, 2), (75, .iadd, 1), (76, .bipush 49, 2), (78, .iadd, 1), (79, .aload_n 1, 1), (80, .iload_n 2, 1), (81, .iload 5, 2), (83, .iadd, 1), (84, .baload, 1), (85, .bastore, 1), (86, .iinc 5 (-1), 3), (89, .goto (-28), 3)]
theorem e236_71 : am_dec am_M236 q236_71 = true := by decide +kernel
theorem b236_71 {d : Nat} {Q : Option Value ⊕ Nat → am_Mem → Prop} {μ : am_Mem} {r0 r1 : Nat} {x2 x3 x4 x5 : Int32}
    (h1 : (am_kd μ r1).1 = 3 ∨ (am_kd μ r1).1 = 4 ∨ (am_kd μ r1).1 = 10)
    (h2 : ¬ ((x2 + x5) < 0 ∨ (am_kd μ r1).2 ≤ (x2 + x5).toNatClampNeg))
    (h3 : (am_kd μ r1).1 = 3 ∨ (am_kd μ r1).1 = 4)
    (h4 : ¬ (((x2 + x5) + ((Int8.ofInt 49).toInt32)) < 0 ∨ (am_kd μ r1).2 ≤ ((x2 + x5) + ((Int8.ofInt 49).toInt32)).toNatClampNeg))
    (k : Wp d 236 (61, [some (.ref r0), some (.ref r1), some (.int x2), some (.int x3), some (.int x4), some (.int (x5 + Int32.ofInt (-1)))], [], (am_pA μ r1 ((x2 + x5) + ((Int8.ofInt 49).toInt32)).toNatClampNeg (am_nar (am_kd μ r1).1 (am_A μ r1 (x2 + x5).toNatClampNeg)))) Q) :
    Wp d 236 (71, [some (.ref r0), some (.ref r1), some (.int x2), some (.int x3), some (.int x4), some (.int x5)], [], μ) Q := wp_blk rfl e236_71 (And.intro h1 (And.intro h2 (And.intro h3 (And.intro h4 k))))
def q236_92 : List (Nat × Instr × Nat) := [(92, .aload_n 0, 1), (93, .aload_n 1, 1), (94, .iload_n 2, 1), (95, .bipush 49, 2), (97, .iload 4, 2), (99, .imul, 1), (100, .iadd, 1)]
theorem e236_92 : am_dec am_M236 q236_92 = true := by decide +kernel
theorem e236_92_c : am_dc1 am_M236 101 (.invokevirtual 532) 3 = true := by decide +kernel
theorem b236_92 {d : Nat} {Q : Option Value ⊕ Nat → am_Mem → Prop} {μ : am_Mem} {r0 r1 : Nat} {x2 x3 x4 x5 : Int32} {P : am_Mem → Prop} {X : Nat → am_Mem → Prop}
    (hk : am_kd μ r0 = (1, 12))
    (hc : Wp d 238 (0, [some (.ref r0), some (.ref r1), some (.int (x2 + (((Int8.ofInt 49).toInt32) * x4))), none], [], μ) (pV P X)) (hr : ∀ μ', P μ' → Wp (d + 1) 236 (104, [some (.ref r0), some (.ref r1), some (.int x2), some (.int x3), some (.int x4), some (.int x5)], [], (μ')) Q)
    (hx : ∀ x μ', X x μ' → Q (.inr x) μ') :
    Wp (d + 1) 236 (92, [some (.ref r0), some (.ref r1), some (.int x2), some (.int x3), some (.int x4), some (.int x5)], [], μ) Q := wp_blk rfl e236_92 (wp_cv (as := [.ref r1, .int (x2 + (((Int8.ofInt 49).toInt32) * x4))]) rfl e236_92_c rfl rfl rfl rfl rfl hk hc (fun v μ' hv => by obtain ⟨rfl, hp⟩ := pV_r hv; exact hr μ' hp) hx)
def q236_104 : List (Nat × Instr × Nat) := [(104, .iconst 1, 1)]
theorem e236_104 : am_dec am_M236 q236_104 = true := by decide +kernel
theorem e236_104_r : am_dec am_M236 [(105, .ireturn, 1)] = true := by decide +kernel
theorem b236_104 {d : Nat} {Q : Option Value ⊕ Nat → am_Mem → Prop} {μ : am_Mem} {r0 r1 : Nat} {x2 x3 x4 x5 : Int32}
    (k : Q (.inl (some (.int (Int32.ofInt 1)))) μ) :
    Wp d 236 (104, [some (.ref r0), some (.ref r1), some (.int x2), some (.int x3), some (.int x4), some (.int x5)], [], μ) Q := wp_blk rfl e236_104 (wp_ri (ty := .boolean) rfl e236_104_r rfl (by decide) k)
/-! RuleSheetsModel.against([BI)I -/
def q237_0 : List (Nat × Instr × Nat) := [(0, .iconst 0, 1), (1, .istore_n 3, 1)]
theorem e237_0 : am_dec am_M237 q237_0 = true := by decide +kernel
theorem b237_0 {d : Nat} {Q : Option Value ⊕ Nat → am_Mem → Prop} {μ : am_Mem} {r0 r1 : Nat} {x2 : Int32}
    (k : Wp d 237 (2, [some (.ref r0), some (.ref r1), some (.int x2), some (.int (Int32.ofInt 0))], [], μ) Q) :
    Wp d 237 (0, [some (.ref r0), some (.ref r1), some (.int x2), none], [], μ) Q := wp_blk rfl e237_0 k
def q237_2 : List (Nat × Instr × Nat) := [(2, .iload_n 3, 1), (3, .bipush 48, 2), (5, .if_icmp .ge 32, 3)]
theorem e237_2 : am_dec am_M237 q237_2 = true := by decide +kernel
theorem b237_2 {d : Nat} {Q : Option Value ⊕ Nat → am_Mem → Prop} {μ : am_Mem} {r0 r1 : Nat} {x2 x3 : Int32}
    (k1 : ((Int8.ofInt 48).toInt32) ≤ x3 → Wp d 237 (37, [some (.ref r0), some (.ref r1), some (.int x2), some (.int x3)], [], μ) Q) (k2 : ¬ (((Int8.ofInt 48).toInt32) ≤ x3) → Wp d 237 (8, [some (.ref r0), some (.ref r1), some (.int x2), some (.int x3)], [], μ) Q) :
    Wp d 237 (2, [some (.ref r0), some (.ref r1), some (.int x2), some (.int x3)], [], μ) Q := wp_blk rfl e237_2 (And.intro k1 k2)
def q237_8 : List (Nat × Instr × Nat) := [(8, .aload_n 0, 1), (9, .getfield 171, 3), (12, .iload_n 3, 1), (13, .iaload, 1), (14, .ifCond .le 23, 3)]
theorem e237_8 : am_dec am_M237 q237_8 = true := by decide +kernel
theorem b237_8 {d : Nat} {Q : Option Value ⊕ Nat → am_Mem → Prop} {μ : am_Mem} {r0 r1 : Nat} {x2 x3 : Int32}
    (h1 : am_kd μ r0 = (1, 12))
    (h2 : ¬ am_F μ r0 79 = 15)
    (h3 : (am_kd μ (am_F μ r0 79)).1 = 2 ∨ (am_kd μ (am_F μ r0 79)).1 = 8)
    (h4 : ¬ (x3 < 0 ∨ (am_kd μ (am_F μ r0 79)).2 ≤ x3.toNatClampNeg))
    (k1 : (am_A μ (am_F μ r0 79) x3.toNatClampNeg) ≤ 0 → Wp d 237 (37, [some (.ref r0), some (.ref r1), some (.int x2), some (.int x3)], [], μ) Q) (k2 : ¬ ((am_A μ (am_F μ r0 79) x3.toNatClampNeg) ≤ 0) → Wp d 237 (17, [some (.ref r0), some (.ref r1), some (.int x2), some (.int x3)], [], μ) Q) :
    Wp d 237 (8, [some (.ref r0), some (.ref r1), some (.int x2), some (.int x3)], [], μ) Q := wp_blk rfl e237_8 (And.intro h1 (And.intro h2 (And.intro h3 (And.intro h4 (And.intro k1 k2)))))
def q237_17 : List (Nat × Instr × Nat) := [(17, .aload_n 0, 1), (18, .getfield 171, 3), (21, .iload_n 3, 1), (22, .iaload, 1), (23, .aload_n 1, 1), (24, .iload_n 2, 1), (25, .iload_n 3, 1), (26, .iadd, 1), (27, .baload, 1), (28, .if_icmp .ne 9, 3)]
theorem e237_17 : am_dec am_M237 q237_17 = true := by decide +kernel
theorem b237_17 {d : Nat} {Q : Option Value ⊕ Nat → am_Mem → Prop} {μ : am_Mem} {r0 r1 : Nat} {x2 x3 : Int32}
    (h1 : am_kd μ r0 = (1, 12))
    (h2 : ¬ am_F μ r0 79 = 15)
    (h3 : (am_kd μ (am_F μ r0 79)).1 = 2 ∨ (am_kd μ (am_F μ r0 79)).1 = 8)
    (h4 : ¬ (x3 < 0 ∨ (am_kd μ (am_F μ r0 79)).2 ≤ x3.toNatClampNeg))
    (h5 : (am_kd μ r1).1 = 3 ∨ (am_kd μ r1).1 = 4 ∨ (am_kd μ r1).1 = 10)
    (h6 : ¬ ((x2 + x3) < 0 ∨ (am_kd μ r1).2 ≤ (x2 + x3).toNatClampNeg))
    (k1 : ¬ (am_A μ (am_F μ r0 79) x3.toNatClampNeg) = (am_A μ r1 (x2 + x3).toNatClampNeg) → Wp d 237 (37, [some (.ref r0), some (.ref r1), some (.int x2), some (.int x3)], [], μ) Q) (k2 : ¬ (¬ (am_A μ (am_F μ r0 79) x3.toNatClampNeg) = (am_A μ r1 (x2 + x3).toNatClampNeg)) → Wp d 237 (31, [some (.ref r0), some (.ref r1), some (.int x2), some (.int x3)], [], μ) Q) :
    Wp d 237 (17, [some (.ref r0), some (.ref r1), some (.int x2), some (.int x3)], [], μ) Q := wp_blk rfl e237_17 (And.intro h1 (And.intro h2 (And.intro h3 (And.intro h4 (And.intro h5 (And.intro h6 (And.intro k1 k2)))))))
def q237_31 : List (Nat × Instr × Nat) := [(31, .iinc 3 1, 3), (34, .goto (-32), 3)]
theorem e237_31 : am_dec am_M237 q237_31 = true := by decide +kernel
theorem b237_31 {d : Nat} {Q : Option Value ⊕ Nat → am_Mem → Prop} {μ : am_Mem} {r0 r1 : Nat} {x2 x3 : Int32}
    (k : Wp d 237 (2, [some (.ref r0), some (.ref r1), some (.int x2), some (.int (x3 + Int32.ofInt 1))], [], μ) Q) :
    Wp d 237 (31, [some (.ref r0), some (.ref r1), some (.int x2), some (.int x3)], [], μ) Q := wp_blk rfl e237_31 k
def q237_37 : List (Nat × Instr × Nat) := [(37, .aload_n 0, 1), (38, .getfield 171, 3), (41, .iload_n 3, 1), (42, .iaload, 1), (43, .aload_n 1, 1), (44, .iload_n 2, 1), (45, .iload_n 3, 1), (46, .iadd, 1), (47, .baload, 1), (48, .isub, 1)]
theorem e237_37 : am_dec am_M237 q237_37 = true := by decide +kernel
theorem e237_37_r : am_dec am_M237 [(49, .ireturn, 1)] = true := by decide +kernel
theorem b237_37 {d : Nat} {Q : Option Value ⊕ Nat → am_Mem → Prop} {μ : am_Mem} {r0 r1 : Nat} {x2 x3 : Int32}
    (h1 : am_kd μ r0 = (1, 12))
    (h2 : ¬ am_F μ r0 79 = 15)
    (h3 : (am_kd μ (am_F μ r0 79)).1 = 2 ∨ (am_kd μ (am_F μ r0 79)).1 = 8)
    (h4 : ¬ (x3 < 0 ∨ (am_kd μ (am_F μ r0 79)).2 ≤ x3.toNatClampNeg))
    (h5 : (am_kd μ r1).1 = 3 ∨ (am_kd μ r1).1 = 4 ∨ (am_kd μ r1).1 = 10)
    (h6 : ¬ ((x2 + x3) < 0 ∨ (am_kd μ r1).2 ≤ (x2 + x3).toNatClampNeg))
    (k : Q (.inl (some (.int ((am_A μ (am_F μ r0 79) x3.toNatClampNeg) - (am_A μ r1 (x2 + x3).toNatClampNeg))))) μ) :
    Wp d 237 (37, [some (.ref r0), some (.ref r1), some (.int x2), some (.int x3)], [], μ) Q := wp_blk rfl e237_37 (And.intro h1 (And.intro h2 (And.intro h3 (And.intro h4 (And.intro h5 (And.intro h6 (wp_ri (ty := .int) rfl e237_37_r rfl ⟨rfl, rfl⟩ k)))))))
/-! RuleSheetsModel.rowToBytes([BI)V -/
def q238_0 : List (Nat × Instr × Nat) := [(0, .iconst 0, 1), (1, .istore_n 3, 1)]
theorem e238_0 : am_dec am_M238 q238_0 = true := by decide +kernel
theorem b238_0 {d : Nat} {Q : Option Value ⊕ Nat → am_Mem → Prop} {μ : am_Mem} {r0 r1 : Nat} {x2 : Int32}
    (k : Wp d 238 (2, [some (.ref r0), some (.ref r1), some (.int x2), some (.int (Int32.ofInt 0))], [], μ) Q) :
    Wp d 238 (0, [some (.ref r0), some (.ref r1), some (.int x2), none], [], μ) Q := wp_blk rfl e238_0 k
def q238_2 : List (Nat × Instr × Nat) := [(2, .iload_n 3, 1), (3, .bipush 49, 2), (5, .if_icmp .ge 21, 3)]
theorem e238_2 : am_dec am_M238 q238_2 = true := by decide +kernel
theorem b238_2 {d : Nat} {Q : Option Value ⊕ Nat → am_Mem → Prop} {μ : am_Mem} {r0 r1 : Nat} {x2 x3 : Int32}
    (k1 : ((Int8.ofInt 49).toInt32) ≤ x3 → Wp d 238 (26, [some (.ref r0), some (.ref r1), some (.int x2), some (.int x3)], [], μ) Q) (k2 : ¬ (((Int8.ofInt 49).toInt32) ≤ x3) → Wp d 238 (8, [some (.ref r0), some (.ref r1), some (.int x2), some (.int x3)], [], μ) Q) :
    Wp d 238 (2, [some (.ref r0), some (.ref r1), some (.int x2), some (.int x3)], [], μ) Q := wp_blk rfl e238_2 (And.intro k1 k2)
def q238_8 : List (Nat × Instr × Nat) := [(8, .aload_n 1, 1), (9, .iload_n 2, 1), (10, .iload_n 3, 1), (11, .iadd, 1), (12, .aload_n 0, 1), (13, .getfield 171, 3), (16, .iload_n 3, 1), (17, .iaload, 1), (18, .i2b, 1), (19, .bastore, 1), (20, .iinc 3 1, 3), (23, .goto (-21), 3)]
theorem e238_8 : am_dec am_M238 q238_8 = true := by decide +kernel
theorem b238_8 {d : Nat} {Q : Option Value ⊕ Nat → am_Mem → Prop} {μ : am_Mem} {r0 r1 : Nat} {x2 x3 : Int32}
    (h1 : am_kd μ r0 = (1, 12))
    (h2 : ¬ am_F μ r0 79 = 15)
    (h3 : (am_kd μ (am_F μ r0 79)).1 = 2 ∨ (am_kd μ (am_F μ r0 79)).1 = 8)
    (h4 : ¬ (x3 < 0 ∨ (am_kd μ (am_F μ r0 79)).2 ≤ x3.toNatClampNeg))
    (h5 : (am_kd μ r1).1 = 3 ∨ (am_kd μ r1).1 = 4)
    (h6 : ¬ ((x2 + x3) < 0 ∨ (am_kd μ r1).2 ≤ (x2 + x3).toNatClampNeg))
    (k : Wp d 238 (2, [some (.ref r0), some (.ref r1), some (.int x2), some (.int (x3 + Int32.ofInt 1))], [], (am_pA μ r1 (x2 + x3).toNatClampNeg (am_nar (am_kd μ r1).1 ((am_A μ (am_F μ r0 79) x3.toNatClampNeg).toInt8.toInt32)))) Q) :
    Wp d 238 (8, [some (.ref r0), some (.ref r1), some (.int x2), some (.int x3)], [], μ) Q := wp_blk rfl e238_8 (And.intro h1 (And.intro h2 (And.intro h3 (And.intro h4 (And.intro h5 (And.intro h6 k))))))
theorem e238_26_r : am_dec am_M238 [(26, .return_, 1)] = true := by decide +kernel
theorem b238_26 {d : Nat} {Q : Option Value ⊕ Nat → am_Mem → Prop} {μ : am_Mem} {r0 r1 : Nat} {x2 x3 : Int32}
    (k : Q (.inl none) μ) :
    Wp d 238 (26, [some (.ref r0), some (.ref r1), some (.int x2), some (.int x3)], [], μ) Q := (wp_rv rfl e238_26_r rfl k)
/-! RuleSheetsModel.copyState(II)V -/
def q239_0 : List (Nat × Instr × Nat) := [(0, .aload_n 0, 1), (1, .getfield 158, 3), (4, .iload_n 2, 1), (5, .aload_n 0, 1), (6, .getfield 158, 3), (9, .iload_n 1, 1), (10, .iaload, 1), (11, .iastore, 1), (12, .iconst 0, 1), (13, .istore_n 3, 1)]
theorem e239_0 : am_dec am_M239 q239_0 = true := by decide +kernel
theorem b239_0 {d : Nat} {Q : Option Value ⊕ Nat → am_Mem → Prop} {μ : am_Mem} {r0 : Nat} {x1 x2 : Int32}
    (h1 : am_kd μ r0 = (1, 12))
    (h2 : ¬ am_F μ r0 74 = 15)
    (h3 : am_kd μ r0 = (1, 12))
    (h4 : ¬ am_F μ r0 74 = 15)
    (h5 : (am_kd μ (am_F μ r0 74)).1 = 2 ∨ (am_kd μ (am_F μ r0 74)).1 = 8)
    (h6 : ¬ (x1 < 0 ∨ (am_kd μ (am_F μ r0 74)).2 ≤ x1.toNatClampNeg))
    (h7 : (am_kd μ (am_F μ r0 74)).1 = 2)
    (h8 : ¬ (x2 < 0 ∨ (am_kd μ (am_F μ r0 74)).2 ≤ x2.toNatClampNeg))
    (k : Wp d 239 (14, [some (.ref r0), some (.int x1), some (.int x2), some (.int (Int32.ofInt 0))], [], (am_pA μ (am_F μ r0 74) x2.toNatClampNeg (am_A μ (am_F μ r0 74) x1.toNatClampNeg))) Q) :
    Wp d 239 (0, [some (.ref r0), some (.int x1), some (.int x2), none], [], μ) Q := wp_blk rfl e239_0 (And.intro h1 (And.intro h2 (And.intro h3 (And.intro h4 (And.intro h5 (And.intro h6 (And.intro h7 (And.intro h8 k))))))))
def q239_14 : List (Nat × Instr × Nat) := [(14, .iload_n 3, 1), (15, .bipush 49, 2), (17, .aload_n 0, 1), (18, .getfield 158, 3), (21, .iload_n 1, 1), (22, .iaload, 1), (23, .imul, 1), (24, .if_icmp .ge 33, 3)]
theorem e239_14 : am_dec am_M239 q239_14 = true := by decide +kernel
theorem b239_14 {d : Nat} {Q : Option Value ⊕ Nat → am_Mem → Prop} {μ : am_Mem} {r0 : Nat} {x1 x2 x3 : Int32}
    (h1 : am_kd μ r0 = (1, 12))
    (h2 : ¬ am_F μ r0 74 = 15)
    (h3 : (am_kd μ (am_F μ r0 74)).1 = 2 ∨ (am_kd μ (am_F μ r0 74)).1 = 8)
    (h4 : ¬ (x1 < 0 ∨ (am_kd μ (am_F μ r0 74)).2 ≤ x1.toNatClampNeg))
    (k1 : (((Int8.ofInt 49).toInt32) * (am_A μ (am_F μ r0 74) x1.toNatClampNeg)) ≤ x3 → Wp d 239 (57, [some (.ref r0), some (.int x1), some (.int x2), some (.int x3)], [], μ) Q) (k2 : ¬ ((((Int8.ofInt 49).toInt32) * (am_A μ (am_F μ r0 74) x1.toNatClampNeg)) ≤ x3) → Wp d 239 (27, [some (.ref r0), some (.int x1), some (.int x2), some (.int x3)], [], μ) Q) :
    Wp d 239 (14, [some (.ref r0), some (.int x1), some (.int x2), some (.int x3)], [], μ) Q := wp_blk rfl e239_14 (And.intro h1 (And.intro h2 (And.intro h3 (And.intro h4 (And.intro k1 k2)))))
def q239_27 : List (Nat × Instr × Nat) := [(27, .aload_n 0, 1), (28, .getfield 154, 3), (31, .sipush 2940, 3), (34, .iload_n 2, 1), (35, .imul, 1), (36, .iload_n 3, 1), (37, .iadd, 1), (38, .aload_n 0, 1), (39, .getfield 154, 3), (42, .sipush 2940, 3), (45, .iload_n 1, 1), (46, .imul, 1), (47, .iload_n 3, 1), (48, .iadd, 1), (49, .baload, 1), (50, .bastore, 1), (51, .iinc 3 1, 3), (54, .goto (-40), 3)]
theorem e239_27 : am_dec am_M239 q239_27 = true := by decide +kernel
theorem b239_27 {d : Nat} {Q : Option Value ⊕ Nat → am_Mem → Prop} {μ : am_Mem} {r0 : Nat} {x1 x2 x3 : Int32}
    (h1 : am_kd μ r0 = (1, 12))
    (h2 : ¬ am_F μ r0 73 = 15)
    (h3 : am_kd μ r0 = (1, 12))
    (h4 : ¬ am_F μ r0 73 = 15)
    (h5 : (am_kd μ (am_F μ r0 73)).1 = 3 ∨ (am_kd μ (am_F μ r0 73)).1 = 4 ∨ (am_kd μ (am_F μ r0 73)).1 = 10)
    (h6 : ¬ (((((Int16.ofInt 2940).toInt32) * x1) + x3) < 0 ∨ (am_kd μ (am_F μ r0 73)).2 ≤ ((((Int16.ofInt 2940).toInt32) * x1) + x3).toNatClampNeg))
    (h7 : (am_kd μ (am_F μ r0 73)).1 = 3 ∨ (am_kd μ (am_F μ r0 73)).1 = 4)
    (h8 : ¬ (((((Int16.ofInt 2940).toInt32) * x2) + x3) < 0 ∨ (am_kd μ (am_F μ r0 73)).2 ≤ ((((Int16.ofInt 2940).toInt32) * x2) + x3).toNatClampNeg))
    (k : Wp d 239 (14, [some (.ref r0), some (.int x1), some (.int x2), some (.int (x3 + Int32.ofInt 1))], [], (am_pA μ (am_F μ r0 73) ((((Int16.ofInt 2940).toInt32) * x2) + x3).toNatClampNeg (am_nar (am_kd μ (am_F μ r0 73)).1 (am_A μ (am_F μ r0 73) ((((Int16.ofInt 2940).toInt32) * x1) + x3).toNatClampNeg)))) Q) :
    Wp d 239 (27, [some (.ref r0), some (.int x1), some (.int x2), some (.int x3)], [], μ) Q := wp_blk rfl e239_27 (And.intro h1 (And.intro h2 (And.intro h3 (And.intro h4 (And.intro h5 (And.intro h6 (And.intro h7 (And.intro h8 k))))))))
theorem e239_57_r : am_dec am_M239 [(57, .return_, 1)] = true := by decide +kernel
theorem b239_57 {d : Nat} {Q : Option Value ⊕ Nat → am_Mem → Prop} {μ : am_Mem} {r0 : Nat} {x1 x2 x3 : Int32}
    (k : Q (.inl none) μ) :
    Wp d 239 (57, [some (.ref r0), some (.int x1), some (.int x2), some (.int x3)], [], μ) Q := (wp_rv rfl e239_57_r rfl k)
