/-! ===== printed: the blocks of ref1 ===== -/
/-! RuleSheetsModel.beginTerm()V -/
def q178_0 : List (Nat × Instr × Nat) := [(0, .aload_n 0, 1), (1, .getfield 247, 3), (4, .iconst 4, 1), (5, .if_icmp .ne 37, 3)]
theorem e178_0 : am_dec am_M178 q178_0 = true := by decide +kernel
theorem b178_0 {d : Nat} {Q : Option Value ⊕ Nat → am_Mem → Prop} {μ : am_Mem} {r0 : Nat}
    (h1 : am_kd μ r0 = (1, 12))
    (k1 : ¬ (am_A μ r0 28) = (Int32.ofInt 4) → Wp d 178 (42, [some (.ref r0), none], [], μ) Q) (k2 : ¬ (¬ (am_A μ r0 28) = (Int32.ofInt 4)) → Wp d 178 (8, [some (.ref r0), none], [], μ) Q) :
    Wp d 178 (0, [some (.ref r0), none], [], μ) Q := wp_blk rfl e178_0 (And.intro h1 (And.intro k1 k2))
def q178_8 : List (Nat × Instr × Nat) := [(8, .aload_n 0, 1), (9, .aload_n 0, 1), (10, .aload_n 0, 1), (11, .getfield 244, 3), (14, .aload_n 0, 1), (15, .getfield 235, 3)]
theorem e178_8 : am_dec am_M178 q178_8 = true := by decide +kernel
theorem e178_8_c : am_dc1 am_M178 18 (.invokevirtual 264) 3 = true := by decide +kernel
theorem b178_8 {d : Nat} {Q : Option Value ⊕ Nat → am_Mem → Prop} {μ : am_Mem} {r0 : Nat} {P : Int32 → am_Mem → Prop} {X : Nat → am_Mem → Prop}
    (h1 : am_kd μ r0 = (1, 12))
    (h2 : am_kd μ r0 = (1, 12))
    (hk : am_kd μ r0 = (1, 12))
    (hc : Wp d 165 (0, [some (.ref r0), some (.int (am_A μ r0 30)), some (.int (am_A μ r0 31)), none, none, none], [], μ) (pI P X)) (hr : ∀ x μ', P x μ' → Wp (d + 1) 178 (21, [some (.ref r0), none], [.int x, .ref r0], (μ')) Q)
    (hx : ∀ x μ', X x μ' → Q (.inr x) μ') :
    Wp (d + 1) 178 (8, [some (.ref r0), none], [], μ) Q := wp_blk rfl e178_8 (And.intro h1 (And.intro h2 (wp_cv (as := [.int (am_A μ r0 30), .int (am_A μ r0 31)]) rfl e178_8_c rfl rfl rfl rfl rfl hk hc (fun v μ' hv => by obtain ⟨x, rfl, hp⟩ := pI_r hv; exact hr x μ' hp) hx)))
theorem e178_21_c : am_dc1 am_M178 21 (.invokevirtual 318) 3 = true := by decide +kernel
theorem b178_21 {d : Nat} {Q : Option Value ⊕ Nat → am_Mem → Prop} {μ : am_Mem} {r0 r90 : Nat} {s1 : Int32} {P : Int32 → am_Mem → Prop} {X : Nat → am_Mem → Prop}
    (hk : am_kd μ r90 = (1, 12))
    (hc : Wp d 179 (0, [some (.ref r90), some (.int s1), none], [], μ) (pI P X)) (hr : ∀ x μ', P x μ' → Wp (d + 1) 178 (24, [some (.ref r0), none], [.int x], (μ')) Q)
    (hx : ∀ x μ', X x μ' → Q (.inr x) μ') :
    Wp (d + 1) 178 (21, [some (.ref r0), none], [.int s1, .ref r90], μ) Q := (wp_cv (as := [.int s1]) rfl e178_21_c rfl rfl rfl rfl rfl hk hc (fun v μ' hv => by obtain ⟨x, rfl, hp⟩ := pI_r hv; exact hr x μ' hp) hx)
def q178_24 : List (Nat × Instr × Nat) := [(24, .istore_n 1, 1), (25, .aload_n 0, 1), (26, .aload_n 0, 1), (27, .iconst (-1), 1), (28, .iload_n 1, 1)]
theorem e178_24 : am_dec am_M178 q178_24 = true := by decide +kernel
theorem e178_24_c : am_dc1 am_M178 29 (.invokevirtual 321) 3 = true := by decide +kernel
theorem b178_24 {d : Nat} {Q : Option Value ⊕ Nat → am_Mem → Prop} {μ : am_Mem} {r0 : Nat} {s0 : Int32} {P : Int32 → am_Mem → Prop} {X : Nat → am_Mem → Prop}
    (hk : am_kd μ r0 = (1, 12))
    (hc : Wp d 180 (0, [some (.ref r0), some (.int (Int32.ofInt (-1))), some (.int s0)], [], μ) (pI P X)) (hr : ∀ x μ', P x μ' → Wp (d + 1) 178 (32, [some (.ref r0), some (.int s0)], [.int x, .ref r0], (μ')) Q)
    (hx : ∀ x μ', X x μ' → Q (.inr x) μ') :
    Wp (d + 1) 178 (24, [some (.ref r0), none], [.int s0], μ) Q := wp_blk rfl e178_24 (wp_cv (as := [.int (Int32.ofInt (-1)), .int s0]) rfl e178_24_c rfl rfl rfl rfl rfl hk hc (fun v μ' hv => by obtain ⟨x, rfl, hp⟩ := pI_r hv; exact hr x μ' hp) hx)
theorem e178_32_c : am_dc1 am_M178 32 (.invokevirtual 324) 3 = true := by decide +kernel
theorem b178_32 {d : Nat} {Q : Option Value ⊕ Nat → am_Mem → Prop} {μ : am_Mem} {r0 r90 : Nat} {x1 s1 : Int32} {P : am_Mem → Prop} {X : Nat → am_Mem → Prop}
    (hk : am_kd μ r90 = (1, 12))
    (hc : Wp d 181 (0, [some (.ref r90), some (.int s1), none, none], [], μ) (pV P X)) (hr : ∀ μ', P μ' → Wp (d + 1) 178 (35, [some (.ref r0), some (.int x1)], [], (μ')) Q)
    (hx : ∀ x μ', X x μ' → Q (.inr x) μ') :
    Wp (d + 1) 178 (32, [some (.ref r0), some (.int x1)], [.int s1, .ref r90], μ) Q := (wp_cv (as := [.int s1]) rfl e178_32_c rfl rfl rfl rfl rfl hk hc (fun v μ' hv => by obtain ⟨rfl, hp⟩ := pV_r hv; exact hr μ' hp) hx)
def q178_35 : List (Nat × Instr × Nat) := [(35, .aload_n 0, 1)]
theorem e178_35 : am_dec am_M178 q178_35 = true := by decide +kernel
theorem e178_35_c : am_dc1 am_M178 36 (.invokevirtual 275) 3 = true := by decide +kernel
theorem b178_35 {d : Nat} {Q : Option Value ⊕ Nat → am_Mem → Prop} {μ : am_Mem} {r0 : Nat} {x1 : Int32} {P : am_Mem → Prop} {X : Nat → am_Mem → Prop}
    (hk : am_kd μ r0 = (1, 12))
    (hc : Wp d 158 (0, [some (.ref r0), none, none], [], μ) (pV P X)) (hr : ∀ μ', P μ' → Wp (d + 1) 178 (39, [some (.ref r0), some (.int x1)], [], (μ')) Q)
    (hx : ∀ x μ', X x μ' → Q (.inr x) μ') :
    Wp (d + 1) 178 (35, [some (.ref r0), some (.int x1)], [], μ) Q := wp_blk rfl e178_35 (wp_cv (as := []) rfl e178_35_c rfl rfl rfl rfl rfl hk hc (fun v μ' hv => by obtain ⟨rfl, hp⟩ := pV_r hv; exact hr μ' hp) hx)
def q178_39 : List (Nat × Instr × Nat) := [(39, .goto 115, 3)]
theorem e178_39 : am_dec am_M178 q178_39 = true := by decide +kernel
theorem b178_39 {d : Nat} {Q : Option Value ⊕ Nat → am_Mem → Prop} {μ : am_Mem} {r0 : Nat} {x1 : Int32}
    (k : Wp d 178 (154, [some (.ref r0), some (.int x1)], [], μ) Q) :
    Wp d 178 (39, [some (.ref r0), some (.int x1)], [], μ) Q := wp_blk rfl e178_39 k
def q178_42 : List (Nat × Instr × Nat) := [(42, .aload_n 0, 1)]
theorem e178_42 : am_dec am_M178 q178_42 = true := by decide +kernel
theorem e178_42_c : am_dc1 am_M178 43 (.invokevirtual 293) 3 = true := by decide +kernel
theorem b178_42 {d : Nat} {Q : Option Value ⊕ Nat → am_Mem → Prop} {μ : am_Mem} {r0 : Nat} {P : Int32 → am_Mem → Prop} {X : Nat → am_Mem → Prop}
    (hk : am_kd μ r0 = (1, 12))
    (hc : Wp d 164 (0, [some (.ref r0), none], [], μ) (pI P X)) (hr : ∀ x μ', P x μ' → Wp (d + 1) 178 (46, [some (.ref r0), none], [.int x], (μ')) Q)
    (hx : ∀ x μ', X x μ' → Q (.inr x) μ') :
    Wp (d + 1) 178 (42, [some (.ref r0), none], [], μ) Q := wp_blk rfl e178_42 (wp_cv (as := []) rfl e178_42_c rfl rfl rfl rfl rfl hk hc (fun v μ' hv => by obtain ⟨x, rfl, hp⟩ := pI_r hv; exact hr x μ' hp) hx)
def q178_46 : List (Nat × Instr × Nat) := [(46, .ifCond .eq 31, 3)]
theorem e178_46 : am_dec am_M178 q178_46 = true := by decide +kernel
theorem b178_46 {d : Nat} {Q : Option Value ⊕ Nat → am_Mem → Prop} {μ : am_Mem} {r0 : Nat} {s0 : Int32}
    (k1 : s0 = 0 → Wp d 178 (77, [some (.ref r0), none], [], μ) Q) (k2 : ¬ (s0 = 0) → Wp d 178 (49, [some (.ref r0), none], [], μ) Q) :
    Wp d 178 (46, [some (.ref r0), none], [.int s0], μ) Q := wp_blk rfl e178_46 (And.intro k1 k2)
def q178_49 : List (Nat × Instr × Nat) := [(49, .aload_n 0, 1), (50, .aload_n 0, 1), (51, .aload_n 0, 1), (52, .aload_n 0, 1), (53, .getfield 244, 3), (56, .aload_n 0, 1), (57, .getfield 235, 3)]
theorem e178_49 : am_dec am_M178 q178_49 = true := by decide +kernel
theorem e178_49_c : am_dc1 am_M178 60 (.invokevirtual 264) 3 = true := by decide +kernel
theorem b178_49 {d : Nat} {Q : Option Value ⊕ Nat → am_Mem → Prop} {μ : am_Mem} {r0 : Nat} {P : Int32 → am_Mem → Prop} {X : Nat → am_Mem → Prop}
    (h1 : am_kd μ r0 = (1, 12))
    (h2 : am_kd μ r0 = (1, 12))
    (hk : am_kd μ r0 = (1, 12))
    (hc : Wp d 165 (0, [some (.ref r0), some (.int (am_A μ r0 30)), some (.int (am_A μ r0 31)), none, none, none], [], μ) (pI P X)) (hr : ∀ x μ', P x μ' → Wp (d + 1) 178 (63, [some (.ref r0), none], [.int x, .ref r0, .ref r0], (μ')) Q)
    (hx : ∀ x μ', X x μ' → Q (.inr x) μ') :
    Wp (d + 1) 178 (49, [some (.ref r0), none], [], μ) Q := wp_blk rfl e178_49 (And.intro h1 (And.intro h2 (wp_cv (as := [.int (am_A μ r0 30), .int (am_A μ r0 31)]) rfl e178_49_c rfl rfl rfl rfl rfl hk hc (fun v μ' hv => by obtain ⟨x, rfl, hp⟩ := pI_r hv; exact hr x μ' hp) hx)))
def q178_63 : List (Nat × Instr × Nat) := [(63, .iconst (-1), 1)]
theorem e178_63 : am_dec am_M178 q178_63 = true := by decide +kernel
theorem e178_63_c : am_dc1 am_M178 64 (.invokevirtual 321) 3 = true := by decide +kernel
theorem b178_63 {d : Nat} {Q : Option Value ⊕ Nat → am_Mem → Prop} {μ : am_Mem} {r0 r90 r91 : Nat} {s2 : Int32} {P : Int32 → am_Mem → Prop} {X : Nat → am_Mem → Prop}
    (hk : am_kd μ r91 = (1, 12))
    (hc : Wp d 180 (0, [some (.ref r91), some (.int s2), some (.int (Int32.ofInt (-1)))], [], μ) (pI P X)) (hr : ∀ x μ', P x μ' → Wp (d + 1) 178 (67, [some (.ref r0), none], [.int x, .ref r90], (μ')) Q)
    (hx : ∀ x μ', X x μ' → Q (.inr x) μ') :
    Wp (d + 1) 178 (63, [some (.ref r0), none], [.int s2, .ref r91, .ref r90], μ) Q := wp_blk rfl e178_63 (wp_cv (as := [.int s2, .int (Int32.ofInt (-1))]) rfl e178_63_c rfl rfl rfl rfl rfl hk hc (fun v μ' hv => by obtain ⟨x, rfl, hp⟩ := pI_r hv; exact hr x μ' hp) hx)
theorem e178_67_c : am_dc1 am_M178 67 (.invokevirtual 324) 3 = true := by decide +kernel
theorem b178_67 {d : Nat} {Q : Option Value ⊕ Nat → am_Mem → Prop} {μ : am_Mem} {r0 r90 : Nat} {s1 : Int32} {P : am_Mem → Prop} {X : Nat → am_Mem → Prop}
    (hk : am_kd μ r90 = (1, 12))
    (hc : Wp d 181 (0, [some (.ref r90), some (.int s1), none, none], [], μ) (pV P X)) (hr : ∀ μ', P μ' → Wp (d + 1) 178 (70, [some (.ref r0), none], [], (μ')) Q)
    (hx : ∀ x μ', X x μ' → Q (.inr x) μ') :
    Wp (d + 1) 178 (67, [some (.ref r0), none], [.int s1, .ref r90], μ) Q := (wp_cv (as := [.int s1]) rfl e178_67_c rfl rfl rfl rfl rfl hk hc (fun v μ' hv => by obtain ⟨rfl, hp⟩ := pV_r hv; exact hr μ' hp) hx)
def q178_70 : List (Nat × Instr × Nat) := [(70, .aload_n 0, 1)]
theorem e178_70 : am_dec am_M178 q178_70 = true := by decide +kernel
theorem e178_70_c : am_dc1 am_M178 71 (.invokevirtual 275) 3 = true := by decide +kernel
theorem b178_70 {d : Nat} {Q : Option Value ⊕ Nat → am_Mem → Prop} {μ : am_Mem} {r0 : Nat} {P : am_Mem → Prop} {X : Nat → am_Mem → Prop}
    (hk : am_kd μ r0 = (1, 12))
    (hc : Wp d 158 (0, [some (.ref r0), none, none], [], μ) (pV P X)) (hr : ∀ μ', P μ' → Wp (d + 1) 178 (74, [some (.ref r0), none], [], (μ')) Q)
    (hx : ∀ x μ', X x μ' → Q (.inr x) μ') :
    Wp (d + 1) 178 (70, [some (.ref r0), none], [], μ) Q := wp_blk rfl e178_70 (wp_cv (as := []) rfl e178_70_c rfl rfl rfl rfl rfl hk hc (fun v μ' hv => by obtain ⟨rfl, hp⟩ := pV_r hv; exact hr μ' hp) hx)
def q178_74 : List (Nat × Instr × Nat) := [(74, .goto 80, 3)]
theorem e178_74 : am_dec am_M178 q178_74 = true := by decide +kernel
theorem b178_74 {d : Nat} {Q : Option Value ⊕ Nat → am_Mem → Prop} {μ : am_Mem} {r0 : Nat}
    (k : Wp d 178 (154, [some (.ref r0), none], [], μ) Q) :
    Wp d 178 (74, [some (.ref r0), none], [], μ) Q := wp_blk rfl e178_74 k
def q178_77 : List (Nat × Instr × Nat) := [(77, .aload_n 0, 1), (78, .getfield 247, 3), (81, .iconst 1, 1), (82, .if_icmp .eq 15, 3)]
theorem e178_77 : am_dec am_M178 q178_77 = true := by decide +kernel
theorem b178_77 {d : Nat} {Q : Option Value ⊕ Nat → am_Mem → Prop} {μ : am_Mem} {r0 : Nat}
    (h1 : am_kd μ r0 = (1, 12))
    (k1 : (am_A μ r0 28) = (Int32.ofInt 1) → Wp d 178 (97, [some (.ref r0), none], [], μ) Q) (k2 : ¬ ((am_A μ r0 28) = (Int32.ofInt 1)) → Wp d 178 (85, [some (.ref r0), none], [], μ) Q) :
    Wp d 178 (77, [some (.ref r0), none], [], μ) Q := wp_blk rfl e178_77 (And.intro h1 (And.intro k1 k2))
def q178_85 : List (Nat × Instr × Nat) := [(85, .aload_n 0, 1), (86, .iconst 1, 1), (87, .aload_n 0, 1), (88, .getfield 241, 3)]
theorem e178_85 : am_dec am_M178 q178_85 = true := by decide +kernel
theorem e178_85_c : am_dc1 am_M178 91 (.invokevirtual 271) 3 = true := by decide +kernel
theorem b178_85 {d : Nat} {Q : Option Value ⊕ Nat → am_Mem → Prop} {μ : am_Mem} {r0 : Nat} {P : am_Mem → Prop} {X : Nat → am_Mem → Prop}
    (h1 : am_kd μ r0 = (1, 12))
    (hk : am_kd μ r0 = (1, 12))
    (hc : Wp d 166 (0, [some (.ref r0), some (.int (Int32.ofInt 1)), some (.int (am_A μ r0 29))], [], μ) (pV P X)) (hr : ∀ μ', P μ' → Wp (d + 1) 178 (94, [some (.ref r0), none], [], (μ')) Q)
    (hx : ∀ x μ', X x μ' → Q (.inr x) μ') :
    Wp (d + 1) 178 (85, [some (.ref r0), none], [], μ) Q := wp_blk rfl e178_85 (And.intro h1 (wp_cv (as := [.int (Int32.ofInt 1), .int (am_A μ r0 29)]) rfl e178_85_c rfl rfl rfl rfl rfl hk hc (fun v μ' hv => by obtain ⟨rfl, hp⟩ := pV_r hv; exact hr μ' hp) hx))
def q178_94 : List (Nat × Instr × Nat) := [(94, .goto 60, 3)]
theorem e178_94 : am_dec am_M178 q178_94 = true := by decide +kernel
theorem b178_94 {d : Nat} {Q : Option Value ⊕ Nat → am_Mem → Prop} {μ : am_Mem} {r0 : Nat}
    (k : Wp d 178 (154, [some (.ref r0), none], [], μ) Q) :
    Wp d 178 (94, [some (.ref r0), none], [], μ) Q := wp_blk rfl e178_94 k
def q178_97 : List (Nat × Instr × Nat) := [(97, .aload_n 0, 1)]
theorem e178_97 : am_dec am_M178 q178_97 = true := by decide +kernel
theorem e178_97_c : am_dc1 am_M178 98 (.invokevirtual 304) 3 = true := by decide +kernel
theorem b178_97 {d : Nat} {Q : Option Value ⊕ Nat → am_Mem → Prop} {μ : am_Mem} {r0 : Nat} {P : Int32 → am_Mem → Prop} {X : Nat → am_Mem → Prop}
    (hk : am_kd μ r0 = (1, 12))
    (hc : Wp d 169 (0, [some (.ref r0)], [], μ) (pI P X)) (hr : ∀ x μ', P x μ' → Wp (d + 1) 178 (101, [some (.ref r0), none], [.int x], (μ')) Q)
    (hx : ∀ x μ', X x μ' → Q (.inr x) μ') :
    Wp (d + 1) 178 (97, [some (.ref r0), none], [], μ) Q := wp_blk rfl e178_97 (wp_cv (as := []) rfl e178_97_c rfl rfl rfl rfl rfl hk hc (fun v μ' hv => by obtain ⟨x, rfl, hp⟩ := pI_r hv; exact hr x μ' hp) hx)
def q178_101 : List (Nat × Instr × Nat) := [(101, .ifCond .eq 53, 3)]
theorem e178_101 : am_dec am_M178 q178_101 = true := by decide +kernel
theorem b178_101 {d : Nat} {Q : Option Value ⊕ Nat → am_Mem → Prop} {μ : am_Mem} {r0 : Nat} {s0 : Int32}
    (k1 : s0 = 0 → Wp d 178 (154, [some (.ref r0), none], [], μ) Q) (k2 : ¬ (s0 = 0) → Wp d 178 (104, [some (.ref r0), none], [], μ) Q) :
    Wp d 178 (101, [some (.ref r0), none], [.int s0], μ) Q := wp_blk rfl e178_101 (And.intro k1 k2)
def q178_104 : List (Nat × Instr × Nat) := [(104, .aload_n 0, 1)]
theorem e178_104 : am_dec am_M178 q178_104 = true := by decide +kernel
theorem e178_104_c : am_dc1 am_M178 105 (.invokevirtual 293) 3 = true := by decide +kernel
theorem b178_104 {d : Nat} {Q : Option Value ⊕ Nat → am_Mem → Prop} {μ : am_Mem} {r0 : Nat} {P : Int32 → am_Mem → Prop} {X : Nat → am_Mem → Prop}
    (hk : am_kd μ r0 = (1, 12))
    (hc : Wp d 164 (0, [some (.ref r0), none], [], μ) (pI P X)) (hr : ∀ x μ', P x μ' → Wp (d + 1) 178 (108, [some (.ref r0), none], [.int x], (μ')) Q)
    (hx : ∀ x μ', X x μ' → Q (.inr x) μ') :
    Wp (d + 1) 178 (104, [some (.ref r0), none], [], μ) Q := wp_blk rfl e178_104 (wp_cv (as := []) rfl e178_104_c rfl rfl rfl rfl rfl hk hc (fun v μ' hv => by obtain ⟨x, rfl, hp⟩ := pI_r hv; exact hr x μ' hp) hx)
def q178_108 : List (Nat × Instr × Nat) := [(108, .ifCond .ne 13, 3)]
theorem e178_108 : am_dec am_M178 q178_108 = true := by decide +kernel
theorem b178_108 {d : Nat} {Q : Option Value ⊕ Nat → am_Mem → Prop} {μ : am_Mem} {r0 : Nat} {s0 : Int32}
    (k1 : ¬ s0 = 0 → Wp d 178 (121, [some (.ref r0), none], [], μ) Q) (k2 : ¬ (¬ s0 = 0) → Wp d 178 (111, [some (.ref r0), none], [], μ) Q) :
    Wp d 178 (108, [some (.ref r0), none], [.int s0], μ) Q := wp_blk rfl e178_108 (And.intro k1 k2)
def q178_111 : List (Nat × Instr × Nat) := [(111, .aload_n 0, 1), (112, .iconst 1, 1), (113, .aload_n 0, 1), (114, .getfield 241, 3)]
theorem e178_111 : am_dec am_M178 q178_111 = true := by decide +kernel
theorem e178_111_c : am_dc1 am_M178 117 (.invokevirtual 271) 3 = true := by decide +kernel
theorem b178_111 {d : Nat} {Q : Option Value ⊕ Nat → am_Mem → Prop} {μ : am_Mem} {r0 : Nat} {P : am_Mem → Prop} {X : Nat → am_Mem → Prop}
    (h1 : am_kd μ r0 = (1, 12))
    (hk : am_kd μ r0 = (1, 12))
    (hc : Wp d 166 (0, [some (.ref r0), some (.int (Int32.ofInt 1)), some (.int (am_A μ r0 29))], [], μ) (pV P X)) (hr : ∀ μ', P μ' → Wp (d + 1) 178 (120, [some (.ref r0), none], [], (μ')) Q)
    (hx : ∀ x μ', X x μ' → Q (.inr x) μ') :
    Wp (d + 1) 178 (111, [some (.ref r0), none], [], μ) Q := wp_blk rfl e178_111 (And.intro h1 (wp_cv (as := [.int (Int32.ofInt 1), .int (am_A μ r0 29)]) rfl e178_111_c rfl rfl rfl rfl rfl hk hc (fun v μ' hv => by obtain ⟨rfl, hp⟩ := pV_r hv; exact hr μ' hp) hx))
theorem e178_120_r : am_dec am_M178 [(120, .return_, 1)] = true := by decide +kernel
theorem b178_120 {d : Nat} {Q : Option Value ⊕ Nat → am_Mem → Prop} {μ : am_Mem} {r0 : Nat}
    (k : Q (.inl none) μ) :
    Wp d 178 (120, [some (.ref r0), none], [], μ) Q := (wp_rv rfl e178_120_r rfl k)
def q178_121 : List (Nat × Instr × Nat) := [(121, .aload_n 0, 1), (122, .aload_n 0, 1), (123, .aload_n 0, 1), (124, .getfield 244, 3), (127, .aload_n 0, 1), (128, .getfield 235, 3)]
theorem e178_121 : am_dec am_M178 q178_121 = true := by decide +kernel
theorem e178_121_c : am_dc1 am_M178 131 (.invokevirtual 264) 3 = true := by decide +kernel
theorem b178_121 {d : Nat} {Q : Option Value ⊕ Nat → am_Mem → Prop} {μ : am_Mem} {r0 : Nat} {P : Int32 → am_Mem → Prop} {X : Nat → am_Mem → Prop}
    (h1 : am_kd μ r0 = (1, 12))
    (h2 : am_kd μ r0 = (1, 12))
    (hk : am_kd μ r0 = (1, 12))
    (hc : Wp d 165 (0, [some (.ref r0), some (.int (am_A μ r0 30)), some (.int (am_A μ r0 31)), none, none, none], [], μ) (pI P X)) (hr : ∀ x μ', P x μ' → Wp (d + 1) 178 (134, [some (.ref r0), none], [.int x, .ref r0], (μ')) Q)
    (hx : ∀ x μ', X x μ' → Q (.inr x) μ') :
    Wp (d + 1) 178 (121, [some (.ref r0), none], [], μ) Q := wp_blk rfl e178_121 (And.intro h1 (And.intro h2 (wp_cv (as := [.int (am_A μ r0 30), .int (am_A μ r0 31)]) rfl e178_121_c rfl rfl rfl rfl rfl hk hc (fun v μ' hv => by obtain ⟨x, rfl, hp⟩ := pI_r hv; exact hr x μ' hp) hx)))
def q178_134 : List (Nat × Instr × Nat) := [(134, .iconst (-1), 1)]
theorem e178_134 : am_dec am_M178 q178_134 = true := by decide +kernel
theorem e178_134_c : am_dc1 am_M178 135 (.invokevirtual 321) 3 = true := by decide +kernel
theorem b178_134 {d : Nat} {Q : Option Value ⊕ Nat → am_Mem → Prop} {μ : am_Mem} {r0 r90 : Nat} {s1 : Int32} {P : Int32 → am_Mem → Prop} {X : Nat → am_Mem → Prop}
    (hk : am_kd μ r90 = (1, 12))
    (hc : Wp d 180 (0, [some (.ref r90), some (.int s1), some (.int (Int32.ofInt (-1)))], [], μ) (pI P X)) (hr : ∀ x μ', P x μ' → Wp (d + 1) 178 (138, [some (.ref r0), none], [.int x], (μ')) Q)
    (hx : ∀ x μ', X x μ' → Q (.inr x) μ') :
    Wp (d + 1) 178 (134, [some (.ref r0), none], [.int s1, .ref r90], μ) Q := wp_blk rfl e178_134 (wp_cv (as := [.int s1, .int (Int32.ofInt (-1))]) rfl e178_134_c rfl rfl rfl rfl rfl hk hc (fun v μ' hv => by obtain ⟨x, rfl, hp⟩ := pI_r hv; exact hr x μ' hp) hx)
def q178_138 : List (Nat × Instr × Nat) := [(138, .istore_n 1, 1), (139, .aload_n 0, 1), (140, .iload_n 1, 1)]
theorem e178_138 : am_dec am_M178 q178_138 = true := by decide +kernel
theorem e178_138_c : am_dc1 am_M178 141 (.invokevirtual 324) 3 = true := by decide +kernel
theorem b178_138 {d : Nat} {Q : Option Value ⊕ Nat → am_Mem → Prop} {μ : am_Mem} {r0 : Nat} {s0 : Int32} {P : am_Mem → Prop} {X : Nat → am_Mem → Prop}
    (hk : am_kd μ r0 = (1, 12))
    (hc : Wp d 181 (0, [some (.ref r0), some (.int s0), none, none], [], μ) (pV P X)) (hr : ∀ μ', P μ' → Wp (d + 1) 178 (144, [some (.ref r0), some (.int s0)], [], (μ')) Q)
    (hx : ∀ x μ', X x μ' → Q (.inr x) μ') :
    Wp (d + 1) 178 (138, [some (.ref r0), none], [.int s0], μ) Q := wp_blk rfl e178_138 (wp_cv (as := [.int s0]) rfl e178_138_c rfl rfl rfl rfl rfl hk hc (fun v μ' hv => by obtain ⟨rfl, hp⟩ := pV_r hv; exact hr μ' hp) hx)
def q178_144 : List (Nat × Instr × Nat) := [(144, .aload_n 0, 1), (145, .iconst 5, 1), (146, .iload_n 1, 1)]
theorem e178_144 : am_dec am_M178 q178_144 = true := by decide +kernel
theorem e178_144_c : am_dc1 am_M178 147 (.invokevirtual 307) 3 = true := by decide +kernel
theorem b178_144 {d : Nat} {Q : Option Value ⊕ Nat → am_Mem → Prop} {μ : am_Mem} {r0 : Nat} {x1 : Int32} {P : am_Mem → Prop} {X : Nat → am_Mem → Prop}
    (hk : am_kd μ r0 = (1, 12))
    (hc : Wp d 170 (0, [some (.ref r0), some (.int (Int32.ofInt 5)), some (.int x1)], [], μ) (pV P X)) (hr : ∀ μ', P μ' → Wp (d + 1) 178 (150, [some (.ref r0), some (.int x1)], [], (μ')) Q)
    (hx : ∀ x μ', X x μ' → Q (.inr x) μ') :
    Wp (d + 1) 178 (144, [some (.ref r0), some (.int x1)], [], μ) Q := wp_blk rfl e178_144 (wp_cv (as := [.int (Int32.ofInt 5), .int x1]) rfl e178_144_c rfl rfl rfl rfl rfl hk hc (fun v μ' hv => by obtain ⟨rfl, hp⟩ := pV_r hv; exact hr μ' hp) hx)
def q178_150 : List (Nat × Instr × Nat) := [(150, .aload_n 0, 1)]
theorem e178_150 : am_dec am_M178 q178_150 = true := by decide +kernel
theorem e178_150_c : am_dc1 am_M178 151 (.invokevirtual 275) 3 = true := by decide +kernel
theorem b178_150 {d : Nat} {Q : Option Value ⊕ Nat → am_Mem → Prop} {μ : am_Mem} {r0 : Nat} {x1 : Int32} {P : am_Mem → Prop} {X : Nat → am_Mem → Prop}
    (hk : am_kd μ r0 = (1, 12))
    (hc : Wp d 158 (0, [some (.ref r0), none, none], [], μ) (pV P X)) (hr : ∀ μ', P μ' → Wp (d + 1) 178 (154, [some (.ref r0), some (.int x1)], [], (μ')) Q)
    (hx : ∀ x μ', X x μ' → Q (.inr x) μ') :
    Wp (d + 1) 178 (150, [some (.ref r0), some (.int x1)], [], μ) Q := wp_blk rfl e178_150 (wp_cv (as := []) rfl e178_150_c rfl rfl rfl rfl rfl hk hc (fun v μ' hv => by obtain ⟨rfl, hp⟩ := pV_r hv; exact hr μ' hp) hx)
theorem e178_154_r : am_dec am_M178 [(154, .return_, 1)] = true := by decide +kernel
theorem b178_154 {d : Nat} {Q : Option Value ⊕ Nat → am_Mem → Prop} {μ : am_Mem} {r0 : Nat} {o1 : Option Value}
    (k : Q (.inl none) μ) :
    Wp d 178 (154, [some (.ref r0), o1], [], μ) Q := (wp_rv rfl e178_154_r rfl k)
/-! RuleSheetsModel.variableOf(I)I -/
def q179_0 : List (Nat × Instr × Nat) := [(0, .iconst 0, 1), (1, .istore_n 2, 1)]
theorem e179_0 : am_dec am_M179 q179_0 = true := by decide +kernel
theorem b179_0 {d : Nat} {Q : Option Value ⊕ Nat → am_Mem → Prop} {μ : am_Mem} {r0 : Nat} {x1 : Int32}
    (k : Wp d 179 (2, [some (.ref r0), some (.int x1), some (.int (Int32.ofInt 0))], [], μ) Q) :
    Wp d 179 (0, [some (.ref r0), some (.int x1), none], [], μ) Q := wp_blk rfl e179_0 k
def q179_2 : List (Nat × Instr × Nat) := [(2, .iload_n 2, 1), (3, .aload_n 0, 1), (4, .getfield 290, 3), (7, .if_icmp .ge 21, 3)]
theorem e179_2 : am_dec am_M179 q179_2 = true := by decide +kernel
theorem b179_2 {d : Nat} {Q : Option Value ⊕ Nat → am_Mem → Prop} {μ : am_Mem} {r0 : Nat} {x1 x2 : Int32}
    (h1 : am_kd μ r0 = (1, 12))
    (k1 : (am_A μ r0 38) ≤ x2 → Wp d 179 (28, [some (.ref r0), some (.int x1), some (.int x2)], [], μ) Q) (k2 : ¬ ((am_A μ r0 38) ≤ x2) → Wp d 179 (10, [some (.ref r0), some (.int x1), some (.int x2)], [], μ) Q) :
    Wp d 179 (2, [some (.ref r0), some (.int x1), some (.int x2)], [], μ) Q := wp_blk rfl e179_2 (And.intro h1 (And.intro k1 k2))
def q179_10 : List (Nat × Instr × Nat) := [(10, .aload_n 0, 1), (11, .getfield 74, 3), (14, .iload_n 2, 1), (15, .iaload, 1), (16, .iload_n 1, 1), (17, .if_icmp .ne 5, 3)]
theorem e179_10 : am_dec am_M179 q179_10 = true := by decide +kernel
theorem b179_10 {d : Nat} {Q : Option Value ⊕ Nat → am_Mem → Prop} {μ : am_Mem} {r0 : Nat} {x1 x2 : Int32}
    (h1 : am_kd μ r0 = (1, 12))
    (h2 : ¬ am_F μ r0 39 = 15)
    (h3 : (am_kd μ (am_F μ r0 39)).1 = 2 ∨ (am_kd μ (am_F μ r0 39)).1 = 8)
    (h4 : ¬ (x2 < 0 ∨ (am_kd μ (am_F μ r0 39)).2 ≤ x2.toNatClampNeg))
    (k1 : ¬ (am_A μ (am_F μ r0 39) x2.toNatClampNeg) = x1 → Wp d 179 (22, [some (.ref r0), some (.int x1), some (.int x2)], [], μ) Q) (k2 : ¬ (¬ (am_A μ (am_F μ r0 39) x2.toNatClampNeg) = x1) → Wp d 179 (20, [some (.ref r0), some (.int x1), some (.int x2)], [], μ) Q) :
    Wp d 179 (10, [some (.ref r0), some (.int x1), some (.int x2)], [], μ) Q := wp_blk rfl e179_10 (And.intro h1 (And.intro h2 (And.intro h3 (And.intro h4 (And.intro k1 k2)))))
def q179_20 : List (Nat × Instr × Nat) := [(20, .iload_n 2, 1)]
theorem e179_20 : am_dec am_M179 q179_20 = true := by decide +kernel
theorem e179_20_r : am_dec am_M179 [(21, .ireturn, 1)] = true := by decide +kernel
theorem b179_20 {d : Nat} {Q : Option Value ⊕ Nat → am_Mem → Prop} {μ : am_Mem} {r0 : Nat} {x1 x2 : Int32}
    (k : Q (.inl (some (.int x2))) μ) :
    Wp d 179 (20, [some (.ref r0), some (.int x1), some (.int x2)], [], μ) Q := wp_blk rfl e179_20 (wp_ri (ty := .int) rfl e179_20_r rfl ⟨rfl, rfl⟩ k)
def q179_22 : List (Nat × Instr × Nat) := [(22, .iinc 2 1, 3), (25, .goto (-23), 3)]
theorem e179_22 : am_dec am_M179 q179_22 = true := by decide +kernel
theorem b179_22 {d : Nat} {Q : Option Value ⊕ Nat → am_Mem → Prop} {μ : am_Mem} {r0 : Nat} {x1 x2 : Int32}
    (k : Wp d 179 (2, [some (.ref r0), some (.int x1), some (.int (x2 + Int32.ofInt 1))], [], μ) Q) :
    Wp d 179 (22, [some (.ref r0), some (.int x1), some (.int x2)], [], μ) Q := wp_blk rfl e179_22 k
def q179_28 : List (Nat × Instr × Nat) := [(28, .aload_n 0, 1), (29, .getfield 290, 3), (32, .bipush 8, 2), (34, .if_icmp .ne 14, 3)]
theorem e179_28 : am_dec am_M179 q179_28 = true := by decide +kernel
theorem b179_28 {d : Nat} {Q : Option Value ⊕ Nat → am_Mem → Prop} {μ : am_Mem} {r0 : Nat} {x1 x2 : Int32}
    (h1 : am_kd μ r0 = (1, 12))
    (k1 : ¬ (am_A μ r0 38) = ((Int8.ofInt 8).toInt32) → Wp d 179 (48, [some (.ref r0), some (.int x1), some (.int x2)], [], μ) Q) (k2 : ¬ (¬ (am_A μ r0 38) = ((Int8.ofInt 8).toInt32)) → Wp d 179 (37, [some (.ref r0), some (.int x1), some (.int x2)], [], μ) Q) :
    Wp d 179 (28, [some (.ref r0), some (.int x1), some (.int x2)], [], μ) Q := wp_blk rfl e179_28 (And.intro h1 (And.intro k1 k2))
def q179_37 : List (Nat × Instr × Nat) := [(37, .aload_n 0, 1), (38, .iconst 1, 1), (39, .aload_n 0, 1), (40, .getfield 241, 3)]
theorem e179_37 : am_dec am_M179 q179_37 = true := by decide +kernel
theorem e179_37_c : am_dc1 am_M179 43 (.invokevirtual 271) 3 = true := by decide +kernel
theorem b179_37 {d : Nat} {Q : Option Value ⊕ Nat → am_Mem → Prop} {μ : am_Mem} {r0 : Nat} {x1 x2 : Int32} {P : am_Mem → Prop} {X : Nat → am_Mem → Prop}
    (h1 : am_kd μ r0 = (1, 12))
    (hk : am_kd μ r0 = (1, 12))
    (hc : Wp d 166 (0, [some (.ref r0), some (.int (Int32.ofInt 1)), some (.int (am_A μ r0 29))], [], μ) (pV P X)) (hr : ∀ μ', P μ' → Wp (d + 1) 179 (46, [some (.ref r0), some (.int x1), some (.int x2)], [], (μ')) Q)
    (hx : ∀ x μ', X x μ' → Q (.inr x) μ') :
    Wp (d + 1) 179 (37, [some (.ref r0), some (.int x1), some (.int x2)], [], μ) Q := wp_blk rfl e179_37 (And.intro h1 (wp_cv (as := [.int (Int32.ofInt 1), .int (am_A μ r0 29)]) rfl e179_37_c rfl rfl rfl rfl rfl hk hc (fun v μ' hv => by obtain ⟨rfl, hp⟩ := pV_r hv; exact hr μ' hp) hx))
def q179_46 : List (Nat × Instr × Nat) := [(46, .iconst 0, 1)]
theorem e179_46 : am_dec am_M179 q179_46 = true := by decide +kernel
theorem e179_46_r : am_dec am_M179 [(47, .ireturn, 1)] = true := by decide +kernel
theorem b179_46 {d : Nat} {Q : Option Value ⊕ Nat → am_Mem → Prop} {μ : am_Mem} {r0 : Nat} {x1 x2 : Int32}
    (k : Q (.inl (some (.int (Int32.ofInt 0)))) μ) :
    Wp d 179 (46, [some (.ref r0), some (.int x1), some (.int x2)], [], μ) Q := wp_blk rfl e179_46 (wp_ri (ty := .int) rfl e179_46_r rfl ⟨rfl, rfl⟩ k)
def q179_48 : List (Nat × Instr × Nat) := [(48, .aload_n 0, 1), (49, .getfield 74, 3), (52, .aload_n 0, 1), (53, .getfield 290, 3), (56, .iload_n 1, 1), (57, .iastore, 1), (58, .aload_n 0, 1), (59, .dup, 1), (60, .getfield 290, 3), (63, .iconst 1, 1), (64, .iadd, 1), (65, .putfield 290, 3)]
theorem e179_48 : am_dec am_M179 q179_48 = true := by decide +kernel
theorem b179_48 {d : Nat} {Q : Option Value ⊕ Nat → am_Mem → Prop} {μ : am_Mem} {r0 : Nat} {x1 x2 : Int32}
    (h1 : am_kd μ r0 = (1, 12))
    (h2 : ¬ am_F μ r0 39 = 15)
    (h3 : am_kd μ r0 = (1, 12))
    (h4 : (am_kd μ (am_F μ r0 39)).1 = 2)
    (h5 : ¬ ((am_A μ r0 38) < 0 ∨ (am_kd μ (am_F μ r0 39)).2 ≤ (am_A μ r0 38).toNatClampNeg))
    (h6 : am_kd (am_pA μ (am_F μ r0 39) (am_A μ r0 38).toNatClampNeg x1) r0 = (1, 12))
    (h7 : am_kd (am_pA μ (am_F μ r0 39) (am_A μ r0 38).toNatClampNeg x1) r0 = (1, 12))
    (k : Wp d 179 (68, [some (.ref r0), some (.int x1), some (.int x2)], [], (am_pA (am_pA μ (am_F μ r0 39) (am_A μ r0 38).toNatClampNeg x1) r0 38 ((am_A (am_pA μ (am_F μ r0 39) (am_A μ r0 38).toNatClampNeg x1) r0 38) + (Int32.ofInt 1)))) Q) :
    Wp d 179 (48, [some (.ref r0), some (.int x1), some (.int x2)], [], μ) Q := wp_blk rfl e179_48 (And.intro h1 (And.intro h2 (And.intro h3 (And.intro h4 (And.intro h5 (And.intro h6 (And.intro h7 (And.intro ⟨rfl, rfl⟩ k))))))))
def q179_68 : List (Nat × Instr × Nat) := [(68, .aload_n 0, 1), (69, .getfield 290, 3), (72, .iconst 1, 1), (73, .isub, 1)]
theorem e179_68 : am_dec am_M179 q179_68 = true := by decide +kernel
theorem e179_68_r : am_dec am_M179 [(74, .ireturn, 1)] = true := by decide +kernel
theorem b179_68 {d : Nat} {Q : Option Value ⊕ Nat → am_Mem → Prop} {μ : am_Mem} {r0 : Nat} {x1 x2 : Int32}
    (h1 : am_kd μ r0 = (1, 12))
    (k : Q (.inl (some (.int ((am_A μ r0 38) - (Int32.ofInt 1))))) μ) :
    Wp d 179 (68, [some (.ref r0), some (.int x1), some (.int x2)], [], μ) Q := wp_blk rfl e179_68 (And.intro h1 (wp_ri (ty := .int) rfl e179_68_r rfl ⟨rfl, rfl⟩ k))
/-! RuleSheetsModel.newNode(II)I -/
def q180_0 : List (Nat × Instr × Nat) := [(0, .aload_n 0, 1), (1, .getfield 50, 3), (4, .aload_n 0, 1), (5, .getfield 281, 3), (8, .iload_n 1, 1), (9, .iastore, 1), (10, .aload_n 0, 1), (11, .getfield 53, 3), (14, .aload_n 0, 1), (15, .getfield 281, 3), (18, .iload_n 2, 1), (19, .iastore, 1)]
theorem e180_0 : am_dec am_M180 q180_0 = true := by decide +kernel
theorem b180_0 {d : Nat} {Q : Option Value ⊕ Nat → am_Mem → Prop} {μ : am_Mem} {r0 : Nat} {x1 x2 : Int32}
    (h1 : am_kd μ r0 = (1, 12))
    (h2 : ¬ am_F μ r0 23 = 15)
    (h3 : am_kd μ r0 = (1, 12))
    (h4 : (am_kd μ (am_F μ r0 23)).1 = 2)
    (h5 : ¬ ((am_A μ r0 22) < 0 ∨ (am_kd μ (am_F μ r0 23)).2 ≤ (am_A μ r0 22).toNatClampNeg))
    (h6 : am_kd (am_pA μ (am_F μ r0 23) (am_A μ r0 22).toNatClampNeg x1) r0 = (1, 12))
    (h7 : ¬ am_F (am_pA μ (am_F μ r0 23) (am_A μ r0 22).toNatClampNeg x1) r0 24 = 15)
    (h8 : am_kd (am_pA μ (am_F μ r0 23) (am_A μ r0 22).toNatClampNeg x1) r0 = (1, 12))
    (h9 : (am_kd (am_pA μ (am_F μ r0 23) (am_A μ r0 22).toNatClampNeg x1) (am_F (am_pA μ (am_F μ r0 23) (am_A μ r0 22).toNatClampNeg x1) r0 24)).1 = 2)
    (h10 : ¬ ((am_A (am_pA μ (am_F μ r0 23) (am_A μ r0 22).toNatClampNeg x1) r0 22) < 0 ∨ (am_kd (am_pA μ (am_F μ r0 23) (am_A μ r0 22).toNatClampNeg x1) (am_F (am_pA μ (am_F μ r0 23) (am_A μ r0 22).toNatClampNeg x1) r0 24)).2 ≤ (am_A (am_pA μ (am_F μ r0 23) (am_A μ r0 22).toNatClampNeg x1) r0 22).toNatClampNeg))
    (k : Wp d 180 (20, [some (.ref r0), some (.int x1), some (.int x2)], [], (am_pA (am_pA μ (am_F μ r0 23) (am_A μ r0 22).toNatClampNeg x1) (am_F (am_pA μ (am_F μ r0 23) (am_A μ r0 22).toNatClampNeg x1) r0 24) (am_A (am_pA μ (am_F μ r0 23) (am_A μ r0 22).toNatClampNeg x1) r0 22).toNatClampNeg x2)) Q) :
    Wp d 180 (0, [some (.ref r0), some (.int x1), some (.int x2)], [], μ) Q := wp_blk rfl e180_0 (And.intro h1 (And.intro h2 (And.intro h3 (And.intro h4 (And.intro h5 (And.intro h6 (And.intro h7 (And.intro h8 (And.intro h9 (And.intro h10 k))))))))))
def q180_20 : List (Nat × Instr × Nat) := [(20, .aload_n 0, 1), (21, .getfield 56, 3), (24, .aload_n 0, 1), (25, .getfield 281, 3), (28, .iconst 0, 1), (29, .iastore, 1), (30, .aload_n 0, 1), (31, .getfield 62, 3), (34, .aload_n 0, 1), (35, .getfield 281, 3), (38, .aload_n 0, 1), (39, .getfield 281, 3), (42, .iconst 1, 1), (43, .iadd, 1), (44, .iastore, 1)]
theorem e180_20 : am_dec am_M180 q180_20 = true := by decide +kernel
theorem b180_20 {d : Nat} {Q : Option Value ⊕ Nat → am_Mem → Prop} {μ : am_Mem} {r0 : Nat} {x1 x2 : Int32}
    (h1 : am_kd μ r0 = (1, 12))
    (h2 : ¬ am_F μ r0 25 = 15)
    (h3 : am_kd μ r0 = (1, 12))
    (h4 : (am_kd μ (am_F μ r0 25)).1 = 2)
    (h5 : ¬ ((am_A μ r0 22) < 0 ∨ (am_kd μ (am_F μ r0 25)).2 ≤ (am_A μ r0 22).toNatClampNeg))
    (h6 : am_kd (am_pA μ (am_F μ r0 25) (am_A μ r0 22).toNatClampNeg (Int32.ofInt 0)) r0 = (1, 12))
    (h7 : ¬ am_F (am_pA μ (am_F μ r0 25) (am_A μ r0 22).toNatClampNeg (Int32.ofInt 0)) r0 27 = 15)
    (h8 : am_kd (am_pA μ (am_F μ r0 25) (am_A μ r0 22).toNatClampNeg (Int32.ofInt 0)) r0 = (1, 12))
    (h9 : am_kd (am_pA μ (am_F μ r0 25) (am_A μ r0 22).toNatClampNeg (Int32.ofInt 0)) r0 = (1, 12))
    (h10 : (am_kd (am_pA μ (am_F μ r0 25) (am_A μ r0 22).toNatClampNeg (Int32.ofInt 0)) (am_F (am_pA μ (am_F μ r0 25) (am_A μ r0 22).toNatClampNeg (Int32.ofInt 0)) r0 27)).1 = 2)
    (h11 : ¬ ((am_A (am_pA μ (am_F μ r0 25) (am_A μ r0 22).toNatClampNeg (Int32.ofInt 0)) r0 22) < 0 ∨ (am_kd (am_pA μ (am_F μ r0 25) (am_A μ r0 22).toNatClampNeg (Int32.ofInt 0)) (am_F (am_pA μ (am_F μ r0 25) (am_A μ r0 22).toNatClampNeg (Int32.ofInt 0)) r0 27)).2 ≤ (am_A (am_pA μ (am_F μ r0 25) (am_A μ r0 22).toNatClampNeg (Int32.ofInt 0)) r0 22).toNatClampNeg))
    (k : Wp d 180 (45, [some (.ref r0), some (.int x1), some (.int x2)], [], (am_pA (am_pA μ (am_F μ r0 25) (am_A μ r0 22).toNatClampNeg (Int32.ofInt 0)) (am_F (am_pA μ (am_F μ r0 25) (am_A μ r0 22).toNatClampNeg (Int32.ofInt 0)) r0 27) (am_A (am_pA μ (am_F μ r0 25) (am_A μ r0 22).toNatClampNeg (Int32.ofInt 0)) r0 22).toNatClampNeg ((am_A (am_pA μ (am_F μ r0 25) (am_A μ r0 22).toNatClampNeg (Int32.ofInt 0)) r0 22) + (Int32.ofInt 1)))) Q) :
    Wp d 180 (20, [some (.ref r0), some (.int x1), some (.int x2)], [], μ) Q := wp_blk rfl e180_20 (And.intro h1 (And.intro h2 (And.intro h3 (And.intro h4 (And.intro h5 (And.intro h6 (And.intro h7 (And.intro h8 (And.intro h9 (And.intro h10 (And.intro h11 k)))))))))))
def q180_45 : List (Nat × Instr × Nat) := [(45, .aload_n 0, 1), (46, .dup, 1), (47, .getfield 281, 3), (50, .iconst 1, 1), (51, .iadd, 1), (52, .putfield 281, 3), (55, .aload_n 0, 1), (56, .getfield 281, 3), (59, .iconst 1, 1), (60, .isub, 1)]
theorem e180_45 : am_dec am_M180 q180_45 = true := by decide +kernel
theorem e180_45_r : am_dec am_M180 [(61, .ireturn, 1)] = true := by decide +kernel
theorem b180_45 {d : Nat} {Q : Option Value ⊕ Nat → am_Mem → Prop} {μ : am_Mem} {r0 : Nat} {x1 x2 : Int32}
    (h1 : am_kd μ r0 = (1, 12))
    (h2 : am_kd μ r0 = (1, 12))
    (h3 : am_kd (am_pA μ r0 22 ((am_A μ r0 22) + (Int32.ofInt 1))) r0 = (1, 12))
    (k : Q (.inl (some (.int ((am_A (am_pA μ r0 22 ((am_A μ r0 22) + (Int32.ofInt 1))) r0 22) - (Int32.ofInt 1))))) (am_pA μ r0 22 ((am_A μ r0 22) + (Int32.ofInt 1)))) :
    Wp d 180 (45, [some (.ref r0), some (.int x1), some (.int x2)], [], μ) Q := wp_blk rfl e180_45 (And.intro h1 (And.intro h2 (And.intro ⟨rfl, rfl⟩ (And.intro h3 (wp_ri (ty := .int) rfl e180_45_r rfl ⟨rfl, rfl⟩ k)))))
/-! RuleSheetsModel.belong(I)V -/
def q181_0 : List (Nat × Instr × Nat) := [(0, .aload_n 0, 1), (1, .getfield 71, 3), (4, .aload_n 0, 1), (5, .getfield 268, 3), (8, .iconst 1, 1), (9, .isub, 1), (10, .iaload, 1), (11, .istore_n 2, 1), (12, .aload_n 0, 1), (13, .getfield 68, 3), (16, .aload_n 0, 1), (17, .getfield 268, 3), (20, .iconst 1, 1), (21, .isub, 1), (22, .iaload, 1), (23, .istore_n 3, 1), (24, .aload_n 0, 1), (25, .getfield 65, 3), (28, .aload_n 0, 1), (29, .getfield 268, 3), (32, .iconst 1, 1), (33, .isub, 1), (34, .iaload, 1), (35, .iconst 5, 1), (36, .if_icmp .ne 27, 3)]
theorem e181_0 : am_dec am_M181 q181_0 = true := by decide +kernel
theorem b181_0 {d : Nat} {Q : Option Value ⊕ Nat → am_Mem → Prop} {μ : am_Mem} {r0 : Nat} {x1 : Int32}
    (h1 : am_kd μ r0 = (1, 12))
    (h2 : ¬ am_F μ r0 37 = 15)
    (h3 : am_kd μ r0 = (1, 12))
    (h4 : (am_kd μ (am_F μ r0 37)).1 = 2 ∨ (am_kd μ (am_F μ r0 37)).1 = 8)
    (h5 : ¬ (((am_A μ r0 34) - (Int32.ofInt 1)) < 0 ∨ (am_kd μ (am_F μ r0 37)).2 ≤ ((am_A μ r0 34) - (Int32.ofInt 1)).toNatClampNeg))
    (h6 : am_kd μ r0 = (1, 12))
    (h7 : ¬ am_F μ r0 36 = 15)
    (h8 : am_kd μ r0 = (1, 12))
    (h9 : (am_kd μ (am_F μ r0 36)).1 = 2 ∨ (am_kd μ (am_F μ r0 36)).1 = 8)
    (h10 : ¬ (((am_A μ r0 34) - (Int32.ofInt 1)) < 0 ∨ (am_kd μ (am_F μ r0 36)).2 ≤ ((am_A μ r0 34) - (Int32.ofInt 1)).toNatClampNeg))
    (h11 : am_kd μ r0 = (1, 12))
    (h12 : ¬ am_F μ r0 35 = 15)
    (h13 : am_kd μ r0 = (1, 12))
    (h14 : (am_kd μ (am_F μ r0 35)).1 = 2 ∨ (am_kd μ (am_F μ r0 35)).1 = 8)
    (h15 : ¬ (((am_A μ r0 34) - (Int32.ofInt 1)) < 0 ∨ (am_kd μ (am_F μ r0 35)).2 ≤ ((am_A μ r0 34) - (Int32.ofInt 1)).toNatClampNeg))
    (k1 : ¬ (am_A μ (am_F μ r0 35) ((am_A μ r0 34) - (Int32.ofInt 1)).toNatClampNeg) = (Int32.ofInt 5) → Wp d 181 (63, [some (.ref r0), some (.int x1), some (.int (am_A μ (am_F μ r0 37) ((am_A μ r0 34) - (Int32.ofInt 1)).toNatClampNeg)), some (.int (am_A μ (am_F μ r0 36) ((am_A μ r0 34) - (Int32.ofInt 1)).toNatClampNeg))], [], μ) Q) (k2 : ¬ (¬ (am_A μ (am_F μ r0 35) ((am_A μ r0 34) - (Int32.ofInt 1)).toNatClampNeg) = (Int32.ofInt 5)) → Wp d 181 (39, [some (.ref r0), some (.int x1), some (.int (am_A μ (am_F μ r0 37) ((am_A μ r0 34) - (Int32.ofInt 1)).toNatClampNeg)), some (.int (am_A μ (am_F μ r0 36) ((am_A μ r0 34) - (Int32.ofInt 1)).toNatClampNeg))], [], μ) Q) :
    Wp d 181 (0, [some (.ref r0), some (.int x1), none, none], [], μ) Q := wp_blk rfl e181_0 (And.intro h1 (And.intro h2 (And.intro h3 (And.intro h4 (And.intro h5 (And.intro h6 (And.intro h7 (And.intro h8 (And.intro h9 (And.intro h10 (And.intro h11 (And.intro h12 (And.intro h13 (And.intro h14 (And.intro h15 (And.intro k1 k2))))))))))))))))
def q181_39 : List (Nat × Instr × Nat) := [(39, .aload_n 0, 1), (40, .getfield 59, 3), (43, .iconst 4, 1), (44, .iload_n 2, 1), (45, .imul, 1), (46, .iload_n 3, 1), (47, .iadd, 1), (48, .iload_n 1, 1), (49, .iastore, 1), (50, .aload_n 0, 1), (51, .getfield 56, 3), (54, .iload_n 2, 1), (55, .dup2, 1), (56, .iaload, 1), (57, .iconst 1, 1), (58, .iadd, 1), (59, .iastore, 1)]
theorem e181_39 : am_dec am_M181 q181_39 = true := by decide +kernel
theorem b181_39 {d : Nat} {Q : Option Value ⊕ Nat → am_Mem → Prop} {μ : am_Mem} {r0 : Nat} {x1 x2 x3 : Int32}
    (h1 : am_kd μ r0 = (1, 12))
    (h2 : ¬ am_F μ r0 26 = 15)
    (h3 : (am_kd μ (am_F μ r0 26)).1 = 2)
    (h4 : ¬ ((((Int32.ofInt 4) * x2) + x3) < 0 ∨ (am_kd μ (am_F μ r0 26)).2 ≤ (((Int32.ofInt 4) * x2) + x3).toNatClampNeg))
    (h5 : am_kd (am_pA μ (am_F μ r0 26) (((Int32.ofInt 4) * x2) + x3).toNatClampNeg x1) r0 = (1, 12))
    (h6 : ¬ am_F (am_pA μ (am_F μ r0 26) (((Int32.ofInt 4) * x2) + x3).toNatClampNeg x1) r0 25 = 15)
    (h7 : (am_kd (am_pA μ (am_F μ r0 26) (((Int32.ofInt 4) * x2) + x3).toNatClampNeg x1) (am_F (am_pA μ (am_F μ r0 26) (((Int32.ofInt 4) * x2) + x3).toNatClampNeg x1) r0 25)).1 = 2 ∨ (am_kd (am_pA μ (am_F μ r0 26) (((Int32.ofInt 4) * x2) + x3).toNatClampNeg x1) (am_F (am_pA μ (am_F μ r0 26) (((Int32.ofInt 4) * x2) + x3).toNatClampNeg x1) r0 25)).1 = 8)
    (h8 : ¬ (x2 < 0 ∨ (am_kd (am_pA μ (am_F μ r0 26) (((Int32.ofInt 4) * x2) + x3).toNatClampNeg x1) (am_F (am_pA μ (am_F μ r0 26) (((Int32.ofInt 4) * x2) + x3).toNatClampNeg x1) r0 25)).2 ≤ x2.toNatClampNeg))
    (h9 : (am_kd (am_pA μ (am_F μ r0 26) (((Int32.ofInt 4) * x2) + x3).toNatClampNeg x1) (am_F (am_pA μ (am_F μ r0 26) (((Int32.ofInt 4) * x2) + x3).toNatClampNeg x1) r0 25)).1 = 2)
    (h10 : ¬ (x2 < 0 ∨ (am_kd (am_pA μ (am_F μ r0 26) (((Int32.ofInt 4) * x2) + x3).toNatClampNeg x1) (am_F (am_pA μ (am_F μ r0 26) (((Int32.ofInt 4) * x2) + x3).toNatClampNeg x1) r0 25)).2 ≤ x2.toNatClampNeg))
    (k : Wp d 181 (60, [some (.ref r0), some (.int x1), some (.int x2), some (.int x3)], [], (am_pA (am_pA μ (am_F μ r0 26) (((Int32.ofInt 4) * x2) + x3).toNatClampNeg x1) (am_F (am_pA μ (am_F μ r0 26) (((Int32.ofInt 4) * x2) + x3).toNatClampNeg x1) r0 25) x2.toNatClampNeg ((am_A (am_pA μ (am_F μ r0 26) (((Int32.ofInt 4) * x2) + x3).toNatClampNeg x1) (am_F (am_pA μ (am_F μ r0 26) (((Int32.ofInt 4) * x2) + x3).toNatClampNeg x1) r0 25) x2.toNatClampNeg) + (Int32.ofInt 1)))) Q) :
    Wp d 181 (39, [some (.ref r0), some (.int x1), some (.int x2), some (.int x3)], [], μ) Q := wp_blk rfl e181_39 (And.intro h1 (And.intro h2 (And.intro h3 (And.intro h4 (And.intro h5 (And.intro h6 (And.intro h7 (And.intro h8 (And.intro h9 (And.intro h10 k))))))))))
def q181_60 : List (Nat × Instr × Nat) := [(60, .goto 24, 3)]
theorem e181_60 : am_dec am_M181 q181_60 = true := by decide +kernel
theorem b181_60 {d : Nat} {Q : Option Value ⊕ Nat → am_Mem → Prop} {μ : am_Mem} {r0 : Nat} {x1 x2 x3 : Int32}
    (k : Wp d 181 (84, [some (.ref r0), some (.int x1), some (.int x2), some (.int x3)], [], μ) Q) :
    Wp d 181 (60, [some (.ref r0), some (.int x1), some (.int x2), some (.int x3)], [], μ) Q := wp_blk rfl e181_60 k
def q181_63 : List (Nat × Instr × Nat) := [(63, .aload_n 0, 1), (64, .getfield 44, 3), (67, .iconst 4, 1), (68, .iload_n 2, 1), (69, .imul, 1), (70, .iload_n 3, 1), (71, .iadd, 1), (72, .iload_n 1, 1), (73, .iastore, 1), (74, .aload_n 0, 1), (75, .getfield 47, 3), (78, .iload_n 2, 1), (79, .dup2, 1), (80, .iaload, 1), (81, .iconst 1, 1), (82, .iadd, 1), (83, .iastore, 1)]
theorem e181_63 : am_dec am_M181 q181_63 = true := by decide +kernel
theorem b181_63 {d : Nat} {Q : Option Value ⊕ Nat → am_Mem → Prop} {μ : am_Mem} {r0 : Nat} {x1 x2 x3 : Int32}
    (h1 : am_kd μ r0 = (1, 12))
    (h2 : ¬ am_F μ r0 20 = 15)
    (h3 : (am_kd μ (am_F μ r0 20)).1 = 2)
    (h4 : ¬ ((((Int32.ofInt 4) * x2) + x3) < 0 ∨ (am_kd μ (am_F μ r0 20)).2 ≤ (((Int32.ofInt 4) * x2) + x3).toNatClampNeg))
    (h5 : am_kd (am_pA μ (am_F μ r0 20) (((Int32.ofInt 4) * x2) + x3).toNatClampNeg x1) r0 = (1, 12))
    (h6 : ¬ am_F (am_pA μ (am_F μ r0 20) (((Int32.ofInt 4) * x2) + x3).toNatClampNeg x1) r0 21 = 15)
    (h7 : (am_kd (am_pA μ (am_F μ r0 20) (((Int32.ofInt 4) * x2) + x3).toNatClampNeg x1) (am_F (am_pA μ (am_F μ r0 20) (((Int32.ofInt 4) * x2) + x3).toNatClampNeg x1) r0 21)).1 = 2 ∨ (am_kd (am_pA μ (am_F μ r0 20) (((Int32.ofInt 4) * x2) + x3).toNatClampNeg x1) (am_F (am_pA μ (am_F μ r0 20) (((Int32.ofInt 4) * x2) + x3).toNatClampNeg x1) r0 21)).1 = 8)
    (h8 : ¬ (x2 < 0 ∨ (am_kd (am_pA μ (am_F μ r0 20) (((Int32.ofInt 4) * x2) + x3).toNatClampNeg x1) (am_F (am_pA μ (am_F μ r0 20) (((Int32.ofInt 4) * x2) + x3).toNatClampNeg x1) r0 21)).2 ≤ x2.toNatClampNeg))
    (h9 : (am_kd (am_pA μ (am_F μ r0 20) (((Int32.ofInt 4) * x2) + x3).toNatClampNeg x1) (am_F (am_pA μ (am_F μ r0 20) (((Int32.ofInt 4) * x2) + x3).toNatClampNeg x1) r0 21)).1 = 2)
    (h10 : ¬ (x2 < 0 ∨ (am_kd (am_pA μ (am_F μ r0 20) (((Int32.ofInt 4) * x2) + x3).toNatClampNeg x1) (am_F (am_pA μ (am_F μ r0 20) (((Int32.ofInt 4) * x2) + x3).toNatClampNeg x1) r0 21)).2 ≤ x2.toNatClampNeg))
    (k : Wp d 181 (84, [some (.ref r0), some (.int x1), some (.int x2), some (.int x3)], [], (am_pA (am_pA μ (am_F μ r0 20) (((Int32.ofInt 4) * x2) + x3).toNatClampNeg x1) (am_F (am_pA μ (am_F μ r0 20) (((Int32.ofInt 4) * x2) + x3).toNatClampNeg x1) r0 21) x2.toNatClampNeg ((am_A (am_pA μ (am_F μ r0 20) (((Int32.ofInt 4) * x2) + x3).toNatClampNeg x1) (am_F (am_pA μ (am_F μ r0 20) (((Int32.ofInt 4) * x2) + x3).toNatClampNeg x1) r0 21) x2.toNatClampNeg) + (Int32.ofInt 1)))) Q) :
    Wp d 181 (63, [some (.ref r0), some (.int x1), some (.int x2), some (.int x3)], [], μ) Q := wp_blk rfl e181_63 (And.intro h1 (And.intro h2 (And.intro h3 (And.intro h4 (And.intro h5 (And.intro h6 (And.intro h7 (And.intro h8 (And.intro h9 (And.intro h10 k))))))))))
def q181_84 : List (Nat × Instr × Nat) := [(84, .aload_n 0, 1), (85, .getfield 68, 3), (88, .aload_n 0, 1), (89, .getfield 268, 3), (92, .iconst 1, 1), (93, .isub, 1), (94, .dup2, 1), (95, .iaload, 1), (96, .iconst 1, 1), (97, .iadd, 1), (98, .iastore, 1)]
theorem e181_84 : am_dec am_M181 q181_84 = true := by decide +kernel
theorem e181_84_r : am_dec am_M181 [(99, .return_, 1)] = true := by decide +kernel
theorem b181_84 {d : Nat} {Q : Option Value ⊕ Nat → am_Mem → Prop} {μ : am_Mem} {r0 : Nat} {x1 x2 x3 : Int32}
    (h1 : am_kd μ r0 = (1, 12))
    (h2 : ¬ am_F μ r0 36 = 15)
    (h3 : am_kd μ r0 = (1, 12))
    (h4 : (am_kd μ (am_F μ r0 36)).1 = 2 ∨ (am_kd μ (am_F μ r0 36)).1 = 8)
    (h5 : ¬ (((am_A μ r0 34) - (Int32.ofInt 1)) < 0 ∨ (am_kd μ (am_F μ r0 36)).2 ≤ ((am_A μ r0 34) - (Int32.ofInt 1)).toNatClampNeg))
    (h6 : (am_kd μ (am_F μ r0 36)).1 = 2)
    (h7 : ¬ (((am_A μ r0 34) - (Int32.ofInt 1)) < 0 ∨ (am_kd μ (am_F μ r0 36)).2 ≤ ((am_A μ r0 34) - (Int32.ofInt 1)).toNatClampNeg))
    (k : Q (.inl none) (am_pA μ (am_F μ r0 36) ((am_A μ r0 34) - (Int32.ofInt 1)).toNatClampNeg ((am_A μ (am_F μ r0 36) ((am_A μ r0 34) - (Int32.ofInt 1)).toNatClampNeg) + (Int32.ofInt 1)))) :
    Wp d 181 (84, [some (.ref r0), some (.int x1), some (.int x2), some (.int x3)], [], μ) Q := wp_blk rfl e181_84 (And.intro h1 (And.intro h2 (And.intro h3 (And.intro h4 (And.intro h5 (And.intro h6 (And.intro h7 (wp_rv rfl e181_84_r rfl k))))))))
/-! RuleSheetsModel.checkAll()V -/
def q182_0 : List (Nat × Instr × Nat) := [(0, .aload_n 0, 1), (1, .getfield 258, 3), (4, .ifCond .ne 7, 3)]
theorem e182_0 : am_dec am_M182 q182_0 = true := by decide +kernel
theorem b182_0 {d : Nat} {Q : Option Value ⊕ Nat → am_Mem → Prop} {μ : am_Mem} {r0 : Nat}
    (h1 : am_kd μ r0 = (1, 12))
    (k1 : ¬ (am_A μ r0 32) = 0 → Wp d 182 (11, [some (.ref r0)], [], μ) Q) (k2 : ¬ (¬ (am_A μ r0 32) = 0) → Wp d 182 (7, [some (.ref r0)], [], μ) Q) :
    Wp d 182 (0, [some (.ref r0)], [], μ) Q := wp_blk rfl e182_0 (And.intro h1 (And.intro k1 k2))
def q182_7 : List (Nat × Instr × Nat) := [(7, .aload_n 0, 1)]
theorem e182_7 : am_dec am_M182 q182_7 = true := by decide +kernel
theorem e182_7_c : am_dc1 am_M182 8 (.invokevirtual 409) 3 = true := by decide +kernel
theorem b182_7 {d : Nat} {Q : Option Value ⊕ Nat → am_Mem → Prop} {μ : am_Mem} {r0 : Nat} {P : am_Mem → Prop} {X : Nat → am_Mem → Prop}
    (hk : am_kd μ r0 = (1, 12))
    (hc : Wp d 183 (0, [some (.ref r0), none, none], [], μ) (pV P X)) (hr : ∀ μ', P μ' → Wp (d + 1) 182 (11, [some (.ref r0)], [], (μ')) Q)
    (hx : ∀ x μ', X x μ' → Q (.inr x) μ') :
    Wp (d + 1) 182 (7, [some (.ref r0)], [], μ) Q := wp_blk rfl e182_7 (wp_cv (as := []) rfl e182_7_c rfl rfl rfl rfl rfl hk hc (fun v μ' hv => by obtain ⟨rfl, hp⟩ := pV_r hv; exact hr μ' hp) hx)
def q182_11 : List (Nat × Instr × Nat) := [(11, .aload_n 0, 1), (12, .getfield 258, 3), (15, .ifCond .ne 7, 3)]
theorem e182_11 : am_dec am_M182 q182_11 = true := by decide +kernel
theorem b182_11 {d : Nat} {Q : Option Value ⊕ Nat → am_Mem → Prop} {μ : am_Mem} {r0 : Nat}
    (h1 : am_kd μ r0 = (1, 12))
    (k1 : ¬ (am_A μ r0 32) = 0 → Wp d 182 (22, [some (.ref r0)], [], μ) Q) (k2 : ¬ (¬ (am_A μ r0 32) = 0) → Wp d 182 (18, [some (.ref r0)], [], μ) Q) :
    Wp d 182 (11, [some (.ref r0)], [], μ) Q := wp_blk rfl e182_11 (And.intro h1 (And.intro k1 k2))
def q182_18 : List (Nat × Instr × Nat) := [(18, .aload_n 0, 1)]
theorem e182_18 : am_dec am_M182 q182_18 = true := by decide +kernel
theorem e182_18_c : am_dc1 am_M182 19 (.invokevirtual 412) 3 = true := by decide +kernel
theorem b182_18 {d : Nat} {Q : Option Value ⊕ Nat → am_Mem → Prop} {μ : am_Mem} {r0 : Nat} {P : am_Mem → Prop} {X : Nat → am_Mem → Prop}
    (hk : am_kd μ r0 = (1, 12))
    (hc : Wp d 186 (0, [some (.ref r0), none, none, none, none, none, none], [], μ) (pV P X)) (hr : ∀ μ', P μ' → Wp (d + 1) 182 (22, [some (.ref r0)], [], (μ')) Q)
    (hx : ∀ x μ', X x μ' → Q (.inr x) μ') :
    Wp (d + 1) 182 (18, [some (.ref r0)], [], μ) Q := wp_blk rfl e182_18 (wp_cv (as := []) rfl e182_18_c rfl rfl rfl rfl rfl hk hc (fun v μ' hv => by obtain ⟨rfl, hp⟩ := pV_r hv; exact hr μ' hp) hx)
def q182_22 : List (Nat × Instr × Nat) := [(22, .aload_n 0, 1), (23, .getfield 258, 3), (26, .ifCond .ne 7, 3)]
theorem e182_22 : am_dec am_M182 q182_22 = true := by decide +kernel
theorem b182_22 {d : Nat} {Q : Option Value ⊕ Nat → am_Mem → Prop} {μ : am_Mem} {r0 : Nat}
    (h1 : am_kd μ r0 = (1, 12))
    (k1 : ¬ (am_A μ r0 32) = 0 → Wp d 182 (33, [some (.ref r0)], [], μ) Q) (k2 : ¬ (¬ (am_A μ r0 32) = 0) → Wp d 182 (29, [some (.ref r0)], [], μ) Q) :
    Wp d 182 (22, [some (.ref r0)], [], μ) Q := wp_blk rfl e182_22 (And.intro h1 (And.intro k1 k2))
def q182_29 : List (Nat × Instr × Nat) := [(29, .aload_n 0, 1)]
theorem e182_29 : am_dec am_M182 q182_29 = true := by decide +kernel
theorem e182_29_c : am_dc1 am_M182 30 (.invokevirtual 415) 3 = true := by decide +kernel
theorem b182_29 {d : Nat} {Q : Option Value ⊕ Nat → am_Mem → Prop} {μ : am_Mem} {r0 : Nat} {P : am_Mem → Prop} {X : Nat → am_Mem → Prop}
    (hk : am_kd μ r0 = (1, 12))
    (hc : Wp d 189 (0, [some (.ref r0), none], [], μ) (pV P X)) (hr : ∀ μ', P μ' → Wp (d + 1) 182 (33, [some (.ref r0)], [], (μ')) Q)
    (hx : ∀ x μ', X x μ' → Q (.inr x) μ') :
    Wp (d + 1) 182 (29, [some (.ref r0)], [], μ) Q := wp_blk rfl e182_29 (wp_cv (as := []) rfl e182_29_c rfl rfl rfl rfl rfl hk hc (fun v μ' hv => by obtain ⟨rfl, hp⟩ := pV_r hv; exact hr μ' hp) hx)
def q182_33 : List (Nat × Instr × Nat) := [(33, .aload_n 0, 1), (34, .getfield 258, 3), (37, .ifCond .ne 7, 3)]
theorem e182_33 : am_dec am_M182 q182_33 = true := by decide +kernel
theorem b182_33 {d : Nat} {Q : Option Value ⊕ Nat → am_Mem → Prop} {μ : am_Mem} {r0 : Nat}
    (h1 : am_kd μ r0 = (1, 12))
    (k1 : ¬ (am_A μ r0 32) = 0 → Wp d 182 (44, [some (.ref r0)], [], μ) Q) (k2 : ¬ (¬ (am_A μ r0 32) = 0) → Wp d 182 (40, [some (.ref r0)], [], μ) Q) :
    Wp d 182 (33, [some (.ref r0)], [], μ) Q := wp_blk rfl e182_33 (And.intro h1 (And.intro k1 k2))
def q182_40 : List (Nat × Instr × Nat) := [(40, .aload_n 0, 1)]
theorem e182_40 : am_dec am_M182 q182_40 = true := by decide +kernel
theorem e182_40_c : am_dc1 am_M182 41 (.invokevirtual 418) 3 = true := by decide +kernel
theorem b182_40 {d : Nat} {Q : Option Value ⊕ Nat → am_Mem → Prop} {μ : am_Mem} {r0 : Nat} {P : am_Mem → Prop} {X : Nat → am_Mem → Prop}
    (hk : am_kd μ r0 = (1, 12))
    (hc : Wp d 192 (0, [some (.ref r0), none, none], [], μ) (pV P X)) (hr : ∀ μ', P μ' → Wp (d + 1) 182 (44, [some (.ref r0)], [], (μ')) Q)
    (hx : ∀ x μ', X x μ' → Q (.inr x) μ') :
    Wp (d + 1) 182 (40, [some (.ref r0)], [], μ) Q := wp_blk rfl e182_40 (wp_cv (as := []) rfl e182_40_c rfl rfl rfl rfl rfl hk hc (fun v μ' hv => by obtain ⟨rfl, hp⟩ := pV_r hv; exact hr μ' hp) hx)
def q182_44 : List (Nat × Instr × Nat) := [(44, .aload_n 0, 1), (45, .getfield 258, 3), (48, .ifCond .ne 7, 3)]
theorem e182_44 : am_dec am_M182 q182_44 = true := by decide +kernel
theorem b182_44 {d : Nat} {Q : Option Value ⊕ Nat → am_Mem → Prop} {μ : am_Mem} {r0 : Nat}
    (h1 : am_kd μ r0 = (1, 12))
    (k1 : ¬ (am_A μ r0 32) = 0 → Wp d 182 (55, [some (.ref r0)], [], μ) Q) (k2 : ¬ (¬ (am_A μ r0 32) = 0) → Wp d 182 (51, [some (.ref r0)], [], μ) Q) :
    Wp d 182 (44, [some (.ref r0)], [], μ) Q := wp_blk rfl e182_44 (And.intro h1 (And.intro k1 k2))
def q182_51 : List (Nat × Instr × Nat) := [(51, .aload_n 0, 1)]
theorem e182_51 : am_dec am_M182 q182_51 = true := by decide +kernel
theorem e182_51_c : am_dc1 am_M182 52 (.invokevirtual 421) 3 = true := by decide +kernel
theorem b182_51 {d : Nat} {Q : Option Value ⊕ Nat → am_Mem → Prop} {μ : am_Mem} {r0 : Nat} {P : am_Mem → Prop} {X : Nat → am_Mem → Prop}
    (hk : am_kd μ r0 = (1, 12))
    (hc : Wp d 194 (0, [some (.ref r0), none, none], [], μ) (pV P X)) (hr : ∀ μ', P μ' → Wp (d + 1) 182 (55, [some (.ref r0)], [], (μ')) Q)
    (hx : ∀ x μ', X x μ' → Q (.inr x) μ') :
    Wp (d + 1) 182 (51, [some (.ref r0)], [], μ) Q := wp_blk rfl e182_51 (wp_cv (as := []) rfl e182_51_c rfl rfl rfl rfl rfl hk hc (fun v μ' hv => by obtain ⟨rfl, hp⟩ := pV_r hv; exact hr μ' hp) hx)
def q182_55 : List (Nat × Instr × Nat) := [(55, .aload_n 0, 1), (56, .getfield 258, 3), (59, .ifCond .ne 7, 3)]
theorem e182_55 : am_dec am_M182 q182_55 = true := by decide +kernel
theorem b182_55 {d : Nat} {Q : Option Value ⊕ Nat → am_Mem → Prop} {μ : am_Mem} {r0 : Nat}
    (h1 : am_kd μ r0 = (1, 12))
    (k1 : ¬ (am_A μ r0 32) = 0 → Wp d 182 (66, [some (.ref r0)], [], μ) Q) (k2 : ¬ (¬ (am_A μ r0 32) = 0) → Wp d 182 (62, [some (.ref r0)], [], μ) Q) :
    Wp d 182 (55, [some (.ref r0)], [], μ) Q := wp_blk rfl e182_55 (And.intro h1 (And.intro k1 k2))
def q182_62 : List (Nat × Instr × Nat) := [(62, .aload_n 0, 1)]
theorem e182_62 : am_dec am_M182 q182_62 = true := by decide +kernel
theorem e182_62_c : am_dc1 am_M182 63 (.invokevirtual 424) 3 = true := by decide +kernel
theorem b182_62 {d : Nat} {Q : Option Value ⊕ Nat → am_Mem → Prop} {μ : am_Mem} {r0 : Nat} {P : am_Mem → Prop} {X : Nat → am_Mem → Prop}
    (hk : am_kd μ r0 = (1, 12))
    (hc : Wp d 196 (0, [some (.ref r0), none, none], [], μ) (pV P X)) (hr : ∀ μ', P μ' → Wp (d + 1) 182 (66, [some (.ref r0)], [], (μ')) Q)
    (hx : ∀ x μ', X x μ' → Q (.inr x) μ') :
    Wp (d + 1) 182 (62, [some (.ref r0)], [], μ) Q := wp_blk rfl e182_62 (wp_cv (as := []) rfl e182_62_c rfl rfl rfl rfl rfl hk hc (fun v μ' hv => by obtain ⟨rfl, hp⟩ := pV_r hv; exact hr μ' hp) hx)
theorem e182_66_r : am_dec am_M182 [(66, .return_, 1)] = true := by decide +kernel
theorem b182_66 {d : Nat} {Q : Option Value ⊕ Nat → am_Mem → Prop} {μ : am_Mem} {r0 : Nat}
    (k : Q (.inl none) μ) :
    Wp d 182 (66, [some (.ref r0)], [], μ) Q := (wp_rv rfl e182_66_r rfl k)
/-! RuleSheetsModel.checkCounts()V -/
def q183_0 : List (Nat × Instr × Nat) := [(0, .iconst 0, 1), (1, .istore_n 1, 1)]
theorem e183_0 : am_dec am_M183 q183_0 = true := by decide +kernel
theorem b183_0 {d : Nat} {Q : Option Value ⊕ Nat → am_Mem → Prop} {μ : am_Mem} {r0 : Nat}
    (k : Wp d 183 (2, [some (.ref r0), some (.int (Int32.ofInt 0)), none], [], μ) Q) :
    Wp d 183 (0, [some (.ref r0), none, none], [], μ) Q := wp_blk rfl e183_0 k
def q183_2 : List (Nat × Instr × Nat) := [(2, .iload_n 1, 1), (3, .aload_n 0, 1), (4, .getfield 253, 3), (7, .if_icmp .ge 19, 3)]
theorem e183_2 : am_dec am_M183 q183_2 = true := by decide +kernel
theorem b183_2 {d : Nat} {Q : Option Value ⊕ Nat → am_Mem → Prop} {μ : am_Mem} {r0 : Nat} {x1 : Int32}
    (h1 : am_kd μ r0 = (1, 12))
    (k1 : (am_A μ r0 9) ≤ x1 → Wp d 183 (26, [some (.ref r0), some (.int x1), none], [], μ) Q) (k2 : ¬ ((am_A μ r0 9) ≤ x1) → Wp d 183 (10, [some (.ref r0), some (.int x1), none], [], μ) Q) :
    Wp d 183 (2, [some (.ref r0), some (.int x1), none], [], μ) Q := wp_blk rfl e183_2 (And.intro h1 (And.intro k1 k2))
def q183_10 : List (Nat × Instr × Nat) := [(10, .aload_n 0, 1), (11, .getfield 81, 3), (14, .iload_n 1, 1), (15, .iload_n 1, 1)]
theorem e183_10 : am_dec am_M183 q183_10 = true := by decide +kernel
theorem e183_10_c : am_dc1 am_M183 16 (.invokestatic 376) 3 = true := by decide +kernel
theorem b183_10 {d : Nat} {Q : Option Value ⊕ Nat → am_Mem → Prop} {μ : am_Mem} {r0 : Nat} {x1 : Int32} {P : Int32 → am_Mem → Prop} {X : Nat → am_Mem → Prop}
    (h1 : am_kd μ r0 = (1, 12))
    (h2 : ¬ am_F μ r0 41 = 15)
    (hc : Wp d 184 (0, [some (.int x1)], [], μ) (pI P X)) (hr : ∀ x μ', P x μ' → Wp (d + 1) 183 (19, [some (.ref r0), some (.int x1), none], [.int x, .int x1, .ref (am_F μ r0 41)], (μ')) Q)
    (hx : ∀ x μ', X x μ' → Q (.inr x) μ') :
    Wp (d + 1) 183 (10, [some (.ref r0), some (.int x1), none], [], μ) Q := wp_blk rfl e183_10 (And.intro h1 (And.intro h2 (wp_cs (vs := [.int x1]) rfl e183_10_c rfl rfl rfl rfl rfl hc (fun v μ' hv => by obtain ⟨x, rfl, hp⟩ := pI_r hv; exact hr x μ' hp) hx)))
def q183_19 : List (Nat × Instr × Nat) := [(19, .iastore, 1), (20, .iinc 1 1, 3), (23, .goto (-21), 3)]
theorem e183_19 : am_dec am_M183 q183_19 = true := by decide +kernel
theorem b183_19 {d : Nat} {Q : Option Value ⊕ Nat → am_Mem → Prop} {μ : am_Mem} {r0 r90 : Nat} {x1 s1 s2 : Int32}
    (h1 : (am_kd μ r90).1 = 2)
    (h2 : ¬ (s1 < 0 ∨ (am_kd μ r90).2 ≤ s1.toNatClampNeg))
    (k : Wp d 183 (2, [some (.ref r0), some (.int (x1 + Int32.ofInt 1)), none], [], (am_pA μ r90 s1.toNatClampNeg s2)) Q) :
    Wp d 183 (19, [some (.ref r0), some (.int x1), none], [.int s2, .int s1, .ref r90], μ) Q := wp_blk rfl e183_19 (And.intro h1 (And.intro h2 k))
def q183_26 : List (Nat × Instr × Nat) := [(26, .iconst 0, 1), (27, .istore_n 1, 1)]
theorem e183_26 : am_dec am_M183 q183_26 = true := by decide +kernel
theorem b183_26 {d : Nat} {Q : Option Value ⊕ Nat → am_Mem → Prop} {μ : am_Mem} {r0 : Nat} {x1 : Int32}
    (k : Wp d 183 (28, [some (.ref r0), some (.int (Int32.ofInt 0)), none], [], μ) Q) :
    Wp d 183 (26, [some (.ref r0), some (.int x1), none], [], μ) Q := wp_blk rfl e183_26 k
def q183_28 : List (Nat × Instr × Nat) := [(28, .iload_n 1, 1), (29, .aload_n 0, 1), (30, .getfield 287, 3), (33, .if_icmp .ge 73, 3)]
theorem e183_28 : am_dec am_M183 q183_28 = true := by decide +kernel
theorem b183_28 {d : Nat} {Q : Option Value ⊕ Nat → am_Mem → Prop} {μ : am_Mem} {r0 : Nat} {x1 : Int32} {o2 : Option Value}
    (h1 : am_kd μ r0 = (1, 12))
    (k1 : (am_A μ r0 12) ≤ x1 → Wp d 183 (106, [some (.ref r0), some (.int x1), o2], [], μ) Q) (k2 : ¬ ((am_A μ r0 12) ≤ x1) → Wp d 183 (36, [some (.ref r0), some (.int x1), o2], [], μ) Q) :
    Wp d 183 (28, [some (.ref r0), some (.int x1), o2], [], μ) Q := wp_blk rfl e183_28 (And.intro h1 (And.intro k1 k2))
def q183_36 : List (Nat × Instr × Nat) := [(36, .aload_n 0, 1), (37, .getfield 258, 3), (40, .ifCond .ne 66, 3)]
theorem e183_36 : am_dec am_M183 q183_36 = true := by decide +kernel
theorem b183_36 {d : Nat} {Q : Option Value ⊕ Nat → am_Mem → Prop} {μ : am_Mem} {r0 : Nat} {x1 : Int32} {o2 : Option Value}
    (h1 : am_kd μ r0 = (1, 12))
    (k1 : ¬ (am_A μ r0 32) = 0 → Wp d 183 (106, [some (.ref r0), some (.int x1), o2], [], μ) Q) (k2 : ¬ (¬ (am_A μ r0 32) = 0) → Wp d 183 (43, [some (.ref r0), some (.int x1), o2], [], μ) Q) :
    Wp d 183 (36, [some (.ref r0), some (.int x1), o2], [], μ) Q := wp_blk rfl e183_36 (And.intro h1 (And.intro k1 k2))
def q183_43 : List (Nat × Instr × Nat) := [(43, .aload_n 0, 1), (44, .aload_n 0, 1), (45, .getfield 29, 3), (48, .iload_n 1, 1), (49, .iaload, 1), (50, .iload_n 1, 1)]
theorem e183_43 : am_dec am_M183 q183_43 = true := by decide +kernel
theorem e183_43_c : am_dc1 am_M183 51 (.invokevirtual 379) 3 = true := by decide +kernel
theorem b183_43 {d : Nat} {Q : Option Value ⊕ Nat → am_Mem → Prop} {μ : am_Mem} {r0 : Nat} {x1 : Int32} {o2 : Option Value} {P : am_Mem → Prop} {X : Nat → am_Mem → Prop}
    (h1 : am_kd μ r0 = (1, 12))
    (h2 : ¬ am_F μ r0 13 = 15)
    (h3 : (am_kd μ (am_F μ r0 13)).1 = 2 ∨ (am_kd μ (am_F μ r0 13)).1 = 8)
    (h4 : ¬ (x1 < 0 ∨ (am_kd μ (am_F μ r0 13)).2 ≤ x1.toNatClampNeg))
    (hk : am_kd μ r0 = (1, 12))
    (hc : Wp d 185 (0, [some (.ref r0), some (.int (am_A μ (am_F μ r0 13) x1.toNatClampNeg)), some (.int x1), none], [], μ) (pV P X)) (hr : ∀ μ', P μ' → Wp (d + 1) 183 (54, [some (.ref r0), some (.int x1), o2], [], (μ')) Q)
    (hx : ∀ x μ', X x μ' → Q (.inr x) μ') :
    Wp (d + 1) 183 (43, [some (.ref r0), some (.int x1), o2], [], μ) Q := wp_blk rfl e183_43 (And.intro h1 (And.intro h2 (And.intro h3 (And.intro h4 (wp_cv (as := [.int (am_A μ (am_F μ r0 13) x1.toNatClampNeg), .int x1]) rfl e183_43_c rfl rfl rfl rfl rfl hk hc (fun v μ' hv => by obtain ⟨rfl, hp⟩ := pV_r hv; exact hr μ' hp) hx)))))
def q183_54 : List (Nat × Instr × Nat) := [(54, .aload_n 0, 1), (55, .getfield 32, 3), (58, .iload_n 1, 1), (59, .iaload, 1), (60, .istore_n 2, 1)]
theorem e183_54 : am_dec am_M183 q183_54 = true := by decide +kernel
theorem b183_54 {d : Nat} {Q : Option Value ⊕ Nat → am_Mem → Prop} {μ : am_Mem} {r0 : Nat} {x1 : Int32} {o2 : Option Value}
    (h1 : am_kd μ r0 = (1, 12))
    (h2 : ¬ am_F μ r0 14 = 15)
    (h3 : (am_kd μ (am_F μ r0 14)).1 = 2 ∨ (am_kd μ (am_F μ r0 14)).1 = 8)
    (h4 : ¬ (x1 < 0 ∨ (am_kd μ (am_F μ r0 14)).2 ≤ x1.toNatClampNeg))
    (k : Wp d 183 (61, [some (.ref r0), some (.int x1), some (.int (am_A μ (am_F μ r0 14) x1.toNatClampNeg))], [], μ) Q) :
    Wp d 183 (54, [some (.ref r0), some (.int x1), o2], [], μ) Q := wp_blk rfl e183_54 (And.intro h1 (And.intro h2 (And.intro h3 (And.intro h4 k))))
def q183_61 : List (Nat × Instr × Nat) := [(61, .iload_n 2, 1), (62, .aload_n 0, 1), (63, .getfield 32, 3), (66, .iload_n 1, 1), (67, .iconst 1, 1), (68, .iadd, 1), (69, .iaload, 1), (70, .if_icmp .ge 30, 3)]
theorem e183_61 : am_dec am_M183 q183_61 = true := by decide +kernel
theorem b183_61 {d : Nat} {Q : Option Value ⊕ Nat → am_Mem → Prop} {μ : am_Mem} {r0 : Nat} {x1 x2 : Int32}
    (h1 : am_kd μ r0 = (1, 12))
    (h2 : ¬ am_F μ r0 14 = 15)
    (h3 : (am_kd μ (am_F μ r0 14)).1 = 2 ∨ (am_kd μ (am_F μ r0 14)).1 = 8)
    (h4 : ¬ ((x1 + (Int32.ofInt 1)) < 0 ∨ (am_kd μ (am_F μ r0 14)).2 ≤ (x1 + (Int32.ofInt 1)).toNatClampNeg))
    (k1 : (am_A μ (am_F μ r0 14) (x1 + (Int32.ofInt 1)).toNatClampNeg) ≤ x2 → Wp d 183 (100, [some (.ref r0), some (.int x1), some (.int x2)], [], μ) Q) (k2 : ¬ ((am_A μ (am_F μ r0 14) (x1 + (Int32.ofInt 1)).toNatClampNeg) ≤ x2) → Wp d 183 (73, [some (.ref r0), some (.int x1), some (.int x2)], [], μ) Q) :
    Wp d 183 (61, [some (.ref r0), some (.int x1), some (.int x2)], [], μ) Q := wp_blk rfl e183_61 (And.intro h1 (And.intro h2 (And.intro h3 (And.intro h4 (And.intro k1 k2)))))
def q183_73 : List (Nat × Instr × Nat) := [(73, .aload_n 0, 1), (74, .getfield 35, 3), (77, .iload_n 2, 1), (78, .iaload, 1), (79, .iconst 3, 1), (80, .if_icmp .ge 14, 3)]
theorem e183_73 : am_dec am_M183 q183_73 = true := by decide +kernel
theorem b183_73 {d : Nat} {Q : Option Value ⊕ Nat → am_Mem → Prop} {μ : am_Mem} {r0 : Nat} {x1 x2 : Int32}
    (h1 : am_kd μ r0 = (1, 12))
    (h2 : ¬ am_F μ r0 16 = 15)
    (h3 : (am_kd μ (am_F μ r0 16)).1 = 2 ∨ (am_kd μ (am_F μ r0 16)).1 = 8)
    (h4 : ¬ (x2 < 0 ∨ (am_kd μ (am_F μ r0 16)).2 ≤ x2.toNatClampNeg))
    (k1 : (Int32.ofInt 3) ≤ (am_A μ (am_F μ r0 16) x2.toNatClampNeg) → Wp d 183 (94, [some (.ref r0), some (.int x1), some (.int x2)], [], μ) Q) (k2 : ¬ ((Int32.ofInt 3) ≤ (am_A μ (am_F μ r0 16) x2.toNatClampNeg)) → Wp d 183 (83, [some (.ref r0), some (.int x1), some (.int x2)], [], μ) Q) :
    Wp d 183 (73, [some (.ref r0), some (.int x1), some (.int x2)], [], μ) Q := wp_blk rfl e183_73 (And.intro h1 (And.intro h2 (And.intro h3 (And.intro h4 (And.intro k1 k2)))))
def q183_83 : List (Nat × Instr × Nat) := [(83, .aload_n 0, 1), (84, .aload_n 0, 1), (85, .getfield 38, 3), (88, .iload_n 2, 1), (89, .iaload, 1), (90, .iload_n 1, 1)]
theorem e183_83 : am_dec am_M183 q183_83 = true := by decide +kernel
theorem e183_83_c : am_dc1 am_M183 91 (.invokevirtual 379) 3 = true := by decide +kernel
theorem b183_83 {d : Nat} {Q : Option Value ⊕ Nat → am_Mem → Prop} {μ : am_Mem} {r0 : Nat} {x1 x2 : Int32} {P : am_Mem → Prop} {X : Nat → am_Mem → Prop}
    (h1 : am_kd μ r0 = (1, 12))
    (h2 : ¬ am_F μ r0 17 = 15)
    (h3 : (am_kd μ (am_F μ r0 17)).1 = 2 ∨ (am_kd μ (am_F μ r0 17)).1 = 8)
    (h4 : ¬ (x2 < 0 ∨ (am_kd μ (am_F μ r0 17)).2 ≤ x2.toNatClampNeg))
    (hk : am_kd μ r0 = (1, 12))
    (hc : Wp d 185 (0, [some (.ref r0), some (.int (am_A μ (am_F μ r0 17) x2.toNatClampNeg)), some (.int x1), none], [], μ) (pV P X)) (hr : ∀ μ', P μ' → Wp (d + 1) 183 (94, [some (.ref r0), some (.int x1), some (.int x2)], [], (μ')) Q)
    (hx : ∀ x μ', X x μ' → Q (.inr x) μ') :
    Wp (d + 1) 183 (83, [some (.ref r0), some (.int x1), some (.int x2)], [], μ) Q := wp_blk rfl e183_83 (And.intro h1 (And.intro h2 (And.intro h3 (And.intro h4 (wp_cv (as := [.int (am_A μ (am_F μ r0 17) x2.toNatClampNeg), .int x1]) rfl e183_83_c rfl rfl rfl rfl rfl hk hc (fun v μ' hv => by obtain ⟨rfl, hp⟩ := pV_r hv; exact hr μ' hp) hx)))))
def q183_94 : List (Nat × Instr × Nat) := [(94, .iinc 2 1, 3), (97, .goto (-36), 3)]
theorem e183_94 : am_dec am_M183 q183_94 = true := by decide +kernel
theorem b183_94 {d : Nat} {Q : Option Value ⊕ Nat → am_Mem → Prop} {μ : am_Mem} {r0 : Nat} {x1 x2 : Int32}
    (k : Wp d 183 (61, [some (.ref r0), some (.int x1), some (.int (x2 + Int32.ofInt 1))], [], μ) Q) :
    Wp d 183 (94, [some (.ref r0), some (.int x1), some (.int x2)], [], μ) Q := wp_blk rfl e183_94 k
def q183_100 : List (Nat × Instr × Nat) := [(100, .iinc 1 1, 3), (103, .goto (-75), 3)]
theorem e183_100 : am_dec am_M183 q183_100 = true := by decide +kernel
theorem b183_100 {d : Nat} {Q : Option Value ⊕ Nat → am_Mem → Prop} {μ : am_Mem} {r0 : Nat} {x1 x2 : Int32}
    (k : Wp d 183 (28, [some (.ref r0), some (.int (x1 + Int32.ofInt 1)), some (.int x2)], [], μ) Q) :
    Wp d 183 (100, [some (.ref r0), some (.int x1), some (.int x2)], [], μ) Q := wp_blk rfl e183_100 k
theorem e183_106_r : am_dec am_M183 [(106, .return_, 1)] = true := by decide +kernel
theorem b183_106 {d : Nat} {Q : Option Value ⊕ Nat → am_Mem → Prop} {μ : am_Mem} {r0 : Nat} {x1 : Int32} {o2 : Option Value}
    (k : Q (.inl none) μ) :
    Wp d 183 (106, [some (.ref r0), some (.int x1), o2], [], μ) Q := (wp_rv rfl e183_106_r rfl k)
/-! RuleSheetsModel.ownCount(I)I -/
def q184_0 : List (Nat × Instr × Nat) := [(0, .iload_n 0, 1)]
theorem e184_0 : am_dec am_M184 q184_0 = true := by decide +kernel
def q184_0_s : List (Nat × Instr × Nat) := [(1, .tableswitch 53 2 9 #[47, 47, 47, 49, 49, 47, 49, 51], 47)]
theorem e184_0_s : am_dec am_M184 q184_0_s = true := by decide +kernel
theorem b184_0 {d : Nat} {Q : Option Value ⊕ Nat → am_Mem → Prop} {μ : am_Mem} {x0 : Int32}
    (k : am_wsw 53 2 9 #[47, 47, 47, 49, 49, 47, 49, 51] 1 [some (.int x0)] [.int x0] μ (fun pc lv st μ => Wp d 184 (pc, lv, st, μ) Q)) :
    Wp d 184 (0, [some (.int x0)], [], μ) Q := wp_blk rfl e184_0 (wp_blk rfl e184_0_s k)
def q184_48 : List (Nat × Instr × Nat) := [(48, .iconst 1, 1)]
theorem e184_48 : am_dec am_M184 q184_48 = true := by decide +kernel
theorem e184_48_r : am_dec am_M184 [(49, .ireturn, 1)] = true := by decide +kernel
theorem b184_48 {d : Nat} {Q : Option Value ⊕ Nat → am_Mem → Prop} {μ : am_Mem} {x0 : Int32}
    (k : Q (.inl (some (.int (Int32.ofInt 1)))) μ) :
    Wp d 184 (48, [some (.int x0)], [], μ) Q := wp_blk rfl e184_48 (wp_ri (ty := .int) rfl e184_48_r rfl ⟨rfl, rfl⟩ k)
def q184_50 : List (Nat × Instr × Nat) := [(50, .iconst 2, 1)]
theorem e184_50 : am_dec am_M184 q184_50 = true := by decide +kernel
theorem e184_50_r : am_dec am_M184 [(51, .ireturn, 1)] = true := by decide +kernel
theorem b184_50 {d : Nat} {Q : Option Value ⊕ Nat → am_Mem → Prop} {μ : am_Mem} {x0 : Int32}
    (k : Q (.inl (some (.int (Int32.ofInt 2)))) μ) :
    Wp d 184 (50, [some (.int x0)], [], μ) Q := wp_blk rfl e184_50 (wp_ri (ty := .int) rfl e184_50_r rfl ⟨rfl, rfl⟩ k)
def q184_52 : List (Nat × Instr × Nat) := [(52, .iconst 0, 1)]
theorem e184_52 : am_dec am_M184 q184_52 = true := by decide +kernel
theorem e184_52_r : am_dec am_M184 [(53, .ireturn, 1)] = true := by decide +kernel
theorem b184_52 {d : Nat} {Q : Option Value ⊕ Nat → am_Mem → Prop} {μ : am_Mem} {x0 : Int32}
    (k : Q (.inl (some (.int (Int32.ofInt 0)))) μ) :
    Wp d 184 (52, [some (.int x0)], [], μ) Q := wp_blk rfl e184_52 (wp_ri (ty := .int) rfl e184_52_r rfl ⟨rfl, rfl⟩ k)
def q184_54 : List (Nat × Instr × Nat) := [(54, .iconst (-1), 1)]
theorem e184_54 : am_dec am_M184 q184_54 = true := by decide +kernel
theorem e184_54_r : am_dec am_M184 [(55, .ireturn, 1)] = true := by decide +kernel
theorem b184_54 {d : Nat} {Q : Option Value ⊕ Nat → am_Mem → Prop} {μ : am_Mem} {x0 : Int32}
    (k : Q (.inl (some (.int (Int32.ofInt (-1))))) μ) :
    Wp d 184 (54, [some (.int x0)], [], μ) Q := wp_blk rfl e184_54 (wp_ri (ty := .int) rfl e184_54_r rfl ⟨rfl, rfl⟩ k)
/-! RuleSheetsModel.checkCount(II)V -/
def q185_0 : List (Nat × Instr × Nat) := [(0, .aload_n 0, 1), (1, .getfield 41, 3), (4, .iload_n 1, 1), (5, .iaload, 1), (6, .istore_n 3, 1), (7, .aload_n 0, 1), (8, .getfield 81, 3), (11, .iload_n 3, 1), (12, .aload_n 0, 1), (13, .getfield 81, 3), (16, .iload_n 3, 1), (17, .iaload, 1), (18, .ifCond .ge 12, 3)]
theorem e185_0 : am_dec am_M185 q185_0 = true := by decide +kernel
theorem b185_0 {d : Nat} {Q : Option Value ⊕ Nat → am_Mem → Prop} {μ : am_Mem} {r0 : Nat} {x1 x2 : Int32}
    (h1 : am_kd μ r0 = (1, 12))
    (h2 : ¬ am_F μ r0 19 = 15)
    (h3 : (am_kd μ (am_F μ r0 19)).1 = 2 ∨ (am_kd μ (am_F μ r0 19)).1 = 8)
    (h4 : ¬ (x1 < 0 ∨ (am_kd μ (am_F μ r0 19)).2 ≤ x1.toNatClampNeg))
    (h5 : am_kd μ r0 = (1, 12))
    (h6 : ¬ am_F μ r0 41 = 15)
    (h7 : am_kd μ r0 = (1, 12))
    (h8 : ¬ am_F μ r0 41 = 15)
    (h9 : (am_kd μ (am_F μ r0 41)).1 = 2 ∨ (am_kd μ (am_F μ r0 41)).1 = 8)
    (h10 : ¬ ((am_A μ (am_F μ r0 19) x1.toNatClampNeg) < 0 ∨ (am_kd μ (am_F μ r0 41)).2 ≤ (am_A μ (am_F μ r0 19) x1.toNatClampNeg).toNatClampNeg))
    (k1 : 0 ≤ (am_A μ (am_F μ r0 41) (am_A μ (am_F μ r0 19) x1.toNatClampNeg).toNatClampNeg) → Wp d 185 (30, [some (.ref r0), some (.int x1), some (.int x2), some (.int (am_A μ (am_F μ r0 19) x1.toNatClampNeg))], [.int (am_A μ (am_F μ r0 19) x1.toNatClampNeg), .ref (am_F μ r0 41)], μ) Q) (k2 : ¬ (0 ≤ (am_A μ (am_F μ r0 41) (am_A μ (am_F μ r0 19) x1.toNatClampNeg).toNatClampNeg)) → Wp d 185 (21, [some (.ref r0), some (.int x1), some (.int x2), some (.int (am_A μ (am_F μ r0 19) x1.toNatClampNeg))], [.int (am_A μ (am_F μ r0 19) x1.toNatClampNeg), .ref (am_F μ r0 41)], μ) Q) :
    Wp d 185 (0, [some (.ref r0), some (.int x1), some (.int x2), none], [], μ) Q := wp_blk rfl e185_0 (And.intro h1 (And.intro h2 (And.intro h3 (And.intro h4 (And.intro h5 (And.intro h6 (And.intro h7 (And.intro h8 (And.intro h9 (And.intro h10 (And.intro k1 k2)))))))))))
def q185_21 : List (Nat × Instr × Nat) := [(21, .aload_n 0, 1), (22, .getfield 47, 3), (25, .iload_n 1, 1), (26, .iaload, 1), (27, .goto 9, 3)]
theorem e185_21 : am_dec am_M185 q185_21 = true := by decide +kernel
theorem b185_21 {d : Nat} {Q : Option Value ⊕ Nat → am_Mem → Prop} {μ : am_Mem} {r0 r90 : Nat} {x1 x2 x3 s1 : Int32}
    (h1 : am_kd μ r0 = (1, 12))
    (h2 : ¬ am_F μ r0 21 = 15)
    (h3 : (am_kd μ (am_F μ r0 21)).1 = 2 ∨ (am_kd μ (am_F μ r0 21)).1 = 8)
    (h4 : ¬ (x1 < 0 ∨ (am_kd μ (am_F μ r0 21)).2 ≤ x1.toNatClampNeg))
    (k : Wp d 185 (36, [some (.ref r0), some (.int x1), some (.int x2), some (.int x3)], [.int (am_A μ (am_F μ r0 21) x1.toNatClampNeg), .int s1, .ref r90], μ) Q) :
    Wp d 185 (21, [some (.ref r0), some (.int x1), some (.int x2), some (.int x3)], [.int s1, .ref r90], μ) Q := wp_blk rfl e185_21 (And.intro h1 (And.intro h2 (And.intro h3 (And.intro h4 k))))
def q185_30 : List (Nat × Instr × Nat) := [(30, .aload_n 0, 1), (31, .getfield 81, 3), (34, .iload_n 3, 1), (35, .iaload, 1)]
theorem e185_30 : am_dec am_M185 q185_30 = true := by decide +kernel
theorem b185_30 {d : Nat} {Q : Option Value ⊕ Nat → am_Mem → Prop} {μ : am_Mem} {r0 r90 : Nat} {x1 x2 x3 s1 : Int32}
    (h1 : am_kd μ r0 = (1, 12))
    (h2 : ¬ am_F μ r0 41 = 15)
    (h3 : (am_kd μ (am_F μ r0 41)).1 = 2 ∨ (am_kd μ (am_F μ r0 41)).1 = 8)
    (h4 : ¬ (x3 < 0 ∨ (am_kd μ (am_F μ r0 41)).2 ≤ x3.toNatClampNeg))
    (k : Wp d 185 (36, [some (.ref r0), some (.int x1), some (.int x2), some (.int x3)], [.int (am_A μ (am_F μ r0 41) x3.toNatClampNeg), .int s1, .ref r90], μ) Q) :
    Wp d 185 (30, [some (.ref r0), some (.int x1), some (.int x2), some (.int x3)], [.int s1, .ref r90], μ) Q := wp_blk rfl e185_30 (And.intro h1 (And.intro h2 (And.intro h3 (And.intro h4 k))))
def q185_36 : List (Nat × Instr × Nat) := [(36, .iastore, 1), (37, .aload_n 0, 1), (38, .getfield 81, 3), (41, .iload_n 3, 1), (42, .iaload, 1), (43, .aload_n 0, 1), (44, .getfield 47, 3), (47, .iload_n 1, 1), (48, .iaload, 1), (49, .if_icmp .eq 9, 3)]
theorem e185_36 : am_dec am_M185 q185_36 = true := by decide +kernel
theorem b185_36 {d : Nat} {Q : Option Value ⊕ Nat → am_Mem → Prop} {μ : am_Mem} {r0 r90 : Nat} {x1 x2 x3 s1 s2 : Int32}
    (h1 : (am_kd μ r90).1 = 2)
    (h2 : ¬ (s1 < 0 ∨ (am_kd μ r90).2 ≤ s1.toNatClampNeg))
    (h3 : am_kd (am_pA μ r90 s1.toNatClampNeg s2) r0 = (1, 12))
    (h4 : ¬ am_F (am_pA μ r90 s1.toNatClampNeg s2) r0 41 = 15)
    (h5 : (am_kd (am_pA μ r90 s1.toNatClampNeg s2) (am_F (am_pA μ r90 s1.toNatClampNeg s2) r0 41)).1 = 2 ∨ (am_kd (am_pA μ r90 s1.toNatClampNeg s2) (am_F (am_pA μ r90 s1.toNatClampNeg s2) r0 41)).1 = 8)
    (h6 : ¬ (x3 < 0 ∨ (am_kd (am_pA μ r90 s1.toNatClampNeg s2) (am_F (am_pA μ r90 s1.toNatClampNeg s2) r0 41)).2 ≤ x3.toNatClampNeg))
    (h7 : am_kd (am_pA μ r90 s1.toNatClampNeg s2) r0 = (1, 12))
    (h8 : ¬ am_F (am_pA μ r90 s1.toNatClampNeg s2) r0 21 = 15)
    (h9 : (am_kd (am_pA μ r90 s1.toNatClampNeg s2) (am_F (am_pA μ r90 s1.toNatClampNeg s2) r0 21)).1 = 2 ∨ (am_kd (am_pA μ r90 s1.toNatClampNeg s2) (am_F (am_pA μ r90 s1.toNatClampNeg s2) r0 21)).1 = 8)
    (h10 : ¬ (x1 < 0 ∨ (am_kd (am_pA μ r90 s1.toNatClampNeg s2) (am_F (am_pA μ r90 s1.toNatClampNeg s2) r0 21)).2 ≤ x1.toNatClampNeg))
    (k1 : (am_A (am_pA μ r90 s1.toNatClampNeg s2) (am_F (am_pA μ r90 s1.toNatClampNeg s2) r0 41) x3.toNatClampNeg) = (am_A (am_pA μ r90 s1.toNatClampNeg s2) (am_F (am_pA μ r90 s1.toNatClampNeg s2) r0 21) x1.toNatClampNeg) → Wp d 185 (58, [some (.ref r0), some (.int x1), some (.int x2), some (.int x3)], [], (am_pA μ r90 s1.toNatClampNeg s2)) Q) (k2 : ¬ ((am_A (am_pA μ r90 s1.toNatClampNeg s2) (am_F (am_pA μ r90 s1.toNatClampNeg s2) r0 41) x3.toNatClampNeg) = (am_A (am_pA μ r90 s1.toNatClampNeg s2) (am_F (am_pA μ r90 s1.toNatClampNeg s2) r0 21) x1.toNatClampNeg)) → Wp d 185 (52, [some (.ref r0), some (.int x1), some (.int x2), some (.int x3)], [], (am_pA μ r90 s1.toNatClampNeg s2)) Q) :
    Wp d 185 (36, [some (.ref r0), some (.int x1), some (.int x2), some (.int x3)], [.int s2, .int s1, .ref r90], μ) Q := wp_blk rfl e185_36 (And.intro h1 (And.intro h2 (And.intro h3 (And.intro h4 (And.intro h5 (And.intro h6 (And.intro h7 (And.intro h8 (And.intro h9 (And.intro h10 (And.intro k1 k2)))))))))))
def q185_52 : List (Nat × Instr × Nat) := [(52, .aload_n 0, 1), (53, .iconst 2, 1), (54, .iload_n 2, 1)]
theorem e185_52 : am_dec am_M185 q185_52 = true := by decide +kernel
theorem e185_52_c : am_dc1 am_M185 55 (.invokevirtual 271) 3 = true := by decide +kernel
theorem b185_52 {d : Nat} {Q : Option Value ⊕ Nat → am_Mem → Prop} {μ : am_Mem} {r0 : Nat} {x1 x2 x3 : Int32} {P : am_Mem → Prop} {X : Nat → am_Mem → Prop}
    (hk : am_kd μ r0 = (1, 12))
    (hc : Wp d 166 (0, [some (.ref r0), some (.int (Int32.ofInt 2)), some (.int x2)], [], μ) (pV P X)) (hr : ∀ μ', P μ' → Wp (d + 1) 185 (58, [some (.ref r0), some (.int x1), some (.int x2), some (.int x3)], [], (μ')) Q)
    (hx : ∀ x μ', X x μ' → Q (.inr x) μ') :
    Wp (d + 1) 185 (52, [some (.ref r0), some (.int x1), some (.int x2), some (.int x3)], [], μ) Q := wp_blk rfl e185_52 (wp_cv (as := [.int (Int32.ofInt 2), .int x2]) rfl e185_52_c rfl rfl rfl rfl rfl hk hc (fun v μ' hv => by obtain ⟨rfl, hp⟩ := pV_r hv; exact hr μ' hp) hx)
theorem e185_58_r : am_dec am_M185 [(58, .return_, 1)] = true := by decide +kernel
theorem b185_58 {d : Nat} {Q : Option Value ⊕ Nat → am_Mem → Prop} {μ : am_Mem} {r0 : Nat} {x1 x2 x3 : Int32}
    (k : Q (.inl none) μ) :
    Wp d 185 (58, [some (.ref r0), some (.int x1), some (.int x2), some (.int x3)], [], μ) Q := (wp_rv rfl e185_58_r rfl k)
/-! RuleSheetsModel.checkWords()V -/
def q186_0 : List (Nat × Instr × Nat) := [(0, .iconst 0, 1), (1, .istore_n 1, 1)]
theorem e186_0 : am_dec am_M186 q186_0 = true := by decide +kernel
theorem b186_0 {d : Nat} {Q : Option Value ⊕ Nat → am_Mem → Prop} {μ : am_Mem} {r0 : Nat}
    (k : Wp d 186 (2, [some (.ref r0), some (.int (Int32.ofInt 0)), none, none, none, none, none], [], μ) Q) :
    Wp d 186 (0, [some (.ref r0), none, none, none, none, none, none], [], μ) Q := wp_blk rfl e186_0 k
def q186_2 : List (Nat × Instr × Nat) := [(2, .iload_n 1, 1), (3, .aload_n 0, 1), (4, .getfield 287, 3), (7, .if_icmp .ge 161, 3)]
theorem e186_2 : am_dec am_M186 q186_2 = true := by decide +kernel
theorem b186_2 {d : Nat} {Q : Option Value ⊕ Nat → am_Mem → Prop} {μ : am_Mem} {r0 : Nat} {x1 : Int32} {o2 o3 o4 o5 o6 : Option Value}
    (h1 : am_kd μ r0 = (1, 12))
    (k1 : (am_A μ r0 12) ≤ x1 → Wp d 186 (168, [some (.ref r0), some (.int x1), o2, o3, o4, o5, o6], [], μ) Q) (k2 : ¬ ((am_A μ r0 12) ≤ x1) → Wp d 186 (10, [some (.ref r0), some (.int x1), o2, o3, o4, o5, o6], [], μ) Q) :
    Wp d 186 (2, [some (.ref r0), some (.int x1), o2, o3, o4, o5, o6], [], μ) Q := wp_blk rfl e186_2 (And.intro h1 (And.intro k1 k2))
def q186_10 : List (Nat × Instr × Nat) := [(10, .aload_n 0, 1), (11, .getfield 41, 3), (14, .aload_n 0, 1), (15, .getfield 29, 3), (18, .iload_n 1, 1), (19, .iaload, 1), (20, .iaload, 1), (21, .istore_n 2, 1), (22, .aload_n 0, 1), (23, .getfield 32, 3), (26, .iload_n 1, 1), (27, .iconst 1, 1), (28, .iadd, 1), (29, .iaload, 1), (30, .aload_n 0, 1), (31, .getfield 32, 3), (34, .iload_n 1, 1), (35, .iaload, 1), (36, .if_icmp .ne 21, 3)]
theorem e186_10 : am_dec am_M186 q186_10 = true := by decide +kernel
theorem b186_10 {d : Nat} {Q : Option Value ⊕ Nat → am_Mem → Prop} {μ : am_Mem} {r0 : Nat} {x1 : Int32} {o2 o3 o4 o5 o6 : Option Value}
    (h1 : am_kd μ r0 = (1, 12))
    (h2 : ¬ am_F μ r0 19 = 15)
    (h3 : am_kd μ r0 = (1, 12))
    (h4 : ¬ am_F μ r0 13 = 15)
    (h5 : (am_kd μ (am_F μ r0 13)).1 = 2 ∨ (am_kd μ (am_F μ r0 13)).1 = 8)
    (h6 : ¬ (x1 < 0 ∨ (am_kd μ (am_F μ r0 13)).2 ≤ x1.toNatClampNeg))
    (h7 : (am_kd μ (am_F μ r0 19)).1 = 2 ∨ (am_kd μ (am_F μ r0 19)).1 = 8)
    (h8 : ¬ ((am_A μ (am_F μ r0 13) x1.toNatClampNeg) < 0 ∨ (am_kd μ (am_F μ r0 19)).2 ≤ (am_A μ (am_F μ r0 13) x1.toNatClampNeg).toNatClampNeg))
    (h9 : am_kd μ r0 = (1, 12))
    (h10 : ¬ am_F μ r0 14 = 15)
    (h11 : (am_kd μ (am_F μ r0 14)).1 = 2 ∨ (am_kd μ (am_F μ r0 14)).1 = 8)
    (h12 : ¬ ((x1 + (Int32.ofInt 1)) < 0 ∨ (am_kd μ (am_F μ r0 14)).2 ≤ (x1 + (Int32.ofInt 1)).toNatClampNeg))
    (h13 : am_kd μ r0 = (1, 12))
    (h14 : ¬ am_F μ r0 14 = 15)
    (h15 : (am_kd μ (am_F μ r0 14)).1 = 2 ∨ (am_kd μ (am_F μ r0 14)).1 = 8)
    (h16 : ¬ (x1 < 0 ∨ (am_kd μ (am_F μ r0 14)).2 ≤ x1.toNatClampNeg))
    (k1 : ¬ (am_A μ (am_F μ r0 14) (x1 + (Int32.ofInt 1)).toNatClampNeg) = (am_A μ (am_F μ r0 14) x1.toNatClampNeg) → Wp d 186 (57, [some (.ref r0), some (.int x1), some (.int (am_A μ (am_F μ r0 19) (am_A μ (am_F μ r0 13) x1.toNatClampNeg).toNatClampNeg)), o3, o4, o5, o6], [], μ) Q) (k2 : ¬ (¬ (am_A μ (am_F μ r0 14) (x1 + (Int32.ofInt 1)).toNatClampNeg) = (am_A μ (am_F μ r0 14) x1.toNatClampNeg)) → Wp d 186 (39, [some (.ref r0), some (.int x1), some (.int (am_A μ (am_F μ r0 19) (am_A μ (am_F μ r0 13) x1.toNatClampNeg).toNatClampNeg)), o3, o4, o5, o6], [], μ) Q) :
    Wp d 186 (10, [some (.ref r0), some (.int x1), o2, o3, o4, o5, o6], [], μ) Q := wp_blk rfl e186_10 (And.intro h1 (And.intro h2 (And.intro h3 (And.intro h4 (And.intro h5 (And.intro h6 (And.intro h7 (And.intro h8 (And.intro h9 (And.intro h10 (And.intro h11 (And.intro h12 (And.intro h13 (And.intro h14 (And.intro h15 (And.intro h16 (And.intro k1 k2)))))))))))))))))
def q186_39 : List (Nat × Instr × Nat) := [(39, .aload_n 0, 1), (40, .aload_n 0, 1), (41, .getfield 29, 3), (44, .iload_n 1, 1), (45, .iaload, 1), (46, .iconst (-1), 1)]
theorem e186_39 : am_dec am_M186 q186_39 = true := by decide +kernel
theorem e186_39_c : am_dc1 am_M186 47 (.invokevirtual 385) 3 = true := by decide +kernel
theorem b186_39 {d : Nat} {Q : Option Value ⊕ Nat → am_Mem → Prop} {μ : am_Mem} {r0 : Nat} {x1 x2 : Int32} {o3 o4 o5 o6 : Option Value} {P : Int32 → am_Mem → Prop} {X : Nat → am_Mem → Prop}
    (h1 : am_kd μ r0 = (1, 12))
    (h2 : ¬ am_F μ r0 13 = 15)
    (h3 : (am_kd μ (am_F μ r0 13)).1 = 2 ∨ (am_kd μ (am_F μ r0 13)).1 = 8)
    (h4 : ¬ (x1 < 0 ∨ (am_kd μ (am_F μ r0 13)).2 ≤ x1.toNatClampNeg))
    (hk : am_kd μ r0 = (1, 12))
    (hc : Wp d 187 (0, [some (.ref r0), some (.int (am_A μ (am_F μ r0 13) x1.toNatClampNeg)), some (.int (Int32.ofInt (-1))), none, none], [], μ) (pI P X)) (hr : ∀ x μ', P x μ' → Wp (d + 1) 186 (50, [some (.ref r0), some (.int x1), some (.int x2), o3, o4, o5, o6], [.int x], (μ')) Q)
    (hx : ∀ x μ', X x μ' → Q (.inr x) μ') :
    Wp (d + 1) 186 (39, [some (.ref r0), some (.int x1), some (.int x2), o3, o4, o5, o6], [], μ) Q := wp_blk rfl e186_39 (And.intro h1 (And.intro h2 (And.intro h3 (And.intro h4 (wp_cv (as := [.int (am_A μ (am_F μ r0 13) x1.toNatClampNeg), .int (Int32.ofInt (-1))]) rfl e186_39_c rfl rfl rfl rfl rfl hk hc (fun v μ' hv => by obtain ⟨x, rfl, hp⟩ := pI_r hv; exact hr x μ' hp) hx)))))
def q186_50 : List (Nat × Instr × Nat) := [(50, .ifCond .ne 7, 3)]
theorem e186_50 : am_dec am_M186 q186_50 = true := by decide +kernel
theorem b186_50 {d : Nat} {Q : Option Value ⊕ Nat → am_Mem → Prop} {μ : am_Mem} {r0 : Nat} {x1 x2 s0 : Int32} {o3 o4 o5 o6 : Option Value}
    (k1 : ¬ s0 = 0 → Wp d 186 (57, [some (.ref r0), some (.int x1), some (.int x2), o3, o4, o5, o6], [], μ) Q) (k2 : ¬ (¬ s0 = 0) → Wp d 186 (53, [some (.ref r0), some (.int x1), some (.int x2), o3, o4, o5, o6], [], μ) Q) :
    Wp d 186 (50, [some (.ref r0), some (.int x1), some (.int x2), o3, o4, o5, o6], [.int s0], μ) Q := wp_blk rfl e186_50 (And.intro k1 k2)
def q186_53 : List (Nat × Instr × Nat) := [(53, .iconst 1, 1), (54, .goto 4, 3)]
theorem e186_53 : am_dec am_M186 q186_53 = true := by decide +kernel
theorem b186_53 {d : Nat} {Q : Option Value ⊕ Nat → am_Mem → Prop} {μ : am_Mem} {r0 : Nat} {x1 x2 : Int32} {o3 o4 o5 o6 : Option Value}
    (k : Wp d 186 (58, [some (.ref r0), some (.int x1), some (.int x2), o3, o4, o5, o6], [.int (Int32.ofInt 1)], μ) Q) :
    Wp d 186 (53, [some (.ref r0), some (.int x1), some (.int x2), o3, o4, o5, o6], [], μ) Q := wp_blk rfl e186_53 k
def q186_57 : List (Nat × Instr × Nat) := [(57, .iconst 0, 1)]
theorem e186_57 : am_dec am_M186 q186_57 = true := by decide +kernel
theorem b186_57 {d : Nat} {Q : Option Value ⊕ Nat → am_Mem → Prop} {μ : am_Mem} {r0 : Nat} {x1 x2 : Int32} {o3 o4 o5 o6 : Option Value}
    (k : Wp d 186 (58, [some (.ref r0), some (.int x1), some (.int x2), o3, o4, o5, o6], [.int (Int32.ofInt 0)], μ) Q) :
    Wp d 186 (57, [some (.ref r0), some (.int x1), some (.int x2), o3, o4, o5, o6], [], μ) Q := wp_blk rfl e186_57 k
def q186_58 : List (Nat × Instr × Nat) := [(58, .istore_n 3, 1), (59, .iload_n 2, 1), (60, .iconst 4, 1), (61, .if_icmp .eq 17, 3)]
theorem e186_58 : am_dec am_M186 q186_58 = true := by decide +kernel
theorem b186_58 {d : Nat} {Q : Option Value ⊕ Nat → am_Mem → Prop} {μ : am_Mem} {r0 : Nat} {x1 x2 s0 : Int32} {o3 o4 o5 o6 : Option Value}
    (k1 : x2 = (Int32.ofInt 4) → Wp d 186 (78, [some (.ref r0), some (.int x1), some (.int x2), some (.int s0), o4, o5, o6], [], μ) Q) (k2 : ¬ (x2 = (Int32.ofInt 4)) → Wp d 186 (64, [some (.ref r0), some (.int x1), some (.int x2), some (.int s0), o4, o5, o6], [], μ) Q) :
    Wp d 186 (58, [some (.ref r0), some (.int x1), some (.int x2), o3, o4, o5, o6], [.int s0], μ) Q := wp_blk rfl e186_58 (And.intro k1 k2)
def q186_64 : List (Nat × Instr × Nat) := [(64, .iload_n 2, 1), (65, .iconst 5, 1), (66, .if_icmp .eq 12, 3)]
theorem e186_64 : am_dec am_M186 q186_64 = true := by decide +kernel
theorem b186_64 {d : Nat} {Q : Option Value ⊕ Nat → am_Mem → Prop} {μ : am_Mem} {r0 : Nat} {x1 x2 x3 : Int32} {o4 o5 o6 : Option Value}
    (k1 : x2 = (Int32.ofInt 5) → Wp d 186 (78, [some (.ref r0), some (.int x1), some (.int x2), some (.int x3), o4, o5, o6], [], μ) Q) (k2 : ¬ (x2 = (Int32.ofInt 5)) → Wp d 186 (69, [some (.ref r0), some (.int x1), some (.int x2), some (.int x3), o4, o5, o6], [], μ) Q) :
    Wp d 186 (64, [some (.ref r0), some (.int x1), some (.int x2), some (.int x3), o4, o5, o6], [], μ) Q := wp_blk rfl e186_64 (And.intro k1 k2)
def q186_69 : List (Nat × Instr × Nat) := [(69, .iload_n 2, 1), (70, .iconst 2, 1), (71, .if_icmp .ne 11, 3)]
theorem e186_69 : am_dec am_M186 q186_69 = true := by decide +kernel
theorem b186_69 {d : Nat} {Q : Option Value ⊕ Nat → am_Mem → Prop} {μ : am_Mem} {r0 : Nat} {x1 x2 x3 : Int32} {o4 o5 o6 : Option Value}
    (k1 : ¬ x2 = (Int32.ofInt 2) → Wp d 186 (82, [some (.ref r0), some (.int x1), some (.int x2), some (.int x3), o4, o5, o6], [], μ) Q) (k2 : ¬ (¬ x2 = (Int32.ofInt 2)) → Wp d 186 (74, [some (.ref r0), some (.int x1), some (.int x2), some (.int x3), o4, o5, o6], [], μ) Q) :
    Wp d 186 (69, [some (.ref r0), some (.int x1), some (.int x2), some (.int x3), o4, o5, o6], [], μ) Q := wp_blk rfl e186_69 (And.intro k1 k2)
def q186_74 : List (Nat × Instr × Nat) := [(74, .iload_n 3, 1), (75, .ifCond .ne 7, 3)]
theorem e186_74 : am_dec am_M186 q186_74 = true := by decide +kernel
theorem b186_74 {d : Nat} {Q : Option Value ⊕ Nat → am_Mem → Prop} {μ : am_Mem} {r0 : Nat} {x1 x2 x3 : Int32} {o4 o5 o6 : Option Value}
    (k1 : ¬ x3 = 0 → Wp d 186 (82, [some (.ref r0), some (.int x1), some (.int x2), some (.int x3), o4, o5, o6], [], μ) Q) (k2 : ¬ (¬ x3 = 0) → Wp d 186 (78, [some (.ref r0), some (.int x1), some (.int x2), some (.int x3), o4, o5, o6], [], μ) Q) :
    Wp d 186 (74, [some (.ref r0), some (.int x1), some (.int x2), some (.int x3), o4, o5, o6], [], μ) Q := wp_blk rfl e186_74 (And.intro k1 k2)
def q186_78 : List (Nat × Instr × Nat) := [(78, .iconst 1, 1), (79, .goto 4, 3)]
theorem e186_78 : am_dec am_M186 q186_78 = true := by decide +kernel
theorem b186_78 {d : Nat} {Q : Option Value ⊕ Nat → am_Mem → Prop} {μ : am_Mem} {r0 : Nat} {x1 x2 x3 : Int32} {o4 o5 o6 : Option Value}
    (k : Wp d 186 (83, [some (.ref r0), some (.int x1), some (.int x2), some (.int x3), o4, o5, o6], [.int (Int32.ofInt 1)], μ) Q) :
    Wp d 186 (78, [some (.ref r0), some (.int x1), some (.int x2), some (.int x3), o4, o5, o6], [], μ) Q := wp_blk rfl e186_78 k
def q186_82 : List (Nat × Instr × Nat) := [(82, .iconst 0, 1)]
theorem e186_82 : am_dec am_M186 q186_82 = true := by decide +kernel
theorem b186_82 {d : Nat} {Q : Option Value ⊕ Nat → am_Mem → Prop} {μ : am_Mem} {r0 : Nat} {x1 x2 x3 : Int32} {o4 o5 o6 : Option Value}
    (k : Wp d 186 (83, [some (.ref r0), some (.int x1), some (.int x2), some (.int x3), o4, o5, o6], [.int (Int32.ofInt 0)], μ) Q) :
    Wp d 186 (82, [some (.ref r0), some (.int x1), some (.int x2), some (.int x3), o4, o5, o6], [], μ) Q := wp_blk rfl e186_82 k
def q186_83 : List (Nat × Instr × Nat) := [(83, .istore 4, 2), (85, .aload_n 0, 1), (86, .getfield 32, 3), (89, .iload_n 1, 1), (90, .iaload, 1), (91, .istore 5, 2)]
theorem e186_83 : am_dec am_M186 q186_83 = true := by decide +kernel
theorem b186_83 {d : Nat} {Q : Option Value ⊕ Nat → am_Mem → Prop} {μ : am_Mem} {r0 : Nat} {x1 x2 x3 s0 : Int32} {o4 o5 o6 : Option Value}
    (h1 : am_kd μ r0 = (1, 12))
    (h2 : ¬ am_F μ r0 14 = 15)
    (h3 : (am_kd μ (am_F μ r0 14)).1 = 2 ∨ (am_kd μ (am_F μ r0 14)).1 = 8)
    (h4 : ¬ (x1 < 0 ∨ (am_kd μ (am_F μ r0 14)).2 ≤ x1.toNatClampNeg))
    (k : Wp d 186 (93, [some (.ref r0), some (.int x1), some (.int x2), some (.int x3), some (.int s0), some (.int (am_A μ (am_F μ r0 14) x1.toNatClampNeg)), o6], [], μ) Q) :
    Wp d 186 (83, [some (.ref r0), some (.int x1), some (.int x2), some (.int x3), o4, o5, o6], [.int s0], μ) Q := wp_blk rfl e186_83 (And.intro h1 (And.intro h2 (And.intro h3 (And.intro h4 k))))
def q186_93 : List (Nat × Instr × Nat) := [(93, .iload 5, 2), (95, .aload_n 0, 1), (96, .getfield 32, 3), (99, .iload_n 1, 1), (100, .iconst 1, 1), (101, .iadd, 1), (102, .iaload, 1), (103, .if_icmp .ge 48, 3)]
theorem e186_93 : am_dec am_M186 q186_93 = true := by decide +kernel
theorem b186_93 {d : Nat} {Q : Option Value ⊕ Nat → am_Mem → Prop} {μ : am_Mem} {r0 : Nat} {x1 x2 x3 x4 x5 : Int32} {o6 : Option Value}
    (h1 : am_kd μ r0 = (1, 12))
    (h2 : ¬ am_F μ r0 14 = 15)
    (h3 : (am_kd μ (am_F μ r0 14)).1 = 2 ∨ (am_kd μ (am_F μ r0 14)).1 = 8)
    (h4 : ¬ ((x1 + (Int32.ofInt 1)) < 0 ∨ (am_kd μ (am_F μ r0 14)).2 ≤ (x1 + (Int32.ofInt 1)).toNatClampNeg))
    (k1 : (am_A μ (am_F μ r0 14) (x1 + (Int32.ofInt 1)).toNatClampNeg) ≤ x5 → Wp d 186 (151, [some (.ref r0), some (.int x1), some (.int x2), some (.int x3), some (.int x4), some (.int x5), o6], [], μ) Q) (k2 : ¬ ((am_A μ (am_F μ r0 14) (x1 + (Int32.ofInt 1)).toNatClampNeg) ≤ x5) → Wp d 186 (106, [some (.ref r0), some (.int x1), some (.int x2), some (.int x3), some (.int x4), some (.int x5), o6], [], μ) Q) :
    Wp d 186 (93, [some (.ref r0), some (.int x1), some (.int x2), some (.int x3), some (.int x4), some (.int x5), o6], [], μ) Q := wp_blk rfl e186_93 (And.intro h1 (And.intro h2 (And.intro h3 (And.intro h4 (And.intro k1 k2)))))
def q186_106 : List (Nat × Instr × Nat) := [(106, .aload_n 0, 1), (107, .getfield 41, 3), (110, .aload_n 0, 1), (111, .getfield 38, 3), (114, .iload 5, 2), (116, .iaload, 1), (117, .iaload, 1), (118, .istore 6, 2), (120, .iload 4, 2), (122, .ifCond .ne 16, 3)]
theorem e186_106 : am_dec am_M186 q186_106 = true := by decide +kernel
theorem b186_106 {d : Nat} {Q : Option Value ⊕ Nat → am_Mem → Prop} {μ : am_Mem} {r0 : Nat} {x1 x2 x3 x4 x5 : Int32} {o6 : Option Value}
    (h1 : am_kd μ r0 = (1, 12))
    (h2 : ¬ am_F μ r0 19 = 15)
    (h3 : am_kd μ r0 = (1, 12))
    (h4 : ¬ am_F μ r0 17 = 15)
    (h5 : (am_kd μ (am_F μ r0 17)).1 = 2 ∨ (am_kd μ (am_F μ r0 17)).1 = 8)
    (h6 : ¬ (x5 < 0 ∨ (am_kd μ (am_F μ r0 17)).2 ≤ x5.toNatClampNeg))
    (h7 : (am_kd μ (am_F μ r0 19)).1 = 2 ∨ (am_kd μ (am_F μ r0 19)).1 = 8)
    (h8 : ¬ ((am_A μ (am_F μ r0 17) x5.toNatClampNeg) < 0 ∨ (am_kd μ (am_F μ r0 19)).2 ≤ (am_A μ (am_F μ r0 17) x5.toNatClampNeg).toNatClampNeg))
    (k1 : ¬ x4 = 0 → Wp d 186 (138, [some (.ref r0), some (.int x1), some (.int x2), some (.int x3), some (.int x4), some (.int x5), some (.int (am_A μ (am_F μ r0 19) (am_A μ (am_F μ r0 17) x5.toNatClampNeg).toNatClampNeg))], [], μ) Q) (k2 : ¬ (¬ x4 = 0) → Wp d 186 (125, [some (.ref r0), some (.int x1), some (.int x2), some (.int x3), some (.int x4), some (.int x5), some (.int (am_A μ (am_F μ r0 19) (am_A μ (am_F μ r0 17) x5.toNatClampNeg).toNatClampNeg))], [], μ) Q) :
    Wp d 186 (106, [some (.ref r0), some (.int x1), some (.int x2), some (.int x3), some (.int x4), some (.int x5), o6], [], μ) Q := wp_blk rfl e186_106 (And.intro h1 (And.intro h2 (And.intro h3 (And.intro h4 (And.intro h5 (And.intro h6 (And.intro h7 (And.intro h8 (And.intro k1 k2)))))))))
def q186_125 : List (Nat × Instr × Nat) := [(125, .iload 6, 2), (127, .iconst 3, 1), (128, .if_icmp .eq 10, 3)]
theorem e186_125 : am_dec am_M186 q186_125 = true := by decide +kernel
theorem b186_125 {d : Nat} {Q : Option Value ⊕ Nat → am_Mem → Prop} {μ : am_Mem} {r0 : Nat} {x1 x2 x3 x4 x5 x6 : Int32}
    (k1 : x6 = (Int32.ofInt 3) → Wp d 186 (138, [some (.ref r0), some (.int x1), some (.int x2), some (.int x3), some (.int x4), some (.int x5), some (.int x6)], [], μ) Q) (k2 : ¬ (x6 = (Int32.ofInt 3)) → Wp d 186 (131, [some (.ref r0), some (.int x1), some (.int x2), some (.int x3), some (.int x4), some (.int x5), some (.int x6)], [], μ) Q) :
    Wp d 186 (125, [some (.ref r0), some (.int x1), some (.int x2), some (.int x3), some (.int x4), some (.int x5), some (.int x6)], [], μ) Q := wp_blk rfl e186_125 (And.intro k1 k2)
def q186_131 : List (Nat × Instr × Nat) := [(131, .iload 6, 2), (133, .bipush 7, 2), (135, .if_icmp .ne 7, 3)]
theorem e186_131 : am_dec am_M186 q186_131 = true := by decide +kernel
theorem b186_131 {d : Nat} {Q : Option Value ⊕ Nat → am_Mem → Prop} {μ : am_Mem} {r0 : Nat} {x1 x2 x3 x4 x5 x6 : Int32}
    (k1 : ¬ x6 = ((Int8.ofInt 7).toInt32) → Wp d 186 (142, [some (.ref r0), some (.int x1), some (.int x2), some (.int x3), some (.int x4), some (.int x5), some (.int x6)], [], μ) Q) (k2 : ¬ (¬ x6 = ((Int8.ofInt 7).toInt32)) → Wp d 186 (138, [some (.ref r0), some (.int x1), some (.int x2), some (.int x3), some (.int x4), some (.int x5), some (.int x6)], [], μ) Q) :
    Wp d 186 (131, [some (.ref r0), some (.int x1), some (.int x2), some (.int x3), some (.int x4), some (.int x5), some (.int x6)], [], μ) Q := wp_blk rfl e186_131 (And.intro k1 k2)
def q186_138 : List (Nat × Instr × Nat) := [(138, .iconst 1, 1), (139, .goto 4, 3)]
theorem e186_138 : am_dec am_M186 q186_138 = true := by decide +kernel
theorem b186_138 {d : Nat} {Q : Option Value ⊕ Nat → am_Mem → Prop} {μ : am_Mem} {r0 : Nat} {x1 x2 x3 x4 x5 x6 : Int32}
    (k : Wp d 186 (143, [some (.ref r0), some (.int x1), some (.int x2), some (.int x3), some (.int x4), some (.int x5), some (.int x6)], [.int (Int32.ofInt 1)], μ) Q) :
    Wp d 186 (138, [some (.ref r0), some (.int x1), some (.int x2), some (.int x3), some (.int x4), some (.int x5), some (.int x6)], [], μ) Q := wp_blk rfl e186_138 k
def q186_142 : List (Nat × Instr × Nat) := [(142, .iconst 0, 1)]
theorem e186_142 : am_dec am_M186 q186_142 = true := by decide +kernel
theorem b186_142 {d : Nat} {Q : Option Value ⊕ Nat → am_Mem → Prop} {μ : am_Mem} {r0 : Nat} {x1 x2 x3 x4 x5 x6 : Int32}
    (k : Wp d 186 (143, [some (.ref r0), some (.int x1), some (.int x2), some (.int x3), some (.int x4), some (.int x5), some (.int x6)], [.int (Int32.ofInt 0)], μ) Q) :
    Wp d 186 (142, [some (.ref r0), some (.int x1), some (.int x2), some (.int x3), some (.int x4), some (.int x5), some (.int x6)], [], μ) Q := wp_blk rfl e186_142 k
def q186_143 : List (Nat × Instr × Nat) := [(143, .istore 4, 2), (145, .iinc 5 1, 3), (148, .goto (-55), 3)]
theorem e186_143 : am_dec am_M186 q186_143 = true := by decide +kernel
theorem b186_143 {d : Nat} {Q : Option Value ⊕ Nat → am_Mem → Prop} {μ : am_Mem} {r0 : Nat} {x1 x2 x3 x4 x5 x6 s0 : Int32}
    (k : Wp d 186 (93, [some (.ref r0), some (.int x1), some (.int x2), some (.int x3), some (.int s0), some (.int (x5 + Int32.ofInt 1)), some (.int x6)], [], μ) Q) :
    Wp d 186 (143, [some (.ref r0), some (.int x1), some (.int x2), some (.int x3), some (.int x4), some (.int x5), some (.int x6)], [.int s0], μ) Q := wp_blk rfl e186_143 k
def q186_151 : List (Nat × Instr × Nat) := [(151, .iload 4, 2), (153, .ifCond .eq 9, 3)]
theorem e186_151 : am_dec am_M186 q186_151 = true := by decide +kernel
theorem b186_151 {d : Nat} {Q : Option Value ⊕ Nat → am_Mem → Prop} {μ : am_Mem} {r0 : Nat} {x1 x2 x3 x4 x5 : Int32} {o6 : Option Value}
    (k1 : x4 = 0 → Wp d 186 (162, [some (.ref r0), some (.int x1), some (.int x2), some (.int x3), some (.int x4), some (.int x5), o6], [], μ) Q) (k2 : ¬ (x4 = 0) → Wp d 186 (156, [some (.ref r0), some (.int x1), some (.int x2), some (.int x3), some (.int x4), some (.int x5), o6], [], μ) Q) :
    Wp d 186 (151, [some (.ref r0), some (.int x1), some (.int x2), some (.int x3), some (.int x4), some (.int x5), o6], [], μ) Q := wp_blk rfl e186_151 (And.intro k1 k2)
def q186_156 : List (Nat × Instr × Nat) := [(156, .aload_n 0, 1), (157, .iconst 3, 1), (158, .iload_n 1, 1)]
theorem e186_156 : am_dec am_M186 q186_156 = true := by decide +kernel
theorem e186_156_c : am_dc1 am_M186 159 (.invokevirtual 271) 3 = true := by decide +kernel
theorem b186_156 {d : Nat} {Q : Option Value ⊕ Nat → am_Mem → Prop} {μ : am_Mem} {r0 : Nat} {x1 x2 x3 x4 x5 : Int32} {o6 : Option Value} {P : am_Mem → Prop} {X : Nat → am_Mem → Prop}
    (hk : am_kd μ r0 = (1, 12))
    (hc : Wp d 166 (0, [some (.ref r0), some (.int (Int32.ofInt 3)), some (.int x1)], [], μ) (pV P X)) (hr : ∀ μ', P μ' → Wp (d + 1) 186 (162, [some (.ref r0), some (.int x1), some (.int x2), some (.int x3), some (.int x4), some (.int x5), o6], [], (μ')) Q)
    (hx : ∀ x μ', X x μ' → Q (.inr x) μ') :
    Wp (d + 1) 186 (156, [some (.ref r0), some (.int x1), some (.int x2), some (.int x3), some (.int x4), some (.int x5), o6], [], μ) Q := wp_blk rfl e186_156 (wp_cv (as := [.int (Int32.ofInt 3), .int x1]) rfl e186_156_c rfl rfl rfl rfl rfl hk hc (fun v μ' hv => by obtain ⟨rfl, hp⟩ := pV_r hv; exact hr μ' hp) hx)
def q186_162 : List (Nat × Instr × Nat) := [(162, .iinc 1 1, 3), (165, .goto (-163), 3)]
theorem e186_162 : am_dec am_M186 q186_162 = true := by decide +kernel
theorem b186_162 {d : Nat} {Q : Option Value ⊕ Nat → am_Mem → Prop} {μ : am_Mem} {r0 : Nat} {x1 x2 x3 x4 x5 : Int32} {o6 : Option Value}
    (k : Wp d 186 (2, [some (.ref r0), some (.int (x1 + Int32.ofInt 1)), some (.int x2), some (.int x3), some (.int x4), some (.int x5), o6], [], μ) Q) :
    Wp d 186 (162, [some (.ref r0), some (.int x1), some (.int x2), some (.int x3), some (.int x4), some (.int x5), o6], [], μ) Q := wp_blk rfl e186_162 k
theorem e186_168_r : am_dec am_M186 [(168, .return_, 1)] = true := by decide +kernel
theorem b186_168 {d : Nat} {Q : Option Value ⊕ Nat → am_Mem → Prop} {μ : am_Mem} {r0 : Nat} {x1 : Int32} {o2 o3 o4 o5 o6 : Option Value}
    (k : Q (.inl none) μ) :
    Wp d 186 (168, [some (.ref r0), some (.int x1), o2, o3, o4, o5, o6], [], μ) Q := (wp_rv rfl e186_168_r rfl k)
/-! RuleSheetsModel.atomHas(II)Z -/
def q187_0 : List (Nat × Instr × Nat) := [(0, .iconst 0, 1), (1, .istore_n 3, 1), (2, .iconst 0, 1), (3, .istore 4, 2)]
theorem e187_0 : am_dec am_M187 q187_0 = true := by decide +kernel
theorem b187_0 {d : Nat} {Q : Option Value ⊕ Nat → am_Mem → Prop} {μ : am_Mem} {r0 : Nat} {x1 x2 : Int32}
    (k : Wp d 187 (5, [some (.ref r0), some (.int x1), some (.int x2), some (.int (Int32.ofInt 0)), some (.int (Int32.ofInt 0))], [], μ) Q) :
    Wp d 187 (0, [some (.ref r0), some (.int x1), some (.int x2), none, none], [], μ) Q := wp_blk rfl e187_0 k
def q187_5 : List (Nat × Instr × Nat) := [(5, .iload 4, 2), (7, .aload_n 0, 1), (8, .getfield 47, 3), (11, .iload_n 1, 1), (12, .iaload, 1), (13, .if_icmp .ge 38, 3)]
theorem e187_5 : am_dec am_M187 q187_5 = true := by decide +kernel
theorem b187_5 {d : Nat} {Q : Option Value ⊕ Nat → am_Mem → Prop} {μ : am_Mem} {r0 : Nat} {x1 x2 x3 x4 : Int32}
    (h1 : am_kd μ r0 = (1, 12))
    (h2 : ¬ am_F μ r0 21 = 15)
    (h3 : (am_kd μ (am_F μ r0 21)).1 = 2 ∨ (am_kd μ (am_F μ r0 21)).1 = 8)
    (h4 : ¬ (x1 < 0 ∨ (am_kd μ (am_F μ r0 21)).2 ≤ x1.toNatClampNeg))
    (k1 : (am_A μ (am_F μ r0 21) x1.toNatClampNeg) ≤ x4 → Wp d 187 (51, [some (.ref r0), some (.int x1), some (.int x2), some (.int x3), some (.int x4)], [], μ) Q) (k2 : ¬ ((am_A μ (am_F μ r0 21) x1.toNatClampNeg) ≤ x4) → Wp d 187 (16, [some (.ref r0), some (.int x1), some (.int x2), some (.int x3), some (.int x4)], [], μ) Q) :
    Wp d 187 (5, [some (.ref r0), some (.int x1), some (.int x2), some (.int x3), some (.int x4)], [], μ) Q := wp_blk rfl e187_5 (And.intro h1 (And.intro h2 (And.intro h3 (And.intro h4 (And.intro k1 k2)))))
def q187_16 : List (Nat × Instr × Nat) := [(16, .iload_n 3, 1), (17, .ifCond .ne 22, 3)]
theorem e187_16 : am_dec am_M187 q187_16 = true := by decide +kernel
theorem b187_16 {d : Nat} {Q : Option Value ⊕ Nat → am_Mem → Prop} {μ : am_Mem} {r0 : Nat} {x1 x2 x3 x4 : Int32}
    (k1 : ¬ x3 = 0 → Wp d 187 (39, [some (.ref r0), some (.int x1), some (.int x2), some (.int x3), some (.int x4)], [], μ) Q) (k2 : ¬ (¬ x3 = 0) → Wp d 187 (20, [some (.ref r0), some (.int x1), some (.int x2), some (.int x3), some (.int x4)], [], μ) Q) :
    Wp d 187 (16, [some (.ref r0), some (.int x1), some (.int x2), some (.int x3), some (.int x4)], [], μ) Q := wp_blk rfl e187_16 (And.intro k1 k2)
def q187_20 : List (Nat × Instr × Nat) := [(20, .aload_n 0, 1), (21, .aload_n 0, 1), (22, .getfield 44, 3), (25, .iconst 4, 1), (26, .iload_n 1, 1), (27, .imul, 1), (28, .iload 4, 2), (30, .iadd, 1), (31, .iaload, 1), (32, .iload_n 2, 1)]
theorem e187_20 : am_dec am_M187 q187_20 = true := by decide +kernel
theorem e187_20_c : am_dc1 am_M187 33 (.invokevirtual 382) 3 = true := by decide +kernel
theorem b187_20 {d : Nat} {Q : Option Value ⊕ Nat → am_Mem → Prop} {μ : am_Mem} {r0 : Nat} {x1 x2 x3 x4 : Int32} {P : Int32 → am_Mem → Prop} {X : Nat → am_Mem → Prop}
    (h1 : am_kd μ r0 = (1, 12))
    (h2 : ¬ am_F μ r0 20 = 15)
    (h3 : (am_kd μ (am_F μ r0 20)).1 = 2 ∨ (am_kd μ (am_F μ r0 20)).1 = 8)
    (h4 : ¬ ((((Int32.ofInt 4) * x1) + x4) < 0 ∨ (am_kd μ (am_F μ r0 20)).2 ≤ (((Int32.ofInt 4) * x1) + x4).toNatClampNeg))
    (hk : am_kd μ r0 = (1, 12))
    (hc : Wp d 188 (0, [some (.ref r0), some (.int (am_A μ (am_F μ r0 20) (((Int32.ofInt 4) * x1) + x4).toNatClampNeg)), some (.int x2), none, none], [], μ) (pI P X)) (hr : ∀ x μ', P x μ' → Wp (d + 1) 187 (36, [some (.ref r0), some (.int x1), some (.int x2), some (.int x3), some (.int x4)], [.int x], (μ')) Q)
    (hx : ∀ x μ', X x μ' → Q (.inr x) μ') :
    Wp (d + 1) 187 (20, [some (.ref r0), some (.int x1), some (.int x2), some (.int x3), some (.int x4)], [], μ) Q := wp_blk rfl e187_20 (And.intro h1 (And.intro h2 (And.intro h3 (And.intro h4 (wp_cv (as := [.int (am_A μ (am_F μ r0 20) (((Int32.ofInt 4) * x1) + x4).toNatClampNeg), .int x2]) rfl e187_20_c rfl rfl rfl rfl rfl hk hc (fun v μ' hv => by obtain ⟨x, rfl, hp⟩ := pI_r hv; exact hr x μ' hp) hx)))))
def q187_36 : List (Nat × Instr × Nat) := [(36, .ifCond .eq 7, 3)]
theorem e187_36 : am_dec am_M187 q187_36 = true := by decide +kernel
theorem b187_36 {d : Nat} {Q : Option Value ⊕ Nat → am_Mem → Prop} {μ : am_Mem} {r0 : Nat} {x1 x2 x3 x4 s0 : Int32}
    (k1 : s0 = 0 → Wp d 187 (43, [some (.ref r0), some (.int x1), some (.int x2), some (.int x3), some (.int x4)], [], μ) Q) (k2 : ¬ (s0 = 0) → Wp d 187 (39, [some (.ref r0), some (.int x1), some (.int x2), some (.int x3), some (.int x4)], [], μ) Q) :
    Wp d 187 (36, [some (.ref r0), some (.int x1), some (.int x2), some (.int x3), some (.int x4)], [.int s0], μ) Q := wp_blk rfl e187_36 (And.intro k1 k2)
def q187_39 : List (Nat × Instr × Nat) := [(39, .iconst 1, 1), (40, .goto 4, 3)]
theorem e187_39 : am_dec am_M187 q187_39 = true := by decide +kernel
theorem b187_39 {d : Nat} {Q : Option Value ⊕ Nat → am_Mem → Prop} {μ : am_Mem} {r0 : Nat} {x1 x2 x3 x4 : Int32}
    (k : Wp d 187 (44, [some (.ref r0), some (.int x1), some (.int x2), some (.int x3), some (.int x4)], [.int (Int32.ofInt 1)], μ) Q) :
    Wp d 187 (39, [some (.ref r0), some (.int x1), some (.int x2), some (.int x3), some (.int x4)], [], μ) Q := wp_blk rfl e187_39 k
def q187_43 : List (Nat × Instr × Nat) := [(43, .iconst 0, 1)]
theorem e187_43 : am_dec am_M187 q187_43 = true := by decide +kernel
theorem b187_43 {d : Nat} {Q : Option Value ⊕ Nat → am_Mem → Prop} {μ : am_Mem} {r0 : Nat} {x1 x2 x3 x4 : Int32}
    (k : Wp d 187 (44, [some (.ref r0), some (.int x1), some (.int x2), some (.int x3), some (.int x4)], [.int (Int32.ofInt 0)], μ) Q) :
    Wp d 187 (43, [some (.ref r0), some (.int x1), some (.int x2), some (.int x3), some (.int x4)], [], μ) Q := wp_blk rfl e187_43 k
def q187_44 : List (Nat × Instr × Nat) := [(44, .istore_n 3, 1), (45, .iinc 4 1, 3), (48, .goto (-43), 3)]
theorem e187_44 : am_dec am_M187 q187_44 = true := by decide +kernel
theorem b187_44 {d : Nat} {Q : Option Value ⊕ Nat → am_Mem → Prop} {μ : am_Mem} {r0 : Nat} {x1 x2 x3 x4 s0 : Int32}
    (k : Wp d 187 (5, [some (.ref r0), some (.int x1), some (.int x2), some (.int s0), some (.int (x4 + Int32.ofInt 1))], [], μ) Q) :
    Wp d 187 (44, [some (.ref r0), some (.int x1), some (.int x2), some (.int x3), some (.int x4)], [.int s0], μ) Q := wp_blk rfl e187_44 k
def q187_51 : List (Nat × Instr × Nat) := [(51, .iload_n 3, 1)]
theorem e187_51 : am_dec am_M187 q187_51 = true := by decide +kernel
theorem e187_51_r : am_dec am_M187 [(52, .ireturn, 1)] = true := by decide +kernel
theorem b187_51 {d : Nat} {Q : Option Value ⊕ Nat → am_Mem → Prop} {μ : am_Mem} {r0 : Nat} {x1 x2 x3 x4 : Int32}
    (hn : narrow .boolean (.int x3) = .int x3 ∧ fits .boolean (.int x3) = true)
    (k : Q (.inl (some (.int x3))) μ) :
    Wp d 187 (51, [some (.ref r0), some (.int x1), some (.int x2), some (.int x3), some (.int x4)], [], μ) Q := wp_blk rfl e187_51 (wp_ri (ty := .boolean) rfl e187_51_r rfl hn k)
/-! RuleSheetsModel.hasVariable(II)Z -/
def q188_0 : List (Nat × Instr × Nat) := [(0, .iconst 0, 1), (1, .istore_n 3, 1), (2, .iload_n 1, 1), (3, .istore 4, 2)]
theorem e188_0 : am_dec am_M188 q188_0 = true := by decide +kernel
theorem b188_0 {d : Nat} {Q : Option Value ⊕ Nat → am_Mem → Prop} {μ : am_Mem} {r0 : Nat} {x1 x2 : Int32}
    (k : Wp d 188 (5, [some (.ref r0), some (.int x1), some (.int x2), some (.int (Int32.ofInt 0)), some (.int x1)], [], μ) Q) :
    Wp d 188 (0, [some (.ref r0), some (.int x1), some (.int x2), none, none], [], μ) Q := wp_blk rfl e188_0 k
def q188_5 : List (Nat × Instr × Nat) := [(5, .iload 4, 2), (7, .aload_n 0, 1), (8, .getfield 62, 3), (11, .iload_n 1, 1), (12, .iaload, 1), (13, .if_icmp .ge 44, 3)]
theorem e188_5 : am_dec am_M188 q188_5 = true := by decide +kernel
theorem b188_5 {d : Nat} {Q : Option Value ⊕ Nat → am_Mem → Prop} {μ : am_Mem} {r0 : Nat} {x1 x2 x3 x4 : Int32}
    (h1 : am_kd μ r0 = (1, 12))
    (h2 : ¬ am_F μ r0 27 = 15)
    (h3 : (am_kd μ (am_F μ r0 27)).1 = 2 ∨ (am_kd μ (am_F μ r0 27)).1 = 8)
    (h4 : ¬ (x1 < 0 ∨ (am_kd μ (am_F μ r0 27)).2 ≤ x1.toNatClampNeg))
    (k1 : (am_A μ (am_F μ r0 27) x1.toNatClampNeg) ≤ x4 → Wp d 188 (57, [some (.ref r0), some (.int x1), some (.int x2), some (.int x3), some (.int x4)], [], μ) Q) (k2 : ¬ ((am_A μ (am_F μ r0 27) x1.toNatClampNeg) ≤ x4) → Wp d 188 (16, [some (.ref r0), some (.int x1), some (.int x2), some (.int x3), some (.int x4)], [], μ) Q) :
    Wp d 188 (5, [some (.ref r0), some (.int x1), some (.int x2), some (.int x3), some (.int x4)], [], μ) Q := wp_blk rfl e188_5 (And.intro h1 (And.intro h2 (And.intro h3 (And.intro h4 (And.intro k1 k2)))))
def q188_16 : List (Nat × Instr × Nat) := [(16, .iload_n 3, 1), (17, .ifCond .ne 28, 3)]
theorem e188_16 : am_dec am_M188 q188_16 = true := by decide +kernel
theorem b188_16 {d : Nat} {Q : Option Value ⊕ Nat → am_Mem → Prop} {μ : am_Mem} {r0 : Nat} {x1 x2 x3 x4 : Int32}
    (k1 : ¬ x3 = 0 → Wp d 188 (45, [some (.ref r0), some (.int x1), some (.int x2), some (.int x3), some (.int x4)], [], μ) Q) (k2 : ¬ (¬ x3 = 0) → Wp d 188 (20, [some (.ref r0), some (.int x1), some (.int x2), some (.int x3), some (.int x4)], [], μ) Q) :
    Wp d 188 (16, [some (.ref r0), some (.int x1), some (.int x2), some (.int x3), some (.int x4)], [], μ) Q := wp_blk rfl e188_16 (And.intro k1 k2)
def q188_20 : List (Nat × Instr × Nat) := [(20, .aload_n 0, 1), (21, .getfield 53, 3), (24, .iload 4, 2), (26, .iaload, 1), (27, .ifCond .lt 22, 3)]
theorem e188_20 : am_dec am_M188 q188_20 = true := by decide +kernel
theorem b188_20 {d : Nat} {Q : Option Value ⊕ Nat → am_Mem → Prop} {μ : am_Mem} {r0 : Nat} {x1 x2 x3 x4 : Int32}
    (h1 : am_kd μ r0 = (1, 12))
    (h2 : ¬ am_F μ r0 24 = 15)
    (h3 : (am_kd μ (am_F μ r0 24)).1 = 2 ∨ (am_kd μ (am_F μ r0 24)).1 = 8)
    (h4 : ¬ (x4 < 0 ∨ (am_kd μ (am_F μ r0 24)).2 ≤ x4.toNatClampNeg))
    (k1 : (am_A μ (am_F μ r0 24) x4.toNatClampNeg) < 0 → Wp d 188 (49, [some (.ref r0), some (.int x1), some (.int x2), some (.int x3), some (.int x4)], [], μ) Q) (k2 : ¬ ((am_A μ (am_F μ r0 24) x4.toNatClampNeg) < 0) → Wp d 188 (30, [some (.ref r0), some (.int x1), some (.int x2), some (.int x3), some (.int x4)], [], μ) Q) :
    Wp d 188 (20, [some (.ref r0), some (.int x1), some (.int x2), some (.int x3), some (.int x4)], [], μ) Q := wp_blk rfl e188_20 (And.intro h1 (And.intro h2 (And.intro h3 (And.intro h4 (And.intro k1 k2)))))
def q188_30 : List (Nat × Instr × Nat) := [(30, .iload_n 2, 1), (31, .ifCond .lt 14, 3)]
theorem e188_30 : am_dec am_M188 q188_30 = true := by decide +kernel
theorem b188_30 {d : Nat} {Q : Option Value ⊕ Nat → am_Mem → Prop} {μ : am_Mem} {r0 : Nat} {x1 x2 x3 x4 : Int32}
    (k1 : x2 < 0 → Wp d 188 (45, [some (.ref r0), some (.int x1), some (.int x2), some (.int x3), some (.int x4)], [], μ) Q) (k2 : ¬ (x2 < 0) → Wp d 188 (34, [some (.ref r0), some (.int x1), some (.int x2), some (.int x3), some (.int x4)], [], μ) Q) :
    Wp d 188 (30, [some (.ref r0), some (.int x1), some (.int x2), some (.int x3), some (.int x4)], [], μ) Q := wp_blk rfl e188_30 (And.intro k1 k2)
def q188_34 : List (Nat × Instr × Nat) := [(34, .aload_n 0, 1), (35, .getfield 53, 3), (38, .iload 4, 2), (40, .iaload, 1), (41, .iload_n 2, 1), (42, .if_icmp .ne 7, 3)]
theorem e188_34 : am_dec am_M188 q188_34 = true := by decide +kernel
theorem b188_34 {d : Nat} {Q : Option Value ⊕ Nat → am_Mem → Prop} {μ : am_Mem} {r0 : Nat} {x1 x2 x3 x4 : Int32}
    (h1 : am_kd μ r0 = (1, 12))
    (h2 : ¬ am_F μ r0 24 = 15)
    (h3 : (am_kd μ (am_F μ r0 24)).1 = 2 ∨ (am_kd μ (am_F μ r0 24)).1 = 8)
    (h4 : ¬ (x4 < 0 ∨ (am_kd μ (am_F μ r0 24)).2 ≤ x4.toNatClampNeg))
    (k1 : ¬ (am_A μ (am_F μ r0 24) x4.toNatClampNeg) = x2 → Wp d 188 (49, [some (.ref r0), some (.int x1), some (.int x2), some (.int x3), some (.int x4)], [], μ) Q) (k2 : ¬ (¬ (am_A μ (am_F μ r0 24) x4.toNatClampNeg) = x2) → Wp d 188 (45, [some (.ref r0), some (.int x1), some (.int x2), some (.int x3), some (.int x4)], [], μ) Q) :
    Wp d 188 (34, [some (.ref r0), some (.int x1), some (.int x2), some (.int x3), some (.int x4)], [], μ) Q := wp_blk rfl e188_34 (And.intro h1 (And.intro h2 (And.intro h3 (And.intro h4 (And.intro k1 k2)))))
def q188_45 : List (Nat × Instr × Nat) := [(45, .iconst 1, 1), (46, .goto 4, 3)]
theorem e188_45 : am_dec am_M188 q188_45 = true := by decide +kernel
theorem b188_45 {d : Nat} {Q : Option Value ⊕ Nat → am_Mem → Prop} {μ : am_Mem} {r0 : Nat} {x1 x2 x3 x4 : Int32}
    (k : Wp d 188 (50, [some (.ref r0), some (.int x1), some (.int x2), some (.int x3), some (.int x4)], [.int (Int32.ofInt 1)], μ) Q) :
    Wp d 188 (45, [some (.ref r0), some (.int x1), some (.int x2), some (.int x3), some (.int x4)], [], μ) Q := wp_blk rfl e188_45 k
def q188_49 : List (Nat × Instr × Nat) := [(49, .iconst 0, 1)]
theorem e188_49 : am_dec am_M188 q188_49 = true := by decide +kernel
theorem b188_49 {d : Nat} {Q : Option Value ⊕ Nat → am_Mem → Prop} {μ : am_Mem} {r0 : Nat} {x1 x2 x3 x4 : Int32}
    (k : Wp d 188 (50, [some (.ref r0), some (.int x1), some (.int x2), some (.int x3), some (.int x4)], [.int (Int32.ofInt 0)], μ) Q) :
    Wp d 188 (49, [some (.ref r0), some (.int x1), some (.int x2), some (.int x3), some (.int x4)], [], μ) Q := wp_blk rfl e188_49 k
def q188_50 : List (Nat × Instr × Nat) := [(50, .istore_n 3, 1), (51, .iinc 4 1, 3), (54, .goto (-49), 3)]
theorem e188_50 : am_dec am_M188 q188_50 = true := by decide +kernel
theorem b188_50 {d : Nat} {Q : Option Value ⊕ Nat → am_Mem → Prop} {μ : am_Mem} {r0 : Nat} {x1 x2 x3 x4 s0 : Int32}
    (k : Wp d 188 (5, [some (.ref r0), some (.int x1), some (.int x2), some (.int s0), some (.int (x4 + Int32.ofInt 1))], [], μ) Q) :
    Wp d 188 (50, [some (.ref r0), some (.int x1), some (.int x2), some (.int x3), some (.int x4)], [.int s0], μ) Q := wp_blk rfl e188_50 k
def q188_57 : List (Nat × Instr × Nat) := [(57, .iload_n 3, 1)]
theorem e188_57 : am_dec am_M188 q188_57 = true := by decide +kernel
theorem e188_57_r : am_dec am_M188 [(58, .ireturn, 1)] = true := by decide +kernel
theorem b188_57 {d : Nat} {Q : Option Value ⊕ Nat → am_Mem → Prop} {μ : am_Mem} {r0 : Nat} {x1 x2 x3 x4 : Int32}
    (hn : narrow .boolean (.int x3) = .int x3 ∧ fits .boolean (.int x3) = true)
    (k : Q (.inl (some (.int x3))) μ) :
    Wp d 188 (57, [some (.ref r0), some (.int x1), some (.int x2), some (.int x3), some (.int x4)], [], μ) Q := wp_blk rfl e188_57 (wp_ri (ty := .boolean) rfl e188_57_r rfl hn k)
/-! RuleSheetsModel.checkDependence()V -/
def q189_0 : List (Nat × Instr × Nat) := [(0, .aload_n 0, 1), (1, .iconst 3, 1)]
theorem e189_0 : am_dec am_M189 q189_0 = true := by decide +kernel
theorem e189_0_c : am_dc1 am_M189 2 (.invokevirtual 388) 3 = true := by decide +kernel
theorem b189_0 {d : Nat} {Q : Option Value ⊕ Nat → am_Mem → Prop} {μ : am_Mem} {r0 : Nat} {P : am_Mem → Prop} {X : Nat → am_Mem → Prop}
    (hk : am_kd μ r0 = (1, 12))
    (hc : Wp d 190 (0, [some (.ref r0), some (.int (Int32.ofInt 3)), none, none, none, none, none], [], μ) (pV P X)) (hr : ∀ μ', P μ' → Wp (d + 1) 189 (5, [some (.ref r0), none], [], (μ')) Q)
    (hx : ∀ x μ', X x μ' → Q (.inr x) μ') :
    Wp (d + 1) 189 (0, [some (.ref r0), none], [], μ) Q := wp_blk rfl e189_0 (wp_cv (as := [.int (Int32.ofInt 3)]) rfl e189_0_c rfl rfl rfl rfl rfl hk hc (fun v μ' hv => by obtain ⟨rfl, hp⟩ := pV_r hv; exact hr μ' hp) hx)
def q189_5 : List (Nat × Instr × Nat) := [(5, .aload_n 0, 1), (6, .getfield 77, 3), (9, .iconst 4, 1), (10, .baload, 1), (11, .ifCond .ne 12, 3)]
theorem e189_5 : am_dec am_M189 q189_5 = true := by decide +kernel
theorem b189_5 {d : Nat} {Q : Option Value ⊕ Nat → am_Mem → Prop} {μ : am_Mem} {r0 : Nat}
    (h1 : am_kd μ r0 = (1, 12))
    (h2 : ¬ am_F μ r0 40 = 15)
    (h3 : (am_kd μ (am_F μ r0 40)).1 = 3 ∨ (am_kd μ (am_F μ r0 40)).1 = 4 ∨ (am_kd μ (am_F μ r0 40)).1 = 10)
    (h4 : ¬ ((Int32.ofInt 4) < 0 ∨ (am_kd μ (am_F μ r0 40)).2 ≤ (Int32.ofInt 4).toNatClampNeg))
    (k1 : ¬ (am_A μ (am_F μ r0 40) (Int32.ofInt 4).toNatClampNeg) = 0 → Wp d 189 (23, [some (.ref r0), none], [], μ) Q) (k2 : ¬ (¬ (am_A μ (am_F μ r0 40) (Int32.ofInt 4).toNatClampNeg) = 0) → Wp d 189 (14, [some (.ref r0), none], [], μ) Q) :
    Wp d 189 (5, [some (.ref r0), none], [], μ) Q := wp_blk rfl e189_5 (And.intro h1 (And.intro h2 (And.intro h3 (And.intro h4 (And.intro k1 k2)))))
def q189_14 : List (Nat × Instr × Nat) := [(14, .aload_n 0, 1), (15, .getfield 77, 3), (18, .iconst 5, 1), (19, .baload, 1), (20, .ifCond .eq 9, 3)]
theorem e189_14 : am_dec am_M189 q189_14 = true := by decide +kernel
theorem b189_14 {d : Nat} {Q : Option Value ⊕ Nat → am_Mem → Prop} {μ : am_Mem} {r0 : Nat}
    (h1 : am_kd μ r0 = (1, 12))
    (h2 : ¬ am_F μ r0 40 = 15)
    (h3 : (am_kd μ (am_F μ r0 40)).1 = 3 ∨ (am_kd μ (am_F μ r0 40)).1 = 4 ∨ (am_kd μ (am_F μ r0 40)).1 = 10)
    (h4 : ¬ ((Int32.ofInt 5) < 0 ∨ (am_kd μ (am_F μ r0 40)).2 ≤ (Int32.ofInt 5).toNatClampNeg))
    (k1 : (am_A μ (am_F μ r0 40) (Int32.ofInt 5).toNatClampNeg) = 0 → Wp d 189 (29, [some (.ref r0), none], [], μ) Q) (k2 : ¬ ((am_A μ (am_F μ r0 40) (Int32.ofInt 5).toNatClampNeg) = 0) → Wp d 189 (23, [some (.ref r0), none], [], μ) Q) :
    Wp d 189 (14, [some (.ref r0), none], [], μ) Q := wp_blk rfl e189_14 (And.intro h1 (And.intro h2 (And.intro h3 (And.intro h4 (And.intro k1 k2)))))
def q189_23 : List (Nat × Instr × Nat) := [(23, .aload_n 0, 1), (24, .iconst 4, 1), (25, .iconst 0, 1)]
theorem e189_23 : am_dec am_M189 q189_23 = true := by decide +kernel
theorem e189_23_c : am_dc1 am_M189 26 (.invokevirtual 271) 3 = true := by decide +kernel
theorem b189_23 {d : Nat} {Q : Option Value ⊕ Nat → am_Mem → Prop} {μ : am_Mem} {r0 : Nat} {P : am_Mem → Prop} {X : Nat → am_Mem → Prop}
    (hk : am_kd μ r0 = (1, 12))
    (hc : Wp d 166 (0, [some (.ref r0), some (.int (Int32.ofInt 4)), some (.int (Int32.ofInt 0))], [], μ) (pV P X)) (hr : ∀ μ', P μ' → Wp (d + 1) 189 (29, [some (.ref r0), none], [], (μ')) Q)
    (hx : ∀ x μ', X x μ' → Q (.inr x) μ') :
    Wp (d + 1) 189 (23, [some (.ref r0), none], [], μ) Q := wp_blk rfl e189_23 (wp_cv (as := [.int (Int32.ofInt 4), .int (Int32.ofInt 0)]) rfl e189_23_c rfl rfl rfl rfl rfl hk hc (fun v μ' hv => by obtain ⟨rfl, hp⟩ := pV_r hv; exact hr μ' hp) hx)
def q189_29 : List (Nat × Instr × Nat) := [(29, .iconst 1, 1), (30, .istore_n 1, 1)]
theorem e189_29 : am_dec am_M189 q189_29 = true := by decide +kernel
theorem b189_29 {d : Nat} {Q : Option Value ⊕ Nat → am_Mem → Prop} {μ : am_Mem} {r0 : Nat}
    (k : Wp d 189 (31, [some (.ref r0), some (.int (Int32.ofInt 1))], [], μ) Q) :
    Wp d 189 (29, [some (.ref r0), none], [], μ) Q := wp_blk rfl e189_29 k
def q189_31 : List (Nat × Instr × Nat) := [(31, .iload_n 1, 1), (32, .iconst 4, 1), (33, .if_icmp .ge 50, 3)]
theorem e189_31 : am_dec am_M189 q189_31 = true := by decide +kernel
theorem b189_31 {d : Nat} {Q : Option Value ⊕ Nat → am_Mem → Prop} {μ : am_Mem} {r0 : Nat} {x1 : Int32}
    (k1 : (Int32.ofInt 4) ≤ x1 → Wp d 189 (83, [some (.ref r0), some (.int x1)], [], μ) Q) (k2 : ¬ ((Int32.ofInt 4) ≤ x1) → Wp d 189 (36, [some (.ref r0), some (.int x1)], [], μ) Q) :
    Wp d 189 (31, [some (.ref r0), some (.int x1)], [], μ) Q := wp_blk rfl e189_31 (And.intro k1 k2)
def q189_36 : List (Nat × Instr × Nat) := [(36, .aload_n 0, 1), (37, .iload_n 1, 1), (38, .iconst 1, 1), (39, .if_icmp .ne 8, 3)]
theorem e189_36 : am_dec am_M189 q189_36 = true := by decide +kernel
theorem b189_36 {d : Nat} {Q : Option Value ⊕ Nat → am_Mem → Prop} {μ : am_Mem} {r0 : Nat} {x1 : Int32}
    (k1 : ¬ x1 = (Int32.ofInt 1) → Wp d 189 (47, [some (.ref r0), some (.int x1)], [.ref r0], μ) Q) (k2 : ¬ (¬ x1 = (Int32.ofInt 1)) → Wp d 189 (42, [some (.ref r0), some (.int x1)], [.ref r0], μ) Q) :
    Wp d 189 (36, [some (.ref r0), some (.int x1)], [], μ) Q := wp_blk rfl e189_36 (And.intro k1 k2)
def q189_42 : List (Nat × Instr × Nat) := [(42, .bipush 6, 2), (44, .goto 15, 3)]
theorem e189_42 : am_dec am_M189 q189_42 = true := by decide +kernel
theorem b189_42 {d : Nat} {Q : Option Value ⊕ Nat → am_Mem → Prop} {μ : am_Mem} {r0 r90 : Nat} {x1 : Int32}
    (k : Wp d 189 (59, [some (.ref r0), some (.int x1)], [.int ((Int8.ofInt 6).toInt32), .ref r90], μ) Q) :
    Wp d 189 (42, [some (.ref r0), some (.int x1)], [.ref r90], μ) Q := wp_blk rfl e189_42 k
def q189_47 : List (Nat × Instr × Nat) := [(47, .iload_n 1, 1), (48, .iconst 2, 1), (49, .if_icmp .ne 8, 3)]
theorem e189_47 : am_dec am_M189 q189_47 = true := by decide +kernel
theorem b189_47 {d : Nat} {Q : Option Value ⊕ Nat → am_Mem → Prop} {μ : am_Mem} {r0 r90 : Nat} {x1 : Int32}
    (k1 : ¬ x1 = (Int32.ofInt 2) → Wp d 189 (57, [some (.ref r0), some (.int x1)], [.ref r90], μ) Q) (k2 : ¬ (¬ x1 = (Int32.ofInt 2)) → Wp d 189 (52, [some (.ref r0), some (.int x1)], [.ref r90], μ) Q) :
    Wp d 189 (47, [some (.ref r0), some (.int x1)], [.ref r90], μ) Q := wp_blk rfl e189_47 (And.intro k1 k2)
def q189_52 : List (Nat × Instr × Nat) := [(52, .bipush 8, 2), (54, .goto 5, 3)]
theorem e189_52 : am_dec am_M189 q189_52 = true := by decide +kernel
theorem b189_52 {d : Nat} {Q : Option Value ⊕ Nat → am_Mem → Prop} {μ : am_Mem} {r0 r90 : Nat} {x1 : Int32}
    (k : Wp d 189 (59, [some (.ref r0), some (.int x1)], [.int ((Int8.ofInt 8).toInt32), .ref r90], μ) Q) :
    Wp d 189 (52, [some (.ref r0), some (.int x1)], [.ref r90], μ) Q := wp_blk rfl e189_52 k
def q189_57 : List (Nat × Instr × Nat) := [(57, .bipush 9, 2)]
theorem e189_57 : am_dec am_M189 q189_57 = true := by decide +kernel
theorem b189_57 {d : Nat} {Q : Option Value ⊕ Nat → am_Mem → Prop} {μ : am_Mem} {r0 r90 : Nat} {x1 : Int32}
    (k : Wp d 189 (59, [some (.ref r0), some (.int x1)], [.int ((Int8.ofInt 9).toInt32), .ref r90], μ) Q) :
    Wp d 189 (57, [some (.ref r0), some (.int x1)], [.ref r90], μ) Q := wp_blk rfl e189_57 k
theorem e189_59_c : am_dc1 am_M189 59 (.invokevirtual 388) 3 = true := by decide +kernel
theorem b189_59 {d : Nat} {Q : Option Value ⊕ Nat → am_Mem → Prop} {μ : am_Mem} {r0 r90 : Nat} {x1 s1 : Int32} {P : am_Mem → Prop} {X : Nat → am_Mem → Prop}
    (hk : am_kd μ r90 = (1, 12))
    (hc : Wp d 190 (0, [some (.ref r90), some (.int s1), none, none, none, none, none], [], μ) (pV P X)) (hr : ∀ μ', P μ' → Wp (d + 1) 189 (62, [some (.ref r0), some (.int x1)], [], (μ')) Q)
    (hx : ∀ x μ', X x μ' → Q (.inr x) μ') :
    Wp (d + 1) 189 (59, [some (.ref r0), some (.int x1)], [.int s1, .ref r90], μ) Q := (wp_cv (as := [.int s1]) rfl e189_59_c rfl rfl rfl rfl rfl hk hc (fun v μ' hv => by obtain ⟨rfl, hp⟩ := pV_r hv; exact hr μ' hp) hx)
def q189_62 : List (Nat × Instr × Nat) := [(62, .aload_n 0, 1), (63, .getfield 77, 3), (66, .iconst 5, 1), (67, .baload, 1), (68, .ifCond .eq 9, 3)]
theorem e189_62 : am_dec am_M189 q189_62 = true := by decide +kernel
theorem b189_62 {d : Nat} {Q : Option Value ⊕ Nat → am_Mem → Prop} {μ : am_Mem} {r0 : Nat} {x1 : Int32}
    (h1 : am_kd μ r0 = (1, 12))
    (h2 : ¬ am_F μ r0 40 = 15)
    (h3 : (am_kd μ (am_F μ r0 40)).1 = 3 ∨ (am_kd μ (am_F μ r0 40)).1 = 4 ∨ (am_kd μ (am_F μ r0 40)).1 = 10)
    (h4 : ¬ ((Int32.ofInt 5) < 0 ∨ (am_kd μ (am_F μ r0 40)).2 ≤ (Int32.ofInt 5).toNatClampNeg))
    (k1 : (am_A μ (am_F μ r0 40) (Int32.ofInt 5).toNatClampNeg) = 0 → Wp d 189 (77, [some (.ref r0), some (.int x1)], [], μ) Q) (k2 : ¬ ((am_A μ (am_F μ r0 40) (Int32.ofInt 5).toNatClampNeg) = 0) → Wp d 189 (71, [some (.ref r0), some (.int x1)], [], μ) Q) :
    Wp d 189 (62, [some (.ref r0), some (.int x1)], [], μ) Q := wp_blk rfl e189_62 (And.intro h1 (And.intro h2 (And.intro h3 (And.intro h4 (And.intro k1 k2)))))
def q189_71 : List (Nat × Instr × Nat) := [(71, .aload_n 0, 1), (72, .iconst 4, 1), (73, .iload_n 1, 1)]
theorem e189_71 : am_dec am_M189 q189_71 = true := by decide +kernel
theorem e189_71_c : am_dc1 am_M189 74 (.invokevirtual 271) 3 = true := by decide +kernel
theorem b189_71 {d : Nat} {Q : Option Value ⊕ Nat → am_Mem → Prop} {μ : am_Mem} {r0 : Nat} {x1 : Int32} {P : am_Mem → Prop} {X : Nat → am_Mem → Prop}
    (hk : am_kd μ r0 = (1, 12))
    (hc : Wp d 166 (0, [some (.ref r0), some (.int (Int32.ofInt 4)), some (.int x1)], [], μ) (pV P X)) (hr : ∀ μ', P μ' → Wp (d + 1) 189 (77, [some (.ref r0), some (.int x1)], [], (μ')) Q)
    (hx : ∀ x μ', X x μ' → Q (.inr x) μ') :
    Wp (d + 1) 189 (71, [some (.ref r0), some (.int x1)], [], μ) Q := wp_blk rfl e189_71 (wp_cv (as := [.int (Int32.ofInt 4), .int x1]) rfl e189_71_c rfl rfl rfl rfl rfl hk hc (fun v μ' hv => by obtain ⟨rfl, hp⟩ := pV_r hv; exact hr μ' hp) hx)
def q189_77 : List (Nat × Instr × Nat) := [(77, .iinc 1 1, 3), (80, .goto (-49), 3)]
theorem e189_77 : am_dec am_M189 q189_77 = true := by decide +kernel
theorem b189_77 {d : Nat} {Q : Option Value ⊕ Nat → am_Mem → Prop} {μ : am_Mem} {r0 : Nat} {x1 : Int32}
    (k : Wp d 189 (31, [some (.ref r0), some (.int (x1 + Int32.ofInt 1))], [], μ) Q) :
    Wp d 189 (77, [some (.ref r0), some (.int x1)], [], μ) Q := wp_blk rfl e189_77 k
theorem e189_83_r : am_dec am_M189 [(83, .return_, 1)] = true := by decide +kernel
theorem b189_83 {d : Nat} {Q : Option Value ⊕ Nat → am_Mem → Prop} {μ : am_Mem} {r0 : Nat} {x1 : Int32}
    (k : Q (.inl none) μ) :
    Wp d 189 (83, [some (.ref r0), some (.int x1)], [], μ) Q := (wp_rv rfl e189_83_r rfl k)
/-! RuleSheetsModel.depend(I)V -/
def q190_0 : List (Nat × Instr × Nat) := [(0, .iconst 0, 1), (1, .istore_n 2, 1)]
theorem e190_0 : am_dec am_M190 q190_0 = true := by decide +kernel
theorem b190_0 {d : Nat} {Q : Option Value ⊕ Nat → am_Mem → Prop} {μ : am_Mem} {r0 : Nat} {x1 : Int32}
    (k : Wp d 190 (2, [some (.ref r0), some (.int x1), some (.int (Int32.ofInt 0)), none, none, none, none], [], μ) Q) :
    Wp d 190 (0, [some (.ref r0), some (.int x1), none, none, none, none, none], [], μ) Q := wp_blk rfl e190_0 k
def q190_2 : List (Nat × Instr × Nat) := [(2, .iload_n 2, 1), (3, .aload_n 0, 1), (4, .getfield 253, 3), (7, .if_icmp .ge 16, 3)]
theorem e190_2 : am_dec am_M190 q190_2 = true := by decide +kernel
theorem b190_2 {d : Nat} {Q : Option Value ⊕ Nat → am_Mem → Prop} {μ : am_Mem} {r0 : Nat} {x1 x2 : Int32}
    (h1 : am_kd μ r0 = (1, 12))
    (k1 : (am_A μ r0 9) ≤ x2 → Wp d 190 (23, [some (.ref r0), some (.int x1), some (.int x2), none, none, none, none], [], μ) Q) (k2 : ¬ ((am_A μ r0 9) ≤ x2) → Wp d 190 (10, [some (.ref r0), some (.int x1), some (.int x2), none, none, none, none], [], μ) Q) :
    Wp d 190 (2, [some (.ref r0), some (.int x1), some (.int x2), none, none, none, none], [], μ) Q := wp_blk rfl e190_2 (And.intro h1 (And.intro k1 k2))
def q190_10 : List (Nat × Instr × Nat) := [(10, .aload_n 0, 1), (11, .getfield 77, 3), (14, .iload_n 2, 1), (15, .iconst 0, 1), (16, .bastore, 1), (17, .iinc 2 1, 3), (20, .goto (-18), 3)]
theorem e190_10 : am_dec am_M190 q190_10 = true := by decide +kernel
theorem b190_10 {d : Nat} {Q : Option Value ⊕ Nat → am_Mem → Prop} {μ : am_Mem} {r0 : Nat} {x1 x2 : Int32}
    (h1 : am_kd μ r0 = (1, 12))
    (h2 : ¬ am_F μ r0 40 = 15)
    (h3 : (am_kd μ (am_F μ r0 40)).1 = 3 ∨ (am_kd μ (am_F μ r0 40)).1 = 4)
    (h4 : ¬ (x2 < 0 ∨ (am_kd μ (am_F μ r0 40)).2 ≤ x2.toNatClampNeg))
    (k : Wp d 190 (2, [some (.ref r0), some (.int x1), some (.int (x2 + Int32.ofInt 1)), none, none, none, none], [], (am_pA μ (am_F μ r0 40) x2.toNatClampNeg (am_nar (am_kd μ (am_F μ r0 40)).1 (Int32.ofInt 0)))) Q) :
    Wp d 190 (10, [some (.ref r0), some (.int x1), some (.int x2), none, none, none, none], [], μ) Q := wp_blk rfl e190_10 (And.intro h1 (And.intro h2 (And.intro h3 (And.intro h4 k))))
def q190_23 : List (Nat × Instr × Nat) := [(23, .iconst 1, 1), (24, .istore_n 2, 1)]
theorem e190_23 : am_dec am_M190 q190_23 = true := by decide +kernel
theorem b190_23 {d : Nat} {Q : Option Value ⊕ Nat → am_Mem → Prop} {μ : am_Mem} {r0 : Nat} {x1 x2 : Int32}
    (k : Wp d 190 (25, [some (.ref r0), some (.int x1), some (.int (Int32.ofInt 1)), none, none, none, none], [], μ) Q) :
    Wp d 190 (23, [some (.ref r0), some (.int x1), some (.int x2), none, none, none, none], [], μ) Q := wp_blk rfl e190_23 k
def q190_25 : List (Nat × Instr × Nat) := [(25, .iload_n 2, 1), (26, .ifCond .eq 136, 3)]
theorem e190_25 : am_dec am_M190 q190_25 = true := by decide +kernel
theorem b190_25 {d : Nat} {Q : Option Value ⊕ Nat → am_Mem → Prop} {μ : am_Mem} {r0 : Nat} {x1 x2 : Int32} {o3 o4 o5 o6 : Option Value}
    (k1 : x2 = 0 → Wp d 190 (162, [some (.ref r0), some (.int x1), some (.int x2), o3, o4, o5, o6], [], μ) Q) (k2 : ¬ (x2 = 0) → Wp d 190 (29, [some (.ref r0), some (.int x1), some (.int x2), o3, o4, o5, o6], [], μ) Q) :
    Wp d 190 (25, [some (.ref r0), some (.int x1), some (.int x2), o3, o4, o5, o6], [], μ) Q := wp_blk rfl e190_25 (And.intro k1 k2)
def q190_29 : List (Nat × Instr × Nat) := [(29, .iconst 0, 1), (30, .istore_n 2, 1), (31, .iconst 0, 1), (32, .istore_n 3, 1)]
theorem e190_29 : am_dec am_M190 q190_29 = true := by decide +kernel
theorem b190_29 {d : Nat} {Q : Option Value ⊕ Nat → am_Mem → Prop} {μ : am_Mem} {r0 : Nat} {x1 x2 : Int32} {o3 o4 o5 o6 : Option Value}
    (k : Wp d 190 (33, [some (.ref r0), some (.int x1), some (.int (Int32.ofInt 0)), some (.int (Int32.ofInt 0)), o4, o5, o6], [], μ) Q) :
    Wp d 190 (29, [some (.ref r0), some (.int x1), some (.int x2), o3, o4, o5, o6], [], μ) Q := wp_blk rfl e190_29 k
def q190_33 : List (Nat × Instr × Nat) := [(33, .iload_n 3, 1), (34, .aload_n 0, 1), (35, .getfield 287, 3), (38, .if_icmp .ge 121, 3)]
theorem e190_33 : am_dec am_M190 q190_33 = true := by decide +kernel
theorem b190_33 {d : Nat} {Q : Option Value ⊕ Nat → am_Mem → Prop} {μ : am_Mem} {r0 : Nat} {x1 x2 x3 : Int32} {o4 o5 o6 : Option Value}
    (h1 : am_kd μ r0 = (1, 12))
    (k1 : (am_A μ r0 12) ≤ x3 → Wp d 190 (159, [some (.ref r0), some (.int x1), some (.int x2), some (.int x3), o4, o5, o6], [], μ) Q) (k2 : ¬ ((am_A μ r0 12) ≤ x3) → Wp d 190 (41, [some (.ref r0), some (.int x1), some (.int x2), some (.int x3), o4, o5, o6], [], μ) Q) :
    Wp d 190 (33, [some (.ref r0), some (.int x1), some (.int x2), some (.int x3), o4, o5, o6], [], μ) Q := wp_blk rfl e190_33 (And.intro h1 (And.intro k1 k2))
def q190_41 : List (Nat × Instr × Nat) := [(41, .aload_n 0, 1), (42, .iload_n 3, 1), (43, .iload_n 1, 1)]
theorem e190_41 : am_dec am_M190 q190_41 = true := by decide +kernel
theorem e190_41_c : am_dc1 am_M190 44 (.invokevirtual 372) 3 = true := by decide +kernel
theorem b190_41 {d : Nat} {Q : Option Value ⊕ Nat → am_Mem → Prop} {μ : am_Mem} {r0 : Nat} {x1 x2 x3 : Int32} {o4 o5 o6 : Option Value} {P : Int32 → am_Mem → Prop} {X : Nat → am_Mem → Prop}
    (hk : am_kd μ r0 = (1, 12))
    (hc : Wp d 191 (0, [some (.ref r0), some (.int x3), some (.int x1)], [], μ) (pI P X)) (hr : ∀ x μ', P x μ' → Wp (d + 1) 190 (47, [some (.ref r0), some (.int x1), some (.int x2), some (.int x3), o4, o5, o6], [.int x], (μ')) Q)
    (hx : ∀ x μ', X x μ' → Q (.inr x) μ') :
    Wp (d + 1) 190 (41, [some (.ref r0), some (.int x1), some (.int x2), some (.int x3), o4, o5, o6], [], μ) Q := wp_blk rfl e190_41 (wp_cv (as := [.int x3, .int x1]) rfl e190_41_c rfl rfl rfl rfl rfl hk hc (fun v μ' hv => by obtain ⟨x, rfl, hp⟩ := pI_r hv; exact hr x μ' hp) hx)
def q190_47 : List (Nat × Instr × Nat) := [(47, .ifCond .ne 22, 3)]
theorem e190_47 : am_dec am_M190 q190_47 = true := by decide +kernel
theorem b190_47 {d : Nat} {Q : Option Value ⊕ Nat → am_Mem → Prop} {μ : am_Mem} {r0 : Nat} {x1 x2 x3 s0 : Int32} {o4 o5 o6 : Option Value}
    (k1 : ¬ s0 = 0 → Wp d 190 (69, [some (.ref r0), some (.int x1), some (.int x2), some (.int x3), o4, o5, o6], [], μ) Q) (k2 : ¬ (¬ s0 = 0) → Wp d 190 (50, [some (.ref r0), some (.int x1), some (.int x2), some (.int x3), o4, o5, o6], [], μ) Q) :
    Wp d 190 (47, [some (.ref r0), some (.int x1), some (.int x2), some (.int x3), o4, o5, o6], [.int s0], μ) Q := wp_blk rfl e190_47 (And.intro k1 k2)
def q190_50 : List (Nat × Instr × Nat) := [(50, .aload_n 0, 1), (51, .getfield 77, 3), (54, .aload_n 0, 1), (55, .getfield 41, 3), (58, .aload_n 0, 1), (59, .getfield 29, 3), (62, .iload_n 3, 1), (63, .iaload, 1), (64, .iaload, 1), (65, .baload, 1), (66, .ifCond .eq 7, 3)]
theorem e190_50 : am_dec am_M190 q190_50 = true := by decide +kernel
theorem b190_50 {d : Nat} {Q : Option Value ⊕ Nat → am_Mem → Prop} {μ : am_Mem} {r0 : Nat} {x1 x2 x3 : Int32} {o4 o5 o6 : Option Value}
    (h1 : am_kd μ r0 = (1, 12))
    (h2 : ¬ am_F μ r0 40 = 15)
    (h3 : am_kd μ r0 = (1, 12))
    (h4 : ¬ am_F μ r0 19 = 15)
    (h5 : am_kd μ r0 = (1, 12))
    (h6 : ¬ am_F μ r0 13 = 15)
    (h7 : (am_kd μ (am_F μ r0 13)).1 = 2 ∨ (am_kd μ (am_F μ r0 13)).1 = 8)
    (h8 : ¬ (x3 < 0 ∨ (am_kd μ (am_F μ r0 13)).2 ≤ x3.toNatClampNeg))
    (h9 : (am_kd μ (am_F μ r0 19)).1 = 2 ∨ (am_kd μ (am_F μ r0 19)).1 = 8)
    (h10 : ¬ ((am_A μ (am_F μ r0 13) x3.toNatClampNeg) < 0 ∨ (am_kd μ (am_F μ r0 19)).2 ≤ (am_A μ (am_F μ r0 13) x3.toNatClampNeg).toNatClampNeg))
    (h11 : (am_kd μ (am_F μ r0 40)).1 = 3 ∨ (am_kd μ (am_F μ r0 40)).1 = 4 ∨ (am_kd μ (am_F μ r0 40)).1 = 10)
    (h12 : ¬ ((am_A μ (am_F μ r0 19) (am_A μ (am_F μ r0 13) x3.toNatClampNeg).toNatClampNeg) < 0 ∨ (am_kd μ (am_F μ r0 40)).2 ≤ (am_A μ (am_F μ r0 19) (am_A μ (am_F μ r0 13) x3.toNatClampNeg).toNatClampNeg).toNatClampNeg))
    (k1 : (am_A μ (am_F μ r0 40) (am_A μ (am_F μ r0 19) (am_A μ (am_F μ r0 13) x3.toNatClampNeg).toNatClampNeg).toNatClampNeg) = 0 → Wp d 190 (73, [some (.ref r0), some (.int x1), some (.int x2), some (.int x3), o4, o5, o6], [], μ) Q) (k2 : ¬ ((am_A μ (am_F μ r0 40) (am_A μ (am_F μ r0 19) (am_A μ (am_F μ r0 13) x3.toNatClampNeg).toNatClampNeg).toNatClampNeg) = 0) → Wp d 190 (69, [some (.ref r0), some (.int x1), some (.int x2), some (.int x3), o4, o5, o6], [], μ) Q) :
    Wp d 190 (50, [some (.ref r0), some (.int x1), some (.int x2), some (.int x3), o4, o5, o6], [], μ) Q := wp_blk rfl e190_50 (And.intro h1 (And.intro h2 (And.intro h3 (And.intro h4 (And.intro h5 (And.intro h6 (And.intro h7 (And.intro h8 (And.intro h9 (And.intro h10 (And.intro h11 (And.intro h12 (And.intro k1 k2)))))))))))))
def q190_69 : List (Nat × Instr × Nat) := [(69, .iconst 1, 1), (70, .goto 4, 3)]
theorem e190_69 : am_dec am_M190 q190_69 = true := by decide +kernel
theorem b190_69 {d : Nat} {Q : Option Value ⊕ Nat → am_Mem → Prop} {μ : am_Mem} {r0 : Nat} {x1 x2 x3 : Int32} {o4 o5 o6 : Option Value}
    (k : Wp d 190 (74, [some (.ref r0), some (.int x1), some (.int x2), some (.int x3), o4, o5, o6], [.int (Int32.ofInt 1)], μ) Q) :
    Wp d 190 (69, [some (.ref r0), some (.int x1), some (.int x2), some (.int x3), o4, o5, o6], [], μ) Q := wp_blk rfl e190_69 k
def q190_73 : List (Nat × Instr × Nat) := [(73, .iconst 0, 1)]
theorem e190_73 : am_dec am_M190 q190_73 = true := by decide +kernel
theorem b190_73 {d : Nat} {Q : Option Value ⊕ Nat → am_Mem → Prop} {μ : am_Mem} {r0 : Nat} {x1 x2 x3 : Int32} {o4 o5 o6 : Option Value}
    (k : Wp d 190 (74, [some (.ref r0), some (.int x1), some (.int x2), some (.int x3), o4, o5, o6], [.int (Int32.ofInt 0)], μ) Q) :
    Wp d 190 (73, [some (.ref r0), some (.int x1), some (.int x2), some (.int x3), o4, o5, o6], [], μ) Q := wp_blk rfl e190_73 k
def q190_74 : List (Nat × Instr × Nat) := [(74, .istore 4, 2), (76, .aload_n 0, 1), (77, .getfield 32, 3), (80, .iload_n 3, 1), (81, .iaload, 1), (82, .istore 5, 2)]
theorem e190_74 : am_dec am_M190 q190_74 = true := by decide +kernel
theorem b190_74 {d : Nat} {Q : Option Value ⊕ Nat → am_Mem → Prop} {μ : am_Mem} {r0 : Nat} {x1 x2 x3 s0 : Int32} {o4 o5 o6 : Option Value}
    (h1 : am_kd μ r0 = (1, 12))
    (h2 : ¬ am_F μ r0 14 = 15)
    (h3 : (am_kd μ (am_F μ r0 14)).1 = 2 ∨ (am_kd μ (am_F μ r0 14)).1 = 8)
    (h4 : ¬ (x3 < 0 ∨ (am_kd μ (am_F μ r0 14)).2 ≤ x3.toNatClampNeg))
    (k : Wp d 190 (84, [some (.ref r0), some (.int x1), some (.int x2), some (.int x3), some (.int s0), some (.int (am_A μ (am_F μ r0 14) x3.toNatClampNeg)), o6], [], μ) Q) :
    Wp d 190 (74, [some (.ref r0), some (.int x1), some (.int x2), some (.int x3), o4, o5, o6], [.int s0], μ) Q := wp_blk rfl e190_74 (And.intro h1 (And.intro h2 (And.intro h3 (And.intro h4 k))))
def q190_84 : List (Nat × Instr × Nat) := [(84, .iload 5, 2), (86, .aload_n 0, 1), (87, .getfield 32, 3), (90, .iload_n 3, 1), (91, .iconst 1, 1), (92, .iadd, 1), (93, .iaload, 1), (94, .if_icmp .ge 59, 3)]
theorem e190_84 : am_dec am_M190 q190_84 = true := by decide +kernel
theorem b190_84 {d : Nat} {Q : Option Value ⊕ Nat → am_Mem → Prop} {μ : am_Mem} {r0 : Nat} {x1 x2 x3 x4 x5 : Int32} {o6 : Option Value}
    (h1 : am_kd μ r0 = (1, 12))
    (h2 : ¬ am_F μ r0 14 = 15)
    (h3 : (am_kd μ (am_F μ r0 14)).1 = 2 ∨ (am_kd μ (am_F μ r0 14)).1 = 8)
    (h4 : ¬ ((x3 + (Int32.ofInt 1)) < 0 ∨ (am_kd μ (am_F μ r0 14)).2 ≤ (x3 + (Int32.ofInt 1)).toNatClampNeg))
    (k1 : (am_A μ (am_F μ r0 14) (x3 + (Int32.ofInt 1)).toNatClampNeg) ≤ x5 → Wp d 190 (153, [some (.ref r0), some (.int x1), some (.int x2), some (.int x3), some (.int x4), some (.int x5), o6], [], μ) Q) (k2 : ¬ ((am_A μ (am_F μ r0 14) (x3 + (Int32.ofInt 1)).toNatClampNeg) ≤ x5) → Wp d 190 (97, [some (.ref r0), some (.int x1), some (.int x2), some (.int x3), some (.int x4), some (.int x5), o6], [], μ) Q) :
    Wp d 190 (84, [some (.ref r0), some (.int x1), some (.int x2), some (.int x3), some (.int x4), some (.int x5), o6], [], μ) Q := wp_blk rfl e190_84 (And.intro h1 (And.intro h2 (And.intro h3 (And.intro h4 (And.intro k1 k2)))))
def q190_97 : List (Nat × Instr × Nat) := [(97, .iload 4, 2), (99, .ifCond .eq 54, 3)]
theorem e190_97 : am_dec am_M190 q190_97 = true := by decide +kernel
theorem b190_97 {d : Nat} {Q : Option Value ⊕ Nat → am_Mem → Prop} {μ : am_Mem} {r0 : Nat} {x1 x2 x3 x4 x5 : Int32} {o6 : Option Value}
    (k1 : x4 = 0 → Wp d 190 (153, [some (.ref r0), some (.int x1), some (.int x2), some (.int x3), some (.int x4), some (.int x5), o6], [], μ) Q) (k2 : ¬ (x4 = 0) → Wp d 190 (102, [some (.ref r0), some (.int x1), some (.int x2), some (.int x3), some (.int x4), some (.int x5), o6], [], μ) Q) :
    Wp d 190 (97, [some (.ref r0), some (.int x1), some (.int x2), some (.int x3), some (.int x4), some (.int x5), o6], [], μ) Q := wp_blk rfl e190_97 (And.intro k1 k2)
def q190_102 : List (Nat × Instr × Nat) := [(102, .aload_n 0, 1), (103, .getfield 41, 3), (106, .aload_n 0, 1), (107, .getfield 38, 3), (110, .iload 5, 2), (112, .iaload, 1), (113, .iaload, 1), (114, .istore 6, 2), (116, .aload_n 0, 1), (117, .getfield 35, 3), (120, .iload 5, 2), (122, .iaload, 1), (123, .iconst 3, 1), (124, .if_icmp .ge 23, 3)]
theorem e190_102 : am_dec am_M190 q190_102 = true := by decide +kernel
theorem b190_102 {d : Nat} {Q : Option Value ⊕ Nat → am_Mem → Prop} {μ : am_Mem} {r0 : Nat} {x1 x2 x3 x4 x5 : Int32} {o6 : Option Value}
    (h1 : am_kd μ r0 = (1, 12))
    (h2 : ¬ am_F μ r0 19 = 15)
    (h3 : am_kd μ r0 = (1, 12))
    (h4 : ¬ am_F μ r0 17 = 15)
    (h5 : (am_kd μ (am_F μ r0 17)).1 = 2 ∨ (am_kd μ (am_F μ r0 17)).1 = 8)
    (h6 : ¬ (x5 < 0 ∨ (am_kd μ (am_F μ r0 17)).2 ≤ x5.toNatClampNeg))
    (h7 : (am_kd μ (am_F μ r0 19)).1 = 2 ∨ (am_kd μ (am_F μ r0 19)).1 = 8)
    (h8 : ¬ ((am_A μ (am_F μ r0 17) x5.toNatClampNeg) < 0 ∨ (am_kd μ (am_F μ r0 19)).2 ≤ (am_A μ (am_F μ r0 17) x5.toNatClampNeg).toNatClampNeg))
    (h9 : am_kd μ r0 = (1, 12))
    (h10 : ¬ am_F μ r0 16 = 15)
    (h11 : (am_kd μ (am_F μ r0 16)).1 = 2 ∨ (am_kd μ (am_F μ r0 16)).1 = 8)
    (h12 : ¬ (x5 < 0 ∨ (am_kd μ (am_F μ r0 16)).2 ≤ x5.toNatClampNeg))
    (k1 : (Int32.ofInt 3) ≤ (am_A μ (am_F μ r0 16) x5.toNatClampNeg) → Wp d 190 (147, [some (.ref r0), some (.int x1), some (.int x2), some (.int x3), some (.int x4), some (.int x5), some (.int (am_A μ (am_F μ r0 19) (am_A μ (am_F μ r0 17) x5.toNatClampNeg).toNatClampNeg))], [], μ) Q) (k2 : ¬ ((Int32.ofInt 3) ≤ (am_A μ (am_F μ r0 16) x5.toNatClampNeg)) → Wp d 190 (127, [some (.ref r0), some (.int x1), some (.int x2), some (.int x3), some (.int x4), some (.int x5), some (.int (am_A μ (am_F μ r0 19) (am_A μ (am_F μ r0 17) x5.toNatClampNeg).toNatClampNeg))], [], μ) Q) :
    Wp d 190 (102, [some (.ref r0), some (.int x1), some (.int x2), some (.int x3), some (.int x4), some (.int x5), o6], [], μ) Q := wp_blk rfl e190_102 (And.intro h1 (And.intro h2 (And.intro h3 (And.intro h4 (And.intro h5 (And.intro h6 (And.intro h7 (And.intro h8 (And.intro h9 (And.intro h10 (And.intro h11 (And.intro h12 (And.intro k1 k2)))))))))))))
def q190_127 : List (Nat × Instr × Nat) := [(127, .aload_n 0, 1), (128, .getfield 77, 3), (131, .iload 6, 2), (133, .baload, 1), (134, .ifCond .ne 13, 3)]
theorem e190_127 : am_dec am_M190 q190_127 = true := by decide +kernel
theorem b190_127 {d : Nat} {Q : Option Value ⊕ Nat → am_Mem → Prop} {μ : am_Mem} {r0 : Nat} {x1 x2 x3 x4 x5 x6 : Int32}
    (h1 : am_kd μ r0 = (1, 12))
    (h2 : ¬ am_F μ r0 40 = 15)
    (h3 : (am_kd μ (am_F μ r0 40)).1 = 3 ∨ (am_kd μ (am_F μ r0 40)).1 = 4 ∨ (am_kd μ (am_F μ r0 40)).1 = 10)
    (h4 : ¬ (x6 < 0 ∨ (am_kd μ (am_F μ r0 40)).2 ≤ x6.toNatClampNeg))
    (k1 : ¬ (am_A μ (am_F μ r0 40) x6.toNatClampNeg) = 0 → Wp d 190 (147, [some (.ref r0), some (.int x1), some (.int x2), some (.int x3), some (.int x4), some (.int x5), some (.int x6)], [], μ) Q) (k2 : ¬ (¬ (am_A μ (am_F μ r0 40) x6.toNatClampNeg) = 0) → Wp d 190 (137, [some (.ref r0), some (.int x1), some (.int x2), some (.int x3), some (.int x4), some (.int x5), some (.int x6)], [], μ) Q) :
    Wp d 190 (127, [some (.ref r0), some (.int x1), some (.int x2), some (.int x3), some (.int x4), some (.int x5), some (.int x6)], [], μ) Q := wp_blk rfl e190_127 (And.intro h1 (And.intro h2 (And.intro h3 (And.intro h4 (And.intro k1 k2)))))
def q190_137 : List (Nat × Instr × Nat) := [(137, .aload_n 0, 1), (138, .getfield 77, 3), (141, .iload 6, 2), (143, .iconst 1, 1), (144, .bastore, 1), (145, .iconst 1, 1), (146, .istore_n 2, 1)]
theorem e190_137 : am_dec am_M190 q190_137 = true := by decide +kernel
theorem b190_137 {d : Nat} {Q : Option Value ⊕ Nat → am_Mem → Prop} {μ : am_Mem} {r0 : Nat} {x1 x2 x3 x4 x5 x6 : Int32}
    (h1 : am_kd μ r0 = (1, 12))
    (h2 : ¬ am_F μ r0 40 = 15)
    (h3 : (am_kd μ (am_F μ r0 40)).1 = 3 ∨ (am_kd μ (am_F μ r0 40)).1 = 4)
    (h4 : ¬ (x6 < 0 ∨ (am_kd μ (am_F μ r0 40)).2 ≤ x6.toNatClampNeg))
    (k : Wp d 190 (147, [some (.ref r0), some (.int x1), some (.int (Int32.ofInt 1)), some (.int x3), some (.int x4), some (.int x5), some (.int x6)], [], (am_pA μ (am_F μ r0 40) x6.toNatClampNeg (am_nar (am_kd μ (am_F μ r0 40)).1 (Int32.ofInt 1)))) Q) :
    Wp d 190 (137, [some (.ref r0), some (.int x1), some (.int x2), some (.int x3), some (.int x4), some (.int x5), some (.int x6)], [], μ) Q := wp_blk rfl e190_137 (And.intro h1 (And.intro h2 (And.intro h3 (And.intro h4 k))))
def q190_147 : List (Nat × Instr × Nat) := [(147, .iinc 5 1, 3), (150, .goto (-66), 3)]
theorem e190_147 : am_dec am_M190 q190_147 = true := by decide +kernel
theorem b190_147 {d : Nat} {Q : Option Value ⊕ Nat → am_Mem → Prop} {μ : am_Mem} {r0 : Nat} {x1 x2 x3 x4 x5 x6 : Int32}
    (k : Wp d 190 (84, [some (.ref r0), some (.int x1), some (.int x2), some (.int x3), some (.int x4), some (.int (x5 + Int32.ofInt 1)), some (.int x6)], [], μ) Q) :
    Wp d 190 (147, [some (.ref r0), some (.int x1), some (.int x2), some (.int x3), some (.int x4), some (.int x5), some (.int x6)], [], μ) Q := wp_blk rfl e190_147 k
def q190_153 : List (Nat × Instr × Nat) := [(153, .iinc 3 1, 3), (156, .goto (-123), 3)]
theorem e190_153 : am_dec am_M190 q190_153 = true := by decide +kernel
theorem b190_153 {d : Nat} {Q : Option Value ⊕ Nat → am_Mem → Prop} {μ : am_Mem} {r0 : Nat} {x1 x2 x3 x4 x5 : Int32} {o6 : Option Value}
    (k : Wp d 190 (33, [some (.ref r0), some (.int x1), some (.int x2), some (.int (x3 + Int32.ofInt 1)), some (.int x4), some (.int x5), o6], [], μ) Q) :
    Wp d 190 (153, [some (.ref r0), some (.int x1), some (.int x2), some (.int x3), some (.int x4), some (.int x5), o6], [], μ) Q := wp_blk rfl e190_153 k
def q190_159 : List (Nat × Instr × Nat) := [(159, .goto (-134), 3)]
theorem e190_159 : am_dec am_M190 q190_159 = true := by decide +kernel
theorem b190_159 {d : Nat} {Q : Option Value ⊕ Nat → am_Mem → Prop} {μ : am_Mem} {r0 : Nat} {x1 x2 x3 : Int32} {o4 o5 o6 : Option Value}
    (k : Wp d 190 (25, [some (.ref r0), some (.int x1), some (.int x2), some (.int x3), o4, o5, o6], [], μ) Q) :
    Wp d 190 (159, [some (.ref r0), some (.int x1), some (.int x2), some (.int x3), o4, o5, o6], [], μ) Q := wp_blk rfl e190_159 k
theorem e190_162_r : am_dec am_M190 [(162, .return_, 1)] = true := by decide +kernel
theorem b190_162 {d : Nat} {Q : Option Value ⊕ Nat → am_Mem → Prop} {μ : am_Mem} {r0 : Nat} {x1 x2 : Int32} {o3 o4 o5 o6 : Option Value}
    (k : Q (.inl none) μ) :
    Wp d 190 (162, [some (.ref r0), some (.int x1), some (.int x2), o3, o4, o5, o6], [], μ) Q := (wp_rv rfl e190_162_r rfl k)
/-! RuleSheetsModel.isHeadOf(II)Z -/
def q191_0 : List (Nat × Instr × Nat) := [(0, .aload_n 0, 1), (1, .getfield 41, 3), (4, .aload_n 0, 1), (5, .getfield 29, 3), (8, .iload_n 1, 1), (9, .iaload, 1), (10, .iaload, 1), (11, .iload_n 2, 1), (12, .if_icmp .ne 7, 3)]
theorem e191_0 : am_dec am_M191 q191_0 = true := by decide +kernel
theorem b191_0 {d : Nat} {Q : Option Value ⊕ Nat → am_Mem → Prop} {μ : am_Mem} {r0 : Nat} {x1 x2 : Int32}
    (h1 : am_kd μ r0 = (1, 12))
    (h2 : ¬ am_F μ r0 19 = 15)
    (h3 : am_kd μ r0 = (1, 12))
    (h4 : ¬ am_F μ r0 13 = 15)
    (h5 : (am_kd μ (am_F μ r0 13)).1 = 2 ∨ (am_kd μ (am_F μ r0 13)).1 = 8)
    (h6 : ¬ (x1 < 0 ∨ (am_kd μ (am_F μ r0 13)).2 ≤ x1.toNatClampNeg))
    (h7 : (am_kd μ (am_F μ r0 19)).1 = 2 ∨ (am_kd μ (am_F μ r0 19)).1 = 8)
    (h8 : ¬ ((am_A μ (am_F μ r0 13) x1.toNatClampNeg) < 0 ∨ (am_kd μ (am_F μ r0 19)).2 ≤ (am_A μ (am_F μ r0 13) x1.toNatClampNeg).toNatClampNeg))
    (k1 : ¬ (am_A μ (am_F μ r0 19) (am_A μ (am_F μ r0 13) x1.toNatClampNeg).toNatClampNeg) = x2 → Wp d 191 (19, [some (.ref r0), some (.int x1), some (.int x2)], [], μ) Q) (k2 : ¬ (¬ (am_A μ (am_F μ r0 19) (am_A μ (am_F μ r0 13) x1.toNatClampNeg).toNatClampNeg) = x2) → Wp d 191 (15, [some (.ref r0), some (.int x1), some (.int x2)], [], μ) Q) :
    Wp d 191 (0, [some (.ref r0), some (.int x1), some (.int x2)], [], μ) Q := wp_blk rfl e191_0 (And.intro h1 (And.intro h2 (And.intro h3 (And.intro h4 (And.intro h5 (And.intro h6 (And.intro h7 (And.intro h8 (And.intro k1 k2)))))))))
def q191_15 : List (Nat × Instr × Nat) := [(15, .iconst 1, 1), (16, .goto 4, 3)]
theorem e191_15 : am_dec am_M191 q191_15 = true := by decide +kernel
theorem b191_15 {d : Nat} {Q : Option Value ⊕ Nat → am_Mem → Prop} {μ : am_Mem} {r0 : Nat} {x1 x2 : Int32}
    (k : Wp d 191 (20, [some (.ref r0), some (.int x1), some (.int x2)], [.int (Int32.ofInt 1)], μ) Q) :
    Wp d 191 (15, [some (.ref r0), some (.int x1), some (.int x2)], [], μ) Q := wp_blk rfl e191_15 k
def q191_19 : List (Nat × Instr × Nat) := [(19, .iconst 0, 1)]
theorem e191_19 : am_dec am_M191 q191_19 = true := by decide +kernel
theorem b191_19 {d : Nat} {Q : Option Value ⊕ Nat → am_Mem → Prop} {μ : am_Mem} {r0 : Nat} {x1 x2 : Int32}
    (k : Wp d 191 (20, [some (.ref r0), some (.int x1), some (.int x2)], [.int (Int32.ofInt 0)], μ) Q) :
    Wp d 191 (19, [some (.ref r0), some (.int x1), some (.int x2)], [], μ) Q := wp_blk rfl e191_19 k
theorem e191_20_r : am_dec am_M191 [(20, .ireturn, 1)] = true := by decide +kernel
theorem b191_20 {d : Nat} {Q : Option Value ⊕ Nat → am_Mem → Prop} {μ : am_Mem} {r0 : Nat} {x1 x2 s0 : Int32}
    (hn : narrow .boolean (.int s0) = .int s0 ∧ fits .boolean (.int s0) = true)
    (k : Q (.inl (some (.int s0))) μ) :
    Wp d 191 (20, [some (.ref r0), some (.int x1), some (.int x2)], [.int s0], μ) Q := (wp_ri (ty := .boolean) rfl e191_20_r rfl hn k)
/-! RuleSheetsModel.checkSafety()V -/
def q192_0 : List (Nat × Instr × Nat) := [(0, .iconst 0, 1), (1, .istore_n 1, 1)]
theorem e192_0 : am_dec am_M192 q192_0 = true := by decide +kernel
theorem b192_0 {d : Nat} {Q : Option Value ⊕ Nat → am_Mem → Prop} {μ : am_Mem} {r0 : Nat}
    (k : Wp d 192 (2, [some (.ref r0), some (.int (Int32.ofInt 0)), none], [], μ) Q) :
    Wp d 192 (0, [some (.ref r0), none, none], [], μ) Q := wp_blk rfl e192_0 k
def q192_2 : List (Nat × Instr × Nat) := [(2, .iload_n 1, 1), (3, .aload_n 0, 1), (4, .getfield 287, 3), (7, .if_icmp .ge 38, 3)]
theorem e192_2 : am_dec am_M192 q192_2 = true := by decide +kernel
theorem b192_2 {d : Nat} {Q : Option Value ⊕ Nat → am_Mem → Prop} {μ : am_Mem} {r0 : Nat} {x1 : Int32} {o2 : Option Value}
    (h1 : am_kd μ r0 = (1, 12))
    (k1 : (am_A μ r0 12) ≤ x1 → Wp d 192 (45, [some (.ref r0), some (.int x1), o2], [], μ) Q) (k2 : ¬ ((am_A μ r0 12) ≤ x1) → Wp d 192 (10, [some (.ref r0), some (.int x1), o2], [], μ) Q) :
    Wp d 192 (2, [some (.ref r0), some (.int x1), o2], [], μ) Q := wp_blk rfl e192_2 (And.intro h1 (And.intro k1 k2))
def q192_10 : List (Nat × Instr × Nat) := [(10, .iconst 0, 1), (11, .istore_n 2, 1)]
theorem e192_10 : am_dec am_M192 q192_10 = true := by decide +kernel
theorem b192_10 {d : Nat} {Q : Option Value ⊕ Nat → am_Mem → Prop} {μ : am_Mem} {r0 : Nat} {x1 : Int32} {o2 : Option Value}
    (k : Wp d 192 (12, [some (.ref r0), some (.int x1), some (.int (Int32.ofInt 0))], [], μ) Q) :
    Wp d 192 (10, [some (.ref r0), some (.int x1), o2], [], μ) Q := wp_blk rfl e192_10 k
def q192_12 : List (Nat × Instr × Nat) := [(12, .iload_n 2, 1), (13, .bipush 8, 2), (15, .if_icmp .ge 24, 3)]
theorem e192_12 : am_dec am_M192 q192_12 = true := by decide +kernel
theorem b192_12 {d : Nat} {Q : Option Value ⊕ Nat → am_Mem → Prop} {μ : am_Mem} {r0 : Nat} {x1 x2 : Int32}
    (k1 : ((Int8.ofInt 8).toInt32) ≤ x2 → Wp d 192 (39, [some (.ref r0), some (.int x1), some (.int x2)], [], μ) Q) (k2 : ¬ (((Int8.ofInt 8).toInt32) ≤ x2) → Wp d 192 (18, [some (.ref r0), some (.int x1), some (.int x2)], [], μ) Q) :
    Wp d 192 (12, [some (.ref r0), some (.int x1), some (.int x2)], [], μ) Q := wp_blk rfl e192_12 (And.intro k1 k2)
def q192_18 : List (Nat × Instr × Nat) := [(18, .aload_n 0, 1), (19, .iload_n 1, 1), (20, .iload_n 2, 1)]
theorem e192_18 : am_dec am_M192 q192_18 = true := by decide +kernel
theorem e192_18_c : am_dc1 am_M192 21 (.invokevirtual 391) 3 = true := by decide +kernel
theorem b192_18 {d : Nat} {Q : Option Value ⊕ Nat → am_Mem → Prop} {μ : am_Mem} {r0 : Nat} {x1 x2 : Int32} {P : Int32 → am_Mem → Prop} {X : Nat → am_Mem → Prop}
    (hk : am_kd μ r0 = (1, 12))
    (hc : Wp d 193 (0, [some (.ref r0), some (.int x1), some (.int x2), none, none, none, none], [], μ) (pI P X)) (hr : ∀ x μ', P x μ' → Wp (d + 1) 192 (24, [some (.ref r0), some (.int x1), some (.int x2)], [.int x], (μ')) Q)
    (hx : ∀ x μ', X x μ' → Q (.inr x) μ') :
    Wp (d + 1) 192 (18, [some (.ref r0), some (.int x1), some (.int x2)], [], μ) Q := wp_blk rfl e192_18 (wp_cv (as := [.int x1, .int x2]) rfl e192_18_c rfl rfl rfl rfl rfl hk hc (fun v μ' hv => by obtain ⟨x, rfl, hp⟩ := pI_r hv; exact hr x μ' hp) hx)
def q192_24 : List (Nat × Instr × Nat) := [(24, .ifCond .ne 9, 3)]
theorem e192_24 : am_dec am_M192 q192_24 = true := by decide +kernel
theorem b192_24 {d : Nat} {Q : Option Value ⊕ Nat → am_Mem → Prop} {μ : am_Mem} {r0 : Nat} {x1 x2 s0 : Int32}
    (k1 : ¬ s0 = 0 → Wp d 192 (33, [some (.ref r0), some (.int x1), some (.int x2)], [], μ) Q) (k2 : ¬ (¬ s0 = 0) → Wp d 192 (27, [some (.ref r0), some (.int x1), some (.int x2)], [], μ) Q) :
    Wp d 192 (24, [some (.ref r0), some (.int x1), some (.int x2)], [.int s0], μ) Q := wp_blk rfl e192_24 (And.intro k1 k2)
def q192_27 : List (Nat × Instr × Nat) := [(27, .aload_n 0, 1), (28, .iconst 5, 1), (29, .iload_n 1, 1)]
theorem e192_27 : am_dec am_M192 q192_27 = true := by decide +kernel
theorem e192_27_c : am_dc1 am_M192 30 (.invokevirtual 271) 3 = true := by decide +kernel
theorem b192_27 {d : Nat} {Q : Option Value ⊕ Nat → am_Mem → Prop} {μ : am_Mem} {r0 : Nat} {x1 x2 : Int32} {P : am_Mem → Prop} {X : Nat → am_Mem → Prop}
    (hk : am_kd μ r0 = (1, 12))
    (hc : Wp d 166 (0, [some (.ref r0), some (.int (Int32.ofInt 5)), some (.int x1)], [], μ) (pV P X)) (hr : ∀ μ', P μ' → Wp (d + 1) 192 (33, [some (.ref r0), some (.int x1), some (.int x2)], [], (μ')) Q)
    (hx : ∀ x μ', X x μ' → Q (.inr x) μ') :
    Wp (d + 1) 192 (27, [some (.ref r0), some (.int x1), some (.int x2)], [], μ) Q := wp_blk rfl e192_27 (wp_cv (as := [.int (Int32.ofInt 5), .int x1]) rfl e192_27_c rfl rfl rfl rfl rfl hk hc (fun v μ' hv => by obtain ⟨rfl, hp⟩ := pV_r hv; exact hr μ' hp) hx)
def q192_33 : List (Nat × Instr × Nat) := [(33, .iinc 2 1, 3), (36, .goto (-24), 3)]
theorem e192_33 : am_dec am_M192 q192_33 = true := by decide +kernel
theorem b192_33 {d : Nat} {Q : Option Value ⊕ Nat → am_Mem → Prop} {μ : am_Mem} {r0 : Nat} {x1 x2 : Int32}
    (k : Wp d 192 (12, [some (.ref r0), some (.int x1), some (.int (x2 + Int32.ofInt 1))], [], μ) Q) :
    Wp d 192 (33, [some (.ref r0), some (.int x1), some (.int x2)], [], μ) Q := wp_blk rfl e192_33 k
def q192_39 : List (Nat × Instr × Nat) := [(39, .iinc 1 1, 3), (42, .goto (-40), 3)]
theorem e192_39 : am_dec am_M192 q192_39 = true := by decide +kernel
theorem b192_39 {d : Nat} {Q : Option Value ⊕ Nat → am_Mem → Prop} {μ : am_Mem} {r0 : Nat} {x1 x2 : Int32}
    (k : Wp d 192 (2, [some (.ref r0), some (.int (x1 + Int32.ofInt 1)), some (.int x2)], [], μ) Q) :
    Wp d 192 (39, [some (.ref r0), some (.int x1), some (.int x2)], [], μ) Q := wp_blk rfl e192_39 k
theorem e192_45_r : am_dec am_M192 [(45, .return_, 1)] = true := by decide +kernel
theorem b192_45 {d : Nat} {Q : Option Value ⊕ Nat → am_Mem → Prop} {μ : am_Mem} {r0 : Nat} {x1 : Int32} {o2 : Option Value}
    (k : Q (.inl none) μ) :
    Wp d 192 (45, [some (.ref r0), some (.int x1), o2], [], μ) Q := (wp_rv rfl e192_45_r rfl k)
/-! RuleSheetsModel.isSafe(II)Z -/
def q193_0 : List (Nat × Instr × Nat) := [(0, .aload_n 0, 1), (1, .aload_n 0, 1), (2, .getfield 29, 3), (5, .iload_n 1, 1), (6, .iaload, 1), (7, .iload_n 2, 1)]
theorem e193_0 : am_dec am_M193 q193_0 = true := by decide +kernel
theorem e193_0_c : am_dc1 am_M193 8 (.invokevirtual 385) 3 = true := by decide +kernel
theorem b193_0 {d : Nat} {Q : Option Value ⊕ Nat → am_Mem → Prop} {μ : am_Mem} {r0 : Nat} {x1 x2 : Int32} {P : Int32 → am_Mem → Prop} {X : Nat → am_Mem → Prop}
    (h1 : am_kd μ r0 = (1, 12))
    (h2 : ¬ am_F μ r0 13 = 15)
    (h3 : (am_kd μ (am_F μ r0 13)).1 = 2 ∨ (am_kd μ (am_F μ r0 13)).1 = 8)
    (h4 : ¬ (x1 < 0 ∨ (am_kd μ (am_F μ r0 13)).2 ≤ x1.toNatClampNeg))
    (hk : am_kd μ r0 = (1, 12))
    (hc : Wp d 187 (0, [some (.ref r0), some (.int (am_A μ (am_F μ r0 13) x1.toNatClampNeg)), some (.int x2), none, none], [], μ) (pI P X)) (hr : ∀ x μ', P x μ' → Wp (d + 1) 193 (11, [some (.ref r0), some (.int x1), some (.int x2), none, none, none, none], [.int x], (μ')) Q)
    (hx : ∀ x μ', X x μ' → Q (.inr x) μ') :
    Wp (d + 1) 193 (0, [some (.ref r0), some (.int x1), some (.int x2), none, none, none, none], [], μ) Q := wp_blk rfl e193_0 (And.intro h1 (And.intro h2 (And.intro h3 (And.intro h4 (wp_cv (as := [.int (am_A μ (am_F μ r0 13) x1.toNatClampNeg), .int x2]) rfl e193_0_c rfl rfl rfl rfl rfl hk hc (fun v μ' hv => by obtain ⟨x, rfl, hp⟩ := pI_r hv; exact hr x μ' hp) hx)))))
def q193_11 : List (Nat × Instr × Nat) := [(11, .istore_n 3, 1), (12, .iconst 0, 1), (13, .istore 4, 2), (15, .aload_n 0, 1), (16, .getfield 32, 3), (19, .iload_n 1, 1), (20, .iaload, 1), (21, .istore 5, 2)]
theorem e193_11 : am_dec am_M193 q193_11 = true := by decide +kernel
theorem b193_11 {d : Nat} {Q : Option Value ⊕ Nat → am_Mem → Prop} {μ : am_Mem} {r0 : Nat} {x1 x2 s0 : Int32}
    (h1 : am_kd μ r0 = (1, 12))
    (h2 : ¬ am_F μ r0 14 = 15)
    (h3 : (am_kd μ (am_F μ r0 14)).1 = 2 ∨ (am_kd μ (am_F μ r0 14)).1 = 8)
    (h4 : ¬ (x1 < 0 ∨ (am_kd μ (am_F μ r0 14)).2 ≤ x1.toNatClampNeg))
    (k : Wp d 193 (23, [some (.ref r0), some (.int x1), some (.int x2), some (.int s0), some (.int (Int32.ofInt 0)), some (.int (am_A μ (am_F μ r0 14) x1.toNatClampNeg)), none], [], μ) Q) :
    Wp d 193 (11, [some (.ref r0), some (.int x1), some (.int x2), none, none, none, none], [.int s0], μ) Q := wp_blk rfl e193_11 (And.intro h1 (And.intro h2 (And.intro h3 (And.intro h4 k))))
def q193_23 : List (Nat × Instr × Nat) := [(23, .iload 5, 2), (25, .aload_n 0, 1), (26, .getfield 32, 3), (29, .iload_n 1, 1), (30, .iconst 1, 1), (31, .iadd, 1), (32, .iaload, 1), (33, .if_icmp .ge 77, 3)]
theorem e193_23 : am_dec am_M193 q193_23 = true := by decide +kernel
theorem b193_23 {d : Nat} {Q : Option Value ⊕ Nat → am_Mem → Prop} {μ : am_Mem} {r0 : Nat} {x1 x2 x3 x4 x5 : Int32} {o6 : Option Value}
    (h1 : am_kd μ r0 = (1, 12))
    (h2 : ¬ am_F μ r0 14 = 15)
    (h3 : (am_kd μ (am_F μ r0 14)).1 = 2 ∨ (am_kd μ (am_F μ r0 14)).1 = 8)
    (h4 : ¬ ((x1 + (Int32.ofInt 1)) < 0 ∨ (am_kd μ (am_F μ r0 14)).2 ≤ (x1 + (Int32.ofInt 1)).toNatClampNeg))
    (k1 : (am_A μ (am_F μ r0 14) (x1 + (Int32.ofInt 1)).toNatClampNeg) ≤ x5 → Wp d 193 (110, [some (.ref r0), some (.int x1), some (.int x2), some (.int x3), some (.int x4), some (.int x5), o6], [], μ) Q) (k2 : ¬ ((am_A μ (am_F μ r0 14) (x1 + (Int32.ofInt 1)).toNatClampNeg) ≤ x5) → Wp d 193 (36, [some (.ref r0), some (.int x1), some (.int x2), some (.int x3), some (.int x4), some (.int x5), o6], [], μ) Q) :
    Wp d 193 (23, [some (.ref r0), some (.int x1), some (.int x2), some (.int x3), some (.int x4), some (.int x5), o6], [], μ) Q := wp_blk rfl e193_23 (And.intro h1 (And.intro h2 (And.intro h3 (And.intro h4 (And.intro k1 k2)))))
def q193_36 : List (Nat × Instr × Nat) := [(36, .aload_n 0, 1), (37, .aload_n 0, 1), (38, .getfield 38, 3), (41, .iload 5, 2), (43, .iaload, 1), (44, .iload_n 2, 1)]
theorem e193_36 : am_dec am_M193 q193_36 = true := by decide +kernel
theorem e193_36_c : am_dc1 am_M193 45 (.invokevirtual 385) 3 = true := by decide +kernel
theorem b193_36 {d : Nat} {Q : Option Value ⊕ Nat → am_Mem → Prop} {μ : am_Mem} {r0 : Nat} {x1 x2 x3 x4 x5 : Int32} {o6 : Option Value} {P : Int32 → am_Mem → Prop} {X : Nat → am_Mem → Prop}
    (h1 : am_kd μ r0 = (1, 12))
    (h2 : ¬ am_F μ r0 17 = 15)
    (h3 : (am_kd μ (am_F μ r0 17)).1 = 2 ∨ (am_kd μ (am_F μ r0 17)).1 = 8)
    (h4 : ¬ (x5 < 0 ∨ (am_kd μ (am_F μ r0 17)).2 ≤ x5.toNatClampNeg))
    (hk : am_kd μ r0 = (1, 12))
    (hc : Wp d 187 (0, [some (.ref r0), some (.int (am_A μ (am_F μ r0 17) x5.toNatClampNeg)), some (.int x2), none, none], [], μ) (pI P X)) (hr : ∀ x μ', P x μ' → Wp (d + 1) 193 (48, [some (.ref r0), some (.int x1), some (.int x2), some (.int x3), some (.int x4), some (.int x5), o6], [.int x], (μ')) Q)
    (hx : ∀ x μ', X x μ' → Q (.inr x) μ') :
    Wp (d + 1) 193 (36, [some (.ref r0), some (.int x1), some (.int x2), some (.int x3), some (.int x4), some (.int x5), o6], [], μ) Q := wp_blk rfl e193_36 (And.intro h1 (And.intro h2 (And.intro h3 (And.intro h4 (wp_cv (as := [.int (am_A μ (am_F μ r0 17) x5.toNatClampNeg), .int x2]) rfl e193_36_c rfl rfl rfl rfl rfl hk hc (fun v μ' hv => by obtain ⟨x, rfl, hp⟩ := pI_r hv; exact hr x μ' hp) hx)))))
def q193_48 : List (Nat × Instr × Nat) := [(48, .istore 6, 2), (50, .iload 4, 2), (52, .ifCond .ne 19, 3)]
theorem e193_48 : am_dec am_M193 q193_48 = true := by decide +kernel
theorem b193_48 {d : Nat} {Q : Option Value ⊕ Nat → am_Mem → Prop} {μ : am_Mem} {r0 : Nat} {x1 x2 x3 x4 x5 s0 : Int32} {o6 : Option Value}
    (k1 : ¬ x4 = 0 → Wp d 193 (71, [some (.ref r0), some (.int x1), some (.int x2), some (.int x3), some (.int x4), some (.int x5), some (.int s0)], [], μ) Q) (k2 : ¬ (¬ x4 = 0) → Wp d 193 (55, [some (.ref r0), some (.int x1), some (.int x2), some (.int x3), some (.int x4), some (.int x5), some (.int s0)], [], μ) Q) :
    Wp d 193 (48, [some (.ref r0), some (.int x1), some (.int x2), some (.int x3), some (.int x4), some (.int x5), o6], [.int s0], μ) Q := wp_blk rfl e193_48 (And.intro k1 k2)
def q193_55 : List (Nat × Instr × Nat) := [(55, .iload 6, 2), (57, .ifCond .eq 18, 3)]
theorem e193_55 : am_dec am_M193 q193_55 = true := by decide +kernel
theorem b193_55 {d : Nat} {Q : Option Value ⊕ Nat → am_Mem → Prop} {μ : am_Mem} {r0 : Nat} {x1 x2 x3 x4 x5 x6 : Int32}
    (k1 : x6 = 0 → Wp d 193 (75, [some (.ref r0), some (.int x1), some (.int x2), some (.int x3), some (.int x4), some (.int x5), some (.int x6)], [], μ) Q) (k2 : ¬ (x6 = 0) → Wp d 193 (60, [some (.ref r0), some (.int x1), some (.int x2), some (.int x3), some (.int x4), some (.int x5), some (.int x6)], [], μ) Q) :
    Wp d 193 (55, [some (.ref r0), some (.int x1), some (.int x2), some (.int x3), some (.int x4), some (.int x5), some (.int x6)], [], μ) Q := wp_blk rfl e193_55 (And.intro k1 k2)
def q193_60 : List (Nat × Instr × Nat) := [(60, .aload_n 0, 1), (61, .getfield 35, 3), (64, .iload 5, 2), (66, .iaload, 1), (67, .iconst 1, 1), (68, .if_icmp .ne 7, 3)]
theorem e193_60 : am_dec am_M193 q193_60 = true := by decide +kernel
theorem b193_60 {d : Nat} {Q : Option Value ⊕ Nat → am_Mem → Prop} {μ : am_Mem} {r0 : Nat} {x1 x2 x3 x4 x5 x6 : Int32}
    (h1 : am_kd μ r0 = (1, 12))
    (h2 : ¬ am_F μ r0 16 = 15)
    (h3 : (am_kd μ (am_F μ r0 16)).1 = 2 ∨ (am_kd μ (am_F μ r0 16)).1 = 8)
    (h4 : ¬ (x5 < 0 ∨ (am_kd μ (am_F μ r0 16)).2 ≤ x5.toNatClampNeg))
    (k1 : ¬ (am_A μ (am_F μ r0 16) x5.toNatClampNeg) = (Int32.ofInt 1) → Wp d 193 (75, [some (.ref r0), some (.int x1), some (.int x2), some (.int x3), some (.int x4), some (.int x5), some (.int x6)], [], μ) Q) (k2 : ¬ (¬ (am_A μ (am_F μ r0 16) x5.toNatClampNeg) = (Int32.ofInt 1)) → Wp d 193 (71, [some (.ref r0), some (.int x1), some (.int x2), some (.int x3), some (.int x4), some (.int x5), some (.int x6)], [], μ) Q) :
    Wp d 193 (60, [some (.ref r0), some (.int x1), some (.int x2), some (.int x3), some (.int x4), some (.int x5), some (.int x6)], [], μ) Q := wp_blk rfl e193_60 (And.intro h1 (And.intro h2 (And.intro h3 (And.intro h4 (And.intro k1 k2)))))
def q193_71 : List (Nat × Instr × Nat) := [(71, .iconst 1, 1), (72, .goto 4, 3)]
theorem e193_71 : am_dec am_M193 q193_71 = true := by decide +kernel
theorem b193_71 {d : Nat} {Q : Option Value ⊕ Nat → am_Mem → Prop} {μ : am_Mem} {r0 : Nat} {x1 x2 x3 x4 x5 x6 : Int32}
    (k : Wp d 193 (76, [some (.ref r0), some (.int x1), some (.int x2), some (.int x3), some (.int x4), some (.int x5), some (.int x6)], [.int (Int32.ofInt 1)], μ) Q) :
    Wp d 193 (71, [some (.ref r0), some (.int x1), some (.int x2), some (.int x3), some (.int x4), some (.int x5), some (.int x6)], [], μ) Q := wp_blk rfl e193_71 k
def q193_75 : List (Nat × Instr × Nat) := [(75, .iconst 0, 1)]
theorem e193_75 : am_dec am_M193 q193_75 = true := by decide +kernel
theorem b193_75 {d : Nat} {Q : Option Value ⊕ Nat → am_Mem → Prop} {μ : am_Mem} {r0 : Nat} {x1 x2 x3 x4 x5 x6 : Int32}
    (k : Wp d 193 (76, [some (.ref r0), some (.int x1), some (.int x2), some (.int x3), some (.int x4), some (.int x5), some (.int x6)], [.int (Int32.ofInt 0)], μ) Q) :
    Wp d 193 (75, [some (.ref r0), some (.int x1), some (.int x2), some (.int x3), some (.int x4), some (.int x5), some (.int x6)], [], μ) Q := wp_blk rfl e193_75 k
def q193_76 : List (Nat × Instr × Nat) := [(76, .istore 4, 2), (78, .iload_n 3, 1), (79, .ifCond .ne 19, 3)]
theorem e193_76 : am_dec am_M193 q193_76 = true := by decide +kernel
theorem b193_76 {d : Nat} {Q : Option Value ⊕ Nat → am_Mem → Prop} {μ : am_Mem} {r0 : Nat} {x1 x2 x3 x4 x5 x6 s0 : Int32}
    (k1 : ¬ x3 = 0 → Wp d 193 (98, [some (.ref r0), some (.int x1), some (.int x2), some (.int x3), some (.int s0), some (.int x5), some (.int x6)], [], μ) Q) (k2 : ¬ (¬ x3 = 0) → Wp d 193 (82, [some (.ref r0), some (.int x1), some (.int x2), some (.int x3), some (.int s0), some (.int x5), some (.int x6)], [], μ) Q) :
    Wp d 193 (76, [some (.ref r0), some (.int x1), some (.int x2), some (.int x3), some (.int x4), some (.int x5), some (.int x6)], [.int s0], μ) Q := wp_blk rfl e193_76 (And.intro k1 k2)
def q193_82 : List (Nat × Instr × Nat) := [(82, .iload 6, 2), (84, .ifCond .eq 18, 3)]
theorem e193_82 : am_dec am_M193 q193_82 = true := by decide +kernel
theorem b193_82 {d : Nat} {Q : Option Value ⊕ Nat → am_Mem → Prop} {μ : am_Mem} {r0 : Nat} {x1 x2 x3 x4 x5 x6 : Int32}
    (k1 : x6 = 0 → Wp d 193 (102, [some (.ref r0), some (.int x1), some (.int x2), some (.int x3), some (.int x4), some (.int x5), some (.int x6)], [], μ) Q) (k2 : ¬ (x6 = 0) → Wp d 193 (87, [some (.ref r0), some (.int x1), some (.int x2), some (.int x3), some (.int x4), some (.int x5), some (.int x6)], [], μ) Q) :
    Wp d 193 (82, [some (.ref r0), some (.int x1), some (.int x2), some (.int x3), some (.int x4), some (.int x5), some (.int x6)], [], μ) Q := wp_blk rfl e193_82 (And.intro k1 k2)
def q193_87 : List (Nat × Instr × Nat) := [(87, .aload_n 0, 1), (88, .getfield 35, 3), (91, .iload 5, 2), (93, .iaload, 1), (94, .iconst 1, 1), (95, .if_icmp .le 7, 3)]
theorem e193_87 : am_dec am_M193 q193_87 = true := by decide +kernel
theorem b193_87 {d : Nat} {Q : Option Value ⊕ Nat → am_Mem → Prop} {μ : am_Mem} {r0 : Nat} {x1 x2 x3 x4 x5 x6 : Int32}
    (h1 : am_kd μ r0 = (1, 12))
    (h2 : ¬ am_F μ r0 16 = 15)
    (h3 : (am_kd μ (am_F μ r0 16)).1 = 2 ∨ (am_kd μ (am_F μ r0 16)).1 = 8)
    (h4 : ¬ (x5 < 0 ∨ (am_kd μ (am_F μ r0 16)).2 ≤ x5.toNatClampNeg))
    (k1 : (am_A μ (am_F μ r0 16) x5.toNatClampNeg) ≤ (Int32.ofInt 1) → Wp d 193 (102, [some (.ref r0), some (.int x1), some (.int x2), some (.int x3), some (.int x4), some (.int x5), some (.int x6)], [], μ) Q) (k2 : ¬ ((am_A μ (am_F μ r0 16) x5.toNatClampNeg) ≤ (Int32.ofInt 1)) → Wp d 193 (98, [some (.ref r0), some (.int x1), some (.int x2), some (.int x3), some (.int x4), some (.int x5), some (.int x6)], [], μ) Q) :
    Wp d 193 (87, [some (.ref r0), some (.int x1), some (.int x2), some (.int x3), some (.int x4), some (.int x5), some (.int x6)], [], μ) Q := wp_blk rfl e193_87 (And.intro h1 (And.intro h2 (And.intro h3 (And.intro h4 (And.intro k1 k2)))))
def q193_98 : List (Nat × Instr × Nat) := [(98, .iconst 1, 1), (99, .goto 4, 3)]
theorem e193_98 : am_dec am_M193 q193_98 = true := by decide +kernel
theorem b193_98 {d : Nat} {Q : Option Value ⊕ Nat → am_Mem → Prop} {μ : am_Mem} {r0 : Nat} {x1 x2 x3 x4 x5 x6 : Int32}
    (k : Wp d 193 (103, [some (.ref r0), some (.int x1), some (.int x2), some (.int x3), some (.int x4), some (.int x5), some (.int x6)], [.int (Int32.ofInt 1)], μ) Q) :
    Wp d 193 (98, [some (.ref r0), some (.int x1), some (.int x2), some (.int x3), some (.int x4), some (.int x5), some (.int x6)], [], μ) Q := wp_blk rfl e193_98 k
def q193_102 : List (Nat × Instr × Nat) := [(102, .iconst 0, 1)]
theorem e193_102 : am_dec am_M193 q193_102 = true := by decide +kernel
theorem b193_102 {d : Nat} {Q : Option Value ⊕ Nat → am_Mem → Prop} {μ : am_Mem} {r0 : Nat} {x1 x2 x3 x4 x5 x6 : Int32}
    (k : Wp d 193 (103, [some (.ref r0), some (.int x1), some (.int x2), some (.int x3), some (.int x4), some (.int x5), some (.int x6)], [.int (Int32.ofInt 0)], μ) Q) :
    Wp d 193 (102, [some (.ref r0), some (.int x1), some (.int x2), some (.int x3), some (.int x4), some (.int x5), some (.int x6)], [], μ) Q := wp_blk rfl e193_102 k
def q193_103 : List (Nat × Instr × Nat) := [(103, .istore_n 3, 1), (104, .iinc 5 1, 3), (107, .goto (-84), 3)]
theorem e193_103 : am_dec am_M193 q193_103 = true := by decide +kernel
theorem b193_103 {d : Nat} {Q : Option Value ⊕ Nat → am_Mem → Prop} {μ : am_Mem} {r0 : Nat} {x1 x2 x3 x4 x5 x6 s0 : Int32}
    (k : Wp d 193 (23, [some (.ref r0), some (.int x1), some (.int x2), some (.int s0), some (.int x4), some (.int (x5 + Int32.ofInt 1)), some (.int x6)], [], μ) Q) :
    Wp d 193 (103, [some (.ref r0), some (.int x1), some (.int x2), some (.int x3), some (.int x4), some (.int x5), some (.int x6)], [.int s0], μ) Q := wp_blk rfl e193_103 k
def q193_110 : List (Nat × Instr × Nat) := [(110, .iload 4, 2), (112, .ifCond .ne 7, 3)]
theorem e193_110 : am_dec am_M193 q193_110 = true := by decide +kernel
theorem b193_110 {d : Nat} {Q : Option Value ⊕ Nat → am_Mem → Prop} {μ : am_Mem} {r0 : Nat} {x1 x2 x3 x4 x5 : Int32} {o6 : Option Value}
    (k1 : ¬ x4 = 0 → Wp d 193 (119, [some (.ref r0), some (.int x1), some (.int x2), some (.int x3), some (.int x4), some (.int x5), o6], [], μ) Q) (k2 : ¬ (¬ x4 = 0) → Wp d 193 (115, [some (.ref r0), some (.int x1), some (.int x2), some (.int x3), some (.int x4), some (.int x5), o6], [], μ) Q) :
    Wp d 193 (110, [some (.ref r0), some (.int x1), some (.int x2), some (.int x3), some (.int x4), some (.int x5), o6], [], μ) Q := wp_blk rfl e193_110 (And.intro k1 k2)
def q193_115 : List (Nat × Instr × Nat) := [(115, .iload_n 3, 1), (116, .ifCond .ne 7, 3)]
theorem e193_115 : am_dec am_M193 q193_115 = true := by decide +kernel
theorem b193_115 {d : Nat} {Q : Option Value ⊕ Nat → am_Mem → Prop} {μ : am_Mem} {r0 : Nat} {x1 x2 x3 x4 x5 : Int32} {o6 : Option Value}
    (k1 : ¬ x3 = 0 → Wp d 193 (123, [some (.ref r0), some (.int x1), some (.int x2), some (.int x3), some (.int x4), some (.int x5), o6], [], μ) Q) (k2 : ¬ (¬ x3 = 0) → Wp d 193 (119, [some (.ref r0), some (.int x1), some (.int x2), some (.int x3), some (.int x4), some (.int x5), o6], [], μ) Q) :
    Wp d 193 (115, [some (.ref r0), some (.int x1), some (.int x2), some (.int x3), some (.int x4), some (.int x5), o6], [], μ) Q := wp_blk rfl e193_115 (And.intro k1 k2)
def q193_119 : List (Nat × Instr × Nat) := [(119, .iconst 1, 1), (120, .goto 4, 3)]
theorem e193_119 : am_dec am_M193 q193_119 = true := by decide +kernel
theorem b193_119 {d : Nat} {Q : Option Value ⊕ Nat → am_Mem → Prop} {μ : am_Mem} {r0 : Nat} {x1 x2 x3 x4 x5 : Int32} {o6 : Option Value}
    (k : Wp d 193 (124, [some (.ref r0), some (.int x1), some (.int x2), some (.int x3), some (.int x4), some (.int x5), o6], [.int (Int32.ofInt 1)], μ) Q) :
    Wp d 193 (119, [some (.ref r0), some (.int x1), some (.int x2), some (.int x3), some (.int x4), some (.int x5), o6], [], μ) Q := wp_blk rfl e193_119 k
def q193_123 : List (Nat × Instr × Nat) := [(123, .iconst 0, 1)]
theorem e193_123 : am_dec am_M193 q193_123 = true := by decide +kernel
theorem b193_123 {d : Nat} {Q : Option Value ⊕ Nat → am_Mem → Prop} {μ : am_Mem} {r0 : Nat} {x1 x2 x3 x4 x5 : Int32} {o6 : Option Value}
    (k : Wp d 193 (124, [some (.ref r0), some (.int x1), some (.int x2), some (.int x3), some (.int x4), some (.int x5), o6], [.int (Int32.ofInt 0)], μ) Q) :
    Wp d 193 (123, [some (.ref r0), some (.int x1), some (.int x2), some (.int x3), some (.int x4), some (.int x5), o6], [], μ) Q := wp_blk rfl e193_123 k
theorem e193_124_r : am_dec am_M193 [(124, .ireturn, 1)] = true := by decide +kernel
theorem b193_124 {d : Nat} {Q : Option Value ⊕ Nat → am_Mem → Prop} {μ : am_Mem} {r0 : Nat} {x1 x2 x3 x4 x5 s0 : Int32} {o6 : Option Value}
    (hn : narrow .boolean (.int s0) = .int s0 ∧ fits .boolean (.int s0) = true)
    (k : Q (.inl (some (.int s0))) μ) :
    Wp d 193 (124, [some (.ref r0), some (.int x1), some (.int x2), some (.int x3), some (.int x4), some (.int x5), o6], [.int s0], μ) Q := (wp_ri (ty := .boolean) rfl e193_124_r rfl hn k)
/-! RuleSheetsModel.checkStrata()V -/
def q194_0 : List (Nat × Instr × Nat) := [(0, .iconst 0, 1), (1, .istore_n 1, 1)]
theorem e194_0 : am_dec am_M194 q194_0 = true := by decide +kernel
theorem b194_0 {d : Nat} {Q : Option Value ⊕ Nat → am_Mem → Prop} {μ : am_Mem} {r0 : Nat}
    (k : Wp d 194 (2, [some (.ref r0), some (.int (Int32.ofInt 0)), none], [], μ) Q) :
    Wp d 194 (0, [some (.ref r0), none, none], [], μ) Q := wp_blk rfl e194_0 k
def q194_2 : List (Nat × Instr × Nat) := [(2, .iload_n 1, 1), (3, .aload_n 0, 1), (4, .getfield 287, 3), (7, .if_icmp .ge 77, 3)]
theorem e194_2 : am_dec am_M194 q194_2 = true := by decide +kernel
theorem b194_2 {d : Nat} {Q : Option Value ⊕ Nat → am_Mem → Prop} {μ : am_Mem} {r0 : Nat} {x1 : Int32} {o2 : Option Value}
    (h1 : am_kd μ r0 = (1, 12))
    (k1 : (am_A μ r0 12) ≤ x1 → Wp d 194 (84, [some (.ref r0), some (.int x1), o2], [], μ) Q) (k2 : ¬ ((am_A μ r0 12) ≤ x1) → Wp d 194 (10, [some (.ref r0), some (.int x1), o2], [], μ) Q) :
    Wp d 194 (2, [some (.ref r0), some (.int x1), o2], [], μ) Q := wp_blk rfl e194_2 (And.intro h1 (And.intro k1 k2))
def q194_10 : List (Nat × Instr × Nat) := [(10, .aload_n 0, 1), (11, .getfield 258, 3), (14, .ifCond .ne 70, 3)]
theorem e194_10 : am_dec am_M194 q194_10 = true := by decide +kernel
theorem b194_10 {d : Nat} {Q : Option Value ⊕ Nat → am_Mem → Prop} {μ : am_Mem} {r0 : Nat} {x1 : Int32} {o2 : Option Value}
    (h1 : am_kd μ r0 = (1, 12))
    (k1 : ¬ (am_A μ r0 32) = 0 → Wp d 194 (84, [some (.ref r0), some (.int x1), o2], [], μ) Q) (k2 : ¬ (¬ (am_A μ r0 32) = 0) → Wp d 194 (17, [some (.ref r0), some (.int x1), o2], [], μ) Q) :
    Wp d 194 (10, [some (.ref r0), some (.int x1), o2], [], μ) Q := wp_blk rfl e194_10 (And.intro h1 (And.intro k1 k2))
def q194_17 : List (Nat × Instr × Nat) := [(17, .aload_n 0, 1), (18, .getfield 32, 3), (21, .iload_n 1, 1), (22, .iaload, 1), (23, .istore_n 2, 1)]
theorem e194_17 : am_dec am_M194 q194_17 = true := by decide +kernel
theorem b194_17 {d : Nat} {Q : Option Value ⊕ Nat → am_Mem → Prop} {μ : am_Mem} {r0 : Nat} {x1 : Int32} {o2 : Option Value}
    (h1 : am_kd μ r0 = (1, 12))
    (h2 : ¬ am_F μ r0 14 = 15)
    (h3 : (am_kd μ (am_F μ r0 14)).1 = 2 ∨ (am_kd μ (am_F μ r0 14)).1 = 8)
    (h4 : ¬ (x1 < 0 ∨ (am_kd μ (am_F μ r0 14)).2 ≤ x1.toNatClampNeg))
    (k : Wp d 194 (24, [some (.ref r0), some (.int x1), some (.int (am_A μ (am_F μ r0 14) x1.toNatClampNeg))], [], μ) Q) :
    Wp d 194 (17, [some (.ref r0), some (.int x1), o2], [], μ) Q := wp_blk rfl e194_17 (And.intro h1 (And.intro h2 (And.intro h3 (And.intro h4 k))))
def q194_24 : List (Nat × Instr × Nat) := [(24, .iload_n 2, 1), (25, .aload_n 0, 1), (26, .getfield 32, 3), (29, .iload_n 1, 1), (30, .iconst 1, 1), (31, .iadd, 1), (32, .iaload, 1), (33, .if_icmp .ge 45, 3)]
theorem e194_24 : am_dec am_M194 q194_24 = true := by decide +kernel
theorem b194_24 {d : Nat} {Q : Option Value ⊕ Nat → am_Mem → Prop} {μ : am_Mem} {r0 : Nat} {x1 x2 : Int32}
    (h1 : am_kd μ r0 = (1, 12))
    (h2 : ¬ am_F μ r0 14 = 15)
    (h3 : (am_kd μ (am_F μ r0 14)).1 = 2 ∨ (am_kd μ (am_F μ r0 14)).1 = 8)
    (h4 : ¬ ((x1 + (Int32.ofInt 1)) < 0 ∨ (am_kd μ (am_F μ r0 14)).2 ≤ (x1 + (Int32.ofInt 1)).toNatClampNeg))
    (k1 : (am_A μ (am_F μ r0 14) (x1 + (Int32.ofInt 1)).toNatClampNeg) ≤ x2 → Wp d 194 (78, [some (.ref r0), some (.int x1), some (.int x2)], [], μ) Q) (k2 : ¬ ((am_A μ (am_F μ r0 14) (x1 + (Int32.ofInt 1)).toNatClampNeg) ≤ x2) → Wp d 194 (36, [some (.ref r0), some (.int x1), some (.int x2)], [], μ) Q) :
    Wp d 194 (24, [some (.ref r0), some (.int x1), some (.int x2)], [], μ) Q := wp_blk rfl e194_24 (And.intro h1 (And.intro h2 (And.intro h3 (And.intro h4 (And.intro k1 k2)))))
def q194_36 : List (Nat × Instr × Nat) := [(36, .aload_n 0, 1), (37, .getfield 35, 3), (40, .iload_n 2, 1), (41, .iaload, 1), (42, .iconst 2, 1), (43, .if_icmp .ne 29, 3)]
theorem e194_36 : am_dec am_M194 q194_36 = true := by decide +kernel
theorem b194_36 {d : Nat} {Q : Option Value ⊕ Nat → am_Mem → Prop} {μ : am_Mem} {r0 : Nat} {x1 x2 : Int32}
    (h1 : am_kd μ r0 = (1, 12))
    (h2 : ¬ am_F μ r0 16 = 15)
    (h3 : (am_kd μ (am_F μ r0 16)).1 = 2 ∨ (am_kd μ (am_F μ r0 16)).1 = 8)
    (h4 : ¬ (x2 < 0 ∨ (am_kd μ (am_F μ r0 16)).2 ≤ x2.toNatClampNeg))
    (k1 : ¬ (am_A μ (am_F μ r0 16) x2.toNatClampNeg) = (Int32.ofInt 2) → Wp d 194 (72, [some (.ref r0), some (.int x1), some (.int x2)], [], μ) Q) (k2 : ¬ (¬ (am_A μ (am_F μ r0 16) x2.toNatClampNeg) = (Int32.ofInt 2)) → Wp d 194 (46, [some (.ref r0), some (.int x1), some (.int x2)], [], μ) Q) :
    Wp d 194 (36, [some (.ref r0), some (.int x1), some (.int x2)], [], μ) Q := wp_blk rfl e194_36 (And.intro h1 (And.intro h2 (And.intro h3 (And.intro h4 (And.intro k1 k2)))))
def q194_46 : List (Nat × Instr × Nat) := [(46, .aload_n 0, 1), (47, .aload_n 0, 1), (48, .getfield 41, 3), (51, .aload_n 0, 1), (52, .getfield 38, 3), (55, .iload_n 2, 1), (56, .iaload, 1), (57, .iaload, 1), (58, .iload_n 1, 1)]
theorem e194_46 : am_dec am_M194 q194_46 = true := by decide +kernel
theorem e194_46_c : am_dc1 am_M194 59 (.invokevirtual 394) 3 = true := by decide +kernel
theorem b194_46 {d : Nat} {Q : Option Value ⊕ Nat → am_Mem → Prop} {μ : am_Mem} {r0 : Nat} {x1 x2 : Int32} {P : Int32 → am_Mem → Prop} {X : Nat → am_Mem → Prop}
    (h1 : am_kd μ r0 = (1, 12))
    (h2 : ¬ am_F μ r0 19 = 15)
    (h3 : am_kd μ r0 = (1, 12))
    (h4 : ¬ am_F μ r0 17 = 15)
    (h5 : (am_kd μ (am_F μ r0 17)).1 = 2 ∨ (am_kd μ (am_F μ r0 17)).1 = 8)
    (h6 : ¬ (x2 < 0 ∨ (am_kd μ (am_F μ r0 17)).2 ≤ x2.toNatClampNeg))
    (h7 : (am_kd μ (am_F μ r0 19)).1 = 2 ∨ (am_kd μ (am_F μ r0 19)).1 = 8)
    (h8 : ¬ ((am_A μ (am_F μ r0 17) x2.toNatClampNeg) < 0 ∨ (am_kd μ (am_F μ r0 19)).2 ≤ (am_A μ (am_F μ r0 17) x2.toNatClampNeg).toNatClampNeg))
    (hk : am_kd μ r0 = (1, 12))
    (hc : Wp d 195 (0, [some (.ref r0), some (.int (am_A μ (am_F μ r0 19) (am_A μ (am_F μ r0 17) x2.toNatClampNeg).toNatClampNeg)), some (.int x1)], [], μ) (pI P X)) (hr : ∀ x μ', P x μ' → Wp (d + 1) 194 (62, [some (.ref r0), some (.int x1), some (.int x2)], [.int x], (μ')) Q)
    (hx : ∀ x μ', X x μ' → Q (.inr x) μ') :
    Wp (d + 1) 194 (46, [some (.ref r0), some (.int x1), some (.int x2)], [], μ) Q := wp_blk rfl e194_46 (And.intro h1 (And.intro h2 (And.intro h3 (And.intro h4 (And.intro h5 (And.intro h6 (And.intro h7 (And.intro h8 (wp_cv (as := [.int (am_A μ (am_F μ r0 19) (am_A μ (am_F μ r0 17) x2.toNatClampNeg).toNatClampNeg), .int x1]) rfl e194_46_c rfl rfl rfl rfl rfl hk hc (fun v μ' hv => by obtain ⟨x, rfl, hp⟩ := pI_r hv; exact hr x μ' hp) hx)))))))))
def q194_62 : List (Nat × Instr × Nat) := [(62, .ifCond .eq 10, 3)]
theorem e194_62 : am_dec am_M194 q194_62 = true := by decide +kernel
theorem b194_62 {d : Nat} {Q : Option Value ⊕ Nat → am_Mem → Prop} {μ : am_Mem} {r0 : Nat} {x1 x2 s0 : Int32}
    (k1 : s0 = 0 → Wp d 194 (72, [some (.ref r0), some (.int x1), some (.int x2)], [], μ) Q) (k2 : ¬ (s0 = 0) → Wp d 194 (65, [some (.ref r0), some (.int x1), some (.int x2)], [], μ) Q) :
    Wp d 194 (62, [some (.ref r0), some (.int x1), some (.int x2)], [.int s0], μ) Q := wp_blk rfl e194_62 (And.intro k1 k2)
def q194_65 : List (Nat × Instr × Nat) := [(65, .aload_n 0, 1), (66, .bipush 6, 2), (68, .iload_n 1, 1)]
theorem e194_65 : am_dec am_M194 q194_65 = true := by decide +kernel
theorem e194_65_c : am_dc1 am_M194 69 (.invokevirtual 271) 3 = true := by decide +kernel
theorem b194_65 {d : Nat} {Q : Option Value ⊕ Nat → am_Mem → Prop} {μ : am_Mem} {r0 : Nat} {x1 x2 : Int32} {P : am_Mem → Prop} {X : Nat → am_Mem → Prop}
    (hk : am_kd μ r0 = (1, 12))
    (hc : Wp d 166 (0, [some (.ref r0), some (.int ((Int8.ofInt 6).toInt32)), some (.int x1)], [], μ) (pV P X)) (hr : ∀ μ', P μ' → Wp (d + 1) 194 (72, [some (.ref r0), some (.int x1), some (.int x2)], [], (μ')) Q)
    (hx : ∀ x μ', X x μ' → Q (.inr x) μ') :
    Wp (d + 1) 194 (65, [some (.ref r0), some (.int x1), some (.int x2)], [], μ) Q := wp_blk rfl e194_65 (wp_cv (as := [.int ((Int8.ofInt 6).toInt32), .int x1]) rfl e194_65_c rfl rfl rfl rfl rfl hk hc (fun v μ' hv => by obtain ⟨rfl, hp⟩ := pV_r hv; exact hr μ' hp) hx)
def q194_72 : List (Nat × Instr × Nat) := [(72, .iinc 2 1, 3), (75, .goto (-51), 3)]
theorem e194_72 : am_dec am_M194 q194_72 = true := by decide +kernel
theorem b194_72 {d : Nat} {Q : Option Value ⊕ Nat → am_Mem → Prop} {μ : am_Mem} {r0 : Nat} {x1 x2 : Int32}
    (k : Wp d 194 (24, [some (.ref r0), some (.int x1), some (.int (x2 + Int32.ofInt 1))], [], μ) Q) :
    Wp d 194 (72, [some (.ref r0), some (.int x1), some (.int x2)], [], μ) Q := wp_blk rfl e194_72 k
def q194_78 : List (Nat × Instr × Nat) := [(78, .iinc 1 1, 3), (81, .goto (-79), 3)]
theorem e194_78 : am_dec am_M194 q194_78 = true := by decide +kernel
theorem b194_78 {d : Nat} {Q : Option Value ⊕ Nat → am_Mem → Prop} {μ : am_Mem} {r0 : Nat} {x1 x2 : Int32}
    (k : Wp d 194 (2, [some (.ref r0), some (.int (x1 + Int32.ofInt 1)), some (.int x2)], [], μ) Q) :
    Wp d 194 (78, [some (.ref r0), some (.int x1), some (.int x2)], [], μ) Q := wp_blk rfl e194_78 k
theorem e194_84_r : am_dec am_M194 [(84, .return_, 1)] = true := by decide +kernel
theorem b194_84 {d : Nat} {Q : Option Value ⊕ Nat → am_Mem → Prop} {μ : am_Mem} {r0 : Nat} {x1 : Int32} {o2 : Option Value}
    (k : Q (.inl none) μ) :
    Wp d 194 (84, [some (.ref r0), some (.int x1), o2], [], μ) Q := (wp_rv rfl e194_84_r rfl k)
/-! RuleSheetsModel.turns(II)Z -/
def q195_0 : List (Nat × Instr × Nat) := [(0, .aload_n 0, 1), (1, .iload_n 1, 1)]
theorem e195_0 : am_dec am_M195 q195_0 = true := by decide +kernel
theorem e195_0_c : am_dc1 am_M195 2 (.invokevirtual 388) 3 = true := by decide +kernel
theorem b195_0 {d : Nat} {Q : Option Value ⊕ Nat → am_Mem → Prop} {μ : am_Mem} {r0 : Nat} {x1 x2 : Int32} {P : am_Mem → Prop} {X : Nat → am_Mem → Prop}
    (hk : am_kd μ r0 = (1, 12))
    (hc : Wp d 190 (0, [some (.ref r0), some (.int x1), none, none, none, none, none], [], μ) (pV P X)) (hr : ∀ μ', P μ' → Wp (d + 1) 195 (5, [some (.ref r0), some (.int x1), some (.int x2)], [], (μ')) Q)
    (hx : ∀ x μ', X x μ' → Q (.inr x) μ') :
    Wp (d + 1) 195 (0, [some (.ref r0), some (.int x1), some (.int x2)], [], μ) Q := wp_blk rfl e195_0 (wp_cv (as := [.int x1]) rfl e195_0_c rfl rfl rfl rfl rfl hk hc (fun v μ' hv => by obtain ⟨rfl, hp⟩ := pV_r hv; exact hr μ' hp) hx)
def q195_5 : List (Nat × Instr × Nat) := [(5, .aload_n 0, 1), (6, .iload_n 2, 1), (7, .iload_n 1, 1)]
theorem e195_5 : am_dec am_M195 q195_5 = true := by decide +kernel
theorem e195_5_c : am_dc1 am_M195 8 (.invokevirtual 372) 3 = true := by decide +kernel
theorem b195_5 {d : Nat} {Q : Option Value ⊕ Nat → am_Mem → Prop} {μ : am_Mem} {r0 : Nat} {x1 x2 : Int32} {P : Int32 → am_Mem → Prop} {X : Nat → am_Mem → Prop}
    (hk : am_kd μ r0 = (1, 12))
    (hc : Wp d 191 (0, [some (.ref r0), some (.int x2), some (.int x1)], [], μ) (pI P X)) (hr : ∀ x μ', P x μ' → Wp (d + 1) 195 (11, [some (.ref r0), some (.int x1), some (.int x2)], [.int x], (μ')) Q)
    (hx : ∀ x μ', X x μ' → Q (.inr x) μ') :
    Wp (d + 1) 195 (5, [some (.ref r0), some (.int x1), some (.int x2)], [], μ) Q := wp_blk rfl e195_5 (wp_cv (as := [.int x2, .int x1]) rfl e195_5_c rfl rfl rfl rfl rfl hk hc (fun v μ' hv => by obtain ⟨x, rfl, hp⟩ := pI_r hv; exact hr x μ' hp) hx)
def q195_11 : List (Nat × Instr × Nat) := [(11, .ifCond .ne 22, 3)]
theorem e195_11 : am_dec am_M195 q195_11 = true := by decide +kernel
theorem b195_11 {d : Nat} {Q : Option Value ⊕ Nat → am_Mem → Prop} {μ : am_Mem} {r0 : Nat} {x1 x2 s0 : Int32}
    (k1 : ¬ s0 = 0 → Wp d 195 (33, [some (.ref r0), some (.int x1), some (.int x2)], [], μ) Q) (k2 : ¬ (¬ s0 = 0) → Wp d 195 (14, [some (.ref r0), some (.int x1), some (.int x2)], [], μ) Q) :
    Wp d 195 (11, [some (.ref r0), some (.int x1), some (.int x2)], [.int s0], μ) Q := wp_blk rfl e195_11 (And.intro k1 k2)
def q195_14 : List (Nat × Instr × Nat) := [(14, .aload_n 0, 1), (15, .getfield 77, 3), (18, .aload_n 0, 1), (19, .getfield 41, 3), (22, .aload_n 0, 1), (23, .getfield 29, 3), (26, .iload_n 2, 1), (27, .iaload, 1), (28, .iaload, 1), (29, .baload, 1), (30, .ifCond .eq 7, 3)]
theorem e195_14 : am_dec am_M195 q195_14 = true := by decide +kernel
theorem b195_14 {d : Nat} {Q : Option Value ⊕ Nat → am_Mem → Prop} {μ : am_Mem} {r0 : Nat} {x1 x2 : Int32}
    (h1 : am_kd μ r0 = (1, 12))
    (h2 : ¬ am_F μ r0 40 = 15)
    (h3 : am_kd μ r0 = (1, 12))
    (h4 : ¬ am_F μ r0 19 = 15)
    (h5 : am_kd μ r0 = (1, 12))
    (h6 : ¬ am_F μ r0 13 = 15)
    (h7 : (am_kd μ (am_F μ r0 13)).1 = 2 ∨ (am_kd μ (am_F μ r0 13)).1 = 8)
    (h8 : ¬ (x2 < 0 ∨ (am_kd μ (am_F μ r0 13)).2 ≤ x2.toNatClampNeg))
    (h9 : (am_kd μ (am_F μ r0 19)).1 = 2 ∨ (am_kd μ (am_F μ r0 19)).1 = 8)
    (h10 : ¬ ((am_A μ (am_F μ r0 13) x2.toNatClampNeg) < 0 ∨ (am_kd μ (am_F μ r0 19)).2 ≤ (am_A μ (am_F μ r0 13) x2.toNatClampNeg).toNatClampNeg))
    (h11 : (am_kd μ (am_F μ r0 40)).1 = 3 ∨ (am_kd μ (am_F μ r0 40)).1 = 4 ∨ (am_kd μ (am_F μ r0 40)).1 = 10)
    (h12 : ¬ ((am_A μ (am_F μ r0 19) (am_A μ (am_F μ r0 13) x2.toNatClampNeg).toNatClampNeg) < 0 ∨ (am_kd μ (am_F μ r0 40)).2 ≤ (am_A μ (am_F μ r0 19) (am_A μ (am_F μ r0 13) x2.toNatClampNeg).toNatClampNeg).toNatClampNeg))
    (k1 : (am_A μ (am_F μ r0 40) (am_A μ (am_F μ r0 19) (am_A μ (am_F μ r0 13) x2.toNatClampNeg).toNatClampNeg).toNatClampNeg) = 0 → Wp d 195 (37, [some (.ref r0), some (.int x1), some (.int x2)], [], μ) Q) (k2 : ¬ ((am_A μ (am_F μ r0 40) (am_A μ (am_F μ r0 19) (am_A μ (am_F μ r0 13) x2.toNatClampNeg).toNatClampNeg).toNatClampNeg) = 0) → Wp d 195 (33, [some (.ref r0), some (.int x1), some (.int x2)], [], μ) Q) :
    Wp d 195 (14, [some (.ref r0), some (.int x1), some (.int x2)], [], μ) Q := wp_blk rfl e195_14 (And.intro h1 (And.intro h2 (And.intro h3 (And.intro h4 (And.intro h5 (And.intro h6 (And.intro h7 (And.intro h8 (And.intro h9 (And.intro h10 (And.intro h11 (And.intro h12 (And.intro k1 k2)))))))))))))
def q195_33 : List (Nat × Instr × Nat) := [(33, .iconst 1, 1), (34, .goto 4, 3)]
theorem e195_33 : am_dec am_M195 q195_33 = true := by decide +kernel
theorem b195_33 {d : Nat} {Q : Option Value ⊕ Nat → am_Mem → Prop} {μ : am_Mem} {r0 : Nat} {x1 x2 : Int32}
    (k : Wp d 195 (38, [some (.ref r0), some (.int x1), some (.int x2)], [.int (Int32.ofInt 1)], μ) Q) :
    Wp d 195 (33, [some (.ref r0), some (.int x1), some (.int x2)], [], μ) Q := wp_blk rfl e195_33 k
def q195_37 : List (Nat × Instr × Nat) := [(37, .iconst 0, 1)]
theorem e195_37 : am_dec am_M195 q195_37 = true := by decide +kernel
theorem b195_37 {d : Nat} {Q : Option Value ⊕ Nat → am_Mem → Prop} {μ : am_Mem} {r0 : Nat} {x1 x2 : Int32}
    (k : Wp d 195 (38, [some (.ref r0), some (.int x1), some (.int x2)], [.int (Int32.ofInt 0)], μ) Q) :
    Wp d 195 (37, [some (.ref r0), some (.int x1), some (.int x2)], [], μ) Q := wp_blk rfl e195_37 k
theorem e195_38_r : am_dec am_M195 [(38, .ireturn, 1)] = true := by decide +kernel
theorem b195_38 {d : Nat} {Q : Option Value ⊕ Nat → am_Mem → Prop} {μ : am_Mem} {r0 : Nat} {x1 x2 s0 : Int32}
    (hn : narrow .boolean (.int s0) = .int s0 ∧ fits .boolean (.int s0) = true)
    (k : Q (.inl (some (.int s0))) μ) :
    Wp d 195 (38, [some (.ref r0), some (.int x1), some (.int x2)], [.int s0], μ) Q := (wp_ri (ty := .boolean) rfl e195_38_r rfl hn k)
/-! RuleSheetsModel.checkRecursion()V -/
def q196_0 : List (Nat × Instr × Nat) := [(0, .iconst 0, 1), (1, .istore_n 1, 1)]
theorem e196_0 : am_dec am_M196 q196_0 = true := by decide +kernel
theorem b196_0 {d : Nat} {Q : Option Value ⊕ Nat → am_Mem → Prop} {μ : am_Mem} {r0 : Nat}
    (k : Wp d 196 (2, [some (.ref r0), some (.int (Int32.ofInt 0)), none], [], μ) Q) :
    Wp d 196 (0, [some (.ref r0), none, none], [], μ) Q := wp_blk rfl e196_0 k
def q196_2 : List (Nat × Instr × Nat) := [(2, .iload_n 1, 1), (3, .aload_n 0, 1), (4, .getfield 287, 3), (7, .if_icmp .ge 86, 3)]
theorem e196_2 : am_dec am_M196 q196_2 = true := by decide +kernel
theorem b196_2 {d : Nat} {Q : Option Value ⊕ Nat → am_Mem → Prop} {μ : am_Mem} {r0 : Nat} {x1 : Int32} {o2 : Option Value}
    (h1 : am_kd μ r0 = (1, 12))
    (k1 : (am_A μ r0 12) ≤ x1 → Wp d 196 (93, [some (.ref r0), some (.int x1), o2], [], μ) Q) (k2 : ¬ ((am_A μ r0 12) ≤ x1) → Wp d 196 (10, [some (.ref r0), some (.int x1), o2], [], μ) Q) :
    Wp d 196 (2, [some (.ref r0), some (.int x1), o2], [], μ) Q := wp_blk rfl e196_2 (And.intro h1 (And.intro k1 k2))
def q196_10 : List (Nat × Instr × Nat) := [(10, .aload_n 0, 1), (11, .getfield 258, 3), (14, .ifCond .ne 79, 3)]
theorem e196_10 : am_dec am_M196 q196_10 = true := by decide +kernel
theorem b196_10 {d : Nat} {Q : Option Value ⊕ Nat → am_Mem → Prop} {μ : am_Mem} {r0 : Nat} {x1 : Int32} {o2 : Option Value}
    (h1 : am_kd μ r0 = (1, 12))
    (k1 : ¬ (am_A μ r0 32) = 0 → Wp d 196 (93, [some (.ref r0), some (.int x1), o2], [], μ) Q) (k2 : ¬ (¬ (am_A μ r0 32) = 0) → Wp d 196 (17, [some (.ref r0), some (.int x1), o2], [], μ) Q) :
    Wp d 196 (10, [some (.ref r0), some (.int x1), o2], [], μ) Q := wp_blk rfl e196_10 (And.intro h1 (And.intro k1 k2))
def q196_17 : List (Nat × Instr × Nat) := [(17, .aload_n 0, 1), (18, .getfield 32, 3), (21, .iload_n 1, 1), (22, .iaload, 1), (23, .istore_n 2, 1)]
theorem e196_17 : am_dec am_M196 q196_17 = true := by decide +kernel
theorem b196_17 {d : Nat} {Q : Option Value ⊕ Nat → am_Mem → Prop} {μ : am_Mem} {r0 : Nat} {x1 : Int32} {o2 : Option Value}
    (h1 : am_kd μ r0 = (1, 12))
    (h2 : ¬ am_F μ r0 14 = 15)
    (h3 : (am_kd μ (am_F μ r0 14)).1 = 2 ∨ (am_kd μ (am_F μ r0 14)).1 = 8)
    (h4 : ¬ (x1 < 0 ∨ (am_kd μ (am_F μ r0 14)).2 ≤ x1.toNatClampNeg))
    (k : Wp d 196 (24, [some (.ref r0), some (.int x1), some (.int (am_A μ (am_F μ r0 14) x1.toNatClampNeg))], [], μ) Q) :
    Wp d 196 (17, [some (.ref r0), some (.int x1), o2], [], μ) Q := wp_blk rfl e196_17 (And.intro h1 (And.intro h2 (And.intro h3 (And.intro h4 k))))
def q196_24 : List (Nat × Instr × Nat) := [(24, .iload_n 2, 1), (25, .aload_n 0, 1), (26, .getfield 32, 3), (29, .iload_n 1, 1), (30, .iconst 1, 1), (31, .iadd, 1), (32, .iaload, 1), (33, .if_icmp .ge 54, 3)]
theorem e196_24 : am_dec am_M196 q196_24 = true := by decide +kernel
theorem b196_24 {d : Nat} {Q : Option Value ⊕ Nat → am_Mem → Prop} {μ : am_Mem} {r0 : Nat} {x1 x2 : Int32}
    (h1 : am_kd μ r0 = (1, 12))
    (h2 : ¬ am_F μ r0 14 = 15)
    (h3 : (am_kd μ (am_F μ r0 14)).1 = 2 ∨ (am_kd μ (am_F μ r0 14)).1 = 8)
    (h4 : ¬ ((x1 + (Int32.ofInt 1)) < 0 ∨ (am_kd μ (am_F μ r0 14)).2 ≤ (x1 + (Int32.ofInt 1)).toNatClampNeg))
    (k1 : (am_A μ (am_F μ r0 14) (x1 + (Int32.ofInt 1)).toNatClampNeg) ≤ x2 → Wp d 196 (87, [some (.ref r0), some (.int x1), some (.int x2)], [], μ) Q) (k2 : ¬ ((am_A μ (am_F μ r0 14) (x1 + (Int32.ofInt 1)).toNatClampNeg) ≤ x2) → Wp d 196 (36, [some (.ref r0), some (.int x1), some (.int x2)], [], μ) Q) :
    Wp d 196 (24, [some (.ref r0), some (.int x1), some (.int x2)], [], μ) Q := wp_blk rfl e196_24 (And.intro h1 (And.intro h2 (And.intro h3 (And.intro h4 (And.intro k1 k2)))))
def q196_36 : List (Nat × Instr × Nat) := [(36, .aload_n 0, 1), (37, .getfield 35, 3), (40, .iload_n 2, 1), (41, .iaload, 1), (42, .iconst 1, 1), (43, .if_icmp .ne 38, 3)]
theorem e196_36 : am_dec am_M196 q196_36 = true := by decide +kernel
theorem b196_36 {d : Nat} {Q : Option Value ⊕ Nat → am_Mem → Prop} {μ : am_Mem} {r0 : Nat} {x1 x2 : Int32}
    (h1 : am_kd μ r0 = (1, 12))
    (h2 : ¬ am_F μ r0 16 = 15)
    (h3 : (am_kd μ (am_F μ r0 16)).1 = 2 ∨ (am_kd μ (am_F μ r0 16)).1 = 8)
    (h4 : ¬ (x2 < 0 ∨ (am_kd μ (am_F μ r0 16)).2 ≤ x2.toNatClampNeg))
    (k1 : ¬ (am_A μ (am_F μ r0 16) x2.toNatClampNeg) = (Int32.ofInt 1) → Wp d 196 (81, [some (.ref r0), some (.int x1), some (.int x2)], [], μ) Q) (k2 : ¬ (¬ (am_A μ (am_F μ r0 16) x2.toNatClampNeg) = (Int32.ofInt 1)) → Wp d 196 (46, [some (.ref r0), some (.int x1), some (.int x2)], [], μ) Q) :
    Wp d 196 (36, [some (.ref r0), some (.int x1), some (.int x2)], [], μ) Q := wp_blk rfl e196_36 (And.intro h1 (And.intro h2 (And.intro h3 (And.intro h4 (And.intro k1 k2)))))
def q196_46 : List (Nat × Instr × Nat) := [(46, .aload_n 0, 1), (47, .aload_n 0, 1), (48, .getfield 41, 3), (51, .aload_n 0, 1), (52, .getfield 38, 3), (55, .iload_n 2, 1), (56, .iaload, 1), (57, .iaload, 1), (58, .iload_n 1, 1)]
theorem e196_46 : am_dec am_M196 q196_46 = true := by decide +kernel
theorem e196_46_c : am_dc1 am_M196 59 (.invokevirtual 394) 3 = true := by decide +kernel
theorem b196_46 {d : Nat} {Q : Option Value ⊕ Nat → am_Mem → Prop} {μ : am_Mem} {r0 : Nat} {x1 x2 : Int32} {P : Int32 → am_Mem → Prop} {X : Nat → am_Mem → Prop}
    (h1 : am_kd μ r0 = (1, 12))
    (h2 : ¬ am_F μ r0 19 = 15)
    (h3 : am_kd μ r0 = (1, 12))
    (h4 : ¬ am_F μ r0 17 = 15)
    (h5 : (am_kd μ (am_F μ r0 17)).1 = 2 ∨ (am_kd μ (am_F μ r0 17)).1 = 8)
    (h6 : ¬ (x2 < 0 ∨ (am_kd μ (am_F μ r0 17)).2 ≤ x2.toNatClampNeg))
    (h7 : (am_kd μ (am_F μ r0 19)).1 = 2 ∨ (am_kd μ (am_F μ r0 19)).1 = 8)
    (h8 : ¬ ((am_A μ (am_F μ r0 17) x2.toNatClampNeg) < 0 ∨ (am_kd μ (am_F μ r0 19)).2 ≤ (am_A μ (am_F μ r0 17) x2.toNatClampNeg).toNatClampNeg))
    (hk : am_kd μ r0 = (1, 12))
    (hc : Wp d 195 (0, [some (.ref r0), some (.int (am_A μ (am_F μ r0 19) (am_A μ (am_F μ r0 17) x2.toNatClampNeg).toNatClampNeg)), some (.int x1)], [], μ) (pI P X)) (hr : ∀ x μ', P x μ' → Wp (d + 1) 196 (62, [some (.ref r0), some (.int x1), some (.int x2)], [.int x], (μ')) Q)
    (hx : ∀ x μ', X x μ' → Q (.inr x) μ') :
    Wp (d + 1) 196 (46, [some (.ref r0), some (.int x1), some (.int x2)], [], μ) Q := wp_blk rfl e196_46 (And.intro h1 (And.intro h2 (And.intro h3 (And.intro h4 (And.intro h5 (And.intro h6 (And.intro h7 (And.intro h8 (wp_cv (as := [.int (am_A μ (am_F μ r0 19) (am_A μ (am_F μ r0 17) x2.toNatClampNeg).toNatClampNeg), .int x1]) rfl e196_46_c rfl rfl rfl rfl rfl hk hc (fun v μ' hv => by obtain ⟨x, rfl, hp⟩ := pI_r hv; exact hr x μ' hp) hx)))))))))
def q196_62 : List (Nat × Instr × Nat) := [(62, .ifCond .eq 19, 3)]
theorem e196_62 : am_dec am_M196 q196_62 = true := by decide +kernel
theorem b196_62 {d : Nat} {Q : Option Value ⊕ Nat → am_Mem → Prop} {μ : am_Mem} {r0 : Nat} {x1 x2 s0 : Int32}
    (k1 : s0 = 0 → Wp d 196 (81, [some (.ref r0), some (.int x1), some (.int x2)], [], μ) Q) (k2 : ¬ (s0 = 0) → Wp d 196 (65, [some (.ref r0), some (.int x1), some (.int x2)], [], μ) Q) :
    Wp d 196 (62, [some (.ref r0), some (.int x1), some (.int x2)], [.int s0], μ) Q := wp_blk rfl e196_62 (And.intro k1 k2)
def q196_65 : List (Nat × Instr × Nat) := [(65, .aload_n 0, 1), (66, .iload_n 1, 1), (67, .iload_n 2, 1)]
theorem e196_65 : am_dec am_M196 q196_65 = true := by decide +kernel
theorem e196_65_c : am_dc1 am_M196 68 (.invokevirtual 406) 3 = true := by decide +kernel
theorem b196_65 {d : Nat} {Q : Option Value ⊕ Nat → am_Mem → Prop} {μ : am_Mem} {r0 : Nat} {x1 x2 : Int32} {P : Int32 → am_Mem → Prop} {X : Nat → am_Mem → Prop}
    (hk : am_kd μ r0 = (1, 12))
    (hc : Wp d 197 (0, [some (.ref r0), some (.int x1), some (.int x2), none, none, none, none], [], μ) (pI P X)) (hr : ∀ x μ', P x μ' → Wp (d + 1) 196 (71, [some (.ref r0), some (.int x1), some (.int x2)], [.int x], (μ')) Q)
    (hx : ∀ x μ', X x μ' → Q (.inr x) μ') :
    Wp (d + 1) 196 (65, [some (.ref r0), some (.int x1), some (.int x2)], [], μ) Q := wp_blk rfl e196_65 (wp_cv (as := [.int x1, .int x2]) rfl e196_65_c rfl rfl rfl rfl rfl hk hc (fun v μ' hv => by obtain ⟨x, rfl, hp⟩ := pI_r hv; exact hr x μ' hp) hx)
def q196_71 : List (Nat × Instr × Nat) := [(71, .ifCond .ne 10, 3)]
theorem e196_71 : am_dec am_M196 q196_71 = true := by decide +kernel
theorem b196_71 {d : Nat} {Q : Option Value ⊕ Nat → am_Mem → Prop} {μ : am_Mem} {r0 : Nat} {x1 x2 s0 : Int32}
    (k1 : ¬ s0 = 0 → Wp d 196 (81, [some (.ref r0), some (.int x1), some (.int x2)], [], μ) Q) (k2 : ¬ (¬ s0 = 0) → Wp d 196 (74, [some (.ref r0), some (.int x1), some (.int x2)], [], μ) Q) :
    Wp d 196 (71, [some (.ref r0), some (.int x1), some (.int x2)], [.int s0], μ) Q := wp_blk rfl e196_71 (And.intro k1 k2)
def q196_74 : List (Nat × Instr × Nat) := [(74, .aload_n 0, 1), (75, .bipush 7, 2), (77, .iload_n 1, 1)]
theorem e196_74 : am_dec am_M196 q196_74 = true := by decide +kernel
theorem e196_74_c : am_dc1 am_M196 78 (.invokevirtual 271) 3 = true := by decide +kernel
theorem b196_74 {d : Nat} {Q : Option Value ⊕ Nat → am_Mem → Prop} {μ : am_Mem} {r0 : Nat} {x1 x2 : Int32} {P : am_Mem → Prop} {X : Nat → am_Mem → Prop}
    (hk : am_kd μ r0 = (1, 12))
    (hc : Wp d 166 (0, [some (.ref r0), some (.int ((Int8.ofInt 7).toInt32)), some (.int x1)], [], μ) (pV P X)) (hr : ∀ μ', P μ' → Wp (d + 1) 196 (81, [some (.ref r0), some (.int x1), some (.int x2)], [], (μ')) Q)
    (hx : ∀ x μ', X x μ' → Q (.inr x) μ') :
    Wp (d + 1) 196 (74, [some (.ref r0), some (.int x1), some (.int x2)], [], μ) Q := wp_blk rfl e196_74 (wp_cv (as := [.int ((Int8.ofInt 7).toInt32), .int x1]) rfl e196_74_c rfl rfl rfl rfl rfl hk hc (fun v μ' hv => by obtain ⟨rfl, hp⟩ := pV_r hv; exact hr μ' hp) hx)
def q196_81 : List (Nat × Instr × Nat) := [(81, .iinc 2 1, 3), (84, .goto (-60), 3)]
theorem e196_81 : am_dec am_M196 q196_81 = true := by decide +kernel
theorem b196_81 {d : Nat} {Q : Option Value ⊕ Nat → am_Mem → Prop} {μ : am_Mem} {r0 : Nat} {x1 x2 : Int32}
    (k : Wp d 196 (24, [some (.ref r0), some (.int x1), some (.int (x2 + Int32.ofInt 1))], [], μ) Q) :
    Wp d 196 (81, [some (.ref r0), some (.int x1), some (.int x2)], [], μ) Q := wp_blk rfl e196_81 k
def q196_87 : List (Nat × Instr × Nat) := [(87, .iinc 1 1, 3), (90, .goto (-88), 3)]
theorem e196_87 : am_dec am_M196 q196_87 = true := by decide +kernel
theorem b196_87 {d : Nat} {Q : Option Value ⊕ Nat → am_Mem → Prop} {μ : am_Mem} {r0 : Nat} {x1 x2 : Int32}
    (k : Wp d 196 (2, [some (.ref r0), some (.int (x1 + Int32.ofInt 1)), some (.int x2)], [], μ) Q) :
    Wp d 196 (87, [some (.ref r0), some (.int x1), some (.int x2)], [], μ) Q := wp_blk rfl e196_87 k
theorem e196_93_r : am_dec am_M196 [(93, .return_, 1)] = true := by decide +kernel
theorem b196_93 {d : Nat} {Q : Option Value ⊕ Nat → am_Mem → Prop} {μ : am_Mem} {r0 : Nat} {x1 : Int32} {o2 : Option Value}
    (k : Q (.inl none) μ) :
    Wp d 196 (93, [some (.ref r0), some (.int x1), o2], [], μ) Q := (wp_rv rfl e196_93_r rfl k)
/-! RuleSheetsModel.isTame(II)Z -/
def q197_0 : List (Nat × Instr × Nat) := [(0, .aload_n 0, 1), (1, .getfield 38, 3), (4, .iload_n 2, 1), (5, .iaload, 1), (6, .istore_n 3, 1), (7, .iconst 1, 1), (8, .istore 4, 2), (10, .iconst 0, 1), (11, .istore 5, 2)]
theorem e197_0 : am_dec am_M197 q197_0 = true := by decide +kernel
theorem b197_0 {d : Nat} {Q : Option Value ⊕ Nat → am_Mem → Prop} {μ : am_Mem} {r0 : Nat} {x1 x2 : Int32}
    (h1 : am_kd μ r0 = (1, 12))
    (h2 : ¬ am_F μ r0 17 = 15)
    (h3 : (am_kd μ (am_F μ r0 17)).1 = 2 ∨ (am_kd μ (am_F μ r0 17)).1 = 8)
    (h4 : ¬ (x2 < 0 ∨ (am_kd μ (am_F μ r0 17)).2 ≤ x2.toNatClampNeg))
    (k : Wp d 197 (13, [some (.ref r0), some (.int x1), some (.int x2), some (.int (am_A μ (am_F μ r0 17) x2.toNatClampNeg)), some (.int (Int32.ofInt 1)), some (.int (Int32.ofInt 0)), none], [], μ) Q) :
    Wp d 197 (0, [some (.ref r0), some (.int x1), some (.int x2), none, none, none, none], [], μ) Q := wp_blk rfl e197_0 (And.intro h1 (And.intro h2 (And.intro h3 (And.intro h4 k))))
def q197_13 : List (Nat × Instr × Nat) := [(13, .iload 5, 2), (15, .aload_n 0, 1), (16, .getfield 47, 3), (19, .iload_n 3, 1), (20, .iaload, 1), (21, .if_icmp .ge 54, 3)]
theorem e197_13 : am_dec am_M197 q197_13 = true := by decide +kernel
theorem b197_13 {d : Nat} {Q : Option Value ⊕ Nat → am_Mem → Prop} {μ : am_Mem} {r0 : Nat} {x1 x2 x3 x4 x5 : Int32} {o6 : Option Value}
    (h1 : am_kd μ r0 = (1, 12))
    (h2 : ¬ am_F μ r0 21 = 15)
    (h3 : (am_kd μ (am_F μ r0 21)).1 = 2 ∨ (am_kd μ (am_F μ r0 21)).1 = 8)
    (h4 : ¬ (x3 < 0 ∨ (am_kd μ (am_F μ r0 21)).2 ≤ x3.toNatClampNeg))
    (k1 : (am_A μ (am_F μ r0 21) x3.toNatClampNeg) ≤ x5 → Wp d 197 (75, [some (.ref r0), some (.int x1), some (.int x2), some (.int x3), some (.int x4), some (.int x5), o6], [], μ) Q) (k2 : ¬ ((am_A μ (am_F μ r0 21) x3.toNatClampNeg) ≤ x5) → Wp d 197 (24, [some (.ref r0), some (.int x1), some (.int x2), some (.int x3), some (.int x4), some (.int x5), o6], [], μ) Q) :
    Wp d 197 (13, [some (.ref r0), some (.int x1), some (.int x2), some (.int x3), some (.int x4), some (.int x5), o6], [], μ) Q := wp_blk rfl e197_13 (And.intro h1 (And.intro h2 (And.intro h3 (And.intro h4 (And.intro k1 k2)))))
def q197_24 : List (Nat × Instr × Nat) := [(24, .aload_n 0, 1), (25, .getfield 44, 3), (28, .iconst 4, 1), (29, .iload_n 3, 1), (30, .imul, 1), (31, .iload 5, 2), (33, .iadd, 1), (34, .iaload, 1), (35, .istore 6, 2), (37, .iload 4, 2), (39, .ifCond .eq 27, 3)]
theorem e197_24 : am_dec am_M197 q197_24 = true := by decide +kernel
theorem b197_24 {d : Nat} {Q : Option Value ⊕ Nat → am_Mem → Prop} {μ : am_Mem} {r0 : Nat} {x1 x2 x3 x4 x5 : Int32} {o6 : Option Value}
    (h1 : am_kd μ r0 = (1, 12))
    (h2 : ¬ am_F μ r0 20 = 15)
    (h3 : (am_kd μ (am_F μ r0 20)).1 = 2 ∨ (am_kd μ (am_F μ r0 20)).1 = 8)
    (h4 : ¬ ((((Int32.ofInt 4) * x3) + x5) < 0 ∨ (am_kd μ (am_F μ r0 20)).2 ≤ (((Int32.ofInt 4) * x3) + x5).toNatClampNeg))
    (k1 : x4 = 0 → Wp d 197 (66, [some (.ref r0), some (.int x1), some (.int x2), some (.int x3), some (.int x4), some (.int x5), some (.int (am_A μ (am_F μ r0 20) (((Int32.ofInt 4) * x3) + x5).toNatClampNeg))], [], μ) Q) (k2 : ¬ (x4 = 0) → Wp d 197 (42, [some (.ref r0), some (.int x1), some (.int x2), some (.int x3), some (.int x4), some (.int x5), some (.int (am_A μ (am_F μ r0 20) (((Int32.ofInt 4) * x3) + x5).toNatClampNeg))], [], μ) Q) :
    Wp d 197 (24, [some (.ref r0), some (.int x1), some (.int x2), some (.int x3), some (.int x4), some (.int x5), o6], [], μ) Q := wp_blk rfl e197_24 (And.intro h1 (And.intro h2 (And.intro h3 (And.intro h4 (And.intro k1 k2)))))
def q197_42 : List (Nat × Instr × Nat) := [(42, .aload_n 0, 1), (43, .iload 6, 2), (45, .iconst (-1), 1)]
theorem e197_42 : am_dec am_M197 q197_42 = true := by decide +kernel
theorem e197_42_c : am_dc1 am_M197 46 (.invokevirtual 382) 3 = true := by decide +kernel
theorem b197_42 {d : Nat} {Q : Option Value ⊕ Nat → am_Mem → Prop} {μ : am_Mem} {r0 : Nat} {x1 x2 x3 x4 x5 x6 : Int32} {P : Int32 → am_Mem → Prop} {X : Nat → am_Mem → Prop}
    (hk : am_kd μ r0 = (1, 12))
    (hc : Wp d 188 (0, [some (.ref r0), some (.int x6), some (.int (Int32.ofInt (-1))), none, none], [], μ) (pI P X)) (hr : ∀ x μ', P x μ' → Wp (d + 1) 197 (49, [some (.ref r0), some (.int x1), some (.int x2), some (.int x3), some (.int x4), some (.int x5), some (.int x6)], [.int x], (μ')) Q)
    (hx : ∀ x μ', X x μ' → Q (.inr x) μ') :
    Wp (d + 1) 197 (42, [some (.ref r0), some (.int x1), some (.int x2), some (.int x3), some (.int x4), some (.int x5), some (.int x6)], [], μ) Q := wp_blk rfl e197_42 (wp_cv (as := [.int x6, .int (Int32.ofInt (-1))]) rfl e197_42_c rfl rfl rfl rfl rfl hk hc (fun v μ' hv => by obtain ⟨x, rfl, hp⟩ := pI_r hv; exact hr x μ' hp) hx)
def q197_49 : List (Nat × Instr × Nat) := [(49, .ifCond .eq 13, 3)]
theorem e197_49 : am_dec am_M197 q197_49 = true := by decide +kernel
theorem b197_49 {d : Nat} {Q : Option Value ⊕ Nat → am_Mem → Prop} {μ : am_Mem} {r0 : Nat} {x1 x2 x3 x4 x5 x6 s0 : Int32}
    (k1 : s0 = 0 → Wp d 197 (62, [some (.ref r0), some (.int x1), some (.int x2), some (.int x3), some (.int x4), some (.int x5), some (.int x6)], [], μ) Q) (k2 : ¬ (s0 = 0) → Wp d 197 (52, [some (.ref r0), some (.int x1), some (.int x2), some (.int x3), some (.int x4), some (.int x5), some (.int x6)], [], μ) Q) :
    Wp d 197 (49, [some (.ref r0), some (.int x1), some (.int x2), some (.int x3), some (.int x4), some (.int x5), some (.int x6)], [.int s0], μ) Q := wp_blk rfl e197_49 (And.intro k1 k2)
def q197_52 : List (Nat × Instr × Nat) := [(52, .aload_n 0, 1), (53, .iload_n 1, 1), (54, .iload 6, 2)]
theorem e197_52 : am_dec am_M197 q197_52 = true := by decide +kernel
theorem e197_52_c : am_dc1 am_M197 56 (.invokevirtual 403) 3 = true := by decide +kernel
theorem b197_52 {d : Nat} {Q : Option Value ⊕ Nat → am_Mem → Prop} {μ : am_Mem} {r0 : Nat} {x1 x2 x3 x4 x5 x6 : Int32} {P : Int32 → am_Mem → Prop} {X : Nat → am_Mem → Prop}
    (hk : am_kd μ r0 = (1, 12))
    (hc : Wp d 198 (0, [some (.ref r0), some (.int x1), some (.int x6), none, none, none], [], μ) (pI P X)) (hr : ∀ x μ', P x μ' → Wp (d + 1) 197 (59, [some (.ref r0), some (.int x1), some (.int x2), some (.int x3), some (.int x4), some (.int x5), some (.int x6)], [.int x], (μ')) Q)
    (hx : ∀ x μ', X x μ' → Q (.inr x) μ') :
    Wp (d + 1) 197 (52, [some (.ref r0), some (.int x1), some (.int x2), some (.int x3), some (.int x4), some (.int x5), some (.int x6)], [], μ) Q := wp_blk rfl e197_52 (wp_cv (as := [.int x1, .int x6]) rfl e197_52_c rfl rfl rfl rfl rfl hk hc (fun v μ' hv => by obtain ⟨x, rfl, hp⟩ := pI_r hv; exact hr x μ' hp) hx)
def q197_59 : List (Nat × Instr × Nat) := [(59, .ifCond .eq 7, 3)]
theorem e197_59 : am_dec am_M197 q197_59 = true := by decide +kernel
theorem b197_59 {d : Nat} {Q : Option Value ⊕ Nat → am_Mem → Prop} {μ : am_Mem} {r0 : Nat} {x1 x2 x3 x4 x5 x6 s0 : Int32}
    (k1 : s0 = 0 → Wp d 197 (66, [some (.ref r0), some (.int x1), some (.int x2), some (.int x3), some (.int x4), some (.int x5), some (.int x6)], [], μ) Q) (k2 : ¬ (s0 = 0) → Wp d 197 (62, [some (.ref r0), some (.int x1), some (.int x2), some (.int x3), some (.int x4), some (.int x5), some (.int x6)], [], μ) Q) :
    Wp d 197 (59, [some (.ref r0), some (.int x1), some (.int x2), some (.int x3), some (.int x4), some (.int x5), some (.int x6)], [.int s0], μ) Q := wp_blk rfl e197_59 (And.intro k1 k2)
def q197_62 : List (Nat × Instr × Nat) := [(62, .iconst 1, 1), (63, .goto 4, 3)]
theorem e197_62 : am_dec am_M197 q197_62 = true := by decide +kernel
theorem b197_62 {d : Nat} {Q : Option Value ⊕ Nat → am_Mem → Prop} {μ : am_Mem} {r0 : Nat} {x1 x2 x3 x4 x5 x6 : Int32}
    (k : Wp d 197 (67, [some (.ref r0), some (.int x1), some (.int x2), some (.int x3), some (.int x4), some (.int x5), some (.int x6)], [.int (Int32.ofInt 1)], μ) Q) :
    Wp d 197 (62, [some (.ref r0), some (.int x1), some (.int x2), some (.int x3), some (.int x4), some (.int x5), some (.int x6)], [], μ) Q := wp_blk rfl e197_62 k
def q197_66 : List (Nat × Instr × Nat) := [(66, .iconst 0, 1)]
theorem e197_66 : am_dec am_M197 q197_66 = true := by decide +kernel
theorem b197_66 {d : Nat} {Q : Option Value ⊕ Nat → am_Mem → Prop} {μ : am_Mem} {r0 : Nat} {x1 x2 x3 x4 x5 x6 : Int32}
    (k : Wp d 197 (67, [some (.ref r0), some (.int x1), some (.int x2), some (.int x3), some (.int x4), some (.int x5), some (.int x6)], [.int (Int32.ofInt 0)], μ) Q) :
    Wp d 197 (66, [some (.ref r0), some (.int x1), some (.int x2), some (.int x3), some (.int x4), some (.int x5), some (.int x6)], [], μ) Q := wp_blk rfl e197_66 k
def q197_67 : List (Nat × Instr × Nat) := [(67, .istore 4, 2), (69, .iinc 5 1, 3), (72, .goto (-59), 3)]
theorem e197_67 : am_dec am_M197 q197_67 = true := by decide +kernel
theorem b197_67 {d : Nat} {Q : Option Value ⊕ Nat → am_Mem → Prop} {μ : am_Mem} {r0 : Nat} {x1 x2 x3 x4 x5 x6 s0 : Int32}
    (k : Wp d 197 (13, [some (.ref r0), some (.int x1), some (.int x2), some (.int x3), some (.int s0), some (.int (x5 + Int32.ofInt 1)), some (.int x6)], [], μ) Q) :
    Wp d 197 (67, [some (.ref r0), some (.int x1), some (.int x2), some (.int x3), some (.int x4), some (.int x5), some (.int x6)], [.int s0], μ) Q := wp_blk rfl e197_67 k
def q197_75 : List (Nat × Instr × Nat) := [(75, .iload 4, 2)]
theorem e197_75 : am_dec am_M197 q197_75 = true := by decide +kernel
theorem e197_75_r : am_dec am_M197 [(77, .ireturn, 1)] = true := by decide +kernel
theorem b197_75 {d : Nat} {Q : Option Value ⊕ Nat → am_Mem → Prop} {μ : am_Mem} {r0 : Nat} {x1 x2 x3 x4 x5 : Int32} {o6 : Option Value}
    (hn : narrow .boolean (.int x4) = .int x4 ∧ fits .boolean (.int x4) = true)
    (k : Q (.inl (some (.int x4))) μ) :
    Wp d 197 (75, [some (.ref r0), some (.int x1), some (.int x2), some (.int x3), some (.int x4), some (.int x5), o6], [], μ) Q := wp_blk rfl e197_75 (wp_ri (ty := .boolean) rfl e197_75_r rfl hn k)
/-! RuleSheetsModel.isHeldTerm(II)Z -/
def q198_0 : List (Nat × Instr × Nat) := [(0, .aload_n 0, 1), (1, .aload_n 0, 1), (2, .getfield 29, 3), (5, .iload_n 1, 1), (6, .iaload, 1), (7, .iload_n 2, 1)]
theorem e198_0 : am_dec am_M198 q198_0 = true := by decide +kernel
theorem e198_0_c : am_dc1 am_M198 8 (.invokevirtual 400) 3 = true := by decide +kernel
theorem b198_0 {d : Nat} {Q : Option Value ⊕ Nat → am_Mem → Prop} {μ : am_Mem} {r0 : Nat} {x1 x2 : Int32} {P : Int32 → am_Mem → Prop} {X : Nat → am_Mem → Prop}
    (h1 : am_kd μ r0 = (1, 12))
    (h2 : ¬ am_F μ r0 13 = 15)
    (h3 : (am_kd μ (am_F μ r0 13)).1 = 2 ∨ (am_kd μ (am_F μ r0 13)).1 = 8)
    (h4 : ¬ (x1 < 0 ∨ (am_kd μ (am_F μ r0 13)).2 ≤ x1.toNatClampNeg))
    (hk : am_kd μ r0 = (1, 12))
    (hc : Wp d 199 (0, [some (.ref r0), some (.int (am_A μ (am_F μ r0 13) x1.toNatClampNeg)), some (.int x2), none, none], [], μ) (pI P X)) (hr : ∀ x μ', P x μ' → Wp (d + 1) 198 (11, [some (.ref r0), some (.int x1), some (.int x2), none, none, none], [.int x], (μ')) Q)
    (hx : ∀ x μ', X x μ' → Q (.inr x) μ') :
    Wp (d + 1) 198 (0, [some (.ref r0), some (.int x1), some (.int x2), none, none, none], [], μ) Q := wp_blk rfl e198_0 (And.intro h1 (And.intro h2 (And.intro h3 (And.intro h4 (wp_cv (as := [.int (am_A μ (am_F μ r0 13) x1.toNatClampNeg), .int x2]) rfl e198_0_c rfl rfl rfl rfl rfl hk hc (fun v μ' hv => by obtain ⟨x, rfl, hp⟩ := pI_r hv; exact hr x μ' hp) hx)))))
def q198_11 : List (Nat × Instr × Nat) := [(11, .istore_n 3, 1), (12, .aload_n 0, 1), (13, .getfield 32, 3), (16, .iload_n 1, 1), (17, .iaload, 1), (18, .istore 4, 2)]
theorem e198_11 : am_dec am_M198 q198_11 = true := by decide +kernel
theorem b198_11 {d : Nat} {Q : Option Value ⊕ Nat → am_Mem → Prop} {μ : am_Mem} {r0 : Nat} {x1 x2 s0 : Int32}
    (h1 : am_kd μ r0 = (1, 12))
    (h2 : ¬ am_F μ r0 14 = 15)
    (h3 : (am_kd μ (am_F μ r0 14)).1 = 2 ∨ (am_kd μ (am_F μ r0 14)).1 = 8)
    (h4 : ¬ (x1 < 0 ∨ (am_kd μ (am_F μ r0 14)).2 ≤ x1.toNatClampNeg))
    (k : Wp d 198 (20, [some (.ref r0), some (.int x1), some (.int x2), some (.int s0), some (.int (am_A μ (am_F μ r0 14) x1.toNatClampNeg)), none], [], μ) Q) :
    Wp d 198 (11, [some (.ref r0), some (.int x1), some (.int x2), none, none, none], [.int s0], μ) Q := wp_blk rfl e198_11 (And.intro h1 (And.intro h2 (And.intro h3 (And.intro h4 k))))
def q198_20 : List (Nat × Instr × Nat) := [(20, .iload 4, 2), (22, .aload_n 0, 1), (23, .getfield 32, 3), (26, .iload_n 1, 1), (27, .iconst 1, 1), (28, .iadd, 1), (29, .iaload, 1), (30, .if_icmp .ge 64, 3)]
theorem e198_20 : am_dec am_M198 q198_20 = true := by decide +kernel
theorem b198_20 {d : Nat} {Q : Option Value ⊕ Nat → am_Mem → Prop} {μ : am_Mem} {r0 : Nat} {x1 x2 x3 x4 : Int32} {o5 : Option Value}
    (h1 : am_kd μ r0 = (1, 12))
    (h2 : ¬ am_F μ r0 14 = 15)
    (h3 : (am_kd μ (am_F μ r0 14)).1 = 2 ∨ (am_kd μ (am_F μ r0 14)).1 = 8)
    (h4 : ¬ ((x1 + (Int32.ofInt 1)) < 0 ∨ (am_kd μ (am_F μ r0 14)).2 ≤ (x1 + (Int32.ofInt 1)).toNatClampNeg))
    (k1 : (am_A μ (am_F μ r0 14) (x1 + (Int32.ofInt 1)).toNatClampNeg) ≤ x4 → Wp d 198 (94, [some (.ref r0), some (.int x1), some (.int x2), some (.int x3), some (.int x4), o5], [], μ) Q) (k2 : ¬ ((am_A μ (am_F μ r0 14) (x1 + (Int32.ofInt 1)).toNatClampNeg) ≤ x4) → Wp d 198 (33, [some (.ref r0), some (.int x1), some (.int x2), some (.int x3), some (.int x4), o5], [], μ) Q) :
    Wp d 198 (20, [some (.ref r0), some (.int x1), some (.int x2), some (.int x3), some (.int x4), o5], [], μ) Q := wp_blk rfl e198_20 (And.intro h1 (And.intro h2 (And.intro h3 (And.intro h4 (And.intro k1 k2)))))
def q198_33 : List (Nat × Instr × Nat) := [(33, .iload_n 3, 1), (34, .ifCond .ne 60, 3)]
theorem e198_33 : am_dec am_M198 q198_33 = true := by decide +kernel
theorem b198_33 {d : Nat} {Q : Option Value ⊕ Nat → am_Mem → Prop} {μ : am_Mem} {r0 : Nat} {x1 x2 x3 x4 : Int32} {o5 : Option Value}
    (k1 : ¬ x3 = 0 → Wp d 198 (94, [some (.ref r0), some (.int x1), some (.int x2), some (.int x3), some (.int x4), o5], [], μ) Q) (k2 : ¬ (¬ x3 = 0) → Wp d 198 (37, [some (.ref r0), some (.int x1), some (.int x2), some (.int x3), some (.int x4), o5], [], μ) Q) :
    Wp d 198 (33, [some (.ref r0), some (.int x1), some (.int x2), some (.int x3), some (.int x4), o5], [], μ) Q := wp_blk rfl e198_33 (And.intro k1 k2)
def q198_37 : List (Nat × Instr × Nat) := [(37, .aload_n 0, 1), (38, .getfield 38, 3), (41, .iload 4, 2), (43, .iaload, 1), (44, .istore 5, 2), (46, .aload_n 0, 1), (47, .getfield 35, 3), (50, .iload 4, 2), (52, .iaload, 1), (53, .iconst 1, 1), (54, .if_icmp .ne 32, 3)]
theorem e198_37 : am_dec am_M198 q198_37 = true := by decide +kernel
theorem b198_37 {d : Nat} {Q : Option Value ⊕ Nat → am_Mem → Prop} {μ : am_Mem} {r0 : Nat} {x1 x2 x3 x4 : Int32} {o5 : Option Value}
    (h1 : am_kd μ r0 = (1, 12))
    (h2 : ¬ am_F μ r0 17 = 15)
    (h3 : (am_kd μ (am_F μ r0 17)).1 = 2 ∨ (am_kd μ (am_F μ r0 17)).1 = 8)
    (h4 : ¬ (x4 < 0 ∨ (am_kd μ (am_F μ r0 17)).2 ≤ x4.toNatClampNeg))
    (h5 : am_kd μ r0 = (1, 12))
    (h6 : ¬ am_F μ r0 16 = 15)
    (h7 : (am_kd μ (am_F μ r0 16)).1 = 2 ∨ (am_kd μ (am_F μ r0 16)).1 = 8)
    (h8 : ¬ (x4 < 0 ∨ (am_kd μ (am_F μ r0 16)).2 ≤ x4.toNatClampNeg))
    (k1 : ¬ (am_A μ (am_F μ r0 16) x4.toNatClampNeg) = (Int32.ofInt 1) → Wp d 198 (86, [some (.ref r0), some (.int x1), some (.int x2), some (.int x3), some (.int x4), some (.int (am_A μ (am_F μ r0 17) x4.toNatClampNeg))], [], μ) Q) (k2 : ¬ (¬ (am_A μ (am_F μ r0 16) x4.toNatClampNeg) = (Int32.ofInt 1)) → Wp d 198 (57, [some (.ref r0), some (.int x1), some (.int x2), some (.int x3), some (.int x4), some (.int (am_A μ (am_F μ r0 17) x4.toNatClampNeg))], [], μ) Q) :
    Wp d 198 (37, [some (.ref r0), some (.int x1), some (.int x2), some (.int x3), some (.int x4), o5], [], μ) Q := wp_blk rfl e198_37 (And.intro h1 (And.intro h2 (And.intro h3 (And.intro h4 (And.intro h5 (And.intro h6 (And.intro h7 (And.intro h8 (And.intro k1 k2)))))))))
def q198_57 : List (Nat × Instr × Nat) := [(57, .aload_n 0, 1), (58, .iload 5, 2), (60, .iload_n 2, 1)]
theorem e198_57 : am_dec am_M198 q198_57 = true := by decide +kernel
theorem e198_57_c : am_dc1 am_M198 61 (.invokevirtual 400) 3 = true := by decide +kernel
theorem b198_57 {d : Nat} {Q : Option Value ⊕ Nat → am_Mem → Prop} {μ : am_Mem} {r0 : Nat} {x1 x2 x3 x4 x5 : Int32} {P : Int32 → am_Mem → Prop} {X : Nat → am_Mem → Prop}
    (hk : am_kd μ r0 = (1, 12))
    (hc : Wp d 199 (0, [some (.ref r0), some (.int x5), some (.int x2), none, none], [], μ) (pI P X)) (hr : ∀ x μ', P x μ' → Wp (d + 1) 198 (64, [some (.ref r0), some (.int x1), some (.int x2), some (.int x3), some (.int x4), some (.int x5)], [.int x], (μ')) Q)
    (hx : ∀ x μ', X x μ' → Q (.inr x) μ') :
    Wp (d + 1) 198 (57, [some (.ref r0), some (.int x1), some (.int x2), some (.int x3), some (.int x4), some (.int x5)], [], μ) Q := wp_blk rfl e198_57 (wp_cv (as := [.int x5, .int x2]) rfl e198_57_c rfl rfl rfl rfl rfl hk hc (fun v μ' hv => by obtain ⟨x, rfl, hp⟩ := pI_r hv; exact hr x μ' hp) hx)
def q198_64 : List (Nat × Instr × Nat) := [(64, .ifCond .eq 22, 3)]
theorem e198_64 : am_dec am_M198 q198_64 = true := by decide +kernel
theorem b198_64 {d : Nat} {Q : Option Value ⊕ Nat → am_Mem → Prop} {μ : am_Mem} {r0 : Nat} {x1 x2 x3 x4 x5 s0 : Int32}
    (k1 : s0 = 0 → Wp d 198 (86, [some (.ref r0), some (.int x1), some (.int x2), some (.int x3), some (.int x4), some (.int x5)], [], μ) Q) (k2 : ¬ (s0 = 0) → Wp d 198 (67, [some (.ref r0), some (.int x1), some (.int x2), some (.int x3), some (.int x4), some (.int x5)], [], μ) Q) :
    Wp d 198 (64, [some (.ref r0), some (.int x1), some (.int x2), some (.int x3), some (.int x4), some (.int x5)], [.int s0], μ) Q := wp_blk rfl e198_64 (And.intro k1 k2)
def q198_67 : List (Nat × Instr × Nat) := [(67, .aload_n 0, 1), (68, .aload_n 0, 1), (69, .getfield 41, 3), (72, .iload 5, 2), (74, .iaload, 1), (75, .iload_n 1, 1)]
theorem e198_67 : am_dec am_M198 q198_67 = true := by decide +kernel
theorem e198_67_c : am_dc1 am_M198 76 (.invokevirtual 394) 3 = true := by decide +kernel
theorem b198_67 {d : Nat} {Q : Option Value ⊕ Nat → am_Mem → Prop} {μ : am_Mem} {r0 : Nat} {x1 x2 x3 x4 x5 : Int32} {P : Int32 → am_Mem → Prop} {X : Nat → am_Mem → Prop}
    (h1 : am_kd μ r0 = (1, 12))
    (h2 : ¬ am_F μ r0 19 = 15)
    (h3 : (am_kd μ (am_F μ r0 19)).1 = 2 ∨ (am_kd μ (am_F μ r0 19)).1 = 8)
    (h4 : ¬ (x5 < 0 ∨ (am_kd μ (am_F μ r0 19)).2 ≤ x5.toNatClampNeg))
    (hk : am_kd μ r0 = (1, 12))
    (hc : Wp d 195 (0, [some (.ref r0), some (.int (am_A μ (am_F μ r0 19) x5.toNatClampNeg)), some (.int x1)], [], μ) (pI P X)) (hr : ∀ x μ', P x μ' → Wp (d + 1) 198 (79, [some (.ref r0), some (.int x1), some (.int x2), some (.int x3), some (.int x4), some (.int x5)], [.int x], (μ')) Q)
    (hx : ∀ x μ', X x μ' → Q (.inr x) μ') :
    Wp (d + 1) 198 (67, [some (.ref r0), some (.int x1), some (.int x2), some (.int x3), some (.int x4), some (.int x5)], [], μ) Q := wp_blk rfl e198_67 (And.intro h1 (And.intro h2 (And.intro h3 (And.intro h4 (wp_cv (as := [.int (am_A μ (am_F μ r0 19) x5.toNatClampNeg), .int x1]) rfl e198_67_c rfl rfl rfl rfl rfl hk hc (fun v μ' hv => by obtain ⟨x, rfl, hp⟩ := pI_r hv; exact hr x μ' hp) hx)))))
def q198_79 : List (Nat × Instr × Nat) := [(79, .ifCond .ne 7, 3)]
theorem e198_79 : am_dec am_M198 q198_79 = true := by decide +kernel
theorem b198_79 {d : Nat} {Q : Option Value ⊕ Nat → am_Mem → Prop} {μ : am_Mem} {r0 : Nat} {x1 x2 x3 x4 x5 s0 : Int32}
    (k1 : ¬ s0 = 0 → Wp d 198 (86, [some (.ref r0), some (.int x1), some (.int x2), some (.int x3), some (.int x4), some (.int x5)], [], μ) Q) (k2 : ¬ (¬ s0 = 0) → Wp d 198 (82, [some (.ref r0), some (.int x1), some (.int x2), some (.int x3), some (.int x4), some (.int x5)], [], μ) Q) :
    Wp d 198 (79, [some (.ref r0), some (.int x1), some (.int x2), some (.int x3), some (.int x4), some (.int x5)], [.int s0], μ) Q := wp_blk rfl e198_79 (And.intro k1 k2)
def q198_82 : List (Nat × Instr × Nat) := [(82, .iconst 1, 1), (83, .goto 4, 3)]
theorem e198_82 : am_dec am_M198 q198_82 = true := by decide +kernel
theorem b198_82 {d : Nat} {Q : Option Value ⊕ Nat → am_Mem → Prop} {μ : am_Mem} {r0 : Nat} {x1 x2 x3 x4 x5 : Int32}
    (k : Wp d 198 (87, [some (.ref r0), some (.int x1), some (.int x2), some (.int x3), some (.int x4), some (.int x5)], [.int (Int32.ofInt 1)], μ) Q) :
    Wp d 198 (82, [some (.ref r0), some (.int x1), some (.int x2), some (.int x3), some (.int x4), some (.int x5)], [], μ) Q := wp_blk rfl e198_82 k
def q198_86 : List (Nat × Instr × Nat) := [(86, .iconst 0, 1)]
theorem e198_86 : am_dec am_M198 q198_86 = true := by decide +kernel
theorem b198_86 {d : Nat} {Q : Option Value ⊕ Nat → am_Mem → Prop} {μ : am_Mem} {r0 : Nat} {x1 x2 x3 x4 x5 : Int32}
    (k : Wp d 198 (87, [some (.ref r0), some (.int x1), some (.int x2), some (.int x3), some (.int x4), some (.int x5)], [.int (Int32.ofInt 0)], μ) Q) :
    Wp d 198 (86, [some (.ref r0), some (.int x1), some (.int x2), some (.int x3), some (.int x4), some (.int x5)], [], μ) Q := wp_blk rfl e198_86 k
def q198_87 : List (Nat × Instr × Nat) := [(87, .istore_n 3, 1), (88, .iinc 4 1, 3), (91, .goto (-71), 3)]
theorem e198_87 : am_dec am_M198 q198_87 = true := by decide +kernel
theorem b198_87 {d : Nat} {Q : Option Value ⊕ Nat → am_Mem → Prop} {μ : am_Mem} {r0 : Nat} {x1 x2 x3 x4 x5 s0 : Int32}
    (k : Wp d 198 (20, [some (.ref r0), some (.int x1), some (.int x2), some (.int s0), some (.int (x4 + Int32.ofInt 1)), some (.int x5)], [], μ) Q) :
    Wp d 198 (87, [some (.ref r0), some (.int x1), some (.int x2), some (.int x3), some (.int x4), some (.int x5)], [.int s0], μ) Q := wp_blk rfl e198_87 k
def q198_94 : List (Nat × Instr × Nat) := [(94, .iload_n 3, 1)]
theorem e198_94 : am_dec am_M198 q198_94 = true := by decide +kernel
theorem e198_94_r : am_dec am_M198 [(95, .ireturn, 1)] = true := by decide +kernel
theorem b198_94 {d : Nat} {Q : Option Value ⊕ Nat → am_Mem → Prop} {μ : am_Mem} {r0 : Nat} {x1 x2 x3 x4 : Int32} {o5 : Option Value}
    (hn : narrow .boolean (.int x3) = .int x3 ∧ fits .boolean (.int x3) = true)
    (k : Q (.inl (some (.int x3))) μ) :
    Wp d 198 (94, [some (.ref r0), some (.int x1), some (.int x2), some (.int x3), some (.int x4), o5], [], μ) Q := wp_blk rfl e198_94 (wp_ri (ty := .boolean) rfl e198_94_r rfl hn k)
/-! RuleSheetsModel.hasTerm(II)Z -/
def q199_0 : List (Nat × Instr × Nat) := [(0, .iconst 0, 1), (1, .istore_n 3, 1), (2, .iconst 0, 1), (3, .istore 4, 2)]
theorem e199_0 : am_dec am_M199 q199_0 = true := by decide +kernel
theorem b199_0 {d : Nat} {Q : Option Value ⊕ Nat → am_Mem → Prop} {μ : am_Mem} {r0 : Nat} {x1 x2 : Int32}
    (k : Wp d 199 (5, [some (.ref r0), some (.int x1), some (.int x2), some (.int (Int32.ofInt 0)), some (.int (Int32.ofInt 0))], [], μ) Q) :
    Wp d 199 (0, [some (.ref r0), some (.int x1), some (.int x2), none, none], [], μ) Q := wp_blk rfl e199_0 k
def q199_5 : List (Nat × Instr × Nat) := [(5, .iload 4, 2), (7, .aload_n 0, 1), (8, .getfield 47, 3), (11, .iload_n 1, 1), (12, .iaload, 1), (13, .if_icmp .ge 38, 3)]
theorem e199_5 : am_dec am_M199 q199_5 = true := by decide +kernel
theorem b199_5 {d : Nat} {Q : Option Value ⊕ Nat → am_Mem → Prop} {μ : am_Mem} {r0 : Nat} {x1 x2 x3 x4 : Int32}
    (h1 : am_kd μ r0 = (1, 12))
    (h2 : ¬ am_F μ r0 21 = 15)
    (h3 : (am_kd μ (am_F μ r0 21)).1 = 2 ∨ (am_kd μ (am_F μ r0 21)).1 = 8)
    (h4 : ¬ (x1 < 0 ∨ (am_kd μ (am_F μ r0 21)).2 ≤ x1.toNatClampNeg))
    (k1 : (am_A μ (am_F μ r0 21) x1.toNatClampNeg) ≤ x4 → Wp d 199 (51, [some (.ref r0), some (.int x1), some (.int x2), some (.int x3), some (.int x4)], [], μ) Q) (k2 : ¬ ((am_A μ (am_F μ r0 21) x1.toNatClampNeg) ≤ x4) → Wp d 199 (16, [some (.ref r0), some (.int x1), some (.int x2), some (.int x3), some (.int x4)], [], μ) Q) :
    Wp d 199 (5, [some (.ref r0), some (.int x1), some (.int x2), some (.int x3), some (.int x4)], [], μ) Q := wp_blk rfl e199_5 (And.intro h1 (And.intro h2 (And.intro h3 (And.intro h4 (And.intro k1 k2)))))
def q199_16 : List (Nat × Instr × Nat) := [(16, .iload_n 3, 1), (17, .ifCond .ne 22, 3)]
theorem e199_16 : am_dec am_M199 q199_16 = true := by decide +kernel
theorem b199_16 {d : Nat} {Q : Option Value ⊕ Nat → am_Mem → Prop} {μ : am_Mem} {r0 : Nat} {x1 x2 x3 x4 : Int32}
    (k1 : ¬ x3 = 0 → Wp d 199 (39, [some (.ref r0), some (.int x1), some (.int x2), some (.int x3), some (.int x4)], [], μ) Q) (k2 : ¬ (¬ x3 = 0) → Wp d 199 (20, [some (.ref r0), some (.int x1), some (.int x2), some (.int x3), some (.int x4)], [], μ) Q) :
    Wp d 199 (16, [some (.ref r0), some (.int x1), some (.int x2), some (.int x3), some (.int x4)], [], μ) Q := wp_blk rfl e199_16 (And.intro k1 k2)
def q199_20 : List (Nat × Instr × Nat) := [(20, .aload_n 0, 1), (21, .aload_n 0, 1), (22, .getfield 44, 3), (25, .iconst 4, 1), (26, .iload_n 1, 1), (27, .imul, 1), (28, .iload 4, 2), (30, .iadd, 1), (31, .iaload, 1), (32, .iload_n 2, 1)]
theorem e199_20 : am_dec am_M199 q199_20 = true := by decide +kernel
theorem e199_20_c : am_dc1 am_M199 33 (.invokevirtual 397) 3 = true := by decide +kernel
theorem b199_20 {d : Nat} {Q : Option Value ⊕ Nat → am_Mem → Prop} {μ : am_Mem} {r0 : Nat} {x1 x2 x3 x4 : Int32} {P : Int32 → am_Mem → Prop} {X : Nat → am_Mem → Prop}
    (h1 : am_kd μ r0 = (1, 12))
    (h2 : ¬ am_F μ r0 20 = 15)
    (h3 : (am_kd μ (am_F μ r0 20)).1 = 2 ∨ (am_kd μ (am_F μ r0 20)).1 = 8)
    (h4 : ¬ ((((Int32.ofInt 4) * x1) + x4) < 0 ∨ (am_kd μ (am_F μ r0 20)).2 ≤ (((Int32.ofInt 4) * x1) + x4).toNatClampNeg))
    (hk : am_kd μ r0 = (1, 12))
    (hc : Wp d 200 (0, [some (.ref r0), some (.int (am_A μ (am_F μ r0 20) (((Int32.ofInt 4) * x1) + x4).toNatClampNeg)), some (.int x2), none, none], [], μ) (pI P X)) (hr : ∀ x μ', P x μ' → Wp (d + 1) 199 (36, [some (.ref r0), some (.int x1), some (.int x2), some (.int x3), some (.int x4)], [.int x], (μ')) Q)
    (hx : ∀ x μ', X x μ' → Q (.inr x) μ') :
    Wp (d + 1) 199 (20, [some (.ref r0), some (.int x1), some (.int x2), some (.int x3), some (.int x4)], [], μ) Q := wp_blk rfl e199_20 (And.intro h1 (And.intro h2 (And.intro h3 (And.intro h4 (wp_cv (as := [.int (am_A μ (am_F μ r0 20) (((Int32.ofInt 4) * x1) + x4).toNatClampNeg), .int x2]) rfl e199_20_c rfl rfl rfl rfl rfl hk hc (fun v μ' hv => by obtain ⟨x, rfl, hp⟩ := pI_r hv; exact hr x μ' hp) hx)))))
def q199_36 : List (Nat × Instr × Nat) := [(36, .ifCond .eq 7, 3)]
theorem e199_36 : am_dec am_M199 q199_36 = true := by decide +kernel
theorem b199_36 {d : Nat} {Q : Option Value ⊕ Nat → am_Mem → Prop} {μ : am_Mem} {r0 : Nat} {x1 x2 x3 x4 s0 : Int32}
    (k1 : s0 = 0 → Wp d 199 (43, [some (.ref r0), some (.int x1), some (.int x2), some (.int x3), some (.int x4)], [], μ) Q) (k2 : ¬ (s0 = 0) → Wp d 199 (39, [some (.ref r0), some (.int x1), some (.int x2), some (.int x3), some (.int x4)], [], μ) Q) :
    Wp d 199 (36, [some (.ref r0), some (.int x1), some (.int x2), some (.int x3), some (.int x4)], [.int s0], μ) Q := wp_blk rfl e199_36 (And.intro k1 k2)
def q199_39 : List (Nat × Instr × Nat) := [(39, .iconst 1, 1), (40, .goto 4, 3)]
theorem e199_39 : am_dec am_M199 q199_39 = true := by decide +kernel
theorem b199_39 {d : Nat} {Q : Option Value ⊕ Nat → am_Mem → Prop} {μ : am_Mem} {r0 : Nat} {x1 x2 x3 x4 : Int32}
    (k : Wp d 199 (44, [some (.ref r0), some (.int x1), some (.int x2), some (.int x3), some (.int x4)], [.int (Int32.ofInt 1)], μ) Q) :
    Wp d 199 (39, [some (.ref r0), some (.int x1), some (.int x2), some (.int x3), some (.int x4)], [], μ) Q := wp_blk rfl e199_39 k
def q199_43 : List (Nat × Instr × Nat) := [(43, .iconst 0, 1)]
theorem e199_43 : am_dec am_M199 q199_43 = true := by decide +kernel
theorem b199_43 {d : Nat} {Q : Option Value ⊕ Nat → am_Mem → Prop} {μ : am_Mem} {r0 : Nat} {x1 x2 x3 x4 : Int32}
    (k : Wp d 199 (44, [some (.ref r0), some (.int x1), some (.int x2), some (.int x3), some (.int x4)], [.int (Int32.ofInt 0)], μ) Q) :
    Wp d 199 (43, [some (.ref r0), some (.int x1), some (.int x2), some (.int x3), some (.int x4)], [], μ) Q := wp_blk rfl e199_43 k
def q199_44 : List (Nat × Instr × Nat) := [(44, .istore_n 3, 1), (45, .iinc 4 1, 3), (48, .goto (-43), 3)]
theorem e199_44 : am_dec am_M199 q199_44 = true := by decide +kernel
theorem b199_44 {d : Nat} {Q : Option Value ⊕ Nat → am_Mem → Prop} {μ : am_Mem} {r0 : Nat} {x1 x2 x3 x4 s0 : Int32}
    (k : Wp d 199 (5, [some (.ref r0), some (.int x1), some (.int x2), some (.int s0), some (.int (x4 + Int32.ofInt 1))], [], μ) Q) :
    Wp d 199 (44, [some (.ref r0), some (.int x1), some (.int x2), some (.int x3), some (.int x4)], [.int s0], μ) Q := wp_blk rfl e199_44 k
def q199_51 : List (Nat × Instr × Nat) := [(51, .iload_n 3, 1)]
theorem e199_51 : am_dec am_M199 q199_51 = true := by decide +kernel
theorem e199_51_r : am_dec am_M199 [(52, .ireturn, 1)] = true := by decide +kernel
theorem b199_51 {d : Nat} {Q : Option Value ⊕ Nat → am_Mem → Prop} {μ : am_Mem} {r0 : Nat} {x1 x2 x3 x4 : Int32}
    (hn : narrow .boolean (.int x3) = .int x3 ∧ fits .boolean (.int x3) = true)
    (k : Q (.inl (some (.int x3))) μ) :
    Wp d 199 (51, [some (.ref r0), some (.int x1), some (.int x2), some (.int x3), some (.int x4)], [], μ) Q := wp_blk rfl e199_51 (wp_ri (ty := .boolean) rfl e199_51_r rfl hn k)
/-! RuleSheetsModel.alike(II)Z -/
def q200_0 : List (Nat × Instr × Nat) := [(0, .aload_n 0, 1), (1, .getfield 62, 3), (4, .iload_n 1, 1), (5, .iaload, 1), (6, .iload_n 1, 1), (7, .isub, 1), (8, .aload_n 0, 1), (9, .getfield 62, 3), (12, .iload_n 2, 1), (13, .iaload, 1), (14, .iload_n 2, 1), (15, .isub, 1), (16, .if_icmp .ne 7, 3)]
theorem e200_0 : am_dec am_M200 q200_0 = true := by decide +kernel
theorem b200_0 {d : Nat} {Q : Option Value ⊕ Nat → am_Mem → Prop} {μ : am_Mem} {r0 : Nat} {x1 x2 : Int32}
    (h1 : am_kd μ r0 = (1, 12))
    (h2 : ¬ am_F μ r0 27 = 15)
    (h3 : (am_kd μ (am_F μ r0 27)).1 = 2 ∨ (am_kd μ (am_F μ r0 27)).1 = 8)
    (h4 : ¬ (x1 < 0 ∨ (am_kd μ (am_F μ r0 27)).2 ≤ x1.toNatClampNeg))
    (h5 : am_kd μ r0 = (1, 12))
    (h6 : ¬ am_F μ r0 27 = 15)
    (h7 : (am_kd μ (am_F μ r0 27)).1 = 2 ∨ (am_kd μ (am_F μ r0 27)).1 = 8)
    (h8 : ¬ (x2 < 0 ∨ (am_kd μ (am_F μ r0 27)).2 ≤ x2.toNatClampNeg))
    (k1 : ¬ ((am_A μ (am_F μ r0 27) x1.toNatClampNeg) - x1) = ((am_A μ (am_F μ r0 27) x2.toNatClampNeg) - x2) → Wp d 200 (23, [some (.ref r0), some (.int x1), some (.int x2), none, none], [], μ) Q) (k2 : ¬ (¬ ((am_A μ (am_F μ r0 27) x1.toNatClampNeg) - x1) = ((am_A μ (am_F μ r0 27) x2.toNatClampNeg) - x2)) → Wp d 200 (19, [some (.ref r0), some (.int x1), some (.int x2), none, none], [], μ) Q) :
    Wp d 200 (0, [some (.ref r0), some (.int x1), some (.int x2), none, none], [], μ) Q := wp_blk rfl e200_0 (And.intro h1 (And.intro h2 (And.intro h3 (And.intro h4 (And.intro h5 (And.intro h6 (And.intro h7 (And.intro h8 (And.intro k1 k2)))))))))
def q200_19 : List (Nat × Instr × Nat) := [(19, .iconst 1, 1), (20, .goto 4, 3)]
theorem e200_19 : am_dec am_M200 q200_19 = true := by decide +kernel
theorem b200_19 {d : Nat} {Q : Option Value ⊕ Nat → am_Mem → Prop} {μ : am_Mem} {r0 : Nat} {x1 x2 : Int32}
    (k : Wp d 200 (24, [some (.ref r0), some (.int x1), some (.int x2), none, none], [.int (Int32.ofInt 1)], μ) Q) :
    Wp d 200 (19, [some (.ref r0), some (.int x1), some (.int x2), none, none], [], μ) Q := wp_blk rfl e200_19 k
def q200_23 : List (Nat × Instr × Nat) := [(23, .iconst 0, 1)]
theorem e200_23 : am_dec am_M200 q200_23 = true := by decide +kernel
theorem b200_23 {d : Nat} {Q : Option Value ⊕ Nat → am_Mem → Prop} {μ : am_Mem} {r0 : Nat} {x1 x2 : Int32}
    (k : Wp d 200 (24, [some (.ref r0), some (.int x1), some (.int x2), none, none], [.int (Int32.ofInt 0)], μ) Q) :
    Wp d 200 (23, [some (.ref r0), some (.int x1), some (.int x2), none, none], [], μ) Q := wp_blk rfl e200_23 k
def q200_24 : List (Nat × Instr × Nat) := [(24, .istore_n 3, 1), (25, .iconst 0, 1), (26, .istore 4, 2)]
theorem e200_24 : am_dec am_M200 q200_24 = true := by decide +kernel
theorem b200_24 {d : Nat} {Q : Option Value ⊕ Nat → am_Mem → Prop} {μ : am_Mem} {r0 : Nat} {x1 x2 s0 : Int32}
    (k : Wp d 200 (28, [some (.ref r0), some (.int x1), some (.int x2), some (.int s0), some (.int (Int32.ofInt 0))], [], μ) Q) :
    Wp d 200 (24, [some (.ref r0), some (.int x1), some (.int x2), none, none], [.int s0], μ) Q := wp_blk rfl e200_24 k
def q200_28 : List (Nat × Instr × Nat) := [(28, .iload 4, 2), (30, .aload_n 0, 1), (31, .getfield 62, 3), (34, .iload_n 1, 1), (35, .iaload, 1), (36, .iload_n 1, 1), (37, .isub, 1), (38, .if_icmp .ge 82, 3)]
theorem e200_28 : am_dec am_M200 q200_28 = true := by decide +kernel
theorem b200_28 {d : Nat} {Q : Option Value ⊕ Nat → am_Mem → Prop} {μ : am_Mem} {r0 : Nat} {x1 x2 x3 x4 : Int32}
    (h1 : am_kd μ r0 = (1, 12))
    (h2 : ¬ am_F μ r0 27 = 15)
    (h3 : (am_kd μ (am_F μ r0 27)).1 = 2 ∨ (am_kd μ (am_F μ r0 27)).1 = 8)
    (h4 : ¬ (x1 < 0 ∨ (am_kd μ (am_F μ r0 27)).2 ≤ x1.toNatClampNeg))
    (k1 : ((am_A μ (am_F μ r0 27) x1.toNatClampNeg) - x1) ≤ x4 → Wp d 200 (120, [some (.ref r0), some (.int x1), some (.int x2), some (.int x3), some (.int x4)], [], μ) Q) (k2 : ¬ (((am_A μ (am_F μ r0 27) x1.toNatClampNeg) - x1) ≤ x4) → Wp d 200 (41, [some (.ref r0), some (.int x1), some (.int x2), some (.int x3), some (.int x4)], [], μ) Q) :
    Wp d 200 (28, [some (.ref r0), some (.int x1), some (.int x2), some (.int x3), some (.int x4)], [], μ) Q := wp_blk rfl e200_28 (And.intro h1 (And.intro h2 (And.intro h3 (And.intro h4 (And.intro k1 k2)))))
def q200_41 : List (Nat × Instr × Nat) := [(41, .iload_n 3, 1), (42, .ifCond .eq 78, 3)]
theorem e200_41 : am_dec am_M200 q200_41 = true := by decide +kernel
theorem b200_41 {d : Nat} {Q : Option Value ⊕ Nat → am_Mem → Prop} {μ : am_Mem} {r0 : Nat} {x1 x2 x3 x4 : Int32}
    (k1 : x3 = 0 → Wp d 200 (120, [some (.ref r0), some (.int x1), some (.int x2), some (.int x3), some (.int x4)], [], μ) Q) (k2 : ¬ (x3 = 0) → Wp d 200 (45, [some (.ref r0), some (.int x1), some (.int x2), some (.int x3), some (.int x4)], [], μ) Q) :
    Wp d 200 (41, [some (.ref r0), some (.int x1), some (.int x2), some (.int x3), some (.int x4)], [], μ) Q := wp_blk rfl e200_41 (And.intro k1 k2)
def q200_45 : List (Nat × Instr × Nat) := [(45, .aload_n 0, 1), (46, .getfield 50, 3), (49, .iload_n 1, 1), (50, .iload 4, 2), (52, .iadd, 1), (53, .iaload, 1), (54, .aload_n 0, 1), (55, .getfield 50, 3), (58, .iload_n 2, 1), (59, .iload 4, 2), (61, .iadd, 1), (62, .iaload, 1), (63, .if_icmp .ne 49, 3)]
theorem e200_45 : am_dec am_M200 q200_45 = true := by decide +kernel
theorem b200_45 {d : Nat} {Q : Option Value ⊕ Nat → am_Mem → Prop} {μ : am_Mem} {r0 : Nat} {x1 x2 x3 x4 : Int32}
    (h1 : am_kd μ r0 = (1, 12))
    (h2 : ¬ am_F μ r0 23 = 15)
    (h3 : (am_kd μ (am_F μ r0 23)).1 = 2 ∨ (am_kd μ (am_F μ r0 23)).1 = 8)
    (h4 : ¬ ((x1 + x4) < 0 ∨ (am_kd μ (am_F μ r0 23)).2 ≤ (x1 + x4).toNatClampNeg))
    (h5 : am_kd μ r0 = (1, 12))
    (h6 : ¬ am_F μ r0 23 = 15)
    (h7 : (am_kd μ (am_F μ r0 23)).1 = 2 ∨ (am_kd μ (am_F μ r0 23)).1 = 8)
    (h8 : ¬ ((x2 + x4) < 0 ∨ (am_kd μ (am_F μ r0 23)).2 ≤ (x2 + x4).toNatClampNeg))
    (k1 : ¬ (am_A μ (am_F μ r0 23) (x1 + x4).toNatClampNeg) = (am_A μ (am_F μ r0 23) (x2 + x4).toNatClampNeg) → Wp d 200 (112, [some (.ref r0), some (.int x1), some (.int x2), some (.int x3), some (.int x4)], [], μ) Q) (k2 : ¬ (¬ (am_A μ (am_F μ r0 23) (x1 + x4).toNatClampNeg) = (am_A μ (am_F μ r0 23) (x2 + x4).toNatClampNeg)) → Wp d 200 (66, [some (.ref r0), some (.int x1), some (.int x2), some (.int x3), some (.int x4)], [], μ) Q) :
    Wp d 200 (45, [some (.ref r0), some (.int x1), some (.int x2), some (.int x3), some (.int x4)], [], μ) Q := wp_blk rfl e200_45 (And.intro h1 (And.intro h2 (And.intro h3 (And.intro h4 (And.intro h5 (And.intro h6 (And.intro h7 (And.intro h8 (And.intro k1 k2)))))))))
def q200_66 : List (Nat × Instr × Nat) := [(66, .aload_n 0, 1), (67, .getfield 53, 3), (70, .iload_n 1, 1), (71, .iload 4, 2), (73, .iadd, 1), (74, .iaload, 1), (75, .aload_n 0, 1), (76, .getfield 53, 3), (79, .iload_n 2, 1), (80, .iload 4, 2), (82, .iadd, 1), (83, .iaload, 1), (84, .if_icmp .ne 28, 3)]
theorem e200_66 : am_dec am_M200 q200_66 = true := by decide +kernel
theorem b200_66 {d : Nat} {Q : Option Value ⊕ Nat → am_Mem → Prop} {μ : am_Mem} {r0 : Nat} {x1 x2 x3 x4 : Int32}
    (h1 : am_kd μ r0 = (1, 12))
    (h2 : ¬ am_F μ r0 24 = 15)
    (h3 : (am_kd μ (am_F μ r0 24)).1 = 2 ∨ (am_kd μ (am_F μ r0 24)).1 = 8)
    (h4 : ¬ ((x1 + x4) < 0 ∨ (am_kd μ (am_F μ r0 24)).2 ≤ (x1 + x4).toNatClampNeg))
    (h5 : am_kd μ r0 = (1, 12))
    (h6 : ¬ am_F μ r0 24 = 15)
    (h7 : (am_kd μ (am_F μ r0 24)).1 = 2 ∨ (am_kd μ (am_F μ r0 24)).1 = 8)
    (h8 : ¬ ((x2 + x4) < 0 ∨ (am_kd μ (am_F μ r0 24)).2 ≤ (x2 + x4).toNatClampNeg))
    (k1 : ¬ (am_A μ (am_F μ r0 24) (x1 + x4).toNatClampNeg) = (am_A μ (am_F μ r0 24) (x2 + x4).toNatClampNeg) → Wp d 200 (112, [some (.ref r0), some (.int x1), some (.int x2), some (.int x3), some (.int x4)], [], μ) Q) (k2 : ¬ (¬ (am_A μ (am_F μ r0 24) (x1 + x4).toNatClampNeg) = (am_A μ (am_F μ r0 24) (x2 + x4).toNatClampNeg)) → Wp d 200 (87, [some (.ref r0), some (.int x1), some (.int x2), some (.int x3), some (.int x4)], [], μ) Q) :
    Wp d 200 (66, [some (.ref r0), some (.int x1), some (.int x2), some (.int x3), some (.int x4)], [], μ) Q := wp_blk rfl e200_66 (And.intro h1 (And.intro h2 (And.intro h3 (And.intro h4 (And.intro h5 (And.intro h6 (And.intro h7 (And.intro h8 (And.intro k1 k2)))))))))
def q200_87 : List (Nat × Instr × Nat) := [(87, .aload_n 0, 1), (88, .getfield 56, 3), (91, .iload_n 1, 1), (92, .iload 4, 2), (94, .iadd, 1), (95, .iaload, 1), (96, .aload_n 0, 1), (97, .getfield 56, 3), (100, .iload_n 2, 1), (101, .iload 4, 2), (103, .iadd, 1), (104, .iaload, 1), (105, .if_icmp .ne 7, 3)]
theorem e200_87 : am_dec am_M200 q200_87 = true := by decide +kernel
theorem b200_87 {d : Nat} {Q : Option Value ⊕ Nat → am_Mem → Prop} {μ : am_Mem} {r0 : Nat} {x1 x2 x3 x4 : Int32}
    (h1 : am_kd μ r0 = (1, 12))
    (h2 : ¬ am_F μ r0 25 = 15)
    (h3 : (am_kd μ (am_F μ r0 25)).1 = 2 ∨ (am_kd μ (am_F μ r0 25)).1 = 8)
    (h4 : ¬ ((x1 + x4) < 0 ∨ (am_kd μ (am_F μ r0 25)).2 ≤ (x1 + x4).toNatClampNeg))
    (h5 : am_kd μ r0 = (1, 12))
    (h6 : ¬ am_F μ r0 25 = 15)
    (h7 : (am_kd μ (am_F μ r0 25)).1 = 2 ∨ (am_kd μ (am_F μ r0 25)).1 = 8)
    (h8 : ¬ ((x2 + x4) < 0 ∨ (am_kd μ (am_F μ r0 25)).2 ≤ (x2 + x4).toNatClampNeg))
    (k1 : ¬ (am_A μ (am_F μ r0 25) (x1 + x4).toNatClampNeg) = (am_A μ (am_F μ r0 25) (x2 + x4).toNatClampNeg) → Wp d 200 (112, [some (.ref r0), some (.int x1), some (.int x2), some (.int x3), some (.int x4)], [], μ) Q) (k2 : ¬ (¬ (am_A μ (am_F μ r0 25) (x1 + x4).toNatClampNeg) = (am_A μ (am_F μ r0 25) (x2 + x4).toNatClampNeg)) → Wp d 200 (108, [some (.ref r0), some (.int x1), some (.int x2), some (.int x3), some (.int x4)], [], μ) Q) :
    Wp d 200 (87, [some (.ref r0), some (.int x1), some (.int x2), some (.int x3), some (.int x4)], [], μ) Q := wp_blk rfl e200_87 (And.intro h1 (And.intro h2 (And.intro h3 (And.intro h4 (And.intro h5 (And.intro h6 (And.intro h7 (And.intro h8 (And.intro k1 k2)))))))))
def q200_108 : List (Nat × Instr × Nat) := [(108, .iconst 1, 1), (109, .goto 4, 3)]
theorem e200_108 : am_dec am_M200 q200_108 = true := by decide +kernel
theorem b200_108 {d : Nat} {Q : Option Value ⊕ Nat → am_Mem → Prop} {μ : am_Mem} {r0 : Nat} {x1 x2 x3 x4 : Int32}
    (k : Wp d 200 (113, [some (.ref r0), some (.int x1), some (.int x2), some (.int x3), some (.int x4)], [.int (Int32.ofInt 1)], μ) Q) :
    Wp d 200 (108, [some (.ref r0), some (.int x1), some (.int x2), some (.int x3), some (.int x4)], [], μ) Q := wp_blk rfl e200_108 k
def q200_112 : List (Nat × Instr × Nat) := [(112, .iconst 0, 1)]
theorem e200_112 : am_dec am_M200 q200_112 = true := by decide +kernel
theorem b200_112 {d : Nat} {Q : Option Value ⊕ Nat → am_Mem → Prop} {μ : am_Mem} {r0 : Nat} {x1 x2 x3 x4 : Int32}
    (k : Wp d 200 (113, [some (.ref r0), some (.int x1), some (.int x2), some (.int x3), some (.int x4)], [.int (Int32.ofInt 0)], μ) Q) :
    Wp d 200 (112, [some (.ref r0), some (.int x1), some (.int x2), some (.int x3), some (.int x4)], [], μ) Q := wp_blk rfl e200_112 k
def q200_113 : List (Nat × Instr × Nat) := [(113, .istore_n 3, 1), (114, .iinc 4 1, 3), (117, .goto (-89), 3)]
theorem e200_113 : am_dec am_M200 q200_113 = true := by decide +kernel
theorem b200_113 {d : Nat} {Q : Option Value ⊕ Nat → am_Mem → Prop} {μ : am_Mem} {r0 : Nat} {x1 x2 x3 x4 s0 : Int32}
    (k : Wp d 200 (28, [some (.ref r0), some (.int x1), some (.int x2), some (.int s0), some (.int (x4 + Int32.ofInt 1))], [], μ) Q) :
    Wp d 200 (113, [some (.ref r0), some (.int x1), some (.int x2), some (.int x3), some (.int x4)], [.int s0], μ) Q := wp_blk rfl e200_113 k
def q200_120 : List (Nat × Instr × Nat) := [(120, .iload_n 3, 1)]
theorem e200_120 : am_dec am_M200 q200_120 = true := by decide +kernel
theorem e200_120_r : am_dec am_M200 [(121, .ireturn, 1)] = true := by decide +kernel
theorem b200_120 {d : Nat} {Q : Option Value ⊕ Nat → am_Mem → Prop} {μ : am_Mem} {r0 : Nat} {x1 x2 x3 x4 : Int32}
    (hn : narrow .boolean (.int x3) = .int x3 ∧ fits .boolean (.int x3) = true)
    (k : Q (.inl (some (.int x3))) μ) :
    Wp d 200 (120, [some (.ref r0), some (.int x1), some (.int x2), some (.int x3), some (.int x4)], [], μ) Q := wp_blk rfl e200_120 (wp_ri (ty := .boolean) rfl e200_120_r rfl hn k)
/-! RuleSheetsModel.findRoles()V -/
def q201_0 : List (Nat × Instr × Nat) := [(0, .aload_n 0, 1)]
theorem e201_0 : am_dec am_M201 q201_0 = true := by decide +kernel
theorem e201_0_c : am_dc1 am_M201 1 (.invokevirtual 536) 3 = true := by decide +kernel
theorem b201_0 {d : Nat} {Q : Option Value ⊕ Nat → am_Mem → Prop} {μ : am_Mem} {r0 : Nat} {P : am_Mem → Prop} {X : Nat → am_Mem → Prop}
    (hk : am_kd μ r0 = (1, 12))
    (hc : Wp d 202 (0, [some (.ref r0), none], [], μ) (pV P X)) (hr : ∀ μ', P μ' → Wp (d + 1) 201 (4, [some (.ref r0), none, none, none, none], [], (μ')) Q)
    (hx : ∀ x μ', X x μ' → Q (.inr x) μ') :
    Wp (d + 1) 201 (0, [some (.ref r0), none, none, none, none], [], μ) Q := wp_blk rfl e201_0 (wp_cv (as := []) rfl e201_0_c rfl rfl rfl rfl rfl hk hc (fun v μ' hv => by obtain ⟨rfl, hp⟩ := pV_r hv; exact hr μ' hp) hx)
def q201_4 : List (Nat × Instr × Nat) := [(4, .aload_n 0, 1), (5, .iconst 0, 1), (6, .putfield 551, 3), (9, .iconst 0, 1), (10, .istore_n 1, 1)]
theorem e201_4 : am_dec am_M201 q201_4 = true := by decide +kernel
theorem b201_4 {d : Nat} {Q : Option Value ⊕ Nat → am_Mem → Prop} {μ : am_Mem} {r0 : Nat}
    (h1 : am_kd μ r0 = (1, 12))
    (k : Wp d 201 (11, [some (.ref r0), some (.int (Int32.ofInt 0)), none, none, none], [], (am_pA μ r0 70 (Int32.ofInt 0))) Q) :
    Wp d 201 (4, [some (.ref r0), none, none, none, none], [], μ) Q := wp_blk rfl e201_4 (And.intro h1 (And.intro ⟨rfl, rfl⟩ k))
def q201_11 : List (Nat × Instr × Nat) := [(11, .iload_n 1, 1), (12, .aload_n 0, 1), (13, .getfield 287, 3), (16, .if_icmp .ge 182, 3)]
theorem e201_11 : am_dec am_M201 q201_11 = true := by decide +kernel
theorem b201_11 {d : Nat} {Q : Option Value ⊕ Nat → am_Mem → Prop} {μ : am_Mem} {r0 : Nat} {x1 : Int32} {o2 o3 o4 : Option Value}
    (h1 : am_kd μ r0 = (1, 12))
    (k1 : (am_A μ r0 12) ≤ x1 → Wp d 201 (198, [some (.ref r0), some (.int x1), o2, o3, o4], [], μ) Q) (k2 : ¬ ((am_A μ r0 12) ≤ x1) → Wp d 201 (19, [some (.ref r0), some (.int x1), o2, o3, o4], [], μ) Q) :
    Wp d 201 (11, [some (.ref r0), some (.int x1), o2, o3, o4], [], μ) Q := wp_blk rfl e201_11 (And.intro h1 (And.intro k1 k2))
def q201_19 : List (Nat × Instr × Nat) := [(19, .aload_n 0, 1), (20, .getfield 41, 3), (23, .aload_n 0, 1), (24, .getfield 29, 3), (27, .iload_n 1, 1), (28, .iaload, 1), (29, .iaload, 1), (30, .iconst 2, 1), (31, .if_icmp .ne 161, 3)]
theorem e201_19 : am_dec am_M201 q201_19 = true := by decide +kernel
theorem b201_19 {d : Nat} {Q : Option Value ⊕ Nat → am_Mem → Prop} {μ : am_Mem} {r0 : Nat} {x1 : Int32} {o2 o3 o4 : Option Value}
    (h1 : am_kd μ r0 = (1, 12))
    (h2 : ¬ am_F μ r0 19 = 15)
    (h3 : am_kd μ r0 = (1, 12))
    (h4 : ¬ am_F μ r0 13 = 15)
    (h5 : (am_kd μ (am_F μ r0 13)).1 = 2 ∨ (am_kd μ (am_F μ r0 13)).1 = 8)
    (h6 : ¬ (x1 < 0 ∨ (am_kd μ (am_F μ r0 13)).2 ≤ x1.toNatClampNeg))
    (h7 : (am_kd μ (am_F μ r0 19)).1 = 2 ∨ (am_kd μ (am_F μ r0 19)).1 = 8)
    (h8 : ¬ ((am_A μ (am_F μ r0 13) x1.toNatClampNeg) < 0 ∨ (am_kd μ (am_F μ r0 19)).2 ≤ (am_A μ (am_F μ r0 13) x1.toNatClampNeg).toNatClampNeg))
    (k1 : ¬ (am_A μ (am_F μ r0 19) (am_A μ (am_F μ r0 13) x1.toNatClampNeg).toNatClampNeg) = (Int32.ofInt 2) → Wp d 201 (192, [some (.ref r0), some (.int x1), o2, o3, o4], [], μ) Q) (k2 : ¬ (¬ (am_A μ (am_F μ r0 19) (am_A μ (am_F μ r0 13) x1.toNatClampNeg).toNatClampNeg) = (Int32.ofInt 2)) → Wp d 201 (34, [some (.ref r0), some (.int x1), o2, o3, o4], [], μ) Q) :
    Wp d 201 (19, [some (.ref r0), some (.int x1), o2, o3, o4], [], μ) Q := wp_blk rfl e201_19 (And.intro h1 (And.intro h2 (And.intro h3 (And.intro h4 (And.intro h5 (And.intro h6 (And.intro h7 (And.intro h8 (And.intro k1 k2)))))))))
def q201_34 : List (Nat × Instr × Nat) := [(34, .aload_n 0, 1), (35, .getfield 551, 3), (38, .iconst 4, 1), (39, .if_icmp .ne 6, 3)]
theorem e201_34 : am_dec am_M201 q201_34 = true := by decide +kernel
theorem b201_34 {d : Nat} {Q : Option Value ⊕ Nat → am_Mem → Prop} {μ : am_Mem} {r0 : Nat} {x1 : Int32} {o2 o3 o4 : Option Value}
    (h1 : am_kd μ r0 = (1, 12))
    (k1 : ¬ (am_A μ r0 70) = (Int32.ofInt 4) → Wp d 201 (45, [some (.ref r0), some (.int x1), o2, o3, o4], [], μ) Q) (k2 : ¬ (¬ (am_A μ r0 70) = (Int32.ofInt 4)) → Wp d 201 (42, [some (.ref r0), some (.int x1), o2, o3, o4], [], μ) Q) :
    Wp d 201 (34, [some (.ref r0), some (.int x1), o2, o3, o4], [], μ) Q := wp_blk rfl e201_34 (And.intro h1 (And.intro k1 k2))
def q201_42 : List (Nat × Instr × Nat) := [(42, .goto 150, 3)]
theorem e201_42 : am_dec am_M201 q201_42 = true := by decide +kernel
theorem b201_42 {d : Nat} {Q : Option Value ⊕ Nat → am_Mem → Prop} {μ : am_Mem} {r0 : Nat} {x1 : Int32} {o2 o3 o4 : Option Value}
    (k : Wp d 201 (192, [some (.ref r0), some (.int x1), o2, o3, o4], [], μ) Q) :
    Wp d 201 (42, [some (.ref r0), some (.int x1), o2, o3, o4], [], μ) Q := wp_blk rfl e201_42 k
def q201_45 : List (Nat × Instr × Nat) := [(45, .aload_n 0, 1), (46, .iload_n 1, 1)]
theorem e201_45 : am_dec am_M201 q201_45 = true := by decide +kernel
theorem e201_45_c : am_dc1 am_M201 47 (.invokevirtual 490) 3 = true := by decide +kernel
theorem b201_45 {d : Nat} {Q : Option Value ⊕ Nat → am_Mem → Prop} {μ : am_Mem} {r0 : Nat} {x1 : Int32} {o2 o3 o4 : Option Value} {P : am_Mem → Prop} {X : Nat → am_Mem → Prop}
    (hk : am_kd μ r0 = (1, 12))
    (hc : Wp d 203 (0, [some (.ref r0), some (.int x1), none], [], μ) (pV P X)) (hr : ∀ μ', P μ' → Wp (d + 1) 201 (50, [some (.ref r0), some (.int x1), o2, o3, o4], [], (μ')) Q)
    (hx : ∀ x μ', X x μ' → Q (.inr x) μ') :
    Wp (d + 1) 201 (45, [some (.ref r0), some (.int x1), o2, o3, o4], [], μ) Q := wp_blk rfl e201_45 (wp_cv (as := [.int x1]) rfl e201_45_c rfl rfl rfl rfl rfl hk hc (fun v μ' hv => by obtain ⟨rfl, hp⟩ := pV_r hv; exact hr μ' hp) hx)
def q201_50 : List (Nat × Instr × Nat) := [(50, .aload_n 0, 1), (51, .aload_n 0, 1), (52, .getfield 44, 3), (55, .iconst 4, 1), (56, .aload_n 0, 1), (57, .getfield 29, 3), (60, .iload_n 1, 1), (61, .iaload, 1), (62, .imul, 1), (63, .iaload, 1), (64, .iconst 1, 1)]
theorem e201_50 : am_dec am_M201 q201_50 = true := by decide +kernel
theorem e201_50_c : am_dc1 am_M201 65 (.invokevirtual 444) 3 = true := by decide +kernel
theorem b201_50 {d : Nat} {Q : Option Value ⊕ Nat → am_Mem → Prop} {μ : am_Mem} {r0 : Nat} {x1 : Int32} {o2 o3 o4 : Option Value} {P : Int32 → am_Mem → Prop} {X : Nat → am_Mem → Prop}
    (h1 : am_kd μ r0 = (1, 12))
    (h2 : ¬ am_F μ r0 20 = 15)
    (h3 : am_kd μ r0 = (1, 12))
    (h4 : ¬ am_F μ r0 13 = 15)
    (h5 : (am_kd μ (am_F μ r0 13)).1 = 2 ∨ (am_kd μ (am_F μ r0 13)).1 = 8)
    (h6 : ¬ (x1 < 0 ∨ (am_kd μ (am_F μ r0 13)).2 ≤ x1.toNatClampNeg))
    (h7 : (am_kd μ (am_F μ r0 20)).1 = 2 ∨ (am_kd μ (am_F μ r0 20)).1 = 8)
    (h8 : ¬ (((Int32.ofInt 4) * (am_A μ (am_F μ r0 13) x1.toNatClampNeg)) < 0 ∨ (am_kd μ (am_F μ r0 20)).2 ≤ ((Int32.ofInt 4) * (am_A μ (am_F μ r0 13) x1.toNatClampNeg)).toNatClampNeg))
    (hk : am_kd μ r0 = (1, 12))
    (hc : Wp d 204 (0, [some (.ref r0), some (.int (am_A μ (am_F μ r0 20) ((Int32.ofInt 4) * (am_A μ (am_F μ r0 13) x1.toNatClampNeg)).toNatClampNeg)), some (.int (Int32.ofInt 1)), none, none, none, none], [], μ) (pI P X)) (hr : ∀ x μ', P x μ' → Wp (d + 1) 201 (68, [some (.ref r0), some (.int x1), o2, o3, o4], [.int x], (μ')) Q)
    (hx : ∀ x μ', X x μ' → Q (.inr x) μ') :
    Wp (d + 1) 201 (50, [some (.ref r0), some (.int x1), o2, o3, o4], [], μ) Q := wp_blk rfl e201_50 (And.intro h1 (And.intro h2 (And.intro h3 (And.intro h4 (And.intro h5 (And.intro h6 (And.intro h7 (And.intro h8 (wp_cv (as := [.int (am_A μ (am_F μ r0 20) ((Int32.ofInt 4) * (am_A μ (am_F μ r0 13) x1.toNatClampNeg)).toNatClampNeg), .int (Int32.ofInt 1)]) rfl e201_50_c rfl rfl rfl rfl rfl hk hc (fun v μ' hv => by obtain ⟨x, rfl, hp⟩ := pI_r hv; exact hr x μ' hp) hx)))))))))
def q201_68 : List (Nat × Instr × Nat) := [(68, .istore_n 2, 1), (69, .iconst 0, 1), (70, .istore_n 3, 1), (71, .iconst 0, 1), (72, .istore 4, 2)]
theorem e201_68 : am_dec am_M201 q201_68 = true := by decide +kernel
theorem b201_68 {d : Nat} {Q : Option Value ⊕ Nat → am_Mem → Prop} {μ : am_Mem} {r0 : Nat} {x1 s0 : Int32} {o2 o3 o4 : Option Value}
    (k : Wp d 201 (74, [some (.ref r0), some (.int x1), some (.int s0), some (.int (Int32.ofInt 0)), some (.int (Int32.ofInt 0))], [], μ) Q) :
    Wp d 201 (68, [some (.ref r0), some (.int x1), o2, o3, o4], [.int s0], μ) Q := wp_blk rfl e201_68 k
def q201_74 : List (Nat × Instr × Nat) := [(74, .iload 4, 2), (76, .aload_n 0, 1), (77, .getfield 551, 3), (80, .if_icmp .ge 30, 3)]
theorem e201_74 : am_dec am_M201 q201_74 = true := by decide +kernel
theorem b201_74 {d : Nat} {Q : Option Value ⊕ Nat → am_Mem → Prop} {μ : am_Mem} {r0 : Nat} {x1 x2 x3 x4 : Int32}
    (h1 : am_kd μ r0 = (1, 12))
    (k1 : (am_A μ r0 70) ≤ x4 → Wp d 201 (110, [some (.ref r0), some (.int x1), some (.int x2), some (.int x3), some (.int x4)], [], μ) Q) (k2 : ¬ ((am_A μ r0 70) ≤ x4) → Wp d 201 (83, [some (.ref r0), some (.int x1), some (.int x2), some (.int x3), some (.int x4)], [], μ) Q) :
    Wp d 201 (74, [some (.ref r0), some (.int x1), some (.int x2), some (.int x3), some (.int x4)], [], μ) Q := wp_blk rfl e201_74 (And.intro h1 (And.intro k1 k2))
def q201_83 : List (Nat × Instr × Nat) := [(83, .iload_n 3, 1), (84, .ifCond .ne 14, 3)]
theorem e201_83 : am_dec am_M201 q201_83 = true := by decide +kernel
theorem b201_83 {d : Nat} {Q : Option Value ⊕ Nat → am_Mem → Prop} {μ : am_Mem} {r0 : Nat} {x1 x2 x3 x4 : Int32}
    (k1 : ¬ x3 = 0 → Wp d 201 (98, [some (.ref r0), some (.int x1), some (.int x2), some (.int x3), some (.int x4)], [], μ) Q) (k2 : ¬ (¬ x3 = 0) → Wp d 201 (87, [some (.ref r0), some (.int x1), some (.int x2), some (.int x3), some (.int x4)], [], μ) Q) :
    Wp d 201 (83, [some (.ref r0), some (.int x1), some (.int x2), some (.int x3), some (.int x4)], [], μ) Q := wp_blk rfl e201_83 (And.intro k1 k2)
def q201_87 : List (Nat × Instr × Nat) := [(87, .aload_n 0, 1), (88, .getfield 168, 3), (91, .iload 4, 2), (93, .iaload, 1), (94, .iload_n 2, 1), (95, .if_icmp .ne 7, 3)]
theorem e201_87 : am_dec am_M201 q201_87 = true := by decide +kernel
theorem b201_87 {d : Nat} {Q : Option Value ⊕ Nat → am_Mem → Prop} {μ : am_Mem} {r0 : Nat} {x1 x2 x3 x4 : Int32}
    (h1 : am_kd μ r0 = (1, 12))
    (h2 : ¬ am_F μ r0 78 = 15)
    (h3 : (am_kd μ (am_F μ r0 78)).1 = 2 ∨ (am_kd μ (am_F μ r0 78)).1 = 8)
    (h4 : ¬ (x4 < 0 ∨ (am_kd μ (am_F μ r0 78)).2 ≤ x4.toNatClampNeg))
    (k1 : ¬ (am_A μ (am_F μ r0 78) x4.toNatClampNeg) = x2 → Wp d 201 (102, [some (.ref r0), some (.int x1), some (.int x2), some (.int x3), some (.int x4)], [], μ) Q) (k2 : ¬ (¬ (am_A μ (am_F μ r0 78) x4.toNatClampNeg) = x2) → Wp d 201 (98, [some (.ref r0), some (.int x1), some (.int x2), some (.int x3), some (.int x4)], [], μ) Q) :
    Wp d 201 (87, [some (.ref r0), some (.int x1), some (.int x2), some (.int x3), some (.int x4)], [], μ) Q := wp_blk rfl e201_87 (And.intro h1 (And.intro h2 (And.intro h3 (And.intro h4 (And.intro k1 k2)))))
def q201_98 : List (Nat × Instr × Nat) := [(98, .iconst 1, 1), (99, .goto 4, 3)]
theorem e201_98 : am_dec am_M201 q201_98 = true := by decide +kernel
theorem b201_98 {d : Nat} {Q : Option Value ⊕ Nat → am_Mem → Prop} {μ : am_Mem} {r0 : Nat} {x1 x2 x3 x4 : Int32}
    (k : Wp d 201 (103, [some (.ref r0), some (.int x1), some (.int x2), some (.int x3), some (.int x4)], [.int (Int32.ofInt 1)], μ) Q) :
    Wp d 201 (98, [some (.ref r0), some (.int x1), some (.int x2), some (.int x3), some (.int x4)], [], μ) Q := wp_blk rfl e201_98 k
def q201_102 : List (Nat × Instr × Nat) := [(102, .iconst 0, 1)]
theorem e201_102 : am_dec am_M201 q201_102 = true := by decide +kernel
theorem b201_102 {d : Nat} {Q : Option Value ⊕ Nat → am_Mem → Prop} {μ : am_Mem} {r0 : Nat} {x1 x2 x3 x4 : Int32}
    (k : Wp d 201 (103, [some (.ref r0), some (.int x1), some (.int x2), some (.int x3), some (.int x4)], [.int (Int32.ofInt 0)], μ) Q) :
    Wp d 201 (102, [some (.ref r0), some (.int x1), some (.int x2), some (.int x3), some (.int x4)], [], μ) Q := wp_blk rfl e201_102 k
def q201_103 : List (Nat × Instr × Nat) := [(103, .istore_n 3, 1), (104, .iinc 4 1, 3), (107, .goto (-33), 3)]
theorem e201_103 : am_dec am_M201 q201_103 = true := by decide +kernel
theorem b201_103 {d : Nat} {Q : Option Value ⊕ Nat → am_Mem → Prop} {μ : am_Mem} {r0 : Nat} {x1 x2 x3 x4 s0 : Int32}
    (k : Wp d 201 (74, [some (.ref r0), some (.int x1), some (.int x2), some (.int s0), some (.int (x4 + Int32.ofInt 1))], [], μ) Q) :
    Wp d 201 (103, [some (.ref r0), some (.int x1), some (.int x2), some (.int x3), some (.int x4)], [.int s0], μ) Q := wp_blk rfl e201_103 k
def q201_110 : List (Nat × Instr × Nat) := [(110, .iload_n 3, 1), (111, .ifCond .ne 81, 3)]
theorem e201_110 : am_dec am_M201 q201_110 = true := by decide +kernel
theorem b201_110 {d : Nat} {Q : Option Value ⊕ Nat → am_Mem → Prop} {μ : am_Mem} {r0 : Nat} {x1 x2 x3 x4 : Int32}
    (k1 : ¬ x3 = 0 → Wp d 201 (192, [some (.ref r0), some (.int x1), some (.int x2), some (.int x3), some (.int x4)], [], μ) Q) (k2 : ¬ (¬ x3 = 0) → Wp d 201 (114, [some (.ref r0), some (.int x1), some (.int x2), some (.int x3), some (.int x4)], [], μ) Q) :
    Wp d 201 (110, [some (.ref r0), some (.int x1), some (.int x2), some (.int x3), some (.int x4)], [], μ) Q := wp_blk rfl e201_110 (And.intro k1 k2)
def q201_114 : List (Nat × Instr × Nat) := [(114, .aload_n 0, 1), (115, .getfield 168, 3), (118, .aload_n 0, 1), (119, .getfield 551, 3), (122, .iload_n 2, 1), (123, .iastore, 1), (124, .aload_n 0, 1), (125, .iload_n 2, 1)]
theorem e201_114 : am_dec am_M201 q201_114 = true := by decide +kernel
theorem e201_114_c : am_dc1 am_M201 126 (.invokevirtual 561) 3 = true := by decide +kernel
theorem b201_114 {d : Nat} {Q : Option Value ⊕ Nat → am_Mem → Prop} {μ : am_Mem} {r0 : Nat} {x1 x2 x3 x4 : Int32} {P : am_Mem → Prop} {X : Nat → am_Mem → Prop}
    (h1 : am_kd μ r0 = (1, 12))
    (h2 : ¬ am_F μ r0 78 = 15)
    (h3 : am_kd μ r0 = (1, 12))
    (h4 : (am_kd μ (am_F μ r0 78)).1 = 2)
    (h5 : ¬ ((am_A μ r0 70) < 0 ∨ (am_kd μ (am_F μ r0 78)).2 ≤ (am_A μ r0 70).toNatClampNeg))
    (hk : am_kd (am_pA μ (am_F μ r0 78) (am_A μ r0 70).toNatClampNeg x2) r0 = (1, 12))
    (hc : Wp d 208 (0, [some (.ref r0), some (.int x2), none, none, none], [], (am_pA μ (am_F μ r0 78) (am_A μ r0 70).toNatClampNeg x2)) (pV P X)) (hr : ∀ μ', P μ' → Wp (d + 1) 201 (129, [some (.ref r0), some (.int x1), some (.int x2), some (.int x3), some (.int x4)], [], (μ')) Q)
    (hx : ∀ x μ', X x μ' → Q (.inr x) μ') :
    Wp (d + 1) 201 (114, [some (.ref r0), some (.int x1), some (.int x2), some (.int x3), some (.int x4)], [], μ) Q := wp_blk rfl e201_114 (And.intro h1 (And.intro h2 (And.intro h3 (And.intro h4 (And.intro h5 (wp_cv (as := [.int x2]) rfl e201_114_c rfl rfl rfl rfl rfl hk hc (fun v μ' hv => by obtain ⟨rfl, hp⟩ := pV_r hv; exact hr μ' hp) hx))))))
def q201_129 : List (Nat × Instr × Nat) := [(129, .iconst 0, 1), (130, .istore 4, 2)]
theorem e201_129 : am_dec am_M201 q201_129 = true := by decide +kernel
theorem b201_129 {d : Nat} {Q : Option Value ⊕ Nat → am_Mem → Prop} {μ : am_Mem} {r0 : Nat} {x1 x2 x3 x4 : Int32}
    (k : Wp d 201 (132, [some (.ref r0), some (.int x1), some (.int x2), some (.int x3), some (.int (Int32.ofInt 0))], [], μ) Q) :
    Wp d 201 (129, [some (.ref r0), some (.int x1), some (.int x2), some (.int x3), some (.int x4)], [], μ) Q := wp_blk rfl e201_129 k
def q201_132 : List (Nat × Instr × Nat) := [(132, .iload 4, 2), (134, .sipush 3000, 3), (137, .if_icmp .ge 45, 3)]
theorem e201_132 : am_dec am_M201 q201_132 = true := by decide +kernel
theorem b201_132 {d : Nat} {Q : Option Value ⊕ Nat → am_Mem → Prop} {μ : am_Mem} {r0 : Nat} {x1 x2 x3 x4 : Int32}
    (k1 : ((Int16.ofInt 3000).toInt32) ≤ x4 → Wp d 201 (182, [some (.ref r0), some (.int x1), some (.int x2), some (.int x3), some (.int x4)], [], μ) Q) (k2 : ¬ (((Int16.ofInt 3000).toInt32) ≤ x4) → Wp d 201 (140, [some (.ref r0), some (.int x1), some (.int x2), some (.int x3), some (.int x4)], [], μ) Q) :
    Wp d 201 (132, [some (.ref r0), some (.int x1), some (.int x2), some (.int x3), some (.int x4)], [], μ) Q := wp_blk rfl e201_132 (And.intro k1 k2)
def q201_140 : List (Nat × Instr × Nat) := [(140, .aload_n 0, 1), (141, .getfield 150, 3), (144, .sipush 3000, 3), (147, .aload_n 0, 1), (148, .getfield 551, 3), (151, .imul, 1), (152, .iload 4, 2), (154, .iadd, 1), (155, .iload 4, 2), (157, .aload_n 0, 1), (158, .getfield 522, 3), (161, .if_icmp .ge 13, 3)]
theorem e201_140 : am_dec am_M201 q201_140 = true := by decide +kernel
theorem b201_140 {d : Nat} {Q : Option Value ⊕ Nat → am_Mem → Prop} {μ : am_Mem} {r0 : Nat} {x1 x2 x3 x4 : Int32}
    (h1 : am_kd μ r0 = (1, 12))
    (h2 : ¬ am_F μ r0 71 = 15)
    (h3 : am_kd μ r0 = (1, 12))
    (h4 : am_kd μ r0 = (1, 12))
    (k1 : (am_A μ r0 80) ≤ x4 → Wp d 201 (174, [some (.ref r0), some (.int x1), some (.int x2), some (.int x3), some (.int x4)], [.int ((((Int16.ofInt 3000).toInt32) * (am_A μ r0 70)) + x4), .ref (am_F μ r0 71)], μ) Q) (k2 : ¬ ((am_A μ r0 80) ≤ x4) → Wp d 201 (164, [some (.ref r0), some (.int x1), some (.int x2), some (.int x3), some (.int x4)], [.int ((((Int16.ofInt 3000).toInt32) * (am_A μ r0 70)) + x4), .ref (am_F μ r0 71)], μ) Q) :
    Wp d 201 (140, [some (.ref r0), some (.int x1), some (.int x2), some (.int x3), some (.int x4)], [], μ) Q := wp_blk rfl e201_140 (And.intro h1 (And.intro h2 (And.intro h3 (And.intro h4 (And.intro k1 k2)))))
def q201_164 : List (Nat × Instr × Nat) := [(164, .aload_n 0, 1), (165, .getfield 171, 3), (168, .iload 4, 2), (170, .iaload, 1), (171, .goto 4, 3)]
theorem e201_164 : am_dec am_M201 q201_164 = true := by decide +kernel
theorem b201_164 {d : Nat} {Q : Option Value ⊕ Nat → am_Mem → Prop} {μ : am_Mem} {r0 r90 : Nat} {x1 x2 x3 x4 s1 : Int32}
    (h1 : am_kd μ r0 = (1, 12))
    (h2 : ¬ am_F μ r0 79 = 15)
    (h3 : (am_kd μ (am_F μ r0 79)).1 = 2 ∨ (am_kd μ (am_F μ r0 79)).1 = 8)
    (h4 : ¬ (x4 < 0 ∨ (am_kd μ (am_F μ r0 79)).2 ≤ x4.toNatClampNeg))
    (k : Wp d 201 (175, [some (.ref r0), some (.int x1), some (.int x2), some (.int x3), some (.int x4)], [.int (am_A μ (am_F μ r0 79) x4.toNatClampNeg), .int s1, .ref r90], μ) Q) :
    Wp d 201 (164, [some (.ref r0), some (.int x1), some (.int x2), some (.int x3), some (.int x4)], [.int s1, .ref r90], μ) Q := wp_blk rfl e201_164 (And.intro h1 (And.intro h2 (And.intro h3 (And.intro h4 k))))
def q201_174 : List (Nat × Instr × Nat) := [(174, .iconst 0, 1)]
theorem e201_174 : am_dec am_M201 q201_174 = true := by decide +kernel
theorem b201_174 {d : Nat} {Q : Option Value ⊕ Nat → am_Mem → Prop} {μ : am_Mem} {r0 r90 : Nat} {x1 x2 x3 x4 s1 : Int32}
    (k : Wp d 201 (175, [some (.ref r0), some (.int x1), some (.int x2), some (.int x3), some (.int x4)], [.int (Int32.ofInt 0), .int s1, .ref r90], μ) Q) :
    Wp d 201 (174, [some (.ref r0), some (.int x1), some (.int x2), some (.int x3), some (.int x4)], [.int s1, .ref r90], μ) Q := wp_blk rfl e201_174 k
def q201_175 : List (Nat × Instr × Nat) := [(175, .iastore, 1), (176, .iinc 4 1, 3), (179, .goto (-47), 3)]
theorem e201_175 : am_dec am_M201 q201_175 = true := by decide +kernel
theorem b201_175 {d : Nat} {Q : Option Value ⊕ Nat → am_Mem → Prop} {μ : am_Mem} {r0 r90 : Nat} {x1 x2 x3 x4 s1 s2 : Int32}
    (h1 : (am_kd μ r90).1 = 2)
    (h2 : ¬ (s1 < 0 ∨ (am_kd μ r90).2 ≤ s1.toNatClampNeg))
    (k : Wp d 201 (132, [some (.ref r0), some (.int x1), some (.int x2), some (.int x3), some (.int (x4 + Int32.ofInt 1))], [], (am_pA μ r90 s1.toNatClampNeg s2)) Q) :
    Wp d 201 (175, [some (.ref r0), some (.int x1), some (.int x2), some (.int x3), some (.int x4)], [.int s2, .int s1, .ref r90], μ) Q := wp_blk rfl e201_175 (And.intro h1 (And.intro h2 k))
def q201_182 : List (Nat × Instr × Nat) := [(182, .aload_n 0, 1), (183, .dup, 1), (184, .getfield 551, 3), (187, .iconst 1, 1), (188, .iadd, 1), (189, .putfield 551, 3)]
theorem e201_182 : am_dec am_M201 q201_182 = true := by decide +kernel
theorem b201_182 {d : Nat} {Q : Option Value ⊕ Nat → am_Mem → Prop} {μ : am_Mem} {r0 : Nat} {x1 x2 x3 x4 : Int32}
    (h1 : am_kd μ r0 = (1, 12))
    (h2 : am_kd μ r0 = (1, 12))
    (k : Wp d 201 (192, [some (.ref r0), some (.int x1), some (.int x2), some (.int x3), some (.int x4)], [], (am_pA μ r0 70 ((am_A μ r0 70) + (Int32.ofInt 1)))) Q) :
    Wp d 201 (182, [some (.ref r0), some (.int x1), some (.int x2), some (.int x3), some (.int x4)], [], μ) Q := wp_blk rfl e201_182 (And.intro h1 (And.intro h2 (And.intro ⟨rfl, rfl⟩ k)))
def q201_192 : List (Nat × Instr × Nat) := [(192, .iinc 1 1, 3), (195, .goto (-184), 3)]
theorem e201_192 : am_dec am_M201 q201_192 = true := by decide +kernel
theorem b201_192 {d : Nat} {Q : Option Value ⊕ Nat → am_Mem → Prop} {μ : am_Mem} {r0 : Nat} {x1 : Int32} {o2 o3 o4 : Option Value}
    (k : Wp d 201 (11, [some (.ref r0), some (.int (x1 + Int32.ofInt 1)), o2, o3, o4], [], μ) Q) :
    Wp d 201 (192, [some (.ref r0), some (.int x1), o2, o3, o4], [], μ) Q := wp_blk rfl e201_192 k
theorem e201_198_r : am_dec am_M201 [(198, .return_, 1)] = true := by decide +kernel
theorem b201_198 {d : Nat} {Q : Option Value ⊕ Nat → am_Mem → Prop} {μ : am_Mem} {r0 : Nat} {x1 : Int32} {o2 o3 o4 : Option Value}
    (k : Q (.inl none) μ) :
    Wp d 201 (198, [some (.ref r0), some (.int x1), o2, o3, o4], [], μ) Q := (wp_rv rfl e201_198_r rfl k)
/-! RuleSheetsModel.noTerms()V -/
def q202_0 : List (Nat × Instr × Nat) := [(0, .iconst 0, 1), (1, .istore_n 1, 1)]
theorem e202_0 : am_dec am_M202 q202_0 = true := by decide +kernel
theorem b202_0 {d : Nat} {Q : Option Value ⊕ Nat → am_Mem → Prop} {μ : am_Mem} {r0 : Nat}
    (k : Wp d 202 (2, [some (.ref r0), some (.int (Int32.ofInt 0))], [], μ) Q) :
    Wp d 202 (0, [some (.ref r0), none], [], μ) Q := wp_blk rfl e202_0 k
def q202_2 : List (Nat × Instr × Nat) := [(2, .iload_n 1, 1), (3, .ldc 98, 2), (5, .if_icmp .ge 16, 3)]
theorem e202_2 : am_dec am_M202 q202_2 = true := by decide +kernel
theorem b202_2 {d : Nat} {Q : Option Value ⊕ Nat → am_Mem → Prop} {μ : am_Mem} {r0 : Nat} {x1 : Int32}
    (k1 : (262144 : Int32) ≤ x1 → Wp d 202 (21, [some (.ref r0), some (.int x1)], [], μ) Q) (k2 : ¬ ((262144 : Int32) ≤ x1) → Wp d 202 (8, [some (.ref r0), some (.int x1)], [], μ) Q) :
    Wp d 202 (2, [some (.ref r0), some (.int x1)], [], μ) Q := wp_blk rfl e202_2 (And.intro k1 k2)
def q202_8 : List (Nat × Instr × Nat) := [(8, .aload_n 0, 1), (9, .getfield 99, 3), (12, .iload_n 1, 1), (13, .iconst 0, 1), (14, .iastore, 1), (15, .iinc 1 1, 3), (18, .goto (-16), 3)]
theorem e202_8 : am_dec am_M202 q202_8 = true := by decide +kernel
theorem b202_8 {d : Nat} {Q : Option Value ⊕ Nat → am_Mem → Prop} {μ : am_Mem} {r0 : Nat} {x1 : Int32}
    (h1 : am_kd μ r0 = (1, 12))
    (h2 : ¬ am_F μ r0 47 = 15)
    (h3 : (am_kd μ (am_F μ r0 47)).1 = 2)
    (h4 : ¬ (x1 < 0 ∨ (am_kd μ (am_F μ r0 47)).2 ≤ x1.toNatClampNeg))
    (k : Wp d 202 (2, [some (.ref r0), some (.int (x1 + Int32.ofInt 1))], [], (am_pA μ (am_F μ r0 47) x1.toNatClampNeg (Int32.ofInt 0))) Q) :
    Wp d 202 (8, [some (.ref r0), some (.int x1)], [], μ) Q := wp_blk rfl e202_8 (And.intro h1 (And.intro h2 (And.intro h3 (And.intro h4 k))))
def q202_21 : List (Nat × Instr × Nat) := [(21, .aload_n 0, 1), (22, .iconst 0, 1), (23, .putfield 429, 3)]
theorem e202_21 : am_dec am_M202 q202_21 = true := by decide +kernel
theorem e202_21_r : am_dec am_M202 [(26, .return_, 1)] = true := by decide +kernel
theorem b202_21 {d : Nat} {Q : Option Value ⊕ Nat → am_Mem → Prop} {μ : am_Mem} {r0 : Nat} {x1 : Int32}
    (h1 : am_kd μ r0 = (1, 12))
    (k : Q (.inl none) (am_pA μ r0 42 (Int32.ofInt 0))) :
    Wp d 202 (21, [some (.ref r0), some (.int x1)], [], μ) Q := wp_blk rfl e202_21 (And.intro h1 (And.intro ⟨rfl, rfl⟩ (wp_rv rfl e202_21_r rfl k)))
/-! RuleSheetsModel.take(I)V -/
def q203_0 : List (Nat × Instr × Nat) := [(0, .aload_n 0, 1), (1, .iconst 0, 1), (2, .putfield 481, 3), (5, .aload_n 0, 1), (6, .getfield 32, 3), (9, .iload_n 1, 1), (10, .iaload, 1), (11, .istore_n 2, 1)]
theorem e203_0 : am_dec am_M203 q203_0 = true := by decide +kernel
theorem b203_0 {d : Nat} {Q : Option Value ⊕ Nat → am_Mem → Prop} {μ : am_Mem} {r0 : Nat} {x1 : Int32}
    (h1 : am_kd μ r0 = (1, 12))
    (h2 : am_kd (am_pA μ r0 58 (Int32.ofInt 0)) r0 = (1, 12))
    (h3 : ¬ am_F (am_pA μ r0 58 (Int32.ofInt 0)) r0 14 = 15)
    (h4 : (am_kd (am_pA μ r0 58 (Int32.ofInt 0)) (am_F (am_pA μ r0 58 (Int32.ofInt 0)) r0 14)).1 = 2 ∨ (am_kd (am_pA μ r0 58 (Int32.ofInt 0)) (am_F (am_pA μ r0 58 (Int32.ofInt 0)) r0 14)).1 = 8)
    (h5 : ¬ (x1 < 0 ∨ (am_kd (am_pA μ r0 58 (Int32.ofInt 0)) (am_F (am_pA μ r0 58 (Int32.ofInt 0)) r0 14)).2 ≤ x1.toNatClampNeg))
    (k : Wp d 203 (12, [some (.ref r0), some (.int x1), some (.int (am_A (am_pA μ r0 58 (Int32.ofInt 0)) (am_F (am_pA μ r0 58 (Int32.ofInt 0)) r0 14) x1.toNatClampNeg))], [], (am_pA μ r0 58 (Int32.ofInt 0))) Q) :
    Wp d 203 (0, [some (.ref r0), some (.int x1), none], [], μ) Q := wp_blk rfl e203_0 (And.intro h1 (And.intro ⟨rfl, rfl⟩ (And.intro h2 (And.intro h3 (And.intro h4 (And.intro h5 k))))))
def q203_12 : List (Nat × Instr × Nat) := [(12, .iload_n 2, 1), (13, .aload_n 0, 1), (14, .getfield 32, 3), (17, .iload_n 1, 1), (18, .iconst 1, 1), (19, .iadd, 1), (20, .iaload, 1), (21, .if_icmp .ge 44, 3)]
theorem e203_12 : am_dec am_M203 q203_12 = true := by decide +kernel
theorem b203_12 {d : Nat} {Q : Option Value ⊕ Nat → am_Mem → Prop} {μ : am_Mem} {r0 : Nat} {x1 x2 : Int32}
    (h1 : am_kd μ r0 = (1, 12))
    (h2 : ¬ am_F μ r0 14 = 15)
    (h3 : (am_kd μ (am_F μ r0 14)).1 = 2 ∨ (am_kd μ (am_F μ r0 14)).1 = 8)
    (h4 : ¬ ((x1 + (Int32.ofInt 1)) < 0 ∨ (am_kd μ (am_F μ r0 14)).2 ≤ (x1 + (Int32.ofInt 1)).toNatClampNeg))
    (k1 : (am_A μ (am_F μ r0 14) (x1 + (Int32.ofInt 1)).toNatClampNeg) ≤ x2 → Wp d 203 (65, [some (.ref r0), some (.int x1), some (.int x2)], [], μ) Q) (k2 : ¬ ((am_A μ (am_F μ r0 14) (x1 + (Int32.ofInt 1)).toNatClampNeg) ≤ x2) → Wp d 203 (24, [some (.ref r0), some (.int x1), some (.int x2)], [], μ) Q) :
    Wp d 203 (12, [some (.ref r0), some (.int x1), some (.int x2)], [], μ) Q := wp_blk rfl e203_12 (And.intro h1 (And.intro h2 (And.intro h3 (And.intro h4 (And.intro k1 k2)))))
def q203_24 : List (Nat × Instr × Nat) := [(24, .aload_n 0, 1), (25, .getfield 35, 3), (28, .iload_n 2, 1), (29, .iaload, 1), (30, .iconst 1, 1), (31, .if_icmp .ne 28, 3)]
theorem e203_24 : am_dec am_M203 q203_24 = true := by decide +kernel
theorem b203_24 {d : Nat} {Q : Option Value ⊕ Nat → am_Mem → Prop} {μ : am_Mem} {r0 : Nat} {x1 x2 : Int32}
    (h1 : am_kd μ r0 = (1, 12))
    (h2 : ¬ am_F μ r0 16 = 15)
    (h3 : (am_kd μ (am_F μ r0 16)).1 = 2 ∨ (am_kd μ (am_F μ r0 16)).1 = 8)
    (h4 : ¬ (x2 < 0 ∨ (am_kd μ (am_F μ r0 16)).2 ≤ x2.toNatClampNeg))
    (k1 : ¬ (am_A μ (am_F μ r0 16) x2.toNatClampNeg) = (Int32.ofInt 1) → Wp d 203 (59, [some (.ref r0), some (.int x1), some (.int x2)], [], μ) Q) (k2 : ¬ (¬ (am_A μ (am_F μ r0 16) x2.toNatClampNeg) = (Int32.ofInt 1)) → Wp d 203 (34, [some (.ref r0), some (.int x1), some (.int x2)], [], μ) Q) :
    Wp d 203 (24, [some (.ref r0), some (.int x1), some (.int x2)], [], μ) Q := wp_blk rfl e203_24 (And.intro h1 (And.intro h2 (And.intro h3 (And.intro h4 (And.intro k1 k2)))))
def q203_34 : List (Nat × Instr × Nat) := [(34, .aload_n 0, 1), (35, .getfield 123, 3), (38, .aload_n 0, 1), (39, .getfield 481, 3), (42, .aload_n 0, 1), (43, .getfield 38, 3), (46, .iload_n 2, 1), (47, .iaload, 1), (48, .iastore, 1), (49, .aload_n 0, 1), (50, .dup, 1), (51, .getfield 481, 3), (54, .iconst 1, 1), (55, .iadd, 1), (56, .putfield 481, 3)]
theorem e203_34 : am_dec am_M203 q203_34 = true := by decide +kernel
theorem b203_34 {d : Nat} {Q : Option Value ⊕ Nat → am_Mem → Prop} {μ : am_Mem} {r0 : Nat} {x1 x2 : Int32}
    (h1 : am_kd μ r0 = (1, 12))
    (h2 : ¬ am_F μ r0 59 = 15)
    (h3 : am_kd μ r0 = (1, 12))
    (h4 : am_kd μ r0 = (1, 12))
    (h5 : ¬ am_F μ r0 17 = 15)
    (h6 : (am_kd μ (am_F μ r0 17)).1 = 2 ∨ (am_kd μ (am_F μ r0 17)).1 = 8)
    (h7 : ¬ (x2 < 0 ∨ (am_kd μ (am_F μ r0 17)).2 ≤ x2.toNatClampNeg))
    (h8 : (am_kd μ (am_F μ r0 59)).1 = 2)
    (h9 : ¬ ((am_A μ r0 58) < 0 ∨ (am_kd μ (am_F μ r0 59)).2 ≤ (am_A μ r0 58).toNatClampNeg))
    (h10 : am_kd (am_pA μ (am_F μ r0 59) (am_A μ r0 58).toNatClampNeg (am_A μ (am_F μ r0 17) x2.toNatClampNeg)) r0 = (1, 12))
    (h11 : am_kd (am_pA μ (am_F μ r0 59) (am_A μ r0 58).toNatClampNeg (am_A μ (am_F μ r0 17) x2.toNatClampNeg)) r0 = (1, 12))
    (k : Wp d 203 (59, [some (.ref r0), some (.int x1), some (.int x2)], [], (am_pA (am_pA μ (am_F μ r0 59) (am_A μ r0 58).toNatClampNeg (am_A μ (am_F μ r0 17) x2.toNatClampNeg)) r0 58 ((am_A (am_pA μ (am_F μ r0 59) (am_A μ r0 58).toNatClampNeg (am_A μ (am_F μ r0 17) x2.toNatClampNeg)) r0 58) + (Int32.ofInt 1)))) Q) :
    Wp d 203 (34, [some (.ref r0), some (.int x1), some (.int x2)], [], μ) Q := wp_blk rfl e203_34 (And.intro h1 (And.intro h2 (And.intro h3 (And.intro h4 (And.intro h5 (And.intro h6 (And.intro h7 (And.intro h8 (And.intro h9 (And.intro h10 (And.intro h11 (And.intro ⟨rfl, rfl⟩ k))))))))))))
def q203_59 : List (Nat × Instr × Nat) := [(59, .iinc 2 1, 3), (62, .goto (-50), 3)]
theorem e203_59 : am_dec am_M203 q203_59 = true := by decide +kernel
theorem b203_59 {d : Nat} {Q : Option Value ⊕ Nat → am_Mem → Prop} {μ : am_Mem} {r0 : Nat} {x1 x2 : Int32}
    (k : Wp d 203 (12, [some (.ref r0), some (.int x1), some (.int (x2 + Int32.ofInt 1))], [], μ) Q) :
    Wp d 203 (59, [some (.ref r0), some (.int x1), some (.int x2)], [], μ) Q := wp_blk rfl e203_59 k
def q203_65 : List (Nat × Instr × Nat) := [(65, .iconst 0, 1), (66, .istore_n 2, 1)]
theorem e203_65 : am_dec am_M203 q203_65 = true := by decide +kernel
theorem b203_65 {d : Nat} {Q : Option Value ⊕ Nat → am_Mem → Prop} {μ : am_Mem} {r0 : Nat} {x1 x2 : Int32}
    (k : Wp d 203 (67, [some (.ref r0), some (.int x1), some (.int (Int32.ofInt 0))], [], μ) Q) :
    Wp d 203 (65, [some (.ref r0), some (.int x1), some (.int x2)], [], μ) Q := wp_blk rfl e203_65 k
def q203_67 : List (Nat × Instr × Nat) := [(67, .iload_n 2, 1), (68, .bipush 8, 2), (70, .if_icmp .ge 23, 3)]
theorem e203_67 : am_dec am_M203 q203_67 = true := by decide +kernel
theorem b203_67 {d : Nat} {Q : Option Value ⊕ Nat → am_Mem → Prop} {μ : am_Mem} {r0 : Nat} {x1 x2 : Int32}
    (k1 : ((Int8.ofInt 8).toInt32) ≤ x2 → Wp d 203 (93, [some (.ref r0), some (.int x1), some (.int x2)], [], μ) Q) (k2 : ¬ (((Int8.ofInt 8).toInt32) ≤ x2) → Wp d 203 (73, [some (.ref r0), some (.int x1), some (.int x2)], [], μ) Q) :
    Wp d 203 (67, [some (.ref r0), some (.int x1), some (.int x2)], [], μ) Q := wp_blk rfl e203_67 (And.intro k1 k2)
def q203_73 : List (Nat × Instr × Nat) := [(73, .aload_n 0, 1), (74, .getfield 132, 3), (77, .iload_n 2, 1), (78, .iconst (-1), 1), (79, .iastore, 1), (80, .aload_n 0, 1), (81, .getfield 129, 3), (84, .iload_n 2, 1), (85, .iconst (-1), 1), (86, .iastore, 1)]
theorem e203_73 : am_dec am_M203 q203_73 = true := by decide +kernel
theorem b203_73 {d : Nat} {Q : Option Value ⊕ Nat → am_Mem → Prop} {μ : am_Mem} {r0 : Nat} {x1 x2 : Int32}
    (h1 : am_kd μ r0 = (1, 12))
    (h2 : ¬ am_F μ r0 62 = 15)
    (h3 : (am_kd μ (am_F μ r0 62)).1 = 2)
    (h4 : ¬ (x2 < 0 ∨ (am_kd μ (am_F μ r0 62)).2 ≤ x2.toNatClampNeg))
    (h5 : am_kd (am_pA μ (am_F μ r0 62) x2.toNatClampNeg (Int32.ofInt (-1))) r0 = (1, 12))
    (h6 : ¬ am_F (am_pA μ (am_F μ r0 62) x2.toNatClampNeg (Int32.ofInt (-1))) r0 61 = 15)
    (h7 : (am_kd (am_pA μ (am_F μ r0 62) x2.toNatClampNeg (Int32.ofInt (-1))) (am_F (am_pA μ (am_F μ r0 62) x2.toNatClampNeg (Int32.ofInt (-1))) r0 61)).1 = 2)
    (h8 : ¬ (x2 < 0 ∨ (am_kd (am_pA μ (am_F μ r0 62) x2.toNatClampNeg (Int32.ofInt (-1))) (am_F (am_pA μ (am_F μ r0 62) x2.toNatClampNeg (Int32.ofInt (-1))) r0 61)).2 ≤ x2.toNatClampNeg))
    (k : Wp d 203 (87, [some (.ref r0), some (.int x1), some (.int x2)], [], (am_pA (am_pA μ (am_F μ r0 62) x2.toNatClampNeg (Int32.ofInt (-1))) (am_F (am_pA μ (am_F μ r0 62) x2.toNatClampNeg (Int32.ofInt (-1))) r0 61) x2.toNatClampNeg (Int32.ofInt (-1)))) Q) :
    Wp d 203 (73, [some (.ref r0), some (.int x1), some (.int x2)], [], μ) Q := wp_blk rfl e203_73 (And.intro h1 (And.intro h2 (And.intro h3 (And.intro h4 (And.intro h5 (And.intro h6 (And.intro h7 (And.intro h8 k))))))))
def q203_87 : List (Nat × Instr × Nat) := [(87, .iinc 2 1, 3), (90, .goto (-23), 3)]
theorem e203_87 : am_dec am_M203 q203_87 = true := by decide +kernel
theorem b203_87 {d : Nat} {Q : Option Value ⊕ Nat → am_Mem → Prop} {μ : am_Mem} {r0 : Nat} {x1 x2 : Int32}
    (k : Wp d 203 (67, [some (.ref r0), some (.int x1), some (.int (x2 + Int32.ofInt 1))], [], μ) Q) :
    Wp d 203 (87, [some (.ref r0), some (.int x1), some (.int x2)], [], μ) Q := wp_blk rfl e203_87 k
theorem e203_93_r : am_dec am_M203 [(93, .return_, 1)] = true := by decide +kernel
theorem b203_93 {d : Nat} {Q : Option Value ⊕ Nat → am_Mem → Prop} {μ : am_Mem} {r0 : Nat} {x1 x2 : Int32}
    (k : Q (.inl none) μ) :
    Wp d 203 (93, [some (.ref r0), some (.int x1), some (.int x2)], [], μ) Q := (wp_rv rfl e203_93_r rfl k)
/-! RuleSheetsModel.made(IZ)I -/
def q204_0 : List (Nat × Instr × Nat) := [(0, .aload_n 0, 1), (1, .getfield 62, 3), (4, .iload_n 1, 1), (5, .iaload, 1), (6, .iconst 1, 1), (7, .isub, 1), (8, .istore_n 3, 1)]
theorem e204_0 : am_dec am_M204 q204_0 = true := by decide +kernel
theorem b204_0 {d : Nat} {Q : Option Value ⊕ Nat → am_Mem → Prop} {μ : am_Mem} {r0 : Nat} {x1 x2 : Int32}
    (h1 : am_kd μ r0 = (1, 12))
    (h2 : ¬ am_F μ r0 27 = 15)
    (h3 : (am_kd μ (am_F μ r0 27)).1 = 2 ∨ (am_kd μ (am_F μ r0 27)).1 = 8)
    (h4 : ¬ (x1 < 0 ∨ (am_kd μ (am_F μ r0 27)).2 ≤ x1.toNatClampNeg))
    (k : Wp d 204 (9, [some (.ref r0), some (.int x1), some (.int x2), some (.int ((am_A μ (am_F μ r0 27) x1.toNatClampNeg) - (Int32.ofInt 1))), none, none, none], [], μ) Q) :
    Wp d 204 (0, [some (.ref r0), some (.int x1), some (.int x2), none, none, none, none], [], μ) Q := wp_blk rfl e204_0 (And.intro h1 (And.intro h2 (And.intro h3 (And.intro h4 k))))
def q204_9 : List (Nat × Instr × Nat) := [(9, .iload_n 3, 1), (10, .iload_n 1, 1), (11, .if_icmp .lt 144, 3)]
theorem e204_9 : am_dec am_M204 q204_9 = true := by decide +kernel
theorem b204_9 {d : Nat} {Q : Option Value ⊕ Nat → am_Mem → Prop} {μ : am_Mem} {r0 : Nat} {x1 x2 x3 : Int32} {o4 o5 o6 : Option Value}
    (k1 : x3 < x1 → Wp d 204 (155, [some (.ref r0), some (.int x1), some (.int x2), some (.int x3), o4, o5, o6], [], μ) Q) (k2 : ¬ (x3 < x1) → Wp d 204 (14, [some (.ref r0), some (.int x1), some (.int x2), some (.int x3), o4, o5, o6], [], μ) Q) :
    Wp d 204 (9, [some (.ref r0), some (.int x1), some (.int x2), some (.int x3), o4, o5, o6], [], μ) Q := wp_blk rfl e204_9 (And.intro k1 k2)
def q204_14 : List (Nat × Instr × Nat) := [(14, .aload_n 0, 1), (15, .getfield 53, 3), (18, .iload_n 3, 1), (19, .iaload, 1), (20, .ifCond .lt 23, 3)]
theorem e204_14 : am_dec am_M204 q204_14 = true := by decide +kernel
theorem b204_14 {d : Nat} {Q : Option Value ⊕ Nat → am_Mem → Prop} {μ : am_Mem} {r0 : Nat} {x1 x2 x3 : Int32} {o4 o5 o6 : Option Value}
    (h1 : am_kd μ r0 = (1, 12))
    (h2 : ¬ am_F μ r0 24 = 15)
    (h3 : (am_kd μ (am_F μ r0 24)).1 = 2 ∨ (am_kd μ (am_F μ r0 24)).1 = 8)
    (h4 : ¬ (x3 < 0 ∨ (am_kd μ (am_F μ r0 24)).2 ≤ x3.toNatClampNeg))
    (k1 : (am_A μ (am_F μ r0 24) x3.toNatClampNeg) < 0 → Wp d 204 (43, [some (.ref r0), some (.int x1), some (.int x2), some (.int x3), o4, o5, o6], [], μ) Q) (k2 : ¬ ((am_A μ (am_F μ r0 24) x3.toNatClampNeg) < 0) → Wp d 204 (23, [some (.ref r0), some (.int x1), some (.int x2), some (.int x3), o4, o5, o6], [], μ) Q) :
    Wp d 204 (14, [some (.ref r0), some (.int x1), some (.int x2), some (.int x3), o4, o5, o6], [], μ) Q := wp_blk rfl e204_14 (And.intro h1 (And.intro h2 (And.intro h3 (And.intro h4 (And.intro k1 k2)))))
def q204_23 : List (Nat × Instr × Nat) := [(23, .aload_n 0, 1), (24, .getfield 135, 3), (27, .iload_n 3, 1), (28, .aload_n 0, 1), (29, .getfield 129, 3), (32, .aload_n 0, 1), (33, .getfield 53, 3), (36, .iload_n 3, 1), (37, .iaload, 1), (38, .iaload, 1), (39, .iastore, 1), (40, .goto 109, 3)]
theorem e204_23 : am_dec am_M204 q204_23 = true := by decide +kernel
theorem b204_23 {d : Nat} {Q : Option Value ⊕ Nat → am_Mem → Prop} {μ : am_Mem} {r0 : Nat} {x1 x2 x3 : Int32} {o4 o5 o6 : Option Value}
    (h1 : am_kd μ r0 = (1, 12))
    (h2 : ¬ am_F μ r0 63 = 15)
    (h3 : am_kd μ r0 = (1, 12))
    (h4 : ¬ am_F μ r0 61 = 15)
    (h5 : am_kd μ r0 = (1, 12))
    (h6 : ¬ am_F μ r0 24 = 15)
    (h7 : (am_kd μ (am_F μ r0 24)).1 = 2 ∨ (am_kd μ (am_F μ r0 24)).1 = 8)
    (h8 : ¬ (x3 < 0 ∨ (am_kd μ (am_F μ r0 24)).2 ≤ x3.toNatClampNeg))
    (h9 : (am_kd μ (am_F μ r0 61)).1 = 2 ∨ (am_kd μ (am_F μ r0 61)).1 = 8)
    (h10 : ¬ ((am_A μ (am_F μ r0 24) x3.toNatClampNeg) < 0 ∨ (am_kd μ (am_F μ r0 61)).2 ≤ (am_A μ (am_F μ r0 24) x3.toNatClampNeg).toNatClampNeg))
    (h11 : (am_kd μ (am_F μ r0 63)).1 = 2)
    (h12 : ¬ (x3 < 0 ∨ (am_kd μ (am_F μ r0 63)).2 ≤ x3.toNatClampNeg))
    (k : Wp d 204 (149, [some (.ref r0), some (.int x1), some (.int x2), some (.int x3), o4, o5, o6], [], (am_pA μ (am_F μ r0 63) x3.toNatClampNeg (am_A μ (am_F μ r0 61) (am_A μ (am_F μ r0 24) x3.toNatClampNeg).toNatClampNeg))) Q) :
    Wp d 204 (23, [some (.ref r0), some (.int x1), some (.int x2), some (.int x3), o4, o5, o6], [], μ) Q := wp_blk rfl e204_23 (And.intro h1 (And.intro h2 (And.intro h3 (And.intro h4 (And.intro h5 (And.intro h6 (And.intro h7 (And.intro h8 (And.intro h9 (And.intro h10 (And.intro h11 (And.intro h12 k))))))))))))
def q204_43 : List (Nat × Instr × Nat) := [(43, .iconst 1, 1), (44, .istore 4, 2), (46, .iconst 0, 1), (47, .istore 5, 2)]
theorem e204_43 : am_dec am_M204 q204_43 = true := by decide +kernel
theorem b204_43 {d : Nat} {Q : Option Value ⊕ Nat → am_Mem → Prop} {μ : am_Mem} {r0 : Nat} {x1 x2 x3 : Int32} {o4 o5 o6 : Option Value}
    (k : Wp d 204 (49, [some (.ref r0), some (.int x1), some (.int x2), some (.int x3), some (.int (Int32.ofInt 1)), some (.int (Int32.ofInt 0)), o6], [], μ) Q) :
    Wp d 204 (43, [some (.ref r0), some (.int x1), some (.int x2), some (.int x3), o4, o5, o6], [], μ) Q := wp_blk rfl e204_43 k
def q204_49 : List (Nat × Instr × Nat) := [(49, .iload 5, 2), (51, .aload_n 0, 1), (52, .getfield 56, 3), (55, .iload_n 3, 1), (56, .iaload, 1), (57, .if_icmp .ge 60, 3)]
theorem e204_49 : am_dec am_M204 q204_49 = true := by decide +kernel
theorem b204_49 {d : Nat} {Q : Option Value ⊕ Nat → am_Mem → Prop} {μ : am_Mem} {r0 : Nat} {x1 x2 x3 x4 x5 : Int32} {o6 : Option Value}
    (h1 : am_kd μ r0 = (1, 12))
    (h2 : ¬ am_F μ r0 25 = 15)
    (h3 : (am_kd μ (am_F μ r0 25)).1 = 2 ∨ (am_kd μ (am_F μ r0 25)).1 = 8)
    (h4 : ¬ (x3 < 0 ∨ (am_kd μ (am_F μ r0 25)).2 ≤ x3.toNatClampNeg))
    (k1 : (am_A μ (am_F μ r0 25) x3.toNatClampNeg) ≤ x5 → Wp d 204 (117, [some (.ref r0), some (.int x1), some (.int x2), some (.int x3), some (.int x4), some (.int x5), o6], [], μ) Q) (k2 : ¬ ((am_A μ (am_F μ r0 25) x3.toNatClampNeg) ≤ x5) → Wp d 204 (60, [some (.ref r0), some (.int x1), some (.int x2), some (.int x3), some (.int x4), some (.int x5), o6], [], μ) Q) :
    Wp d 204 (49, [some (.ref r0), some (.int x1), some (.int x2), some (.int x3), some (.int x4), some (.int x5), o6], [], μ) Q := wp_blk rfl e204_49 (And.intro h1 (And.intro h2 (And.intro h3 (And.intro h4 (And.intro k1 k2)))))
def q204_60 : List (Nat × Instr × Nat) := [(60, .aload_n 0, 1), (61, .getfield 135, 3), (64, .aload_n 0, 1), (65, .getfield 59, 3), (68, .iconst 4, 1), (69, .iload_n 3, 1), (70, .imul, 1), (71, .iload 5, 2), (73, .iadd, 1), (74, .iaload, 1), (75, .iaload, 1), (76, .istore 6, 2), (78, .aload_n 0, 1), (79, .getfield 92, 3), (82, .iconst 4, 1), (83, .aload_n 0, 1), (84, .getfield 429, 3), (87, .imul, 1), (88, .iload 5, 2), (90, .iadd, 1), (91, .iload 6, 2), (93, .iastore, 1), (94, .iload 4, 2), (96, .ifCond .eq 12, 3)]
theorem e204_60 : am_dec am_M204 q204_60 = true := by decide +kernel
theorem b204_60 {d : Nat} {Q : Option Value ⊕ Nat → am_Mem → Prop} {μ : am_Mem} {r0 : Nat} {x1 x2 x3 x4 x5 : Int32} {o6 : Option Value}
    (h1 : am_kd μ r0 = (1, 12))
    (h2 : ¬ am_F μ r0 63 = 15)
    (h3 : am_kd μ r0 = (1, 12))
    (h4 : ¬ am_F μ r0 26 = 15)
    (h5 : (am_kd μ (am_F μ r0 26)).1 = 2 ∨ (am_kd μ (am_F μ r0 26)).1 = 8)
    (h6 : ¬ ((((Int32.ofInt 4) * x3) + x5) < 0 ∨ (am_kd μ (am_F μ r0 26)).2 ≤ (((Int32.ofInt 4) * x3) + x5).toNatClampNeg))
    (h7 : (am_kd μ (am_F μ r0 63)).1 = 2 ∨ (am_kd μ (am_F μ r0 63)).1 = 8)
    (h8 : ¬ ((am_A μ (am_F μ r0 26) (((Int32.ofInt 4) * x3) + x5).toNatClampNeg) < 0 ∨ (am_kd μ (am_F μ r0 63)).2 ≤ (am_A μ (am_F μ r0 26) (((Int32.ofInt 4) * x3) + x5).toNatClampNeg).toNatClampNeg))
    (h9 : am_kd μ r0 = (1, 12))
    (h10 : ¬ am_F μ r0 45 = 15)
    (h11 : am_kd μ r0 = (1, 12))
    (h12 : (am_kd μ (am_F μ r0 45)).1 = 2)
    (h13 : ¬ ((((Int32.ofInt 4) * (am_A μ r0 42)) + x5) < 0 ∨ (am_kd μ (am_F μ r0 45)).2 ≤ (((Int32.ofInt 4) * (am_A μ r0 42)) + x5).toNatClampNeg))
    (k1 : x4 = 0 → Wp d 204 (108, [some (.ref r0), some (.int x1), some (.int x2), some (.int x3), some (.int x4), some (.int x5), some (.int (am_A μ (am_F μ r0 63) (am_A μ (am_F μ r0 26) (((Int32.ofInt 4) * x3) + x5).toNatClampNeg).toNatClampNeg))], [], (am_pA μ (am_F μ r0 45) (((Int32.ofInt 4) * (am_A μ r0 42)) + x5).toNatClampNeg (am_A μ (am_F μ r0 63) (am_A μ (am_F μ r0 26) (((Int32.ofInt 4) * x3) + x5).toNatClampNeg).toNatClampNeg))) Q) (k2 : ¬ (x4 = 0) → Wp d 204 (99, [some (.ref r0), some (.int x1), some (.int x2), some (.int x3), some (.int x4), some (.int x5), some (.int (am_A μ (am_F μ r0 63) (am_A μ (am_F μ r0 26) (((Int32.ofInt 4) * x3) + x5).toNatClampNeg).toNatClampNeg))], [], (am_pA μ (am_F μ r0 45) (((Int32.ofInt 4) * (am_A μ r0 42)) + x5).toNatClampNeg (am_A μ (am_F μ r0 63) (am_A μ (am_F μ r0 26) (((Int32.ofInt 4) * x3) + x5).toNatClampNeg).toNatClampNeg))) Q) :
    Wp d 204 (60, [some (.ref r0), some (.int x1), some (.int x2), some (.int x3), some (.int x4), some (.int x5), o6], [], μ) Q := wp_blk rfl e204_60 (And.intro h1 (And.intro h2 (And.intro h3 (And.intro h4 (And.intro h5 (And.intro h6 (And.intro h7 (And.intro h8 (And.intro h9 (And.intro h10 (And.intro h11 (And.intro h12 (And.intro h13 (And.intro k1 k2))))))))))))))
def q204_99 : List (Nat × Instr × Nat) := [(99, .iload 6, 2), (101, .ifCond .lt 7, 3)]
theorem e204_99 : am_dec am_M204 q204_99 = true := by decide +kernel
theorem b204_99 {d : Nat} {Q : Option Value ⊕ Nat → am_Mem → Prop} {μ : am_Mem} {r0 : Nat} {x1 x2 x3 x4 x5 x6 : Int32}
    (k1 : x6 < 0 → Wp d 204 (108, [some (.ref r0), some (.int x1), some (.int x2), some (.int x3), some (.int x4), some (.int x5), some (.int x6)], [], μ) Q) (k2 : ¬ (x6 < 0) → Wp d 204 (104, [some (.ref r0), some (.int x1), some (.int x2), some (.int x3), some (.int x4), some (.int x5), some (.int x6)], [], μ) Q) :
    Wp d 204 (99, [some (.ref r0), some (.int x1), some (.int x2), some (.int x3), some (.int x4), some (.int x5), some (.int x6)], [], μ) Q := wp_blk rfl e204_99 (And.intro k1 k2)
def q204_104 : List (Nat × Instr × Nat) := [(104, .iconst 1, 1), (105, .goto 4, 3)]
theorem e204_104 : am_dec am_M204 q204_104 = true := by decide +kernel
theorem b204_104 {d : Nat} {Q : Option Value ⊕ Nat → am_Mem → Prop} {μ : am_Mem} {r0 : Nat} {x1 x2 x3 x4 x5 x6 : Int32}
    (k : Wp d 204 (109, [some (.ref r0), some (.int x1), some (.int x2), some (.int x3), some (.int x4), some (.int x5), some (.int x6)], [.int (Int32.ofInt 1)], μ) Q) :
    Wp d 204 (104, [some (.ref r0), some (.int x1), some (.int x2), some (.int x3), some (.int x4), some (.int x5), some (.int x6)], [], μ) Q := wp_blk rfl e204_104 k
def q204_108 : List (Nat × Instr × Nat) := [(108, .iconst 0, 1)]
theorem e204_108 : am_dec am_M204 q204_108 = true := by decide +kernel
theorem b204_108 {d : Nat} {Q : Option Value ⊕ Nat → am_Mem → Prop} {μ : am_Mem} {r0 : Nat} {x1 x2 x3 x4 x5 x6 : Int32}
    (k : Wp d 204 (109, [some (.ref r0), some (.int x1), some (.int x2), some (.int x3), some (.int x4), some (.int x5), some (.int x6)], [.int (Int32.ofInt 0)], μ) Q) :
    Wp d 204 (108, [some (.ref r0), some (.int x1), some (.int x2), some (.int x3), some (.int x4), some (.int x5), some (.int x6)], [], μ) Q := wp_blk rfl e204_108 k
def q204_109 : List (Nat × Instr × Nat) := [(109, .istore 4, 2), (111, .iinc 5 1, 3), (114, .goto (-65), 3)]
theorem e204_109 : am_dec am_M204 q204_109 = true := by decide +kernel
theorem b204_109 {d : Nat} {Q : Option Value ⊕ Nat → am_Mem → Prop} {μ : am_Mem} {r0 : Nat} {x1 x2 x3 x4 x5 x6 s0 : Int32}
    (k : Wp d 204 (49, [some (.ref r0), some (.int x1), some (.int x2), some (.int x3), some (.int s0), some (.int (x5 + Int32.ofInt 1)), some (.int x6)], [], μ) Q) :
    Wp d 204 (109, [some (.ref r0), some (.int x1), some (.int x2), some (.int x3), some (.int x4), some (.int x5), some (.int x6)], [.int s0], μ) Q := wp_blk rfl e204_109 k
def q204_117 : List (Nat × Instr × Nat) := [(117, .aload_n 0, 1), (118, .getfield 135, 3), (121, .iload_n 3, 1), (122, .iload 4, 2), (124, .ifCond .eq 23, 3)]
theorem e204_117 : am_dec am_M204 q204_117 = true := by decide +kernel
theorem b204_117 {d : Nat} {Q : Option Value ⊕ Nat → am_Mem → Prop} {μ : am_Mem} {r0 : Nat} {x1 x2 x3 x4 x5 : Int32} {o6 : Option Value}
    (h1 : am_kd μ r0 = (1, 12))
    (h2 : ¬ am_F μ r0 63 = 15)
    (k1 : x4 = 0 → Wp d 204 (147, [some (.ref r0), some (.int x1), some (.int x2), some (.int x3), some (.int x4), some (.int x5), o6], [.int x3, .ref (am_F μ r0 63)], μ) Q) (k2 : ¬ (x4 = 0) → Wp d 204 (127, [some (.ref r0), some (.int x1), some (.int x2), some (.int x3), some (.int x4), some (.int x5), o6], [.int x3, .ref (am_F μ r0 63)], μ) Q) :
    Wp d 204 (117, [some (.ref r0), some (.int x1), some (.int x2), some (.int x3), some (.int x4), some (.int x5), o6], [], μ) Q := wp_blk rfl e204_117 (And.intro h1 (And.intro h2 (And.intro k1 k2)))
def q204_127 : List (Nat × Instr × Nat) := [(127, .aload_n 0, 1), (128, .aload_n 0, 1), (129, .getfield 50, 3), (132, .iload_n 3, 1), (133, .iaload, 1), (134, .aload_n 0, 1), (135, .getfield 56, 3), (138, .iload_n 3, 1), (139, .iaload, 1), (140, .iload_n 2, 1)]
theorem e204_127 : am_dec am_M204 q204_127 = true := by decide +kernel
theorem e204_127_c : am_dc1 am_M204 141 (.invokevirtual 440) 3 = true := by decide +kernel
theorem b204_127 {d : Nat} {Q : Option Value ⊕ Nat → am_Mem → Prop} {μ : am_Mem} {r0 r90 : Nat} {x1 x2 x3 x4 x5 s1 : Int32} {o6 : Option Value} {P : Int32 → am_Mem → Prop} {X : Nat → am_Mem → Prop}
    (h1 : am_kd μ r0 = (1, 12))
    (h2 : ¬ am_F μ r0 23 = 15)
    (h3 : (am_kd μ (am_F μ r0 23)).1 = 2 ∨ (am_kd μ (am_F μ r0 23)).1 = 8)
    (h4 : ¬ (x3 < 0 ∨ (am_kd μ (am_F μ r0 23)).2 ≤ x3.toNatClampNeg))
    (h5 : am_kd μ r0 = (1, 12))
    (h6 : ¬ am_F μ r0 25 = 15)
    (h7 : (am_kd μ (am_F μ r0 25)).1 = 2 ∨ (am_kd μ (am_F μ r0 25)).1 = 8)
    (h8 : ¬ (x3 < 0 ∨ (am_kd μ (am_F μ r0 25)).2 ≤ x3.toNatClampNeg))
    (hk : am_kd μ r0 = (1, 12))
    (hc : Wp d 205 (0, [some (.ref r0), some (.int (am_A μ (am_F μ r0 23) x3.toNatClampNeg)), some (.int (am_A μ (am_F μ r0 25) x3.toNatClampNeg)), some (.int x2), none, none, none, none], [], μ) (pI P X)) (hr : ∀ x μ', P x μ' → Wp (d + 1) 204 (144, [some (.ref r0), some (.int x1), some (.int x2), some (.int x3), some (.int x4), some (.int x5), o6], [.int x, .int s1, .ref r90], (μ')) Q)
    (hx : ∀ x μ', X x μ' → Q (.inr x) μ') :
    Wp (d + 1) 204 (127, [some (.ref r0), some (.int x1), some (.int x2), some (.int x3), some (.int x4), some (.int x5), o6], [.int s1, .ref r90], μ) Q := wp_blk rfl e204_127 (And.intro h1 (And.intro h2 (And.intro h3 (And.intro h4 (And.intro h5 (And.intro h6 (And.intro h7 (And.intro h8 (wp_cv (as := [.int (am_A μ (am_F μ r0 23) x3.toNatClampNeg), .int (am_A μ (am_F μ r0 25) x3.toNatClampNeg), .int x2]) rfl e204_127_c rfl rfl rfl rfl rfl hk hc (fun v μ' hv => by obtain ⟨x, rfl, hp⟩ := pI_r hv; exact hr x μ' hp) hx)))))))))
def q204_144 : List (Nat × Instr × Nat) := [(144, .goto 4, 3)]
theorem e204_144 : am_dec am_M204 q204_144 = true := by decide +kernel
theorem b204_144 {d : Nat} {Q : Option Value ⊕ Nat → am_Mem → Prop} {μ : am_Mem} {r0 r90 : Nat} {x1 x2 x3 x4 x5 s1 s2 : Int32} {o6 : Option Value}
    (k : Wp d 204 (148, [some (.ref r0), some (.int x1), some (.int x2), some (.int x3), some (.int x4), some (.int x5), o6], [.int s2, .int s1, .ref r90], μ) Q) :
    Wp d 204 (144, [some (.ref r0), some (.int x1), some (.int x2), some (.int x3), some (.int x4), some (.int x5), o6], [.int s2, .int s1, .ref r90], μ) Q := wp_blk rfl e204_144 k
def q204_147 : List (Nat × Instr × Nat) := [(147, .iconst (-1), 1)]
theorem e204_147 : am_dec am_M204 q204_147 = true := by decide +kernel
theorem b204_147 {d : Nat} {Q : Option Value ⊕ Nat → am_Mem → Prop} {μ : am_Mem} {r0 r90 : Nat} {x1 x2 x3 x4 x5 s1 : Int32} {o6 : Option Value}
    (k : Wp d 204 (148, [some (.ref r0), some (.int x1), some (.int x2), some (.int x3), some (.int x4), some (.int x5), o6], [.int (Int32.ofInt (-1)), .int s1, .ref r90], μ) Q) :
    Wp d 204 (147, [some (.ref r0), some (.int x1), some (.int x2), some (.int x3), some (.int x4), some (.int x5), o6], [.int s1, .ref r90], μ) Q := wp_blk rfl e204_147 k
def q204_148 : List (Nat × Instr × Nat) := [(148, .iastore, 1)]
theorem e204_148 : am_dec am_M204 q204_148 = true := by decide +kernel
theorem b204_148 {d : Nat} {Q : Option Value ⊕ Nat → am_Mem → Prop} {μ : am_Mem} {r0 r90 : Nat} {x1 x2 x3 x4 x5 s1 s2 : Int32} {o6 : Option Value}
    (h1 : (am_kd μ r90).1 = 2)
    (h2 : ¬ (s1 < 0 ∨ (am_kd μ r90).2 ≤ s1.toNatClampNeg))
    (k : Wp d 204 (149, [some (.ref r0), some (.int x1), some (.int x2), some (.int x3), some (.int x4), some (.int x5), o6], [], (am_pA μ r90 s1.toNatClampNeg s2)) Q) :
    Wp d 204 (148, [some (.ref r0), some (.int x1), some (.int x2), some (.int x3), some (.int x4), some (.int x5), o6], [.int s2, .int s1, .ref r90], μ) Q := wp_blk rfl e204_148 (And.intro h1 (And.intro h2 k))
def q204_149 : List (Nat × Instr × Nat) := [(149, .iinc 3 (-1), 3), (152, .goto (-143), 3)]
theorem e204_149 : am_dec am_M204 q204_149 = true := by decide +kernel
theorem b204_149 {d : Nat} {Q : Option Value ⊕ Nat → am_Mem → Prop} {μ : am_Mem} {r0 : Nat} {x1 x2 x3 : Int32} {o4 o5 o6 : Option Value}
    (k : Wp d 204 (9, [some (.ref r0), some (.int x1), some (.int x2), some (.int (x3 + Int32.ofInt (-1))), o4, o5, o6], [], μ) Q) :
    Wp d 204 (149, [some (.ref r0), some (.int x1), some (.int x2), some (.int x3), o4, o5, o6], [], μ) Q := wp_blk rfl e204_149 k
def q204_155 : List (Nat × Instr × Nat) := [(155, .aload_n 0, 1), (156, .getfield 135, 3), (159, .iload_n 1, 1), (160, .iaload, 1)]
theorem e204_155 : am_dec am_M204 q204_155 = true := by decide +kernel
theorem e204_155_r : am_dec am_M204 [(161, .ireturn, 1)] = true := by decide +kernel
theorem b204_155 {d : Nat} {Q : Option Value ⊕ Nat → am_Mem → Prop} {μ : am_Mem} {r0 : Nat} {x1 x2 x3 : Int32} {o4 o5 o6 : Option Value}
    (h1 : am_kd μ r0 = (1, 12))
    (h2 : ¬ am_F μ r0 63 = 15)
    (h3 : (am_kd μ (am_F μ r0 63)).1 = 2 ∨ (am_kd μ (am_F μ r0 63)).1 = 8)
    (h4 : ¬ (x1 < 0 ∨ (am_kd μ (am_F μ r0 63)).2 ≤ x1.toNatClampNeg))
    (k : Q (.inl (some (.int (am_A μ (am_F μ r0 63) x1.toNatClampNeg)))) μ) :
    Wp d 204 (155, [some (.ref r0), some (.int x1), some (.int x2), some (.int x3), o4, o5, o6], [], μ) Q := wp_blk rfl e204_155 (And.intro h1 (And.intro h2 (And.intro h3 (And.intro h4 (wp_ri (ty := .int) rfl e204_155_r rfl ⟨rfl, rfl⟩ k)))))
/-! RuleSheetsModel.term(IIZ)I -/
def q205_0 : List (Nat × Instr × Nat) := [(0, .iconst 4, 1), (1, .aload_n 0, 1), (2, .getfield 429, 3), (5, .imul, 1), (6, .istore 4, 2), (8, .aload_n 0, 1), (9, .iload_n 1, 1), (10, .iload_n 2, 1), (11, .iload 4, 2)]
theorem e205_0 : am_dec am_M205 q205_0 = true := by decide +kernel
theorem e205_0_c : am_dc1 am_M205 13 (.invokevirtual 432) 3 = true := by decide +kernel
theorem b205_0 {d : Nat} {Q : Option Value ⊕ Nat → am_Mem → Prop} {μ : am_Mem} {r0 : Nat} {x1 x2 x3 : Int32} {P : Int32 → am_Mem → Prop} {X : Nat → am_Mem → Prop}
    (h1 : am_kd μ r0 = (1, 12))
    (hk : am_kd μ r0 = (1, 12))
    (hc : Wp d 206 (0, [some (.ref r0), some (.int x1), some (.int x2), some (.int ((Int32.ofInt 4) * (am_A μ r0 42))), none, none], [], μ) (pI P X)) (hr : ∀ x μ', P x μ' → Wp (d + 1) 205 (16, [some (.ref r0), some (.int x1), some (.int x2), some (.int x3), some (.int ((Int32.ofInt 4) * (am_A μ r0 42))), none, none, none], [.int x], (μ')) Q)
    (hx : ∀ x μ', X x μ' → Q (.inr x) μ') :
    Wp (d + 1) 205 (0, [some (.ref r0), some (.int x1), some (.int x2), some (.int x3), none, none, none, none], [], μ) Q := wp_blk rfl e205_0 (And.intro h1 (wp_cv (as := [.int x1, .int x2, .int ((Int32.ofInt 4) * (am_A μ r0 42))]) rfl e205_0_c rfl rfl rfl rfl rfl hk hc (fun v μ' hv => by obtain ⟨x, rfl, hp⟩ := pI_r hv; exact hr x μ' hp) hx))
def q205_16 : List (Nat × Instr × Nat) := [(16, .istore 5, 2)]
theorem e205_16 : am_dec am_M205 q205_16 = true := by decide +kernel
theorem b205_16 {d : Nat} {Q : Option Value ⊕ Nat → am_Mem → Prop} {μ : am_Mem} {r0 : Nat} {x1 x2 x3 x4 s0 : Int32}
    (k : Wp d 205 (18, [some (.ref r0), some (.int x1), some (.int x2), some (.int x3), some (.int x4), some (.int s0), none, none], [], μ) Q) :
    Wp d 205 (16, [some (.ref r0), some (.int x1), some (.int x2), some (.int x3), some (.int x4), none, none, none], [.int s0], μ) Q := wp_blk rfl e205_16 k
def q205_18 : List (Nat × Instr × Nat) := [(18, .aload_n 0, 1), (19, .getfield 99, 3), (22, .iload 5, 2), (24, .iaload, 1), (25, .ifCond .le 43, 3)]
theorem e205_18 : am_dec am_M205 q205_18 = true := by decide +kernel
theorem b205_18 {d : Nat} {Q : Option Value ⊕ Nat → am_Mem → Prop} {μ : am_Mem} {r0 : Nat} {x1 x2 x3 x4 x5 : Int32} {o6 : Option Value}
    (h1 : am_kd μ r0 = (1, 12))
    (h2 : ¬ am_F μ r0 47 = 15)
    (h3 : (am_kd μ (am_F μ r0 47)).1 = 2 ∨ (am_kd μ (am_F μ r0 47)).1 = 8)
    (h4 : ¬ (x5 < 0 ∨ (am_kd μ (am_F μ r0 47)).2 ≤ x5.toNatClampNeg))
    (k1 : (am_A μ (am_F μ r0 47) x5.toNatClampNeg) ≤ 0 → Wp d 205 (68, [some (.ref r0), some (.int x1), some (.int x2), some (.int x3), some (.int x4), some (.int x5), o6, none], [], μ) Q) (k2 : ¬ ((am_A μ (am_F μ r0 47) x5.toNatClampNeg) ≤ 0) → Wp d 205 (28, [some (.ref r0), some (.int x1), some (.int x2), some (.int x3), some (.int x4), some (.int x5), o6, none], [], μ) Q) :
    Wp d 205 (18, [some (.ref r0), some (.int x1), some (.int x2), some (.int x3), some (.int x4), some (.int x5), o6, none], [], μ) Q := wp_blk rfl e205_18 (And.intro h1 (And.intro h2 (And.intro h3 (And.intro h4 (And.intro k1 k2)))))
def q205_28 : List (Nat × Instr × Nat) := [(28, .aload_n 0, 1), (29, .getfield 99, 3), (32, .iload 5, 2), (34, .iaload, 1), (35, .iconst 1, 1), (36, .isub, 1), (37, .istore 6, 2), (39, .aload_n 0, 1), (40, .iload 6, 2), (42, .iload_n 1, 1), (43, .iload_n 2, 1), (44, .iload 4, 2)]
theorem e205_28 : am_dec am_M205 q205_28 = true := by decide +kernel
theorem e205_28_c : am_dc1 am_M205 46 (.invokevirtual 436) 3 = true := by decide +kernel
theorem b205_28 {d : Nat} {Q : Option Value ⊕ Nat → am_Mem → Prop} {μ : am_Mem} {r0 : Nat} {x1 x2 x3 x4 x5 : Int32} {o6 : Option Value} {P : Int32 → am_Mem → Prop} {X : Nat → am_Mem → Prop}
    (h1 : am_kd μ r0 = (1, 12))
    (h2 : ¬ am_F μ r0 47 = 15)
    (h3 : (am_kd μ (am_F μ r0 47)).1 = 2 ∨ (am_kd μ (am_F μ r0 47)).1 = 8)
    (h4 : ¬ (x5 < 0 ∨ (am_kd μ (am_F μ r0 47)).2 ≤ x5.toNatClampNeg))
    (hk : am_kd μ r0 = (1, 12))
    (hc : Wp d 207 (0, [some (.ref r0), some (.int ((am_A μ (am_F μ r0 47) x5.toNatClampNeg) - (Int32.ofInt 1))), some (.int x1), some (.int x2), some (.int x4), none, none], [], μ) (pI P X)) (hr : ∀ x μ', P x μ' → Wp (d + 1) 205 (49, [some (.ref r0), some (.int x1), some (.int x2), some (.int x3), some (.int x4), some (.int x5), some (.int ((am_A μ (am_F μ r0 47) x5.toNatClampNeg) - (Int32.ofInt 1))), none], [.int x], (μ')) Q)
    (hx : ∀ x μ', X x μ' → Q (.inr x) μ') :
    Wp (d + 1) 205 (28, [some (.ref r0), some (.int x1), some (.int x2), some (.int x3), some (.int x4), some (.int x5), o6, none], [], μ) Q := wp_blk rfl e205_28 (And.intro h1 (And.intro h2 (And.intro h3 (And.intro h4 (wp_cv (as := [.int ((am_A μ (am_F μ r0 47) x5.toNatClampNeg) - (Int32.ofInt 1)), .int x1, .int x2, .int x4]) rfl e205_28_c rfl rfl rfl rfl rfl hk hc (fun v μ' hv => by obtain ⟨x, rfl, hp⟩ := pI_r hv; exact hr x μ' hp) hx)))))
def q205_49 : List (Nat × Instr × Nat) := [(49, .ifCond .eq 6, 3)]
theorem e205_49 : am_dec am_M205 q205_49 = true := by decide +kernel
theorem b205_49 {d : Nat} {Q : Option Value ⊕ Nat → am_Mem → Prop} {μ : am_Mem} {r0 : Nat} {x1 x2 x3 x4 x5 x6 s0 : Int32}
    (k1 : s0 = 0 → Wp d 205 (55, [some (.ref r0), some (.int x1), some (.int x2), some (.int x3), some (.int x4), some (.int x5), some (.int x6), none], [], μ) Q) (k2 : ¬ (s0 = 0) → Wp d 205 (52, [some (.ref r0), some (.int x1), some (.int x2), some (.int x3), some (.int x4), some (.int x5), some (.int x6), none], [], μ) Q) :
    Wp d 205 (49, [some (.ref r0), some (.int x1), some (.int x2), some (.int x3), some (.int x4), some (.int x5), some (.int x6), none], [.int s0], μ) Q := wp_blk rfl e205_49 (And.intro k1 k2)
def q205_52 : List (Nat × Instr × Nat) := [(52, .iload 6, 2)]
theorem e205_52 : am_dec am_M205 q205_52 = true := by decide +kernel
theorem e205_52_r : am_dec am_M205 [(54, .ireturn, 1)] = true := by decide +kernel
theorem b205_52 {d : Nat} {Q : Option Value ⊕ Nat → am_Mem → Prop} {μ : am_Mem} {r0 : Nat} {x1 x2 x3 x4 x5 x6 : Int32}
    (k : Q (.inl (some (.int x6))) μ) :
    Wp d 205 (52, [some (.ref r0), some (.int x1), some (.int x2), some (.int x3), some (.int x4), some (.int x5), some (.int x6), none], [], μ) Q := wp_blk rfl e205_52 (wp_ri (ty := .int) rfl e205_52_r rfl ⟨rfl, rfl⟩ k)
def q205_55 : List (Nat × Instr × Nat) := [(55, .iload 5, 2), (57, .iconst 1, 1), (58, .iadd, 1), (59, .ldc_w 428, 3), (62, .iand, 1), (63, .istore 5, 2), (65, .goto (-47), 3)]
theorem e205_55 : am_dec am_M205 q205_55 = true := by decide +kernel
theorem b205_55 {d : Nat} {Q : Option Value ⊕ Nat → am_Mem → Prop} {μ : am_Mem} {r0 : Nat} {x1 x2 x3 x4 x5 x6 : Int32}
    (k : Wp d 205 (18, [some (.ref r0), some (.int x1), some (.int x2), some (.int x3), some (.int x4), some (.int ((x5 + (Int32.ofInt 1)) &&& (262143 : Int32))), some (.int x6), none], [], μ) Q) :
    Wp d 205 (55, [some (.ref r0), some (.int x1), some (.int x2), some (.int x3), some (.int x4), some (.int x5), some (.int x6), none], [], μ) Q := wp_blk rfl e205_55 k
def q205_68 : List (Nat × Instr × Nat) := [(68, .iload_n 3, 1), (69, .ifCond .ne 5, 3)]
theorem e205_68 : am_dec am_M205 q205_68 = true := by decide +kernel
theorem b205_68 {d : Nat} {Q : Option Value ⊕ Nat → am_Mem → Prop} {μ : am_Mem} {r0 : Nat} {x1 x2 x3 x4 x5 : Int32} {o6 : Option Value}
    (k1 : ¬ x3 = 0 → Wp d 205 (74, [some (.ref r0), some (.int x1), some (.int x2), some (.int x3), some (.int x4), some (.int x5), o6, none], [], μ) Q) (k2 : ¬ (¬ x3 = 0) → Wp d 205 (72, [some (.ref r0), some (.int x1), some (.int x2), some (.int x3), some (.int x4), some (.int x5), o6, none], [], μ) Q) :
    Wp d 205 (68, [some (.ref r0), some (.int x1), some (.int x2), some (.int x3), some (.int x4), some (.int x5), o6, none], [], μ) Q := wp_blk rfl e205_68 (And.intro k1 k2)
def q205_72 : List (Nat × Instr × Nat) := [(72, .iconst (-1), 1)]
theorem e205_72 : am_dec am_M205 q205_72 = true := by decide +kernel
theorem e205_72_r : am_dec am_M205 [(73, .ireturn, 1)] = true := by decide +kernel
theorem b205_72 {d : Nat} {Q : Option Value ⊕ Nat → am_Mem → Prop} {μ : am_Mem} {r0 : Nat} {x1 x2 x3 x4 x5 : Int32} {o6 : Option Value}
    (k : Q (.inl (some (.int (Int32.ofInt (-1))))) μ) :
    Wp d 205 (72, [some (.ref r0), some (.int x1), some (.int x2), some (.int x3), some (.int x4), some (.int x5), o6, none], [], μ) Q := wp_blk rfl e205_72 (wp_ri (ty := .int) rfl e205_72_r rfl ⟨rfl, rfl⟩ k)
def q205_74 : List (Nat × Instr × Nat) := [(74, .aload_n 0, 1), (75, .getfield 99, 3), (78, .iload 5, 2), (80, .aload_n 0, 1), (81, .getfield 429, 3), (84, .iconst 1, 1), (85, .iadd, 1), (86, .iastore, 1), (87, .aload_n 0, 1), (88, .getfield 85, 3), (91, .aload_n 0, 1), (92, .getfield 429, 3), (95, .iload_n 1, 1), (96, .iastore, 1)]
theorem e205_74 : am_dec am_M205 q205_74 = true := by decide +kernel
theorem b205_74 {d : Nat} {Q : Option Value ⊕ Nat → am_Mem → Prop} {μ : am_Mem} {r0 : Nat} {x1 x2 x3 x4 x5 : Int32} {o6 : Option Value}
    (h1 : am_kd μ r0 = (1, 12))
    (h2 : ¬ am_F μ r0 47 = 15)
    (h3 : am_kd μ r0 = (1, 12))
    (h4 : (am_kd μ (am_F μ r0 47)).1 = 2)
    (h5 : ¬ (x5 < 0 ∨ (am_kd μ (am_F μ r0 47)).2 ≤ x5.toNatClampNeg))
    (h6 : am_kd (am_pA μ (am_F μ r0 47) x5.toNatClampNeg ((am_A μ r0 42) + (Int32.ofInt 1))) r0 = (1, 12))
    (h7 : ¬ am_F (am_pA μ (am_F μ r0 47) x5.toNatClampNeg ((am_A μ r0 42) + (Int32.ofInt 1))) r0 43 = 15)
    (h8 : am_kd (am_pA μ (am_F μ r0 47) x5.toNatClampNeg ((am_A μ r0 42) + (Int32.ofInt 1))) r0 = (1, 12))
    (h9 : (am_kd (am_pA μ (am_F μ r0 47) x5.toNatClampNeg ((am_A μ r0 42) + (Int32.ofInt 1))) (am_F (am_pA μ (am_F μ r0 47) x5.toNatClampNeg ((am_A μ r0 42) + (Int32.ofInt 1))) r0 43)).1 = 2)
    (h10 : ¬ ((am_A (am_pA μ (am_F μ r0 47) x5.toNatClampNeg ((am_A μ r0 42) + (Int32.ofInt 1))) r0 42) < 0 ∨ (am_kd (am_pA μ (am_F μ r0 47) x5.toNatClampNeg ((am_A μ r0 42) + (Int32.ofInt 1))) (am_F (am_pA μ (am_F μ r0 47) x5.toNatClampNeg ((am_A μ r0 42) + (Int32.ofInt 1))) r0 43)).2 ≤ (am_A (am_pA μ (am_F μ r0 47) x5.toNatClampNeg ((am_A μ r0 42) + (Int32.ofInt 1))) r0 42).toNatClampNeg))
    (k : Wp d 205 (97, [some (.ref r0), some (.int x1), some (.int x2), some (.int x3), some (.int x4), some (.int x5), o6, none], [], (am_pA (am_pA μ (am_F μ r0 47) x5.toNatClampNeg ((am_A μ r0 42) + (Int32.ofInt 1))) (am_F (am_pA μ (am_F μ r0 47) x5.toNatClampNeg ((am_A μ r0 42) + (Int32.ofInt 1))) r0 43) (am_A (am_pA μ (am_F μ r0 47) x5.toNatClampNeg ((am_A μ r0 42) + (Int32.ofInt 1))) r0 42).toNatClampNeg x1)) Q) :
    Wp d 205 (74, [some (.ref r0), some (.int x1), some (.int x2), some (.int x3), some (.int x4), some (.int x5), o6, none], [], μ) Q := wp_blk rfl e205_74 (And.intro h1 (And.intro h2 (And.intro h3 (And.intro h4 (And.intro h5 (And.intro h6 (And.intro h7 (And.intro h8 (And.intro h9 (And.intro h10 k))))))))))
def q205_97 : List (Nat × Instr × Nat) := [(97, .aload_n 0, 1), (98, .getfield 88, 3), (101, .aload_n 0, 1), (102, .getfield 429, 3), (105, .iload_n 2, 1), (106, .iastore, 1), (107, .aload_n 0, 1), (108, .getfield 26, 3), (111, .iload_n 1, 1), (112, .iaload, 1), (113, .iload_n 2, 1), (114, .ifCond .le 7, 3)]
theorem e205_97 : am_dec am_M205 q205_97 = true := by decide +kernel
theorem b205_97 {d : Nat} {Q : Option Value ⊕ Nat → am_Mem → Prop} {μ : am_Mem} {r0 : Nat} {x1 x2 x3 x4 x5 : Int32} {o6 : Option Value}
    (h1 : am_kd μ r0 = (1, 12))
    (h2 : ¬ am_F μ r0 44 = 15)
    (h3 : am_kd μ r0 = (1, 12))
    (h4 : (am_kd μ (am_F μ r0 44)).1 = 2)
    (h5 : ¬ ((am_A μ r0 42) < 0 ∨ (am_kd μ (am_F μ r0 44)).2 ≤ (am_A μ r0 42).toNatClampNeg))
    (h6 : am_kd (am_pA μ (am_F μ r0 44) (am_A μ r0 42).toNatClampNeg x2) r0 = (1, 12))
    (h7 : ¬ am_F (am_pA μ (am_F μ r0 44) (am_A μ r0 42).toNatClampNeg x2) r0 11 = 15)
    (h8 : (am_kd (am_pA μ (am_F μ r0 44) (am_A μ r0 42).toNatClampNeg x2) (am_F (am_pA μ (am_F μ r0 44) (am_A μ r0 42).toNatClampNeg x2) r0 11)).1 = 2 ∨ (am_kd (am_pA μ (am_F μ r0 44) (am_A μ r0 42).toNatClampNeg x2) (am_F (am_pA μ (am_F μ r0 44) (am_A μ r0 42).toNatClampNeg x2) r0 11)).1 = 8)
    (h9 : ¬ (x1 < 0 ∨ (am_kd (am_pA μ (am_F μ r0 44) (am_A μ r0 42).toNatClampNeg x2) (am_F (am_pA μ (am_F μ r0 44) (am_A μ r0 42).toNatClampNeg x2) r0 11)).2 ≤ x1.toNatClampNeg))
    (k1 : x2 ≤ 0 → Wp d 205 (121, [some (.ref r0), some (.int x1), some (.int x2), some (.int x3), some (.int x4), some (.int x5), o6, none], [.int (am_A (am_pA μ (am_F μ r0 44) (am_A μ r0 42).toNatClampNeg x2) (am_F (am_pA μ (am_F μ r0 44) (am_A μ r0 42).toNatClampNeg x2) r0 11) x1.toNatClampNeg)], (am_pA μ (am_F μ r0 44) (am_A μ r0 42).toNatClampNeg x2)) Q) (k2 : ¬ (x2 ≤ 0) → Wp d 205 (117, [some (.ref r0), some (.int x1), some (.int x2), some (.int x3), some (.int x4), some (.int x5), o6, none], [.int (am_A (am_pA μ (am_F μ r0 44) (am_A μ r0 42).toNatClampNeg x2) (am_F (am_pA μ (am_F μ r0 44) (am_A μ r0 42).toNatClampNeg x2) r0 11) x1.toNatClampNeg)], (am_pA μ (am_F μ r0 44) (am_A μ r0 42).toNatClampNeg x2)) Q) :
    Wp d 205 (97, [some (.ref r0), some (.int x1), some (.int x2), some (.int x3), some (.int x4), some (.int x5), o6, none], [], μ) Q := wp_blk rfl e205_97 (And.intro h1 (And.intro h2 (And.intro h3 (And.intro h4 (And.intro h5 (And.intro h6 (And.intro h7 (And.intro h8 (And.intro h9 (And.intro k1 k2))))))))))
def q205_117 : List (Nat × Instr × Nat) := [(117, .iconst 2, 1), (118, .goto 4, 3)]
theorem e205_117 : am_dec am_M205 q205_117 = true := by decide +kernel
theorem b205_117 {d : Nat} {Q : Option Value ⊕ Nat → am_Mem → Prop} {μ : am_Mem} {r0 : Nat} {x1 x2 x3 x4 x5 s0 : Int32} {o6 : Option Value}
    (k : Wp d 205 (122, [some (.ref r0), some (.int x1), some (.int x2), some (.int x3), some (.int x4), some (.int x5), o6, none], [.int (Int32.ofInt 2), .int s0], μ) Q) :
    Wp d 205 (117, [some (.ref r0), some (.int x1), some (.int x2), some (.int x3), some (.int x4), some (.int x5), o6, none], [.int s0], μ) Q := wp_blk rfl e205_117 k
def q205_121 : List (Nat × Instr × Nat) := [(121, .iconst 0, 1)]
theorem e205_121 : am_dec am_M205 q205_121 = true := by decide +kernel
theorem b205_121 {d : Nat} {Q : Option Value ⊕ Nat → am_Mem → Prop} {μ : am_Mem} {r0 : Nat} {x1 x2 x3 x4 x5 s0 : Int32} {o6 : Option Value}
    (k : Wp d 205 (122, [some (.ref r0), some (.int x1), some (.int x2), some (.int x3), some (.int x4), some (.int x5), o6, none], [.int (Int32.ofInt 0), .int s0], μ) Q) :
    Wp d 205 (121, [some (.ref r0), some (.int x1), some (.int x2), some (.int x3), some (.int x4), some (.int x5), o6, none], [.int s0], μ) Q := wp_blk rfl e205_121 k
def q205_122 : List (Nat × Instr × Nat) := [(122, .iadd, 1), (123, .istore 6, 2), (125, .iconst 0, 1), (126, .istore 7, 2)]
theorem e205_122 : am_dec am_M205 q205_122 = true := by decide +kernel
theorem b205_122 {d : Nat} {Q : Option Value ⊕ Nat → am_Mem → Prop} {μ : am_Mem} {r0 : Nat} {x1 x2 x3 x4 x5 s0 s1 : Int32} {o6 : Option Value}
    (k : Wp d 205 (128, [some (.ref r0), some (.int x1), some (.int x2), some (.int x3), some (.int x4), some (.int x5), some (.int (s0 + s1)), some (.int (Int32.ofInt 0))], [], μ) Q) :
    Wp d 205 (122, [some (.ref r0), some (.int x1), some (.int x2), some (.int x3), some (.int x4), some (.int x5), o6, none], [.int s1, .int s0], μ) Q := wp_blk rfl e205_122 k
def q205_128 : List (Nat × Instr × Nat) := [(128, .iload 7, 2), (130, .iload_n 2, 1), (131, .if_icmp .ge 31, 3)]
theorem e205_128 : am_dec am_M205 q205_128 = true := by decide +kernel
theorem b205_128 {d : Nat} {Q : Option Value ⊕ Nat → am_Mem → Prop} {μ : am_Mem} {r0 : Nat} {x1 x2 x3 x4 x5 x6 x7 : Int32}
    (k1 : x2 ≤ x7 → Wp d 205 (162, [some (.ref r0), some (.int x1), some (.int x2), some (.int x3), some (.int x4), some (.int x5), some (.int x6), some (.int x7)], [], μ) Q) (k2 : ¬ (x2 ≤ x7) → Wp d 205 (134, [some (.ref r0), some (.int x1), some (.int x2), some (.int x3), some (.int x4), some (.int x5), some (.int x6), some (.int x7)], [], μ) Q) :
    Wp d 205 (128, [some (.ref r0), some (.int x1), some (.int x2), some (.int x3), some (.int x4), some (.int x5), some (.int x6), some (.int x7)], [], μ) Q := wp_blk rfl e205_128 (And.intro k1 k2)
def q205_134 : List (Nat × Instr × Nat) := [(134, .iload 6, 2), (136, .iconst 1, 1), (137, .iadd, 1), (138, .aload_n 0, 1), (139, .getfield 95, 3), (142, .aload_n 0, 1), (143, .getfield 92, 3), (146, .iload 4, 2), (148, .iload 7, 2), (150, .iadd, 1), (151, .iaload, 1), (152, .iaload, 1), (153, .iadd, 1), (154, .istore 6, 2), (156, .iinc 7 1, 3), (159, .goto (-31), 3)]
theorem e205_134 : am_dec am_M205 q205_134 = true := by decide +kernel
theorem b205_134 {d : Nat} {Q : Option Value ⊕ Nat → am_Mem → Prop} {μ : am_Mem} {r0 : Nat} {x1 x2 x3 x4 x5 x6 x7 : Int32}
    (h1 : am_kd μ r0 = (1, 12))
    (h2 : ¬ am_F μ r0 46 = 15)
    (h3 : am_kd μ r0 = (1, 12))
    (h4 : ¬ am_F μ r0 45 = 15)
    (h5 : (am_kd μ (am_F μ r0 45)).1 = 2 ∨ (am_kd μ (am_F μ r0 45)).1 = 8)
    (h6 : ¬ ((x4 + x7) < 0 ∨ (am_kd μ (am_F μ r0 45)).2 ≤ (x4 + x7).toNatClampNeg))
    (h7 : (am_kd μ (am_F μ r0 46)).1 = 2 ∨ (am_kd μ (am_F μ r0 46)).1 = 8)
    (h8 : ¬ ((am_A μ (am_F μ r0 45) (x4 + x7).toNatClampNeg) < 0 ∨ (am_kd μ (am_F μ r0 46)).2 ≤ (am_A μ (am_F μ r0 45) (x4 + x7).toNatClampNeg).toNatClampNeg))
    (k : Wp d 205 (128, [some (.ref r0), some (.int x1), some (.int x2), some (.int x3), some (.int x4), some (.int x5), some (.int ((x6 + (Int32.ofInt 1)) + (am_A μ (am_F μ r0 46) (am_A μ (am_F μ r0 45) (x4 + x7).toNatClampNeg).toNatClampNeg))), some (.int (x7 + Int32.ofInt 1))], [], μ) Q) :
    Wp d 205 (134, [some (.ref r0), some (.int x1), some (.int x2), some (.int x3), some (.int x4), some (.int x5), some (.int x6), some (.int x7)], [], μ) Q := wp_blk rfl e205_134 (And.intro h1 (And.intro h2 (And.intro h3 (And.intro h4 (And.intro h5 (And.intro h6 (And.intro h7 (And.intro h8 k))))))))
def q205_162 : List (Nat × Instr × Nat) := [(162, .aload_n 0, 1), (163, .getfield 95, 3), (166, .aload_n 0, 1), (167, .getfield 429, 3), (170, .iload 6, 2), (172, .iastore, 1), (173, .aload_n 0, 1), (174, .dup, 1), (175, .getfield 429, 3), (178, .iconst 1, 1), (179, .iadd, 1), (180, .putfield 429, 3)]
theorem e205_162 : am_dec am_M205 q205_162 = true := by decide +kernel
theorem b205_162 {d : Nat} {Q : Option Value ⊕ Nat → am_Mem → Prop} {μ : am_Mem} {r0 : Nat} {x1 x2 x3 x4 x5 x6 x7 : Int32}
    (h1 : am_kd μ r0 = (1, 12))
    (h2 : ¬ am_F μ r0 46 = 15)
    (h3 : am_kd μ r0 = (1, 12))
    (h4 : (am_kd μ (am_F μ r0 46)).1 = 2)
    (h5 : ¬ ((am_A μ r0 42) < 0 ∨ (am_kd μ (am_F μ r0 46)).2 ≤ (am_A μ r0 42).toNatClampNeg))
    (h6 : am_kd (am_pA μ (am_F μ r0 46) (am_A μ r0 42).toNatClampNeg x6) r0 = (1, 12))
    (h7 : am_kd (am_pA μ (am_F μ r0 46) (am_A μ r0 42).toNatClampNeg x6) r0 = (1, 12))
    (k : Wp d 205 (183, [some (.ref r0), some (.int x1), some (.int x2), some (.int x3), some (.int x4), some (.int x5), some (.int x6), some (.int x7)], [], (am_pA (am_pA μ (am_F μ r0 46) (am_A μ r0 42).toNatClampNeg x6) r0 42 ((am_A (am_pA μ (am_F μ r0 46) (am_A μ r0 42).toNatClampNeg x6) r0 42) + (Int32.ofInt 1)))) Q) :
    Wp d 205 (162, [some (.ref r0), some (.int x1), some (.int x2), some (.int x3), some (.int x4), some (.int x5), some (.int x6), some (.int x7)], [], μ) Q := wp_blk rfl e205_162 (And.intro h1 (And.intro h2 (And.intro h3 (And.intro h4 (And.intro h5 (And.intro h6 (And.intro h7 (And.intro ⟨rfl, rfl⟩ k))))))))
def q205_183 : List (Nat × Instr × Nat) := [(183, .aload_n 0, 1), (184, .getfield 429, 3), (187, .iconst 1, 1), (188, .isub, 1)]
theorem e205_183 : am_dec am_M205 q205_183 = true := by decide +kernel
theorem e205_183_r : am_dec am_M205 [(189, .ireturn, 1)] = true := by decide +kernel
theorem b205_183 {d : Nat} {Q : Option Value ⊕ Nat → am_Mem → Prop} {μ : am_Mem} {r0 : Nat} {x1 x2 x3 x4 x5 x6 x7 : Int32}
    (h1 : am_kd μ r0 = (1, 12))
    (k : Q (.inl (some (.int ((am_A μ r0 42) - (Int32.ofInt 1))))) μ) :
    Wp d 205 (183, [some (.ref r0), some (.int x1), some (.int x2), some (.int x3), some (.int x4), some (.int x5), some (.int x6), some (.int x7)], [], μ) Q := wp_blk rfl e205_183 (And.intro h1 (wp_ri (ty := .int) rfl e205_183_r rfl ⟨rfl, rfl⟩ k))
/-! RuleSheetsModel.spot(III)I -/
def q206_0 : List (Nat × Instr × Nat) := [(0, .iload_n 1, 1), (1, .bipush 31, 2), (3, .imul, 1), (4, .iload_n 2, 1), (5, .iadd, 1), (6, .istore 4, 2), (8, .iconst 0, 1), (9, .istore 5, 2)]
theorem e206_0 : am_dec am_M206 q206_0 = true := by decide +kernel
theorem b206_0 {d : Nat} {Q : Option Value ⊕ Nat → am_Mem → Prop} {μ : am_Mem} {r0 : Nat} {x1 x2 x3 : Int32}
    (k : Wp d 206 (11, [some (.ref r0), some (.int x1), some (.int x2), some (.int x3), some (.int ((x1 * ((Int8.ofInt 31).toInt32)) + x2)), some (.int (Int32.ofInt 0))], [], μ) Q) :
    Wp d 206 (0, [some (.ref r0), some (.int x1), some (.int x2), some (.int x3), none, none], [], μ) Q := wp_blk rfl e206_0 k
def q206_11 : List (Nat × Instr × Nat) := [(11, .iload 5, 2), (13, .iload_n 2, 1), (14, .if_icmp .ge 27, 3)]
theorem e206_11 : am_dec am_M206 q206_11 = true := by decide +kernel
theorem b206_11 {d : Nat} {Q : Option Value ⊕ Nat → am_Mem → Prop} {μ : am_Mem} {r0 : Nat} {x1 x2 x3 x4 x5 : Int32}
    (k1 : x2 ≤ x5 → Wp d 206 (41, [some (.ref r0), some (.int x1), some (.int x2), some (.int x3), some (.int x4), some (.int x5)], [], μ) Q) (k2 : ¬ (x2 ≤ x5) → Wp d 206 (17, [some (.ref r0), some (.int x1), some (.int x2), some (.int x3), some (.int x4), some (.int x5)], [], μ) Q) :
    Wp d 206 (11, [some (.ref r0), some (.int x1), some (.int x2), some (.int x3), some (.int x4), some (.int x5)], [], μ) Q := wp_blk rfl e206_11 (And.intro k1 k2)
def q206_17 : List (Nat × Instr × Nat) := [(17, .iload 4, 2), (19, .ldc_w 427, 3), (22, .imul, 1), (23, .aload_n 0, 1), (24, .getfield 92, 3), (27, .iload_n 3, 1), (28, .iload 5, 2), (30, .iadd, 1), (31, .iaload, 1), (32, .iadd, 1), (33, .istore 4, 2), (35, .iinc 5 1, 3), (38, .goto (-27), 3)]
theorem e206_17 : am_dec am_M206 q206_17 = true := by decide +kernel
theorem b206_17 {d : Nat} {Q : Option Value ⊕ Nat → am_Mem → Prop} {μ : am_Mem} {r0 : Nat} {x1 x2 x3 x4 x5 : Int32}
    (h1 : am_kd μ r0 = (1, 12))
    (h2 : ¬ am_F μ r0 45 = 15)
    (h3 : (am_kd μ (am_F μ r0 45)).1 = 2 ∨ (am_kd μ (am_F μ r0 45)).1 = 8)
    (h4 : ¬ ((x3 + x5) < 0 ∨ (am_kd μ (am_F μ r0 45)).2 ≤ (x3 + x5).toNatClampNeg))
    (k : Wp d 206 (11, [some (.ref r0), some (.int x1), some (.int x2), some (.int x3), some (.int ((x4 * (1000003 : Int32)) + (am_A μ (am_F μ r0 45) (x3 + x5).toNatClampNeg))), some (.int (x5 + Int32.ofInt 1))], [], μ) Q) :
    Wp d 206 (17, [some (.ref r0), some (.int x1), some (.int x2), some (.int x3), some (.int x4), some (.int x5)], [], μ) Q := wp_blk rfl e206_17 (And.intro h1 (And.intro h2 (And.intro h3 (And.intro h4 k))))
def q206_41 : List (Nat × Instr × Nat) := [(41, .iload 4, 2), (43, .iload 4, 2), (45, .bipush 15, 2), (47, .iushr, 1), (48, .ixor, 1), (49, .istore 4, 2), (51, .iload 4, 2), (53, .ldc_w 428, 3), (56, .iand, 1)]
theorem e206_41 : am_dec am_M206 q206_41 = true := by decide +kernel
theorem e206_41_r : am_dec am_M206 [(57, .ireturn, 1)] = true := by decide +kernel
theorem b206_41 {d : Nat} {Q : Option Value ⊕ Nat → am_Mem → Prop} {μ : am_Mem} {r0 : Nat} {x1 x2 x3 x4 x5 : Int32}
    (k : Q (.inl (some (.int ((x4 ^^^ ((x4.toUInt32 >>> (((Int8.ofInt 15).toInt32).toUInt32 &&& Int32.toUInt32 31)).toInt32)) &&& (262143 : Int32))))) μ) :
    Wp d 206 (41, [some (.ref r0), some (.int x1), some (.int x2), some (.int x3), some (.int x4), some (.int x5)], [], μ) Q := wp_blk rfl e206_41 (wp_ri (ty := .int) rfl e206_41_r rfl ⟨rfl, rfl⟩ k)
/-! RuleSheetsModel.isTerm(IIII)Z -/
def q207_0 : List (Nat × Instr × Nat) := [(0, .aload_n 0, 1), (1, .getfield 85, 3), (4, .iload_n 1, 1), (5, .iaload, 1), (6, .iload_n 2, 1), (7, .if_icmp .ne 17, 3)]
theorem e207_0 : am_dec am_M207 q207_0 = true := by decide +kernel
theorem b207_0 {d : Nat} {Q : Option Value ⊕ Nat → am_Mem → Prop} {μ : am_Mem} {r0 : Nat} {x1 x2 x3 x4 : Int32}
    (h1 : am_kd μ r0 = (1, 12))
    (h2 : ¬ am_F μ r0 43 = 15)
    (h3 : (am_kd μ (am_F μ r0 43)).1 = 2 ∨ (am_kd μ (am_F μ r0 43)).1 = 8)
    (h4 : ¬ (x1 < 0 ∨ (am_kd μ (am_F μ r0 43)).2 ≤ x1.toNatClampNeg))
    (k1 : ¬ (am_A μ (am_F μ r0 43) x1.toNatClampNeg) = x2 → Wp d 207 (24, [some (.ref r0), some (.int x1), some (.int x2), some (.int x3), some (.int x4), none, none], [], μ) Q) (k2 : ¬ (¬ (am_A μ (am_F μ r0 43) x1.toNatClampNeg) = x2) → Wp d 207 (10, [some (.ref r0), some (.int x1), some (.int x2), some (.int x3), some (.int x4), none, none], [], μ) Q) :
    Wp d 207 (0, [some (.ref r0), some (.int x1), some (.int x2), some (.int x3), some (.int x4), none, none], [], μ) Q := wp_blk rfl e207_0 (And.intro h1 (And.intro h2 (And.intro h3 (And.intro h4 (And.intro k1 k2)))))
def q207_10 : List (Nat × Instr × Nat) := [(10, .aload_n 0, 1), (11, .getfield 88, 3), (14, .iload_n 1, 1), (15, .iaload, 1), (16, .iload_n 3, 1), (17, .if_icmp .ne 7, 3)]
theorem e207_10 : am_dec am_M207 q207_10 = true := by decide +kernel
theorem b207_10 {d : Nat} {Q : Option Value ⊕ Nat → am_Mem → Prop} {μ : am_Mem} {r0 : Nat} {x1 x2 x3 x4 : Int32}
    (h1 : am_kd μ r0 = (1, 12))
    (h2 : ¬ am_F μ r0 44 = 15)
    (h3 : (am_kd μ (am_F μ r0 44)).1 = 2 ∨ (am_kd μ (am_F μ r0 44)).1 = 8)
    (h4 : ¬ (x1 < 0 ∨ (am_kd μ (am_F μ r0 44)).2 ≤ x1.toNatClampNeg))
    (k1 : ¬ (am_A μ (am_F μ r0 44) x1.toNatClampNeg) = x3 → Wp d 207 (24, [some (.ref r0), some (.int x1), some (.int x2), some (.int x3), some (.int x4), none, none], [], μ) Q) (k2 : ¬ (¬ (am_A μ (am_F μ r0 44) x1.toNatClampNeg) = x3) → Wp d 207 (20, [some (.ref r0), some (.int x1), some (.int x2), some (.int x3), some (.int x4), none, none], [], μ) Q) :
    Wp d 207 (10, [some (.ref r0), some (.int x1), some (.int x2), some (.int x3), some (.int x4), none, none], [], μ) Q := wp_blk rfl e207_10 (And.intro h1 (And.intro h2 (And.intro h3 (And.intro h4 (And.intro k1 k2)))))
def q207_20 : List (Nat × Instr × Nat) := [(20, .iconst 1, 1), (21, .goto 4, 3)]
theorem e207_20 : am_dec am_M207 q207_20 = true := by decide +kernel
theorem b207_20 {d : Nat} {Q : Option Value ⊕ Nat → am_Mem → Prop} {μ : am_Mem} {r0 : Nat} {x1 x2 x3 x4 : Int32}
    (k : Wp d 207 (25, [some (.ref r0), some (.int x1), some (.int x2), some (.int x3), some (.int x4), none, none], [.int (Int32.ofInt 1)], μ) Q) :
    Wp d 207 (20, [some (.ref r0), some (.int x1), some (.int x2), some (.int x3), some (.int x4), none, none], [], μ) Q := wp_blk rfl e207_20 k
def q207_24 : List (Nat × Instr × Nat) := [(24, .iconst 0, 1)]
theorem e207_24 : am_dec am_M207 q207_24 = true := by decide +kernel
theorem b207_24 {d : Nat} {Q : Option Value ⊕ Nat → am_Mem → Prop} {μ : am_Mem} {r0 : Nat} {x1 x2 x3 x4 : Int32}
    (k : Wp d 207 (25, [some (.ref r0), some (.int x1), some (.int x2), some (.int x3), some (.int x4), none, none], [.int (Int32.ofInt 0)], μ) Q) :
    Wp d 207 (24, [some (.ref r0), some (.int x1), some (.int x2), some (.int x3), some (.int x4), none, none], [], μ) Q := wp_blk rfl e207_24 k
def q207_25 : List (Nat × Instr × Nat) := [(25, .istore 5, 2), (27, .iconst 0, 1), (28, .istore 6, 2)]
theorem e207_25 : am_dec am_M207 q207_25 = true := by decide +kernel
theorem b207_25 {d : Nat} {Q : Option Value ⊕ Nat → am_Mem → Prop} {μ : am_Mem} {r0 : Nat} {x1 x2 x3 x4 s0 : Int32}
    (k : Wp d 207 (30, [some (.ref r0), some (.int x1), some (.int x2), some (.int x3), some (.int x4), some (.int s0), some (.int (Int32.ofInt 0))], [], μ) Q) :
    Wp d 207 (25, [some (.ref r0), some (.int x1), some (.int x2), some (.int x3), some (.int x4), none, none], [.int s0], μ) Q := wp_blk rfl e207_25 k
def q207_30 : List (Nat × Instr × Nat) := [(30, .iload 6, 2), (32, .iload_n 3, 1), (33, .if_icmp .ge 45, 3)]
theorem e207_30 : am_dec am_M207 q207_30 = true := by decide +kernel
theorem b207_30 {d : Nat} {Q : Option Value ⊕ Nat → am_Mem → Prop} {μ : am_Mem} {r0 : Nat} {x1 x2 x3 x4 x5 x6 : Int32}
    (k1 : x3 ≤ x6 → Wp d 207 (78, [some (.ref r0), some (.int x1), some (.int x2), some (.int x3), some (.int x4), some (.int x5), some (.int x6)], [], μ) Q) (k2 : ¬ (x3 ≤ x6) → Wp d 207 (36, [some (.ref r0), some (.int x1), some (.int x2), some (.int x3), some (.int x4), some (.int x5), some (.int x6)], [], μ) Q) :
    Wp d 207 (30, [some (.ref r0), some (.int x1), some (.int x2), some (.int x3), some (.int x4), some (.int x5), some (.int x6)], [], μ) Q := wp_blk rfl e207_30 (And.intro k1 k2)
def q207_36 : List (Nat × Instr × Nat) := [(36, .iload 5, 2), (38, .ifCond .eq 40, 3)]
theorem e207_36 : am_dec am_M207 q207_36 = true := by decide +kernel
theorem b207_36 {d : Nat} {Q : Option Value ⊕ Nat → am_Mem → Prop} {μ : am_Mem} {r0 : Nat} {x1 x2 x3 x4 x5 x6 : Int32}
    (k1 : x5 = 0 → Wp d 207 (78, [some (.ref r0), some (.int x1), some (.int x2), some (.int x3), some (.int x4), some (.int x5), some (.int x6)], [], μ) Q) (k2 : ¬ (x5 = 0) → Wp d 207 (41, [some (.ref r0), some (.int x1), some (.int x2), some (.int x3), some (.int x4), some (.int x5), some (.int x6)], [], μ) Q) :
    Wp d 207 (36, [some (.ref r0), some (.int x1), some (.int x2), some (.int x3), some (.int x4), some (.int x5), some (.int x6)], [], μ) Q := wp_blk rfl e207_36 (And.intro k1 k2)
def q207_41 : List (Nat × Instr × Nat) := [(41, .aload_n 0, 1), (42, .getfield 92, 3), (45, .iconst 4, 1), (46, .iload_n 1, 1), (47, .imul, 1), (48, .iload 6, 2), (50, .iadd, 1), (51, .iaload, 1), (52, .aload_n 0, 1), (53, .getfield 92, 3), (56, .iload 4, 2), (58, .iload 6, 2), (60, .iadd, 1), (61, .iaload, 1), (62, .if_icmp .ne 7, 3)]
theorem e207_41 : am_dec am_M207 q207_41 = true := by decide +kernel
theorem b207_41 {d : Nat} {Q : Option Value ⊕ Nat → am_Mem → Prop} {μ : am_Mem} {r0 : Nat} {x1 x2 x3 x4 x5 x6 : Int32}
    (h1 : am_kd μ r0 = (1, 12))
    (h2 : ¬ am_F μ r0 45 = 15)
    (h3 : (am_kd μ (am_F μ r0 45)).1 = 2 ∨ (am_kd μ (am_F μ r0 45)).1 = 8)
    (h4 : ¬ ((((Int32.ofInt 4) * x1) + x6) < 0 ∨ (am_kd μ (am_F μ r0 45)).2 ≤ (((Int32.ofInt 4) * x1) + x6).toNatClampNeg))
    (h5 : am_kd μ r0 = (1, 12))
    (h6 : ¬ am_F μ r0 45 = 15)
    (h7 : (am_kd μ (am_F μ r0 45)).1 = 2 ∨ (am_kd μ (am_F μ r0 45)).1 = 8)
    (h8 : ¬ ((x4 + x6) < 0 ∨ (am_kd μ (am_F μ r0 45)).2 ≤ (x4 + x6).toNatClampNeg))
    (k1 : ¬ (am_A μ (am_F μ r0 45) (((Int32.ofInt 4) * x1) + x6).toNatClampNeg) = (am_A μ (am_F μ r0 45) (x4 + x6).toNatClampNeg) → Wp d 207 (69, [some (.ref r0), some (.int x1), some (.int x2), some (.int x3), some (.int x4), some (.int x5), some (.int x6)], [], μ) Q) (k2 : ¬ (¬ (am_A μ (am_F μ r0 45) (((Int32.ofInt 4) * x1) + x6).toNatClampNeg) = (am_A μ (am_F μ r0 45) (x4 + x6).toNatClampNeg)) → Wp d 207 (65, [some (.ref r0), some (.int x1), some (.int x2), some (.int x3), some (.int x4), some (.int x5), some (.int x6)], [], μ) Q) :
    Wp d 207 (41, [some (.ref r0), some (.int x1), some (.int x2), some (.int x3), some (.int x4), some (.int x5), some (.int x6)], [], μ) Q := wp_blk rfl e207_41 (And.intro h1 (And.intro h2 (And.intro h3 (And.intro h4 (And.intro h5 (And.intro h6 (And.intro h7 (And.intro h8 (And.intro k1 k2)))))))))
def q207_65 : List (Nat × Instr × Nat) := [(65, .iconst 1, 1), (66, .goto 4, 3)]
theorem e207_65 : am_dec am_M207 q207_65 = true := by decide +kernel
theorem b207_65 {d : Nat} {Q : Option Value ⊕ Nat → am_Mem → Prop} {μ : am_Mem} {r0 : Nat} {x1 x2 x3 x4 x5 x6 : Int32}
    (k : Wp d 207 (70, [some (.ref r0), some (.int x1), some (.int x2), some (.int x3), some (.int x4), some (.int x5), some (.int x6)], [.int (Int32.ofInt 1)], μ) Q) :
    Wp d 207 (65, [some (.ref r0), some (.int x1), some (.int x2), some (.int x3), some (.int x4), some (.int x5), some (.int x6)], [], μ) Q := wp_blk rfl e207_65 k
def q207_69 : List (Nat × Instr × Nat) := [(69, .iconst 0, 1)]
theorem e207_69 : am_dec am_M207 q207_69 = true := by decide +kernel
theorem b207_69 {d : Nat} {Q : Option Value ⊕ Nat → am_Mem → Prop} {μ : am_Mem} {r0 : Nat} {x1 x2 x3 x4 x5 x6 : Int32}
    (k : Wp d 207 (70, [some (.ref r0), some (.int x1), some (.int x2), some (.int x3), some (.int x4), some (.int x5), some (.int x6)], [.int (Int32.ofInt 0)], μ) Q) :
    Wp d 207 (69, [some (.ref r0), some (.int x1), some (.int x2), some (.int x3), some (.int x4), some (.int x5), some (.int x6)], [], μ) Q := wp_blk rfl e207_69 k
def q207_70 : List (Nat × Instr × Nat) := [(70, .istore 5, 2), (72, .iinc 6 1, 3), (75, .goto (-45), 3)]
theorem e207_70 : am_dec am_M207 q207_70 = true := by decide +kernel
theorem b207_70 {d : Nat} {Q : Option Value ⊕ Nat → am_Mem → Prop} {μ : am_Mem} {r0 : Nat} {x1 x2 x3 x4 x5 x6 s0 : Int32}
    (k : Wp d 207 (30, [some (.ref r0), some (.int x1), some (.int x2), some (.int x3), some (.int x4), some (.int s0), some (.int (x6 + Int32.ofInt 1))], [], μ) Q) :
    Wp d 207 (70, [some (.ref r0), some (.int x1), some (.int x2), some (.int x3), some (.int x4), some (.int x5), some (.int x6)], [.int s0], μ) Q := wp_blk rfl e207_70 k
def q207_78 : List (Nat × Instr × Nat) := [(78, .iload 5, 2)]
theorem e207_78 : am_dec am_M207 q207_78 = true := by decide +kernel
theorem e207_78_r : am_dec am_M207 [(80, .ireturn, 1)] = true := by decide +kernel
theorem b207_78 {d : Nat} {Q : Option Value ⊕ Nat → am_Mem → Prop} {μ : am_Mem} {r0 : Nat} {x1 x2 x3 x4 x5 x6 : Int32}
    (hn : narrow .boolean (.int x5) = .int x5 ∧ fits .boolean (.int x5) = true)
    (k : Q (.inl (some (.int x5))) μ) :
    Wp d 207 (78, [some (.ref r0), some (.int x1), some (.int x2), some (.int x3), some (.int x4), some (.int x5), some (.int x6)], [], μ) Q := wp_blk rfl e207_78 (wp_ri (ty := .boolean) rfl e207_78_r rfl hn k)
/-! RuleSheetsModel.write(I)V -/
def q208_0 : List (Nat × Instr × Nat) := [(0, .aload_n 0, 1), (1, .iconst 0, 1), (2, .putfield 522, 3), (5, .iconst 1, 1), (6, .istore_n 2, 1), (7, .aload_n 0, 1), (8, .getfield 138, 3), (11, .iconst 0, 1), (12, .iload_n 1, 1), (13, .iastore, 1)]
theorem e208_0 : am_dec am_M208 q208_0 = true := by decide +kernel
theorem b208_0 {d : Nat} {Q : Option Value ⊕ Nat → am_Mem → Prop} {μ : am_Mem} {r0 : Nat} {x1 : Int32}
    (h1 : am_kd μ r0 = (1, 12))
    (h2 : am_kd (am_pA μ r0 80 (Int32.ofInt 0)) r0 = (1, 12))
    (h3 : ¬ am_F (am_pA μ r0 80 (Int32.ofInt 0)) r0 64 = 15)
    (h4 : (am_kd (am_pA μ r0 80 (Int32.ofInt 0)) (am_F (am_pA μ r0 80 (Int32.ofInt 0)) r0 64)).1 = 2)
    (h5 : ¬ ((Int32.ofInt 0) < 0 ∨ (am_kd (am_pA μ r0 80 (Int32.ofInt 0)) (am_F (am_pA μ r0 80 (Int32.ofInt 0)) r0 64)).2 ≤ (Int32.ofInt 0).toNatClampNeg))
    (k : Wp d 208 (14, [some (.ref r0), some (.int x1), some (.int (Int32.ofInt 1)), none, none], [], (am_pA (am_pA μ r0 80 (Int32.ofInt 0)) (am_F (am_pA μ r0 80 (Int32.ofInt 0)) r0 64) (Int32.ofInt 0).toNatClampNeg x1)) Q) :
    Wp d 208 (0, [some (.ref r0), some (.int x1), none, none, none], [], μ) Q := wp_blk rfl e208_0 (And.intro h1 (And.intro ⟨rfl, rfl⟩ (And.intro h2 (And.intro h3 (And.intro h4 (And.intro h5 k))))))
def q208_14 : List (Nat × Instr × Nat) := [(14, .iload_n 2, 1), (15, .ifCond .le 207, 3)]
theorem e208_14 : am_dec am_M208 q208_14 = true := by decide +kernel
theorem b208_14 {d : Nat} {Q : Option Value ⊕ Nat → am_Mem → Prop} {μ : am_Mem} {r0 : Nat} {x1 x2 : Int32} {o3 o4 : Option Value}
    (k1 : x2 ≤ 0 → Wp d 208 (222, [some (.ref r0), some (.int x1), some (.int x2), o3, o4], [], μ) Q) (k2 : ¬ (x2 ≤ 0) → Wp d 208 (18, [some (.ref r0), some (.int x1), some (.int x2), o3, o4], [], μ) Q) :
    Wp d 208 (14, [some (.ref r0), some (.int x1), some (.int x2), o3, o4], [], μ) Q := wp_blk rfl e208_14 (And.intro k1 k2)
def q208_18 : List (Nat × Instr × Nat) := [(18, .iinc 2 (-1), 3), (21, .aload_n 0, 1), (22, .getfield 138, 3), (25, .iload_n 2, 1), (26, .iaload, 1), (27, .istore_n 3, 1), (28, .iload_n 3, 1), (29, .ifCond .ge 27, 3)]
theorem e208_18 : am_dec am_M208 q208_18 = true := by decide +kernel
theorem b208_18 {d : Nat} {Q : Option Value ⊕ Nat → am_Mem → Prop} {μ : am_Mem} {r0 : Nat} {x1 x2 : Int32} {o3 o4 : Option Value}
    (h1 : am_kd μ r0 = (1, 12))
    (h2 : ¬ am_F μ r0 64 = 15)
    (h3 : (am_kd μ (am_F μ r0 64)).1 = 2 ∨ (am_kd μ (am_F μ r0 64)).1 = 8)
    (h4 : ¬ ((x2 + Int32.ofInt (-1)) < 0 ∨ (am_kd μ (am_F μ r0 64)).2 ≤ (x2 + Int32.ofInt (-1)).toNatClampNeg))
    (k1 : 0 ≤ (am_A μ (am_F μ r0 64) (x2 + Int32.ofInt (-1)).toNatClampNeg) → Wp d 208 (56, [some (.ref r0), some (.int x1), some (.int (x2 + Int32.ofInt (-1))), some (.int (am_A μ (am_F μ r0 64) (x2 + Int32.ofInt (-1)).toNatClampNeg)), o4], [], μ) Q) (k2 : ¬ (0 ≤ (am_A μ (am_F μ r0 64) (x2 + Int32.ofInt (-1)).toNatClampNeg)) → Wp d 208 (32, [some (.ref r0), some (.int x1), some (.int (x2 + Int32.ofInt (-1))), some (.int (am_A μ (am_F μ r0 64) (x2 + Int32.ofInt (-1)).toNatClampNeg)), o4], [], μ) Q) :
    Wp d 208 (18, [some (.ref r0), some (.int x1), some (.int x2), o3, o4], [], μ) Q := wp_blk rfl e208_18 (And.intro h1 (And.intro h2 (And.intro h3 (And.intro h4 (And.intro k1 k2)))))
def q208_32 : List (Nat × Instr × Nat) := [(32, .aload_n 0, 1), (33, .getfield 171, 3), (36, .aload_n 0, 1), (37, .getfield 522, 3), (40, .iload_n 3, 1), (41, .ineg, 1), (42, .iastore, 1), (43, .aload_n 0, 1), (44, .dup, 1), (45, .getfield 522, 3), (48, .iconst 1, 1), (49, .iadd, 1), (50, .putfield 522, 3)]
theorem e208_32 : am_dec am_M208 q208_32 = true := by decide +kernel
theorem b208_32 {d : Nat} {Q : Option Value ⊕ Nat → am_Mem → Prop} {μ : am_Mem} {r0 : Nat} {x1 x2 x3 : Int32} {o4 : Option Value}
    (h1 : am_kd μ r0 = (1, 12))
    (h2 : ¬ am_F μ r0 79 = 15)
    (h3 : am_kd μ r0 = (1, 12))
    (h4 : (am_kd μ (am_F μ r0 79)).1 = 2)
    (h5 : ¬ ((am_A μ r0 80) < 0 ∨ (am_kd μ (am_F μ r0 79)).2 ≤ (am_A μ r0 80).toNatClampNeg))
    (h6 : am_kd (am_pA μ (am_F μ r0 79) (am_A μ r0 80).toNatClampNeg (-x3)) r0 = (1, 12))
    (h7 : am_kd (am_pA μ (am_F μ r0 79) (am_A μ r0 80).toNatClampNeg (-x3)) r0 = (1, 12))
    (k : Wp d 208 (53, [some (.ref r0), some (.int x1), some (.int x2), some (.int x3), o4], [], (am_pA (am_pA μ (am_F μ r0 79) (am_A μ r0 80).toNatClampNeg (-x3)) r0 80 ((am_A (am_pA μ (am_F μ r0 79) (am_A μ r0 80).toNatClampNeg (-x3)) r0 80) + (Int32.ofInt 1)))) Q) :
    Wp d 208 (32, [some (.ref r0), some (.int x1), some (.int x2), some (.int x3), o4], [], μ) Q := wp_blk rfl e208_32 (And.intro h1 (And.intro h2 (And.intro h3 (And.intro h4 (And.intro h5 (And.intro h6 (And.intro h7 (And.intro ⟨rfl, rfl⟩ k))))))))
def q208_53 : List (Nat × Instr × Nat) := [(53, .goto (-39), 3)]
theorem e208_53 : am_dec am_M208 q208_53 = true := by decide +kernel
theorem b208_53 {d : Nat} {Q : Option Value ⊕ Nat → am_Mem → Prop} {μ : am_Mem} {r0 : Nat} {x1 x2 x3 : Int32} {o4 : Option Value}
    (k : Wp d 208 (14, [some (.ref r0), some (.int x1), some (.int x2), some (.int x3), o4], [], μ) Q) :
    Wp d 208 (53, [some (.ref r0), some (.int x1), some (.int x2), some (.int x3), o4], [], μ) Q := wp_blk rfl e208_53 k
def q208_56 : List (Nat × Instr × Nat) := [(56, .aload_n 0, 1), (57, .getfield 88, 3), (60, .iload_n 3, 1), (61, .iaload, 1), (62, .ifCond .le 14, 3)]
theorem e208_56 : am_dec am_M208 q208_56 = true := by decide +kernel
theorem b208_56 {d : Nat} {Q : Option Value ⊕ Nat → am_Mem → Prop} {μ : am_Mem} {r0 : Nat} {x1 x2 x3 : Int32} {o4 : Option Value}
    (h1 : am_kd μ r0 = (1, 12))
    (h2 : ¬ am_F μ r0 44 = 15)
    (h3 : (am_kd μ (am_F μ r0 44)).1 = 2 ∨ (am_kd μ (am_F μ r0 44)).1 = 8)
    (h4 : ¬ (x3 < 0 ∨ (am_kd μ (am_F μ r0 44)).2 ≤ x3.toNatClampNeg))
    (k1 : (am_A μ (am_F μ r0 44) x3.toNatClampNeg) ≤ 0 → Wp d 208 (76, [some (.ref r0), some (.int x1), some (.int x2), some (.int x3), o4], [], μ) Q) (k2 : ¬ ((am_A μ (am_F μ r0 44) x3.toNatClampNeg) ≤ 0) → Wp d 208 (65, [some (.ref r0), some (.int x1), some (.int x2), some (.int x3), o4], [], μ) Q) :
    Wp d 208 (56, [some (.ref r0), some (.int x1), some (.int x2), some (.int x3), o4], [], μ) Q := wp_blk rfl e208_56 (And.intro h1 (And.intro h2 (And.intro h3 (And.intro h4 (And.intro k1 k2)))))
def q208_65 : List (Nat × Instr × Nat) := [(65, .aload_n 0, 1), (66, .getfield 138, 3), (69, .iload_n 2, 1), (70, .bipush (-41), 2), (72, .iastore, 1), (73, .iinc 2 1, 3)]
theorem e208_65 : am_dec am_M208 q208_65 = true := by decide +kernel
theorem b208_65 {d : Nat} {Q : Option Value ⊕ Nat → am_Mem → Prop} {μ : am_Mem} {r0 : Nat} {x1 x2 x3 : Int32} {o4 : Option Value}
    (h1 : am_kd μ r0 = (1, 12))
    (h2 : ¬ am_F μ r0 64 = 15)
    (h3 : (am_kd μ (am_F μ r0 64)).1 = 2)
    (h4 : ¬ (x2 < 0 ∨ (am_kd μ (am_F μ r0 64)).2 ≤ x2.toNatClampNeg))
    (k : Wp d 208 (76, [some (.ref r0), some (.int x1), some (.int (x2 + Int32.ofInt 1)), some (.int x3), o4], [], (am_pA μ (am_F μ r0 64) x2.toNatClampNeg ((Int8.ofInt (-41)).toInt32))) Q) :
    Wp d 208 (65, [some (.ref r0), some (.int x1), some (.int x2), some (.int x3), o4], [], μ) Q := wp_blk rfl e208_65 (And.intro h1 (And.intro h2 (And.intro h3 (And.intro h4 k))))
def q208_76 : List (Nat × Instr × Nat) := [(76, .aload_n 0, 1), (77, .getfield 88, 3), (80, .iload_n 3, 1), (81, .iaload, 1), (82, .iconst 1, 1), (83, .isub, 1), (84, .istore 4, 2)]
theorem e208_76 : am_dec am_M208 q208_76 = true := by decide +kernel
theorem b208_76 {d : Nat} {Q : Option Value ⊕ Nat → am_Mem → Prop} {μ : am_Mem} {r0 : Nat} {x1 x2 x3 : Int32} {o4 : Option Value}
    (h1 : am_kd μ r0 = (1, 12))
    (h2 : ¬ am_F μ r0 44 = 15)
    (h3 : (am_kd μ (am_F μ r0 44)).1 = 2 ∨ (am_kd μ (am_F μ r0 44)).1 = 8)
    (h4 : ¬ (x3 < 0 ∨ (am_kd μ (am_F μ r0 44)).2 ≤ x3.toNatClampNeg))
    (k : Wp d 208 (86, [some (.ref r0), some (.int x1), some (.int x2), some (.int x3), some (.int ((am_A μ (am_F μ r0 44) x3.toNatClampNeg) - (Int32.ofInt 1)))], [], μ) Q) :
    Wp d 208 (76, [some (.ref r0), some (.int x1), some (.int x2), some (.int x3), o4], [], μ) Q := wp_blk rfl e208_76 (And.intro h1 (And.intro h2 (And.intro h3 (And.intro h4 k))))
def q208_86 : List (Nat × Instr × Nat) := [(86, .iload 4, 2), (88, .ifCond .lt 40, 3)]
theorem e208_86 : am_dec am_M208 q208_86 = true := by decide +kernel
theorem b208_86 {d : Nat} {Q : Option Value ⊕ Nat → am_Mem → Prop} {μ : am_Mem} {r0 : Nat} {x1 x2 x3 x4 : Int32}
    (k1 : x4 < 0 → Wp d 208 (128, [some (.ref r0), some (.int x1), some (.int x2), some (.int x3), some (.int x4)], [], μ) Q) (k2 : ¬ (x4 < 0) → Wp d 208 (91, [some (.ref r0), some (.int x1), some (.int x2), some (.int x3), some (.int x4)], [], μ) Q) :
    Wp d 208 (86, [some (.ref r0), some (.int x1), some (.int x2), some (.int x3), some (.int x4)], [], μ) Q := wp_blk rfl e208_86 (And.intro k1 k2)
def q208_91 : List (Nat × Instr × Nat) := [(91, .aload_n 0, 1), (92, .getfield 138, 3), (95, .iload_n 2, 1), (96, .aload_n 0, 1), (97, .getfield 92, 3), (100, .iconst 4, 1), (101, .iload_n 3, 1), (102, .imul, 1), (103, .iload 4, 2), (105, .iadd, 1), (106, .iaload, 1), (107, .iastore, 1), (108, .aload_n 0, 1), (109, .getfield 138, 3), (112, .iload_n 2, 1), (113, .iconst 1, 1), (114, .iadd, 1), (115, .bipush (-32), 2), (117, .iastore, 1)]
theorem e208_91 : am_dec am_M208 q208_91 = true := by decide +kernel
theorem b208_91 {d : Nat} {Q : Option Value ⊕ Nat → am_Mem → Prop} {μ : am_Mem} {r0 : Nat} {x1 x2 x3 x4 : Int32}
    (h1 : am_kd μ r0 = (1, 12))
    (h2 : ¬ am_F μ r0 64 = 15)
    (h3 : am_kd μ r0 = (1, 12))
    (h4 : ¬ am_F μ r0 45 = 15)
    (h5 : (am_kd μ (am_F μ r0 45)).1 = 2 ∨ (am_kd μ (am_F μ r0 45)).1 = 8)
    (h6 : ¬ ((((Int32.ofInt 4) * x3) + x4) < 0 ∨ (am_kd μ (am_F μ r0 45)).2 ≤ (((Int32.ofInt 4) * x3) + x4).toNatClampNeg))
    (h7 : (am_kd μ (am_F μ r0 64)).1 = 2)
    (h8 : ¬ (x2 < 0 ∨ (am_kd μ (am_F μ r0 64)).2 ≤ x2.toNatClampNeg))
    (h9 : am_kd (am_pA μ (am_F μ r0 64) x2.toNatClampNeg (am_A μ (am_F μ r0 45) (((Int32.ofInt 4) * x3) + x4).toNatClampNeg)) r0 = (1, 12))
    (h10 : ¬ am_F (am_pA μ (am_F μ r0 64) x2.toNatClampNeg (am_A μ (am_F μ r0 45) (((Int32.ofInt 4) * x3) + x4).toNatClampNeg)) r0 64 = 15)
    (h11 : (am_kd (am_pA μ (am_F μ r0 64) x2.toNatClampNeg (am_A μ (am_F μ r0 45) (((Int32.ofInt 4) * x3) + x4).toNatClampNeg)) (am_F (am_pA μ (am_F μ r0 64) x2.toNatClampNeg (am_A μ (am_F μ r0 45) (((Int32.ofInt 4) * x3) + x4).toNatClampNeg)) r0 64)).1 = 2)
    (h12 : ¬ ((x2 + (Int32.ofInt 1)) < 0 ∨ (am_kd (am_pA μ (am_F μ r0 64) x2.toNatClampNeg (am_A μ (am_F μ r0 45) (((Int32.ofInt 4) * x3) + x4).toNatClampNeg)) (am_F (am_pA μ (am_F μ r0 64) x2.toNatClampNeg (am_A μ (am_F μ r0 45) (((Int32.ofInt 4) * x3) + x4).toNatClampNeg)) r0 64)).2 ≤ (x2 + (Int32.ofInt 1)).toNatClampNeg))
    (k : Wp d 208 (118, [some (.ref r0), some (.int x1), some (.int x2), some (.int x3), some (.int x4)], [], (am_pA (am_pA μ (am_F μ r0 64) x2.toNatClampNeg (am_A μ (am_F μ r0 45) (((Int32.ofInt 4) * x3) + x4).toNatClampNeg)) (am_F (am_pA μ (am_F μ r0 64) x2.toNatClampNeg (am_A μ (am_F μ r0 45) (((Int32.ofInt 4) * x3) + x4).toNatClampNeg)) r0 64) (x2 + (Int32.ofInt 1)).toNatClampNeg ((Int8.ofInt (-32)).toInt32))) Q) :
    Wp d 208 (91, [some (.ref r0), some (.int x1), some (.int x2), some (.int x3), some (.int x4)], [], μ) Q := wp_blk rfl e208_91 (And.intro h1 (And.intro h2 (And.intro h3 (And.intro h4 (And.intro h5 (And.intro h6 (And.intro h7 (And.intro h8 (And.intro h9 (And.intro h10 (And.intro h11 (And.intro h12 k))))))))))))
def q208_118 : List (Nat × Instr × Nat) := [(118, .iload_n 2, 1), (119, .iconst 2, 1), (120, .iadd, 1), (121, .istore_n 2, 1), (122, .iinc 4 (-1), 3), (125, .goto (-39), 3)]
theorem e208_118 : am_dec am_M208 q208_118 = true := by decide +kernel
theorem b208_118 {d : Nat} {Q : Option Value ⊕ Nat → am_Mem → Prop} {μ : am_Mem} {r0 : Nat} {x1 x2 x3 x4 : Int32}
    (k : Wp d 208 (86, [some (.ref r0), some (.int x1), some (.int (x2 + (Int32.ofInt 2))), some (.int x3), some (.int (x4 + Int32.ofInt (-1)))], [], μ) Q) :
    Wp d 208 (118, [some (.ref r0), some (.int x1), some (.int x2), some (.int x3), some (.int x4)], [], μ) Q := wp_blk rfl e208_118 k
def q208_128 : List (Nat × Instr × Nat) := [(128, .aload_n 0, 1), (129, .getfield 88, 3), (132, .iload_n 3, 1), (133, .iaload, 1), (134, .ifCond .le 24, 3)]
theorem e208_128 : am_dec am_M208 q208_128 = true := by decide +kernel
theorem b208_128 {d : Nat} {Q : Option Value ⊕ Nat → am_Mem → Prop} {μ : am_Mem} {r0 : Nat} {x1 x2 x3 x4 : Int32}
    (h1 : am_kd μ r0 = (1, 12))
    (h2 : ¬ am_F μ r0 44 = 15)
    (h3 : (am_kd μ (am_F μ r0 44)).1 = 2 ∨ (am_kd μ (am_F μ r0 44)).1 = 8)
    (h4 : ¬ (x3 < 0 ∨ (am_kd μ (am_F μ r0 44)).2 ≤ x3.toNatClampNeg))
    (k1 : (am_A μ (am_F μ r0 44) x3.toNatClampNeg) ≤ 0 → Wp d 208 (158, [some (.ref r0), some (.int x1), some (.int x2), some (.int x3), some (.int x4)], [], μ) Q) (k2 : ¬ ((am_A μ (am_F μ r0 44) x3.toNatClampNeg) ≤ 0) → Wp d 208 (137, [some (.ref r0), some (.int x1), some (.int x2), some (.int x3), some (.int x4)], [], μ) Q) :
    Wp d 208 (128, [some (.ref r0), some (.int x1), some (.int x2), some (.int x3), some (.int x4)], [], μ) Q := wp_blk rfl e208_128 (And.intro h1 (And.intro h2 (And.intro h3 (And.intro h4 (And.intro k1 k2)))))
def q208_137 : List (Nat × Instr × Nat) := [(137, .aload_n 0, 1), (138, .getfield 171, 3), (141, .aload_n 0, 1), (142, .getfield 522, 3), (145, .bipush 40, 2), (147, .iastore, 1), (148, .aload_n 0, 1), (149, .dup, 1), (150, .getfield 522, 3), (153, .iconst 1, 1), (154, .iadd, 1), (155, .putfield 522, 3)]
theorem e208_137 : am_dec am_M208 q208_137 = true := by decide +kernel
theorem b208_137 {d : Nat} {Q : Option Value ⊕ Nat → am_Mem → Prop} {μ : am_Mem} {r0 : Nat} {x1 x2 x3 x4 : Int32}
    (h1 : am_kd μ r0 = (1, 12))
    (h2 : ¬ am_F μ r0 79 = 15)
    (h3 : am_kd μ r0 = (1, 12))
    (h4 : (am_kd μ (am_F μ r0 79)).1 = 2)
    (h5 : ¬ ((am_A μ r0 80) < 0 ∨ (am_kd μ (am_F μ r0 79)).2 ≤ (am_A μ r0 80).toNatClampNeg))
    (h6 : am_kd (am_pA μ (am_F μ r0 79) (am_A μ r0 80).toNatClampNeg ((Int8.ofInt 40).toInt32)) r0 = (1, 12))
    (h7 : am_kd (am_pA μ (am_F μ r0 79) (am_A μ r0 80).toNatClampNeg ((Int8.ofInt 40).toInt32)) r0 = (1, 12))
    (k : Wp d 208 (158, [some (.ref r0), some (.int x1), some (.int x2), some (.int x3), some (.int x4)], [], (am_pA (am_pA μ (am_F μ r0 79) (am_A μ r0 80).toNatClampNeg ((Int8.ofInt 40).toInt32)) r0 80 ((am_A (am_pA μ (am_F μ r0 79) (am_A μ r0 80).toNatClampNeg ((Int8.ofInt 40).toInt32)) r0 80) + (Int32.ofInt 1)))) Q) :
    Wp d 208 (137, [some (.ref r0), some (.int x1), some (.int x2), some (.int x3), some (.int x4)], [], μ) Q := wp_blk rfl e208_137 (And.intro h1 (And.intro h2 (And.intro h3 (And.intro h4 (And.intro h5 (And.intro h6 (And.intro h7 (And.intro ⟨rfl, rfl⟩ k))))))))
def q208_158 : List (Nat × Instr × Nat) := [(158, .iconst 0, 1), (159, .istore 4, 2)]
theorem e208_158 : am_dec am_M208 q208_158 = true := by decide +kernel
theorem b208_158 {d : Nat} {Q : Option Value ⊕ Nat → am_Mem → Prop} {μ : am_Mem} {r0 : Nat} {x1 x2 x3 x4 : Int32}
    (k : Wp d 208 (161, [some (.ref r0), some (.int x1), some (.int x2), some (.int x3), some (.int (Int32.ofInt 0))], [], μ) Q) :
    Wp d 208 (158, [some (.ref r0), some (.int x1), some (.int x2), some (.int x3), some (.int x4)], [], μ) Q := wp_blk rfl e208_158 k
def q208_161 : List (Nat × Instr × Nat) := [(161, .iload 4, 2), (163, .aload_n 0, 1), (164, .getfield 26, 3), (167, .aload_n 0, 1), (168, .getfield 85, 3), (171, .iload_n 3, 1), (172, .iaload, 1), (173, .iaload, 1), (174, .if_icmp .ge 45, 3)]
theorem e208_161 : am_dec am_M208 q208_161 = true := by decide +kernel
theorem b208_161 {d : Nat} {Q : Option Value ⊕ Nat → am_Mem → Prop} {μ : am_Mem} {r0 : Nat} {x1 x2 x3 x4 : Int32}
    (h1 : am_kd μ r0 = (1, 12))
    (h2 : ¬ am_F μ r0 11 = 15)
    (h3 : am_kd μ r0 = (1, 12))
    (h4 : ¬ am_F μ r0 43 = 15)
    (h5 : (am_kd μ (am_F μ r0 43)).1 = 2 ∨ (am_kd μ (am_F μ r0 43)).1 = 8)
    (h6 : ¬ (x3 < 0 ∨ (am_kd μ (am_F μ r0 43)).2 ≤ x3.toNatClampNeg))
    (h7 : (am_kd μ (am_F μ r0 11)).1 = 2 ∨ (am_kd μ (am_F μ r0 11)).1 = 8)
    (h8 : ¬ ((am_A μ (am_F μ r0 43) x3.toNatClampNeg) < 0 ∨ (am_kd μ (am_F μ r0 11)).2 ≤ (am_A μ (am_F μ r0 43) x3.toNatClampNeg).toNatClampNeg))
    (k1 : (am_A μ (am_F μ r0 11) (am_A μ (am_F μ r0 43) x3.toNatClampNeg).toNatClampNeg) ≤ x4 → Wp d 208 (219, [some (.ref r0), some (.int x1), some (.int x2), some (.int x3), some (.int x4)], [], μ) Q) (k2 : ¬ ((am_A μ (am_F μ r0 11) (am_A μ (am_F μ r0 43) x3.toNatClampNeg).toNatClampNeg) ≤ x4) → Wp d 208 (177, [some (.ref r0), some (.int x1), some (.int x2), some (.int x3), some (.int x4)], [], μ) Q) :
    Wp d 208 (161, [some (.ref r0), some (.int x1), some (.int x2), some (.int x3), some (.int x4)], [], μ) Q := wp_blk rfl e208_161 (And.intro h1 (And.intro h2 (And.intro h3 (And.intro h4 (And.intro h5 (And.intro h6 (And.intro h7 (And.intro h8 (And.intro k1 k2)))))))))
def q208_177 : List (Nat × Instr × Nat) := [(177, .aload_n 0, 1), (178, .getfield 171, 3), (181, .aload_n 0, 1), (182, .getfield 522, 3), (185, .aload_n 0, 1), (186, .getfield 23, 3), (189, .bipush 16, 2), (191, .aload_n 0, 1), (192, .getfield 85, 3), (195, .iload_n 3, 1), (196, .iaload, 1), (197, .imul, 1), (198, .iload 4, 2), (200, .iadd, 1), (201, .iaload, 1), (202, .iastore, 1), (203, .aload_n 0, 1), (204, .dup, 1), (205, .getfield 522, 3), (208, .iconst 1, 1), (209, .iadd, 1), (210, .putfield 522, 3)]
theorem e208_177 : am_dec am_M208 q208_177 = true := by decide +kernel
theorem b208_177 {d : Nat} {Q : Option Value ⊕ Nat → am_Mem → Prop} {μ : am_Mem} {r0 : Nat} {x1 x2 x3 x4 : Int32}
    (h1 : am_kd μ r0 = (1, 12))
    (h2 : ¬ am_F μ r0 79 = 15)
    (h3 : am_kd μ r0 = (1, 12))
    (h4 : am_kd μ r0 = (1, 12))
    (h5 : ¬ am_F μ r0 10 = 15)
    (h6 : am_kd μ r0 = (1, 12))
    (h7 : ¬ am_F μ r0 43 = 15)
    (h8 : (am_kd μ (am_F μ r0 43)).1 = 2 ∨ (am_kd μ (am_F μ r0 43)).1 = 8)
    (h9 : ¬ (x3 < 0 ∨ (am_kd μ (am_F μ r0 43)).2 ≤ x3.toNatClampNeg))
    (h10 : (am_kd μ (am_F μ r0 10)).1 = 2 ∨ (am_kd μ (am_F μ r0 10)).1 = 8)
    (h11 : ¬ (((((Int8.ofInt 16).toInt32) * (am_A μ (am_F μ r0 43) x3.toNatClampNeg)) + x4) < 0 ∨ (am_kd μ (am_F μ r0 10)).2 ≤ ((((Int8.ofInt 16).toInt32) * (am_A μ (am_F μ r0 43) x3.toNatClampNeg)) + x4).toNatClampNeg))
    (h12 : (am_kd μ (am_F μ r0 79)).1 = 2)
    (h13 : ¬ ((am_A μ r0 80) < 0 ∨ (am_kd μ (am_F μ r0 79)).2 ≤ (am_A μ r0 80).toNatClampNeg))
    (h14 : am_kd (am_pA μ (am_F μ r0 79) (am_A μ r0 80).toNatClampNeg (am_A μ (am_F μ r0 10) ((((Int8.ofInt 16).toInt32) * (am_A μ (am_F μ r0 43) x3.toNatClampNeg)) + x4).toNatClampNeg)) r0 = (1, 12))
    (h15 : am_kd (am_pA μ (am_F μ r0 79) (am_A μ r0 80).toNatClampNeg (am_A μ (am_F μ r0 10) ((((Int8.ofInt 16).toInt32) * (am_A μ (am_F μ r0 43) x3.toNatClampNeg)) + x4).toNatClampNeg)) r0 = (1, 12))
    (k : Wp d 208 (213, [some (.ref r0), some (.int x1), some (.int x2), some (.int x3), some (.int x4)], [], (am_pA (am_pA μ (am_F μ r0 79) (am_A μ r0 80).toNatClampNeg (am_A μ (am_F μ r0 10) ((((Int8.ofInt 16).toInt32) * (am_A μ (am_F μ r0 43) x3.toNatClampNeg)) + x4).toNatClampNeg)) r0 80 ((am_A (am_pA μ (am_F μ r0 79) (am_A μ r0 80).toNatClampNeg (am_A μ (am_F μ r0 10) ((((Int8.ofInt 16).toInt32) * (am_A μ (am_F μ r0 43) x3.toNatClampNeg)) + x4).toNatClampNeg)) r0 80) + (Int32.ofInt 1)))) Q) :
    Wp d 208 (177, [some (.ref r0), some (.int x1), some (.int x2), some (.int x3), some (.int x4)], [], μ) Q := wp_blk rfl e208_177 (And.intro h1 (And.intro h2 (And.intro h3 (And.intro h4 (And.intro h5 (And.intro h6 (And.intro h7 (And.intro h8 (And.intro h9 (And.intro h10 (And.intro h11 (And.intro h12 (And.intro h13 (And.intro h14 (And.intro h15 (And.intro ⟨rfl, rfl⟩ k))))))))))))))))
def q208_213 : List (Nat × Instr × Nat) := [(213, .iinc 4 1, 3), (216, .goto (-55), 3)]
theorem e208_213 : am_dec am_M208 q208_213 = true := by decide +kernel
theorem b208_213 {d : Nat} {Q : Option Value ⊕ Nat → am_Mem → Prop} {μ : am_Mem} {r0 : Nat} {x1 x2 x3 x4 : Int32}
    (k : Wp d 208 (161, [some (.ref r0), some (.int x1), some (.int x2), some (.int x3), some (.int (x4 + Int32.ofInt 1))], [], μ) Q) :
    Wp d 208 (213, [some (.ref r0), some (.int x1), some (.int x2), some (.int x3), some (.int x4)], [], μ) Q := wp_blk rfl e208_213 k
def q208_219 : List (Nat × Instr × Nat) := [(219, .goto (-205), 3)]
theorem e208_219 : am_dec am_M208 q208_219 = true := by decide +kernel
theorem b208_219 {d : Nat} {Q : Option Value ⊕ Nat → am_Mem → Prop} {μ : am_Mem} {r0 : Nat} {x1 x2 x3 x4 : Int32}
    (k : Wp d 208 (14, [some (.ref r0), some (.int x1), some (.int x2), some (.int x3), some (.int x4)], [], μ) Q) :
    Wp d 208 (219, [some (.ref r0), some (.int x1), some (.int x2), some (.int x3), some (.int x4)], [], μ) Q := wp_blk rfl e208_219 k
def q208_222 : List (Nat × Instr × Nat) := [(222, .aload_n 0, 1), (223, .getfield 522, 3), (226, .istore_n 3, 1)]
theorem e208_222 : am_dec am_M208 q208_222 = true := by decide +kernel
theorem b208_222 {d : Nat} {Q : Option Value ⊕ Nat → am_Mem → Prop} {μ : am_Mem} {r0 : Nat} {x1 x2 : Int32} {o3 o4 : Option Value}
    (h1 : am_kd μ r0 = (1, 12))
    (k : Wp d 208 (227, [some (.ref r0), some (.int x1), some (.int x2), some (.int (am_A μ r0 80)), o4], [], μ) Q) :
    Wp d 208 (222, [some (.ref r0), some (.int x1), some (.int x2), o3, o4], [], μ) Q := wp_blk rfl e208_222 (And.intro h1 k)
def q208_227 : List (Nat × Instr × Nat) := [(227, .iload_n 3, 1), (228, .bipush 49, 2), (230, .if_icmp .ge 16, 3)]
theorem e208_227 : am_dec am_M208 q208_227 = true := by decide +kernel
theorem b208_227 {d : Nat} {Q : Option Value ⊕ Nat → am_Mem → Prop} {μ : am_Mem} {r0 : Nat} {x1 x2 x3 : Int32} {o4 : Option Value}
    (k1 : ((Int8.ofInt 49).toInt32) ≤ x3 → Wp d 208 (246, [some (.ref r0), some (.int x1), some (.int x2), some (.int x3), o4], [], μ) Q) (k2 : ¬ (((Int8.ofInt 49).toInt32) ≤ x3) → Wp d 208 (233, [some (.ref r0), some (.int x1), some (.int x2), some (.int x3), o4], [], μ) Q) :
    Wp d 208 (227, [some (.ref r0), some (.int x1), some (.int x2), some (.int x3), o4], [], μ) Q := wp_blk rfl e208_227 (And.intro k1 k2)
def q208_233 : List (Nat × Instr × Nat) := [(233, .aload_n 0, 1), (234, .getfield 171, 3), (237, .iload_n 3, 1), (238, .iconst 0, 1), (239, .iastore, 1), (240, .iinc 3 1, 3), (243, .goto (-16), 3)]
theorem e208_233 : am_dec am_M208 q208_233 = true := by decide +kernel
theorem b208_233 {d : Nat} {Q : Option Value ⊕ Nat → am_Mem → Prop} {μ : am_Mem} {r0 : Nat} {x1 x2 x3 : Int32} {o4 : Option Value}
    (h1 : am_kd μ r0 = (1, 12))
    (h2 : ¬ am_F μ r0 79 = 15)
    (h3 : (am_kd μ (am_F μ r0 79)).1 = 2)
    (h4 : ¬ (x3 < 0 ∨ (am_kd μ (am_F μ r0 79)).2 ≤ x3.toNatClampNeg))
    (k : Wp d 208 (227, [some (.ref r0), some (.int x1), some (.int x2), some (.int (x3 + Int32.ofInt 1)), o4], [], (am_pA μ (am_F μ r0 79) x3.toNatClampNeg (Int32.ofInt 0))) Q) :
    Wp d 208 (233, [some (.ref r0), some (.int x1), some (.int x2), some (.int x3), o4], [], μ) Q := wp_blk rfl e208_233 (And.intro h1 (And.intro h2 (And.intro h3 (And.intro h4 k))))
theorem e208_246_r : am_dec am_M208 [(246, .return_, 1)] = true := by decide +kernel
theorem b208_246 {d : Nat} {Q : Option Value ⊕ Nat → am_Mem → Prop} {μ : am_Mem} {r0 : Nat} {x1 x2 x3 : Int32} {o4 : Option Value}
    (k : Q (.inl none) μ) :
    Wp d 208 (246, [some (.ref r0), some (.int x1), some (.int x2), some (.int x3), o4], [], μ) Q := (wp_rv rfl e208_246_r rfl k)
