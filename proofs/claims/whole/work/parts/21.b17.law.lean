/-! ===== printed: the blocks of law ===== -/
/-! RuleSheetsLaw.put(LRuleSheets;I[J)I -/
def q269_0 : List (Nat × Instr × Nat) := [(0, .aload_n 2, 1), (1, .iconst 0, 1), (2, .aload_n 0, 1), (3, .iload_n 1, 1)]
theorem e269_0 : am_dec am_M269 q269_0 = true := by decide +kernel
theorem e269_0_c : am_dc1 am_M269 4 (.invokevirtual 7) 3 = true := by decide +kernel
theorem b269_0 {d : Nat} {Q : Option Value ⊕ Nat → am_Mem → Prop} {μ : am_Mem} {r0 r2 : Nat} {x1 : Int32} {P : Int32 → am_Mem → Prop} {X : Nat → am_Mem → Prop}
    (hk : am_kd μ r0 = (1, 11))
    (hc : Wp d 121 (0, [some (.ref r0), some (.int x1), none, none, none], [], μ) (pI P X)) (hr : ∀ x μ', P x μ' → Wp (d + 1) 269 (7, [some (.ref r0), some (.int x1), some (.ref r2), none], [.int x, .int (Int32.ofInt 0), .ref r2], (μ')) Q)
    (hx : ∀ x μ', X x μ' → ∃ pc' j, am_hand GG 13 269 4 x (am_Mh am_M269) = some (pc', j) ∧ j < 4 ∧ Wp (d + 1) 269 (pc', am_drp [some (.ref r0), some (.int x1), some (.ref r2), none] j, [], μ') Q) :
    Wp (d + 1) 269 (0, [some (.ref r0), some (.int x1), some (.ref r2), none], [], μ) Q := wp_blk rfl e269_0 (wp_ch (as := [.int x1]) rfl e269_0_c (by decide) rfl rfl rfl rfl hk hc (fun v μ' hv => by obtain ⟨x, rfl, hp⟩ := pI_r hv; exact hr x μ' hp) hx)
def q269_7 : List (Nat × Instr × Nat) := [(7, .i2l, 1), (8, .lastore, 1), (9, .goto 9, 3)]
theorem e269_7 : am_dec am_M269 q269_7 = true := by decide +kernel
theorem b269_7 {d : Nat} {Q : Option Value ⊕ Nat → am_Mem → Prop} {μ : am_Mem} {r0 r2 r90 : Nat} {x1 s1 s2 : Int32}
    (h1 : (am_kd μ r90).1 = 6)
    (h2 : ¬ (s1 < 0 ∨ (am_kd μ r90).2 ≤ s1.toNatClampNeg))
    (k : Wp d 269 (18, [some (.ref r0), some (.int x1), some (.ref r2), none], [], (am_pL μ r90 s1.toNatClampNeg s2.toInt64)) Q) :
    Wp d 269 (7, [some (.ref r0), some (.int x1), some (.ref r2), none], [.int s2, .int s1, .ref r90], μ) Q := wp_blk rfl e269_7 (And.intro h1 (And.intro h2 k))
def q269_13 : List (Nat × Instr × Nat) := [(13, .iconst 1, 1)]
theorem e269_13 : am_dec am_M269 q269_13 = true := by decide +kernel
theorem e269_13_r : am_dec am_M269 [(14, .ireturn, 1)] = true := by decide +kernel
theorem b269_13 {d : Nat} {Q : Option Value ⊕ Nat → am_Mem → Prop} {μ : am_Mem} {r0 r2 : Nat} {x1 : Int32}
    (k : Q (.inl (some (.int (Int32.ofInt 1)))) μ) :
    Wp d 269 (13, [some (.ref r0), some (.int x1), some (.ref r2), none], [], μ) Q := wp_blk rfl e269_13 (wp_ri (ty := .int) rfl e269_13_r rfl ⟨rfl, rfl⟩ k)
def q269_16 : List (Nat × Instr × Nat) := [(16, .iconst 2, 1)]
theorem e269_16 : am_dec am_M269 q269_16 = true := by decide +kernel
theorem e269_16_r : am_dec am_M269 [(17, .ireturn, 1)] = true := by decide +kernel
theorem b269_16 {d : Nat} {Q : Option Value ⊕ Nat → am_Mem → Prop} {μ : am_Mem} {r0 r2 : Nat} {x1 : Int32}
    (k : Q (.inl (some (.int (Int32.ofInt 2)))) μ) :
    Wp d 269 (16, [some (.ref r0), some (.int x1), some (.ref r2), none], [], μ) Q := wp_blk rfl e269_16 (wp_ri (ty := .int) rfl e269_16_r rfl ⟨rfl, rfl⟩ k)
def q269_18 : List (Nat × Instr × Nat) := [(18, .iconst 0, 1)]
theorem e269_18 : am_dec am_M269 q269_18 = true := by decide +kernel
theorem e269_18_r : am_dec am_M269 [(19, .ireturn, 1)] = true := by decide +kernel
theorem b269_18 {d : Nat} {Q : Option Value ⊕ Nat → am_Mem → Prop} {μ : am_Mem} {r0 r2 : Nat} {x1 : Int32}
    (k : Q (.inl (some (.int (Int32.ofInt 0)))) μ) :
    Wp d 269 (18, [some (.ref r0), some (.int x1), some (.ref r2), none], [], μ) Q := wp_blk rfl e269_18 (wp_ri (ty := .int) rfl e269_18_r rfl ⟨rfl, rfl⟩ k)
/-! RuleSheetsLaw.end(LRuleSheets;I)I -/
def q270_0 : List (Nat × Instr × Nat) := [(0, .aload_n 0, 1), (1, .iload_n 1, 1)]
theorem e270_0 : am_dec am_M270 q270_0 = true := by decide +kernel
theorem e270_0_c : am_dc1 am_M270 2 (.invokevirtual 17) 3 = true := by decide +kernel
theorem b270_0 {d : Nat} {Q : Option Value ⊕ Nat → am_Mem → Prop} {μ : am_Mem} {r0 : Nat} {x1 : Int32} {P : am_Mem → Prop} {X : Nat → am_Mem → Prop}
    (hk : am_kd μ r0 = (1, 11))
    (hc : Wp d 122 (0, [some (.ref r0), some (.int x1)], [], μ) (pV P X)) (hr : ∀ μ', P μ' → Wp (d + 1) 270 (5, [some (.ref r0), some (.int x1), none], [], (μ')) Q)
    (hx : ∀ x μ', X x μ' → ∃ pc' j, am_hand GG 13 270 2 x (am_Mh am_M270) = some (pc', j) ∧ j < 3 ∧ Wp (d + 1) 270 (pc', am_drp [some (.ref r0), some (.int x1), none] j, [], μ') Q) :
    Wp (d + 1) 270 (0, [some (.ref r0), some (.int x1), none], [], μ) Q := wp_blk rfl e270_0 (wp_ch (as := [.int x1]) rfl e270_0_c (by decide) rfl rfl rfl rfl hk hc (fun v μ' hv => by obtain ⟨rfl, hp⟩ := pV_r hv; exact hr μ' hp) hx)
def q270_5 : List (Nat × Instr × Nat) := [(5, .goto 6, 3)]
theorem e270_5 : am_dec am_M270 q270_5 = true := by decide +kernel
theorem b270_5 {d : Nat} {Q : Option Value ⊕ Nat → am_Mem → Prop} {μ : am_Mem} {r0 : Nat} {x1 : Int32}
    (k : Wp d 270 (11, [some (.ref r0), some (.int x1), none], [], μ) Q) :
    Wp d 270 (5, [some (.ref r0), some (.int x1), none], [], μ) Q := wp_blk rfl e270_5 k
def q270_9 : List (Nat × Instr × Nat) := [(9, .iconst 1, 1)]
theorem e270_9 : am_dec am_M270 q270_9 = true := by decide +kernel
theorem e270_9_r : am_dec am_M270 [(10, .ireturn, 1)] = true := by decide +kernel
theorem b270_9 {d : Nat} {Q : Option Value ⊕ Nat → am_Mem → Prop} {μ : am_Mem} {r0 : Nat} {x1 : Int32}
    (k : Q (.inl (some (.int (Int32.ofInt 1)))) μ) :
    Wp d 270 (9, [some (.ref r0), some (.int x1), none], [], μ) Q := wp_blk rfl e270_9 (wp_ri (ty := .int) rfl e270_9_r rfl ⟨rfl, rfl⟩ k)
def q270_11 : List (Nat × Instr × Nat) := [(11, .iconst 0, 1)]
theorem e270_11 : am_dec am_M270 q270_11 = true := by decide +kernel
theorem e270_11_r : am_dec am_M270 [(12, .ireturn, 1)] = true := by decide +kernel
theorem b270_11 {d : Nat} {Q : Option Value ⊕ Nat → am_Mem → Prop} {μ : am_Mem} {r0 : Nat} {x1 : Int32}
    (k : Q (.inl (some (.int (Int32.ofInt 0)))) μ) :
    Wp d 270 (11, [some (.ref r0), some (.int x1), none], [], μ) Q := wp_blk rfl e270_11 (wp_ri (ty := .int) rfl e270_11_r rfl ⟨rfl, rfl⟩ k)
/-! RuleSheetsLaw.sheet(LRuleSheets;I[J)I -/
def q271_0 : List (Nat × Instr × Nat) := [(0, .aload_n 2, 1), (1, .iconst 0, 1), (2, .aload_n 0, 1), (3, .iload_n 1, 1)]
theorem e271_0 : am_dec am_M271 q271_0 = true := by decide +kernel
theorem e271_0_c : am_dc1 am_M271 4 (.invokevirtual 21) 3 = true := by decide +kernel
theorem b271_0 {d : Nat} {Q : Option Value ⊕ Nat → am_Mem → Prop} {μ : am_Mem} {r0 r2 : Nat} {x1 : Int32} {P : Int32 → am_Mem → Prop} {X : Nat → am_Mem → Prop}
    (hk : am_kd μ r0 = (1, 11))
    (hc : Wp d 123 (0, [some (.ref r0), some (.int x1)], [], μ) (pI P X)) (hr : ∀ x μ', P x μ' → Wp (d + 1) 271 (7, [some (.ref r0), some (.int x1), some (.ref r2), none], [.int x, .int (Int32.ofInt 0), .ref r2], (μ')) Q)
    (hx : ∀ x μ', X x μ' → ∃ pc' j, am_hand GG 13 271 4 x (am_Mh am_M271) = some (pc', j) ∧ j < 4 ∧ Wp (d + 1) 271 (pc', am_drp [some (.ref r0), some (.int x1), some (.ref r2), none] j, [], μ') Q) :
    Wp (d + 1) 271 (0, [some (.ref r0), some (.int x1), some (.ref r2), none], [], μ) Q := wp_blk rfl e271_0 (wp_ch (as := [.int x1]) rfl e271_0_c (by decide) rfl rfl rfl rfl hk hc (fun v μ' hv => by obtain ⟨x, rfl, hp⟩ := pI_r hv; exact hr x μ' hp) hx)
def q271_7 : List (Nat × Instr × Nat) := [(7, .i2l, 1), (8, .lastore, 1), (9, .goto 9, 3)]
theorem e271_7 : am_dec am_M271 q271_7 = true := by decide +kernel
theorem b271_7 {d : Nat} {Q : Option Value ⊕ Nat → am_Mem → Prop} {μ : am_Mem} {r0 r2 r90 : Nat} {x1 s1 s2 : Int32}
    (h1 : (am_kd μ r90).1 = 6)
    (h2 : ¬ (s1 < 0 ∨ (am_kd μ r90).2 ≤ s1.toNatClampNeg))
    (k : Wp d 271 (18, [some (.ref r0), some (.int x1), some (.ref r2), none], [], (am_pL μ r90 s1.toNatClampNeg s2.toInt64)) Q) :
    Wp d 271 (7, [some (.ref r0), some (.int x1), some (.ref r2), none], [.int s2, .int s1, .ref r90], μ) Q := wp_blk rfl e271_7 (And.intro h1 (And.intro h2 k))
def q271_13 : List (Nat × Instr × Nat) := [(13, .iconst 1, 1)]
theorem e271_13 : am_dec am_M271 q271_13 = true := by decide +kernel
theorem e271_13_r : am_dec am_M271 [(14, .ireturn, 1)] = true := by decide +kernel
theorem b271_13 {d : Nat} {Q : Option Value ⊕ Nat → am_Mem → Prop} {μ : am_Mem} {r0 r2 : Nat} {x1 : Int32}
    (k : Q (.inl (some (.int (Int32.ofInt 1)))) μ) :
    Wp d 271 (13, [some (.ref r0), some (.int x1), some (.ref r2), none], [], μ) Q := wp_blk rfl e271_13 (wp_ri (ty := .int) rfl e271_13_r rfl ⟨rfl, rfl⟩ k)
def q271_16 : List (Nat × Instr × Nat) := [(16, .iconst 2, 1)]
theorem e271_16 : am_dec am_M271 q271_16 = true := by decide +kernel
theorem e271_16_r : am_dec am_M271 [(17, .ireturn, 1)] = true := by decide +kernel
theorem b271_16 {d : Nat} {Q : Option Value ⊕ Nat → am_Mem → Prop} {μ : am_Mem} {r0 r2 : Nat} {x1 : Int32}
    (k : Q (.inl (some (.int (Int32.ofInt 2)))) μ) :
    Wp d 271 (16, [some (.ref r0), some (.int x1), some (.ref r2), none], [], μ) Q := wp_blk rfl e271_16 (wp_ri (ty := .int) rfl e271_16_r rfl ⟨rfl, rfl⟩ k)
def q271_18 : List (Nat × Instr × Nat) := [(18, .iconst 0, 1)]
theorem e271_18 : am_dec am_M271 q271_18 = true := by decide +kernel
theorem e271_18_r : am_dec am_M271 [(19, .ireturn, 1)] = true := by decide +kernel
theorem b271_18 {d : Nat} {Q : Option Value ⊕ Nat → am_Mem → Prop} {μ : am_Mem} {r0 r2 : Nat} {x1 : Int32}
    (k : Q (.inl (some (.int (Int32.ofInt 0)))) μ) :
    Wp d 271 (18, [some (.ref r0), some (.int x1), some (.ref r2), none], [], μ) Q := wp_blk rfl e271_18 (wp_ri (ty := .int) rfl e271_18_r rfl ⟨rfl, rfl⟩ k)
/-! RuleSheetsLaw.start(LRuleSheets;[J)I -/
def q272_0 : List (Nat × Instr × Nat) := [(0, .aload_n 1, 1), (1, .iconst 0, 1), (2, .aload_n 0, 1)]
theorem e272_0 : am_dec am_M272 q272_0 = true := by decide +kernel
theorem e272_0_c : am_dc1 am_M272 3 (.invokevirtual 26) 3 = true := by decide +kernel
theorem b272_0 {d : Nat} {Q : Option Value ⊕ Nat → am_Mem → Prop} {μ : am_Mem} {r0 r1 : Nat} {P : Int32 → am_Mem → Prop} {X : Nat → am_Mem → Prop}
    (hk : am_kd μ r0 = (1, 11))
    (hc : Wp d 125 (0, [some (.ref r0)], [], μ) (pI P X)) (hr : ∀ x μ', P x μ' → Wp (d + 1) 272 (6, [some (.ref r0), some (.ref r1), none], [.int x, .int (Int32.ofInt 0), .ref r1], (μ')) Q)
    (hx : ∀ x μ', X x μ' → ∃ pc' j, am_hand GG 13 272 3 x (am_Mh am_M272) = some (pc', j) ∧ j < 3 ∧ Wp (d + 1) 272 (pc', am_drp [some (.ref r0), some (.ref r1), none] j, [], μ') Q) :
    Wp (d + 1) 272 (0, [some (.ref r0), some (.ref r1), none], [], μ) Q := wp_blk rfl e272_0 (wp_ch (as := []) rfl e272_0_c (by decide) rfl rfl rfl rfl hk hc (fun v μ' hv => by obtain ⟨x, rfl, hp⟩ := pI_r hv; exact hr x μ' hp) hx)
def q272_6 : List (Nat × Instr × Nat) := [(6, .i2l, 1), (7, .lastore, 1), (8, .goto 9, 3)]
theorem e272_6 : am_dec am_M272 q272_6 = true := by decide +kernel
theorem b272_6 {d : Nat} {Q : Option Value ⊕ Nat → am_Mem → Prop} {μ : am_Mem} {r0 r1 r90 : Nat} {s1 s2 : Int32}
    (h1 : (am_kd μ r90).1 = 6)
    (h2 : ¬ (s1 < 0 ∨ (am_kd μ r90).2 ≤ s1.toNatClampNeg))
    (k : Wp d 272 (17, [some (.ref r0), some (.ref r1), none], [], (am_pL μ r90 s1.toNatClampNeg s2.toInt64)) Q) :
    Wp d 272 (6, [some (.ref r0), some (.ref r1), none], [.int s2, .int s1, .ref r90], μ) Q := wp_blk rfl e272_6 (And.intro h1 (And.intro h2 k))
def q272_12 : List (Nat × Instr × Nat) := [(12, .iconst 1, 1)]
theorem e272_12 : am_dec am_M272 q272_12 = true := by decide +kernel
theorem e272_12_r : am_dec am_M272 [(13, .ireturn, 1)] = true := by decide +kernel
theorem b272_12 {d : Nat} {Q : Option Value ⊕ Nat → am_Mem → Prop} {μ : am_Mem} {r0 r1 : Nat}
    (k : Q (.inl (some (.int (Int32.ofInt 1)))) μ) :
    Wp d 272 (12, [some (.ref r0), some (.ref r1), none], [], μ) Q := wp_blk rfl e272_12 (wp_ri (ty := .int) rfl e272_12_r rfl ⟨rfl, rfl⟩ k)
def q272_15 : List (Nat × Instr × Nat) := [(15, .iconst 2, 1)]
theorem e272_15 : am_dec am_M272 q272_15 = true := by decide +kernel
theorem e272_15_r : am_dec am_M272 [(16, .ireturn, 1)] = true := by decide +kernel
theorem b272_15 {d : Nat} {Q : Option Value ⊕ Nat → am_Mem → Prop} {μ : am_Mem} {r0 r1 : Nat}
    (k : Q (.inl (some (.int (Int32.ofInt 2)))) μ) :
    Wp d 272 (15, [some (.ref r0), some (.ref r1), none], [], μ) Q := wp_blk rfl e272_15 (wp_ri (ty := .int) rfl e272_15_r rfl ⟨rfl, rfl⟩ k)
def q272_17 : List (Nat × Instr × Nat) := [(17, .iconst 0, 1)]
theorem e272_17 : am_dec am_M272 q272_17 = true := by decide +kernel
theorem e272_17_r : am_dec am_M272 [(18, .ireturn, 1)] = true := by decide +kernel
theorem b272_17 {d : Nat} {Q : Option Value ⊕ Nat → am_Mem → Prop} {μ : am_Mem} {r0 r1 : Nat}
    (k : Q (.inl (some (.int (Int32.ofInt 0)))) μ) :
    Wp d 272 (17, [some (.ref r0), some (.ref r1), none], [], μ) Q := wp_blk rfl e272_17 (wp_ri (ty := .int) rfl e272_17_r rfl ⟨rfl, rfl⟩ k)
/-! RuleSheetsLaw.moves(LRuleSheets;I[J)I -/
def q273_0 : List (Nat × Instr × Nat) := [(0, .aload_n 2, 1), (1, .iconst 0, 1), (2, .aload_n 0, 1), (3, .iload_n 1, 1)]
theorem e273_0 : am_dec am_M273 q273_0 = true := by decide +kernel
theorem e273_0_c : am_dc1 am_M273 4 (.invokevirtual 30) 3 = true := by decide +kernel
theorem b273_0 {d : Nat} {Q : Option Value ⊕ Nat → am_Mem → Prop} {μ : am_Mem} {r0 r2 : Nat} {x1 : Int32} {P : Int32 → am_Mem → Prop} {X : Nat → am_Mem → Prop}
    (hk : am_kd μ r0 = (1, 11))
    (hc : Wp d 127 (0, [some (.ref r0), some (.int x1)], [], μ) (pI P X)) (hr : ∀ x μ', P x μ' → Wp (d + 1) 273 (7, [some (.ref r0), some (.int x1), some (.ref r2), none], [.int x, .int (Int32.ofInt 0), .ref r2], (μ')) Q)
    (hx : ∀ x μ', X x μ' → ∃ pc' j, am_hand GG 13 273 4 x (am_Mh am_M273) = some (pc', j) ∧ j < 4 ∧ Wp (d + 1) 273 (pc', am_drp [some (.ref r0), some (.int x1), some (.ref r2), none] j, [], μ') Q) :
    Wp (d + 1) 273 (0, [some (.ref r0), some (.int x1), some (.ref r2), none], [], μ) Q := wp_blk rfl e273_0 (wp_ch (as := [.int x1]) rfl e273_0_c (by decide) rfl rfl rfl rfl hk hc (fun v μ' hv => by obtain ⟨x, rfl, hp⟩ := pI_r hv; exact hr x μ' hp) hx)
def q273_7 : List (Nat × Instr × Nat) := [(7, .i2l, 1), (8, .lastore, 1), (9, .goto 12, 3)]
theorem e273_7 : am_dec am_M273 q273_7 = true := by decide +kernel
theorem b273_7 {d : Nat} {Q : Option Value ⊕ Nat → am_Mem → Prop} {μ : am_Mem} {r0 r2 r90 : Nat} {x1 s1 s2 : Int32}
    (h1 : (am_kd μ r90).1 = 6)
    (h2 : ¬ (s1 < 0 ∨ (am_kd μ r90).2 ≤ s1.toNatClampNeg))
    (k : Wp d 273 (21, [some (.ref r0), some (.int x1), some (.ref r2), none], [], (am_pL μ r90 s1.toNatClampNeg s2.toInt64)) Q) :
    Wp d 273 (7, [some (.ref r0), some (.int x1), some (.ref r2), none], [.int s2, .int s1, .ref r90], μ) Q := wp_blk rfl e273_7 (And.intro h1 (And.intro h2 k))
def q273_13 : List (Nat × Instr × Nat) := [(13, .iconst 1, 1)]
theorem e273_13 : am_dec am_M273 q273_13 = true := by decide +kernel
theorem e273_13_r : am_dec am_M273 [(14, .ireturn, 1)] = true := by decide +kernel
theorem b273_13 {d : Nat} {Q : Option Value ⊕ Nat → am_Mem → Prop} {μ : am_Mem} {r0 r2 : Nat} {x1 : Int32}
    (k : Q (.inl (some (.int (Int32.ofInt 1)))) μ) :
    Wp d 273 (13, [some (.ref r0), some (.int x1), some (.ref r2), none], [], μ) Q := wp_blk rfl e273_13 (wp_ri (ty := .int) rfl e273_13_r rfl ⟨rfl, rfl⟩ k)
def q273_16 : List (Nat × Instr × Nat) := [(16, .iconst 2, 1)]
theorem e273_16 : am_dec am_M273 q273_16 = true := by decide +kernel
theorem e273_16_r : am_dec am_M273 [(17, .ireturn, 1)] = true := by decide +kernel
theorem b273_16 {d : Nat} {Q : Option Value ⊕ Nat → am_Mem → Prop} {μ : am_Mem} {r0 r2 : Nat} {x1 : Int32}
    (k : Q (.inl (some (.int (Int32.ofInt 2)))) μ) :
    Wp d 273 (16, [some (.ref r0), some (.int x1), some (.ref r2), none], [], μ) Q := wp_blk rfl e273_16 (wp_ri (ty := .int) rfl e273_16_r rfl ⟨rfl, rfl⟩ k)
def q273_19 : List (Nat × Instr × Nat) := [(19, .iconst 3, 1)]
theorem e273_19 : am_dec am_M273 q273_19 = true := by decide +kernel
theorem e273_19_r : am_dec am_M273 [(20, .ireturn, 1)] = true := by decide +kernel
theorem b273_19 {d : Nat} {Q : Option Value ⊕ Nat → am_Mem → Prop} {μ : am_Mem} {r0 r2 : Nat} {x1 : Int32}
    (k : Q (.inl (some (.int (Int32.ofInt 3)))) μ) :
    Wp d 273 (19, [some (.ref r0), some (.int x1), some (.ref r2), none], [], μ) Q := wp_blk rfl e273_19 (wp_ri (ty := .int) rfl e273_19_r rfl ⟨rfl, rfl⟩ k)
def q273_21 : List (Nat × Instr × Nat) := [(21, .iconst 0, 1)]
theorem e273_21 : am_dec am_M273 q273_21 = true := by decide +kernel
theorem e273_21_r : am_dec am_M273 [(22, .ireturn, 1)] = true := by decide +kernel
theorem b273_21 {d : Nat} {Q : Option Value ⊕ Nat → am_Mem → Prop} {μ : am_Mem} {r0 r2 : Nat} {x1 : Int32}
    (k : Q (.inl (some (.int (Int32.ofInt 0)))) μ) :
    Wp d 273 (21, [some (.ref r0), some (.int x1), some (.ref r2), none], [], μ) Q := wp_blk rfl e273_21 (wp_ri (ty := .int) rfl e273_21_r rfl ⟨rfl, rfl⟩ k)
/-! RuleSheetsLaw.terminal(LRuleSheets;[J)I -/
def q274_0 : List (Nat × Instr × Nat) := [(0, .aload_n 1, 1), (1, .iconst 0, 1), (2, .aload_n 0, 1)]
theorem e274_0 : am_dec am_M274 q274_0 = true := by decide +kernel
theorem e274_0_c : am_dc1 am_M274 3 (.invokevirtual 35) 3 = true := by decide +kernel
theorem b274_0 {d : Nat} {Q : Option Value ⊕ Nat → am_Mem → Prop} {μ : am_Mem} {r0 r1 : Nat} {P : Int32 → am_Mem → Prop} {X : Nat → am_Mem → Prop}
    (hk : am_kd μ r0 = (1, 11))
    (hc : Wp d 131 (0, [some (.ref r0)], [], μ) (pI P X)) (hr : ∀ x μ', P x μ' → Wp (d + 1) 274 (6, [some (.ref r0), some (.ref r1), none], [.int x, .int (Int32.ofInt 0), .ref r1], (μ')) Q)
    (hx : ∀ x μ', X x μ' → ∃ pc' j, am_hand GG 13 274 3 x (am_Mh am_M274) = some (pc', j) ∧ j < 3 ∧ Wp (d + 1) 274 (pc', am_drp [some (.ref r0), some (.ref r1), none] j, [], μ') Q) :
    Wp (d + 1) 274 (0, [some (.ref r0), some (.ref r1), none], [], μ) Q := wp_blk rfl e274_0 (wp_ch (as := []) rfl e274_0_c (by decide) rfl rfl rfl rfl hk hc (fun v μ' hv => by obtain ⟨x, rfl, hp⟩ := pI_r hv; exact hr x μ' hp) hx)
def q274_6 : List (Nat × Instr × Nat) := [(6, .ifCond .eq 7, 3)]
theorem e274_6 : am_dec am_M274 q274_6 = true := by decide +kernel
theorem b274_6 {d : Nat} {Q : Option Value ⊕ Nat → am_Mem → Prop} {μ : am_Mem} {r0 r1 r90 : Nat} {s1 s2 : Int32}
    (k1 : s2 = 0 → Wp d 274 (13, [some (.ref r0), some (.ref r1), none], [.int s1, .ref r90], μ) Q) (k2 : ¬ (s2 = 0) → Wp d 274 (9, [some (.ref r0), some (.ref r1), none], [.int s1, .ref r90], μ) Q) :
    Wp d 274 (6, [some (.ref r0), some (.ref r1), none], [.int s2, .int s1, .ref r90], μ) Q := wp_blk rfl e274_6 (And.intro k1 k2)
def q274_9 : List (Nat × Instr × Nat) := [(9, .lconst 1, 1), (10, .goto 4, 3)]
theorem e274_9 : am_dec am_M274 q274_9 = true := by decide +kernel
theorem b274_9 {d : Nat} {Q : Option Value ⊕ Nat → am_Mem → Prop} {μ : am_Mem} {r0 r1 r90 : Nat} {s1 : Int32}
    (k : Wp d 274 (14, [some (.ref r0), some (.ref r1), none], [.long (Int64.ofNat 1), .int s1, .ref r90], μ) Q) :
    Wp d 274 (9, [some (.ref r0), some (.ref r1), none], [.int s1, .ref r90], μ) Q := wp_blk rfl e274_9 k
def q274_13 : List (Nat × Instr × Nat) := [(13, .lconst 0, 1)]
theorem e274_13 : am_dec am_M274 q274_13 = true := by decide +kernel
theorem b274_13 {d : Nat} {Q : Option Value ⊕ Nat → am_Mem → Prop} {μ : am_Mem} {r0 r1 r90 : Nat} {s1 : Int32}
    (k : Wp d 274 (14, [some (.ref r0), some (.ref r1), none], [.long (Int64.ofNat 0), .int s1, .ref r90], μ) Q) :
    Wp d 274 (13, [some (.ref r0), some (.ref r1), none], [.int s1, .ref r90], μ) Q := wp_blk rfl e274_13 k
def q274_14 : List (Nat × Instr × Nat) := [(14, .lastore, 1), (15, .goto 9, 3)]
theorem e274_14 : am_dec am_M274 q274_14 = true := by decide +kernel
theorem b274_14 {d : Nat} {Q : Option Value ⊕ Nat → am_Mem → Prop} {μ : am_Mem} {r0 r1 r90 : Nat} {s1 : Int32} {y92 : Int64}
    (h1 : (am_kd μ r90).1 = 6)
    (h2 : ¬ (s1 < 0 ∨ (am_kd μ r90).2 ≤ s1.toNatClampNeg))
    (k : Wp d 274 (24, [some (.ref r0), some (.ref r1), none], [], (am_pL μ r90 s1.toNatClampNeg y92)) Q) :
    Wp d 274 (14, [some (.ref r0), some (.ref r1), none], [.long y92, .int s1, .ref r90], μ) Q := wp_blk rfl e274_14 (And.intro h1 (And.intro h2 k))
def q274_19 : List (Nat × Instr × Nat) := [(19, .iconst 1, 1)]
theorem e274_19 : am_dec am_M274 q274_19 = true := by decide +kernel
theorem e274_19_r : am_dec am_M274 [(20, .ireturn, 1)] = true := by decide +kernel
theorem b274_19 {d : Nat} {Q : Option Value ⊕ Nat → am_Mem → Prop} {μ : am_Mem} {r0 r1 : Nat}
    (k : Q (.inl (some (.int (Int32.ofInt 1)))) μ) :
    Wp d 274 (19, [some (.ref r0), some (.ref r1), none], [], μ) Q := wp_blk rfl e274_19 (wp_ri (ty := .int) rfl e274_19_r rfl ⟨rfl, rfl⟩ k)
def q274_22 : List (Nat × Instr × Nat) := [(22, .iconst 2, 1)]
theorem e274_22 : am_dec am_M274 q274_22 = true := by decide +kernel
theorem e274_22_r : am_dec am_M274 [(23, .ireturn, 1)] = true := by decide +kernel
theorem b274_22 {d : Nat} {Q : Option Value ⊕ Nat → am_Mem → Prop} {μ : am_Mem} {r0 r1 : Nat}
    (k : Q (.inl (some (.int (Int32.ofInt 2)))) μ) :
    Wp d 274 (22, [some (.ref r0), some (.ref r1), none], [], μ) Q := wp_blk rfl e274_22 (wp_ri (ty := .int) rfl e274_22_r rfl ⟨rfl, rfl⟩ k)
def q274_24 : List (Nat × Instr × Nat) := [(24, .iconst 0, 1)]
theorem e274_24 : am_dec am_M274 q274_24 = true := by decide +kernel
theorem e274_24_r : am_dec am_M274 [(25, .ireturn, 1)] = true := by decide +kernel
theorem b274_24 {d : Nat} {Q : Option Value ⊕ Nat → am_Mem → Prop} {μ : am_Mem} {r0 r1 : Nat}
    (k : Q (.inl (some (.int (Int32.ofInt 0)))) μ) :
    Wp d 274 (24, [some (.ref r0), some (.ref r1), none], [], μ) Q := wp_blk rfl e274_24 (wp_ri (ty := .int) rfl e274_24_r rfl ⟨rfl, rfl⟩ k)
/-! RuleSheetsLaw.goal(LRuleSheets;I[J)I -/
def q275_0 : List (Nat × Instr × Nat) := [(0, .aload_n 2, 1), (1, .iconst 0, 1), (2, .aload_n 0, 1), (3, .iload_n 1, 1)]
theorem e275_0 : am_dec am_M275 q275_0 = true := by decide +kernel
theorem e275_0_c : am_dc1 am_M275 4 (.invokevirtual 39) 3 = true := by decide +kernel
theorem b275_0 {d : Nat} {Q : Option Value ⊕ Nat → am_Mem → Prop} {μ : am_Mem} {r0 r2 : Nat} {x1 : Int32} {P : Int32 → am_Mem → Prop} {X : Nat → am_Mem → Prop}
    (hk : am_kd μ r0 = (1, 11))
    (hc : Wp d 132 (0, [some (.ref r0), some (.int x1)], [], μ) (pI P X)) (hr : ∀ x μ', P x μ' → Wp (d + 1) 275 (7, [some (.ref r0), some (.int x1), some (.ref r2), none], [.int x, .int (Int32.ofInt 0), .ref r2], (μ')) Q)
    (hx : ∀ x μ', X x μ' → ∃ pc' j, am_hand GG 13 275 4 x (am_Mh am_M275) = some (pc', j) ∧ j < 4 ∧ Wp (d + 1) 275 (pc', am_drp [some (.ref r0), some (.int x1), some (.ref r2), none] j, [], μ') Q) :
    Wp (d + 1) 275 (0, [some (.ref r0), some (.int x1), some (.ref r2), none], [], μ) Q := wp_blk rfl e275_0 (wp_ch (as := [.int x1]) rfl e275_0_c (by decide) rfl rfl rfl rfl hk hc (fun v μ' hv => by obtain ⟨x, rfl, hp⟩ := pI_r hv; exact hr x μ' hp) hx)
def q275_7 : List (Nat × Instr × Nat) := [(7, .i2l, 1), (8, .lastore, 1), (9, .goto 12, 3)]
theorem e275_7 : am_dec am_M275 q275_7 = true := by decide +kernel
theorem b275_7 {d : Nat} {Q : Option Value ⊕ Nat → am_Mem → Prop} {μ : am_Mem} {r0 r2 r90 : Nat} {x1 s1 s2 : Int32}
    (h1 : (am_kd μ r90).1 = 6)
    (h2 : ¬ (s1 < 0 ∨ (am_kd μ r90).2 ≤ s1.toNatClampNeg))
    (k : Wp d 275 (21, [some (.ref r0), some (.int x1), some (.ref r2), none], [], (am_pL μ r90 s1.toNatClampNeg s2.toInt64)) Q) :
    Wp d 275 (7, [some (.ref r0), some (.int x1), some (.ref r2), none], [.int s2, .int s1, .ref r90], μ) Q := wp_blk rfl e275_7 (And.intro h1 (And.intro h2 k))
def q275_13 : List (Nat × Instr × Nat) := [(13, .iconst 1, 1)]
theorem e275_13 : am_dec am_M275 q275_13 = true := by decide +kernel
theorem e275_13_r : am_dec am_M275 [(14, .ireturn, 1)] = true := by decide +kernel
theorem b275_13 {d : Nat} {Q : Option Value ⊕ Nat → am_Mem → Prop} {μ : am_Mem} {r0 r2 : Nat} {x1 : Int32}
    (k : Q (.inl (some (.int (Int32.ofInt 1)))) μ) :
    Wp d 275 (13, [some (.ref r0), some (.int x1), some (.ref r2), none], [], μ) Q := wp_blk rfl e275_13 (wp_ri (ty := .int) rfl e275_13_r rfl ⟨rfl, rfl⟩ k)
def q275_16 : List (Nat × Instr × Nat) := [(16, .iconst 2, 1)]
theorem e275_16 : am_dec am_M275 q275_16 = true := by decide +kernel
theorem e275_16_r : am_dec am_M275 [(17, .ireturn, 1)] = true := by decide +kernel
theorem b275_16 {d : Nat} {Q : Option Value ⊕ Nat → am_Mem → Prop} {μ : am_Mem} {r0 r2 : Nat} {x1 : Int32}
    (k : Q (.inl (some (.int (Int32.ofInt 2)))) μ) :
    Wp d 275 (16, [some (.ref r0), some (.int x1), some (.ref r2), none], [], μ) Q := wp_blk rfl e275_16 (wp_ri (ty := .int) rfl e275_16_r rfl ⟨rfl, rfl⟩ k)
def q275_19 : List (Nat × Instr × Nat) := [(19, .iconst 3, 1)]
theorem e275_19 : am_dec am_M275 q275_19 = true := by decide +kernel
theorem e275_19_r : am_dec am_M275 [(20, .ireturn, 1)] = true := by decide +kernel
theorem b275_19 {d : Nat} {Q : Option Value ⊕ Nat → am_Mem → Prop} {μ : am_Mem} {r0 r2 : Nat} {x1 : Int32}
    (k : Q (.inl (some (.int (Int32.ofInt 3)))) μ) :
    Wp d 275 (19, [some (.ref r0), some (.int x1), some (.ref r2), none], [], μ) Q := wp_blk rfl e275_19 (wp_ri (ty := .int) rfl e275_19_r rfl ⟨rfl, rfl⟩ k)
def q275_21 : List (Nat × Instr × Nat) := [(21, .iconst 0, 1)]
theorem e275_21 : am_dec am_M275 q275_21 = true := by decide +kernel
theorem e275_21_r : am_dec am_M275 [(22, .ireturn, 1)] = true := by decide +kernel
theorem b275_21 {d : Nat} {Q : Option Value ⊕ Nat → am_Mem → Prop} {μ : am_Mem} {r0 r2 : Nat} {x1 : Int32}
    (k : Q (.inl (some (.int (Int32.ofInt 0)))) μ) :
    Wp d 275 (21, [some (.ref r0), some (.int x1), some (.ref r2), none], [], μ) Q := wp_blk rfl e275_21 (wp_ri (ty := .int) rfl e275_21_r rfl ⟨rfl, rfl⟩ k)
/-! RuleSheetsLaw.play(LRuleSheets;I[J)I -/
def q276_0 : List (Nat × Instr × Nat) := [(0, .aload_n 2, 1), (1, .iconst 0, 1), (2, .aload_n 0, 1), (3, .iload_n 1, 1)]
theorem e276_0 : am_dec am_M276 q276_0 = true := by decide +kernel
theorem e276_0_c : am_dc1 am_M276 4 (.invokevirtual 42) 3 = true := by decide +kernel
theorem b276_0 {d : Nat} {Q : Option Value ⊕ Nat → am_Mem → Prop} {μ : am_Mem} {r0 r2 : Nat} {x1 : Int32} {P : Int32 → am_Mem → Prop} {X : Nat → am_Mem → Prop}
    (hk : am_kd μ r0 = (1, 11))
    (hc : Wp d 133 (0, [some (.ref r0), some (.int x1)], [], μ) (pI P X)) (hr : ∀ x μ', P x μ' → Wp (d + 1) 276 (7, [some (.ref r0), some (.int x1), some (.ref r2), none], [.int x, .int (Int32.ofInt 0), .ref r2], (μ')) Q)
    (hx : ∀ x μ', X x μ' → ∃ pc' j, am_hand GG 13 276 4 x (am_Mh am_M276) = some (pc', j) ∧ j < 4 ∧ Wp (d + 1) 276 (pc', am_drp [some (.ref r0), some (.int x1), some (.ref r2), none] j, [], μ') Q) :
    Wp (d + 1) 276 (0, [some (.ref r0), some (.int x1), some (.ref r2), none], [], μ) Q := wp_blk rfl e276_0 (wp_ch (as := [.int x1]) rfl e276_0_c (by decide) rfl rfl rfl rfl hk hc (fun v μ' hv => by obtain ⟨x, rfl, hp⟩ := pI_r hv; exact hr x μ' hp) hx)
def q276_7 : List (Nat × Instr × Nat) := [(7, .i2l, 1), (8, .lastore, 1), (9, .goto 12, 3)]
theorem e276_7 : am_dec am_M276 q276_7 = true := by decide +kernel
theorem b276_7 {d : Nat} {Q : Option Value ⊕ Nat → am_Mem → Prop} {μ : am_Mem} {r0 r2 r90 : Nat} {x1 s1 s2 : Int32}
    (h1 : (am_kd μ r90).1 = 6)
    (h2 : ¬ (s1 < 0 ∨ (am_kd μ r90).2 ≤ s1.toNatClampNeg))
    (k : Wp d 276 (21, [some (.ref r0), some (.int x1), some (.ref r2), none], [], (am_pL μ r90 s1.toNatClampNeg s2.toInt64)) Q) :
    Wp d 276 (7, [some (.ref r0), some (.int x1), some (.ref r2), none], [.int s2, .int s1, .ref r90], μ) Q := wp_blk rfl e276_7 (And.intro h1 (And.intro h2 k))
def q276_13 : List (Nat × Instr × Nat) := [(13, .iconst 1, 1)]
theorem e276_13 : am_dec am_M276 q276_13 = true := by decide +kernel
theorem e276_13_r : am_dec am_M276 [(14, .ireturn, 1)] = true := by decide +kernel
theorem b276_13 {d : Nat} {Q : Option Value ⊕ Nat → am_Mem → Prop} {μ : am_Mem} {r0 r2 : Nat} {x1 : Int32}
    (k : Q (.inl (some (.int (Int32.ofInt 1)))) μ) :
    Wp d 276 (13, [some (.ref r0), some (.int x1), some (.ref r2), none], [], μ) Q := wp_blk rfl e276_13 (wp_ri (ty := .int) rfl e276_13_r rfl ⟨rfl, rfl⟩ k)
def q276_16 : List (Nat × Instr × Nat) := [(16, .iconst 2, 1)]
theorem e276_16 : am_dec am_M276 q276_16 = true := by decide +kernel
theorem e276_16_r : am_dec am_M276 [(17, .ireturn, 1)] = true := by decide +kernel
theorem b276_16 {d : Nat} {Q : Option Value ⊕ Nat → am_Mem → Prop} {μ : am_Mem} {r0 r2 : Nat} {x1 : Int32}
    (k : Q (.inl (some (.int (Int32.ofInt 2)))) μ) :
    Wp d 276 (16, [some (.ref r0), some (.int x1), some (.ref r2), none], [], μ) Q := wp_blk rfl e276_16 (wp_ri (ty := .int) rfl e276_16_r rfl ⟨rfl, rfl⟩ k)
def q276_19 : List (Nat × Instr × Nat) := [(19, .iconst 3, 1)]
theorem e276_19 : am_dec am_M276 q276_19 = true := by decide +kernel
theorem e276_19_r : am_dec am_M276 [(20, .ireturn, 1)] = true := by decide +kernel
theorem b276_19 {d : Nat} {Q : Option Value ⊕ Nat → am_Mem → Prop} {μ : am_Mem} {r0 r2 : Nat} {x1 : Int32}
    (k : Q (.inl (some (.int (Int32.ofInt 3)))) μ) :
    Wp d 276 (19, [some (.ref r0), some (.int x1), some (.ref r2), none], [], μ) Q := wp_blk rfl e276_19 (wp_ri (ty := .int) rfl e276_19_r rfl ⟨rfl, rfl⟩ k)
def q276_21 : List (Nat × Instr × Nat) := [(21, .iconst 0, 1)]
theorem e276_21 : am_dec am_M276 q276_21 = true := by decide +kernel
theorem e276_21_r : am_dec am_M276 [(22, .ireturn, 1)] = true := by decide +kernel
theorem b276_21 {d : Nat} {Q : Option Value ⊕ Nat → am_Mem → Prop} {μ : am_Mem} {r0 r2 : Nat} {x1 : Int32}
    (k : Q (.inl (some (.int (Int32.ofInt 0)))) μ) :
    Wp d 276 (21, [some (.ref r0), some (.int x1), some (.ref r2), none], [], μ) Q := wp_blk rfl e276_21 (wp_ri (ty := .int) rfl e276_21_r rfl ⟨rfl, rfl⟩ k)
/-! RuleSheetsLaw.sign(LRuleSheets;III[J)I -/
def q277_0 : List (Nat × Instr × Nat) := [(0, .aload 4, 2), (2, .iconst 0, 1), (3, .aload_n 0, 1), (4, .iload_n 1, 1), (5, .iload_n 2, 1), (6, .iload_n 3, 1)]
theorem e277_0 : am_dec am_M277 q277_0 = true := by decide +kernel
theorem e277_0_c : am_dc1 am_M277 7 (.invokevirtual 45) 3 = true := by decide +kernel
theorem b277_0 {d : Nat} {Q : Option Value ⊕ Nat → am_Mem → Prop} {μ : am_Mem} {r0 r4 : Nat} {x1 x2 x3 : Int32} {P : Int32 → am_Mem → Prop} {X : Nat → am_Mem → Prop}
    (hk : am_kd μ r0 = (1, 11))
    (hc : Wp d 134 (0, [some (.ref r0), some (.int x1), some (.int x2), some (.int x3)], [], μ) (pI P X)) (hr : ∀ x μ', P x μ' → Wp (d + 1) 277 (10, [some (.ref r0), some (.int x1), some (.int x2), some (.int x3), some (.ref r4), none], [.int x, .int (Int32.ofInt 0), .ref r4], (μ')) Q)
    (hx : ∀ x μ', X x μ' → ∃ pc' j, am_hand GG 13 277 7 x (am_Mh am_M277) = some (pc', j) ∧ j < 6 ∧ Wp (d + 1) 277 (pc', am_drp [some (.ref r0), some (.int x1), some (.int x2), some (.int x3), some (.ref r4), none] j, [], μ') Q) :
    Wp (d + 1) 277 (0, [some (.ref r0), some (.int x1), some (.int x2), some (.int x3), some (.ref r4), none], [], μ) Q := wp_blk rfl e277_0 (wp_ch (as := [.int x1, .int x2, .int x3]) rfl e277_0_c (by decide) rfl rfl rfl rfl hk hc (fun v μ' hv => by obtain ⟨x, rfl, hp⟩ := pI_r hv; exact hr x μ' hp) hx)
def q277_10 : List (Nat × Instr × Nat) := [(10, .i2l, 1), (11, .lastore, 1), (12, .goto 19, 3)]
theorem e277_10 : am_dec am_M277 q277_10 = true := by decide +kernel
theorem b277_10 {d : Nat} {Q : Option Value ⊕ Nat → am_Mem → Prop} {μ : am_Mem} {r0 r4 r90 : Nat} {x1 x2 x3 s1 s2 : Int32}
    (h1 : (am_kd μ r90).1 = 6)
    (h2 : ¬ (s1 < 0 ∨ (am_kd μ r90).2 ≤ s1.toNatClampNeg))
    (k : Wp d 277 (31, [some (.ref r0), some (.int x1), some (.int x2), some (.int x3), some (.ref r4), none], [], (am_pL μ r90 s1.toNatClampNeg s2.toInt64)) Q) :
    Wp d 277 (10, [some (.ref r0), some (.int x1), some (.int x2), some (.int x3), some (.ref r4), none], [.int s2, .int s1, .ref r90], μ) Q := wp_blk rfl e277_10 (And.intro h1 (And.intro h2 k))
def q277_17 : List (Nat × Instr × Nat) := [(17, .iconst 1, 1)]
theorem e277_17 : am_dec am_M277 q277_17 = true := by decide +kernel
theorem e277_17_r : am_dec am_M277 [(18, .ireturn, 1)] = true := by decide +kernel
theorem b277_17 {d : Nat} {Q : Option Value ⊕ Nat → am_Mem → Prop} {μ : am_Mem} {r0 r4 : Nat} {x1 x2 x3 : Int32}
    (k : Q (.inl (some (.int (Int32.ofInt 1)))) μ) :
    Wp d 277 (17, [some (.ref r0), some (.int x1), some (.int x2), some (.int x3), some (.ref r4), none], [], μ) Q := wp_blk rfl e277_17 (wp_ri (ty := .int) rfl e277_17_r rfl ⟨rfl, rfl⟩ k)
def q277_21 : List (Nat × Instr × Nat) := [(21, .iconst 2, 1)]
theorem e277_21 : am_dec am_M277 q277_21 = true := by decide +kernel
theorem e277_21_r : am_dec am_M277 [(22, .ireturn, 1)] = true := by decide +kernel
theorem b277_21 {d : Nat} {Q : Option Value ⊕ Nat → am_Mem → Prop} {μ : am_Mem} {r0 r4 : Nat} {x1 x2 x3 : Int32}
    (k : Q (.inl (some (.int (Int32.ofInt 2)))) μ) :
    Wp d 277 (21, [some (.ref r0), some (.int x1), some (.int x2), some (.int x3), some (.ref r4), none], [], μ) Q := wp_blk rfl e277_21 (wp_ri (ty := .int) rfl e277_21_r rfl ⟨rfl, rfl⟩ k)
def q277_25 : List (Nat × Instr × Nat) := [(25, .iconst 3, 1)]
theorem e277_25 : am_dec am_M277 q277_25 = true := by decide +kernel
theorem e277_25_r : am_dec am_M277 [(26, .ireturn, 1)] = true := by decide +kernel
theorem b277_25 {d : Nat} {Q : Option Value ⊕ Nat → am_Mem → Prop} {μ : am_Mem} {r0 r4 : Nat} {x1 x2 x3 : Int32}
    (k : Q (.inl (some (.int (Int32.ofInt 3)))) μ) :
    Wp d 277 (25, [some (.ref r0), some (.int x1), some (.int x2), some (.int x3), some (.ref r4), none], [], μ) Q := wp_blk rfl e277_25 (wp_ri (ty := .int) rfl e277_25_r rfl ⟨rfl, rfl⟩ k)
def q277_29 : List (Nat × Instr × Nat) := [(29, .iconst 4, 1)]
theorem e277_29 : am_dec am_M277 q277_29 = true := by decide +kernel
theorem e277_29_r : am_dec am_M277 [(30, .ireturn, 1)] = true := by decide +kernel
theorem b277_29 {d : Nat} {Q : Option Value ⊕ Nat → am_Mem → Prop} {μ : am_Mem} {r0 r4 : Nat} {x1 x2 x3 : Int32}
    (k : Q (.inl (some (.int (Int32.ofInt 4)))) μ) :
    Wp d 277 (29, [some (.ref r0), some (.int x1), some (.int x2), some (.int x3), some (.ref r4), none], [], μ) Q := wp_blk rfl e277_29 (wp_ri (ty := .int) rfl e277_29_r rfl ⟨rfl, rfl⟩ k)
def q277_31 : List (Nat × Instr × Nat) := [(31, .iconst 0, 1)]
theorem e277_31 : am_dec am_M277 q277_31 = true := by decide +kernel
theorem e277_31_r : am_dec am_M277 [(32, .ireturn, 1)] = true := by decide +kernel
theorem b277_31 {d : Nat} {Q : Option Value ⊕ Nat → am_Mem → Prop} {μ : am_Mem} {r0 r4 : Nat} {x1 x2 x3 : Int32}
    (k : Q (.inl (some (.int (Int32.ofInt 0)))) μ) :
    Wp d 277 (31, [some (.ref r0), some (.int x1), some (.int x2), some (.int x3), some (.ref r4), none], [], μ) Q := wp_blk rfl e277_31 (wp_ri (ty := .int) rfl e277_31_r rfl ⟨rfl, rfl⟩ k)
/-! RuleSheetsLaw.explore(LRuleSheets;[J)I -/
def q278_0 : List (Nat × Instr × Nat) := [(0, .aload_n 1, 1), (1, .iconst 0, 1), (2, .aload_n 0, 1)]
theorem e278_0 : am_dec am_M278 q278_0 = true := by decide +kernel
theorem e278_0_c : am_dc1 am_M278 3 (.invokevirtual 49) 3 = true := by decide +kernel
theorem b278_0 {d : Nat} {Q : Option Value ⊕ Nat → am_Mem → Prop} {μ : am_Mem} {r0 r1 : Nat} {P : Int32 → am_Mem → Prop} {X : Nat → am_Mem → Prop}
    (hk : am_kd μ r0 = (1, 11))
    (hc : Wp d 135 (0, [some (.ref r0), none], [], μ) (pI P X)) (hr : ∀ x μ', P x μ' → Wp (d + 1) 278 (6, [some (.ref r0), some (.ref r1), none], [.int x, .int (Int32.ofInt 0), .ref r1], (μ')) Q)
    (hx : ∀ x μ', X x μ' → ∃ pc' j, am_hand GG 13 278 3 x (am_Mh am_M278) = some (pc', j) ∧ j < 3 ∧ Wp (d + 1) 278 (pc', am_drp [some (.ref r0), some (.ref r1), none] j, [], μ') Q) :
    Wp (d + 1) 278 (0, [some (.ref r0), some (.ref r1), none], [], μ) Q := wp_blk rfl e278_0 (wp_ch (as := []) rfl e278_0_c (by decide) rfl rfl rfl rfl hk hc (fun v μ' hv => by obtain ⟨x, rfl, hp⟩ := pI_r hv; exact hr x μ' hp) hx)
def q278_6 : List (Nat × Instr × Nat) := [(6, .i2l, 1), (7, .lastore, 1), (8, .goto 9, 3)]
theorem e278_6 : am_dec am_M278 q278_6 = true := by decide +kernel
theorem b278_6 {d : Nat} {Q : Option Value ⊕ Nat → am_Mem → Prop} {μ : am_Mem} {r0 r1 r90 : Nat} {s1 s2 : Int32}
    (h1 : (am_kd μ r90).1 = 6)
    (h2 : ¬ (s1 < 0 ∨ (am_kd μ r90).2 ≤ s1.toNatClampNeg))
    (k : Wp d 278 (17, [some (.ref r0), some (.ref r1), none], [], (am_pL μ r90 s1.toNatClampNeg s2.toInt64)) Q) :
    Wp d 278 (6, [some (.ref r0), some (.ref r1), none], [.int s2, .int s1, .ref r90], μ) Q := wp_blk rfl e278_6 (And.intro h1 (And.intro h2 k))
def q278_12 : List (Nat × Instr × Nat) := [(12, .iconst 1, 1)]
theorem e278_12 : am_dec am_M278 q278_12 = true := by decide +kernel
theorem e278_12_r : am_dec am_M278 [(13, .ireturn, 1)] = true := by decide +kernel
theorem b278_12 {d : Nat} {Q : Option Value ⊕ Nat → am_Mem → Prop} {μ : am_Mem} {r0 r1 : Nat}
    (k : Q (.inl (some (.int (Int32.ofInt 1)))) μ) :
    Wp d 278 (12, [some (.ref r0), some (.ref r1), none], [], μ) Q := wp_blk rfl e278_12 (wp_ri (ty := .int) rfl e278_12_r rfl ⟨rfl, rfl⟩ k)
def q278_15 : List (Nat × Instr × Nat) := [(15, .iconst 2, 1)]
theorem e278_15 : am_dec am_M278 q278_15 = true := by decide +kernel
theorem e278_15_r : am_dec am_M278 [(16, .ireturn, 1)] = true := by decide +kernel
theorem b278_15 {d : Nat} {Q : Option Value ⊕ Nat → am_Mem → Prop} {μ : am_Mem} {r0 r1 : Nat}
    (k : Q (.inl (some (.int (Int32.ofInt 2)))) μ) :
    Wp d 278 (15, [some (.ref r0), some (.ref r1), none], [], μ) Q := wp_blk rfl e278_15 (wp_ri (ty := .int) rfl e278_15_r rfl ⟨rfl, rfl⟩ k)
def q278_17 : List (Nat × Instr × Nat) := [(17, .iconst 0, 1)]
theorem e278_17 : am_dec am_M278 q278_17 = true := by decide +kernel
theorem e278_17_r : am_dec am_M278 [(18, .ireturn, 1)] = true := by decide +kernel
theorem b278_17 {d : Nat} {Q : Option Value ⊕ Nat → am_Mem → Prop} {μ : am_Mem} {r0 r1 : Nat}
    (k : Q (.inl (some (.int (Int32.ofInt 0)))) μ) :
    Wp d 278 (17, [some (.ref r0), some (.ref r1), none], [], μ) Q := wp_blk rfl e278_17 (wp_ri (ty := .int) rfl e278_17_r rfl ⟨rfl, rfl⟩ k)
/-! RuleSheetsLaw.defect(LRuleSheets;I[J)I -/
def q279_0 : List (Nat × Instr × Nat) := [(0, .aload_n 2, 1), (1, .iconst 0, 1), (2, .aload_n 0, 1), (3, .iload_n 1, 1)]
theorem e279_0 : am_dec am_M279 q279_0 = true := by decide +kernel
theorem e279_0_c : am_dc1 am_M279 4 (.invokevirtual 52) 3 = true := by decide +kernel
theorem b279_0 {d : Nat} {Q : Option Value ⊕ Nat → am_Mem → Prop} {μ : am_Mem} {r0 r2 : Nat} {x1 : Int32} {P : Int32 → am_Mem → Prop} {X : Nat → am_Mem → Prop}
    (hk : am_kd μ r0 = (1, 11))
    (hc : Wp d 139 (0, [some (.ref r0), some (.int x1)], [], μ) (pI P X)) (hr : ∀ x μ', P x μ' → Wp (d + 1) 279 (7, [some (.ref r0), some (.int x1), some (.ref r2), none], [.int x, .int (Int32.ofInt 0), .ref r2], (μ')) Q)
    (hx : ∀ x μ', X x μ' → ∃ pc' j, am_hand GG 13 279 4 x (am_Mh am_M279) = some (pc', j) ∧ j < 4 ∧ Wp (d + 1) 279 (pc', am_drp [some (.ref r0), some (.int x1), some (.ref r2), none] j, [], μ') Q) :
    Wp (d + 1) 279 (0, [some (.ref r0), some (.int x1), some (.ref r2), none], [], μ) Q := wp_blk rfl e279_0 (wp_ch (as := [.int x1]) rfl e279_0_c (by decide) rfl rfl rfl rfl hk hc (fun v μ' hv => by obtain ⟨x, rfl, hp⟩ := pI_r hv; exact hr x μ' hp) hx)
def q279_7 : List (Nat × Instr × Nat) := [(7, .i2l, 1), (8, .lastore, 1), (9, .goto 9, 3)]
theorem e279_7 : am_dec am_M279 q279_7 = true := by decide +kernel
theorem b279_7 {d : Nat} {Q : Option Value ⊕ Nat → am_Mem → Prop} {μ : am_Mem} {r0 r2 r90 : Nat} {x1 s1 s2 : Int32}
    (h1 : (am_kd μ r90).1 = 6)
    (h2 : ¬ (s1 < 0 ∨ (am_kd μ r90).2 ≤ s1.toNatClampNeg))
    (k : Wp d 279 (18, [some (.ref r0), some (.int x1), some (.ref r2), none], [], (am_pL μ r90 s1.toNatClampNeg s2.toInt64)) Q) :
    Wp d 279 (7, [some (.ref r0), some (.int x1), some (.ref r2), none], [.int s2, .int s1, .ref r90], μ) Q := wp_blk rfl e279_7 (And.intro h1 (And.intro h2 k))
def q279_13 : List (Nat × Instr × Nat) := [(13, .iconst 1, 1)]
theorem e279_13 : am_dec am_M279 q279_13 = true := by decide +kernel
theorem e279_13_r : am_dec am_M279 [(14, .ireturn, 1)] = true := by decide +kernel
theorem b279_13 {d : Nat} {Q : Option Value ⊕ Nat → am_Mem → Prop} {μ : am_Mem} {r0 r2 : Nat} {x1 : Int32}
    (k : Q (.inl (some (.int (Int32.ofInt 1)))) μ) :
    Wp d 279 (13, [some (.ref r0), some (.int x1), some (.ref r2), none], [], μ) Q := wp_blk rfl e279_13 (wp_ri (ty := .int) rfl e279_13_r rfl ⟨rfl, rfl⟩ k)
def q279_16 : List (Nat × Instr × Nat) := [(16, .iconst 2, 1)]
theorem e279_16 : am_dec am_M279 q279_16 = true := by decide +kernel
theorem e279_16_r : am_dec am_M279 [(17, .ireturn, 1)] = true := by decide +kernel
theorem b279_16 {d : Nat} {Q : Option Value ⊕ Nat → am_Mem → Prop} {μ : am_Mem} {r0 r2 : Nat} {x1 : Int32}
    (k : Q (.inl (some (.int (Int32.ofInt 2)))) μ) :
    Wp d 279 (16, [some (.ref r0), some (.int x1), some (.ref r2), none], [], μ) Q := wp_blk rfl e279_16 (wp_ri (ty := .int) rfl e279_16_r rfl ⟨rfl, rfl⟩ k)
def q279_18 : List (Nat × Instr × Nat) := [(18, .iconst 0, 1)]
theorem e279_18 : am_dec am_M279 q279_18 = true := by decide +kernel
theorem e279_18_r : am_dec am_M279 [(19, .ireturn, 1)] = true := by decide +kernel
theorem b279_18 {d : Nat} {Q : Option Value ⊕ Nat → am_Mem → Prop} {μ : am_Mem} {r0 r2 : Nat} {x1 : Int32}
    (k : Q (.inl (some (.int (Int32.ofInt 0)))) μ) :
    Wp d 279 (18, [some (.ref r0), some (.int x1), some (.ref r2), none], [], μ) Q := wp_blk rfl e279_18 (wp_ri (ty := .int) rfl e279_18_r rfl ⟨rfl, rfl⟩ k)
/-! RuleSheetsLaw.state(LRuleSheets;II[J)I -/
def q280_0 : List (Nat × Instr × Nat) := [(0, .aload_n 3, 1), (1, .iconst 0, 1), (2, .aload_n 0, 1), (3, .iload_n 1, 1), (4, .iload_n 2, 1)]
theorem e280_0 : am_dec am_M280 q280_0 = true := by decide +kernel
theorem e280_0_c : am_dc1 am_M280 5 (.invokevirtual 55) 3 = true := by decide +kernel
theorem b280_0 {d : Nat} {Q : Option Value ⊕ Nat → am_Mem → Prop} {μ : am_Mem} {r0 r3 : Nat} {x1 x2 : Int32} {P : Int32 → am_Mem → Prop} {X : Nat → am_Mem → Prop}
    (hk : am_kd μ r0 = (1, 11))
    (hc : Wp d 141 (0, [some (.ref r0), some (.int x1), some (.int x2)], [], μ) (pI P X)) (hr : ∀ x μ', P x μ' → Wp (d + 1) 280 (8, [some (.ref r0), some (.int x1), some (.int x2), some (.ref r3), none], [.int x, .int (Int32.ofInt 0), .ref r3], (μ')) Q)
    (hx : ∀ x μ', X x μ' → ∃ pc' j, am_hand GG 13 280 5 x (am_Mh am_M280) = some (pc', j) ∧ j < 5 ∧ Wp (d + 1) 280 (pc', am_drp [some (.ref r0), some (.int x1), some (.int x2), some (.ref r3), none] j, [], μ') Q) :
    Wp (d + 1) 280 (0, [some (.ref r0), some (.int x1), some (.int x2), some (.ref r3), none], [], μ) Q := wp_blk rfl e280_0 (wp_ch (as := [.int x1, .int x2]) rfl e280_0_c (by decide) rfl rfl rfl rfl hk hc (fun v μ' hv => by obtain ⟨x, rfl, hp⟩ := pI_r hv; exact hr x μ' hp) hx)
def q280_8 : List (Nat × Instr × Nat) := [(8, .i2l, 1), (9, .lastore, 1), (10, .goto 15, 3)]
theorem e280_8 : am_dec am_M280 q280_8 = true := by decide +kernel
theorem b280_8 {d : Nat} {Q : Option Value ⊕ Nat → am_Mem → Prop} {μ : am_Mem} {r0 r3 r90 : Nat} {x1 x2 s1 s2 : Int32}
    (h1 : (am_kd μ r90).1 = 6)
    (h2 : ¬ (s1 < 0 ∨ (am_kd μ r90).2 ≤ s1.toNatClampNeg))
    (k : Wp d 280 (25, [some (.ref r0), some (.int x1), some (.int x2), some (.ref r3), none], [], (am_pL μ r90 s1.toNatClampNeg s2.toInt64)) Q) :
    Wp d 280 (8, [some (.ref r0), some (.int x1), some (.int x2), some (.ref r3), none], [.int s2, .int s1, .ref r90], μ) Q := wp_blk rfl e280_8 (And.intro h1 (And.intro h2 k))
def q280_15 : List (Nat × Instr × Nat) := [(15, .iconst 1, 1)]
theorem e280_15 : am_dec am_M280 q280_15 = true := by decide +kernel
theorem e280_15_r : am_dec am_M280 [(16, .ireturn, 1)] = true := by decide +kernel
theorem b280_15 {d : Nat} {Q : Option Value ⊕ Nat → am_Mem → Prop} {μ : am_Mem} {r0 r3 : Nat} {x1 x2 : Int32}
    (k : Q (.inl (some (.int (Int32.ofInt 1)))) μ) :
    Wp d 280 (15, [some (.ref r0), some (.int x1), some (.int x2), some (.ref r3), none], [], μ) Q := wp_blk rfl e280_15 (wp_ri (ty := .int) rfl e280_15_r rfl ⟨rfl, rfl⟩ k)
def q280_19 : List (Nat × Instr × Nat) := [(19, .iconst 2, 1)]
theorem e280_19 : am_dec am_M280 q280_19 = true := by decide +kernel
theorem e280_19_r : am_dec am_M280 [(20, .ireturn, 1)] = true := by decide +kernel
theorem b280_19 {d : Nat} {Q : Option Value ⊕ Nat → am_Mem → Prop} {μ : am_Mem} {r0 r3 : Nat} {x1 x2 : Int32}
    (k : Q (.inl (some (.int (Int32.ofInt 2)))) μ) :
    Wp d 280 (19, [some (.ref r0), some (.int x1), some (.int x2), some (.ref r3), none], [], μ) Q := wp_blk rfl e280_19 (wp_ri (ty := .int) rfl e280_19_r rfl ⟨rfl, rfl⟩ k)
def q280_23 : List (Nat × Instr × Nat) := [(23, .iconst 3, 1)]
theorem e280_23 : am_dec am_M280 q280_23 = true := by decide +kernel
theorem e280_23_r : am_dec am_M280 [(24, .ireturn, 1)] = true := by decide +kernel
theorem b280_23 {d : Nat} {Q : Option Value ⊕ Nat → am_Mem → Prop} {μ : am_Mem} {r0 r3 : Nat} {x1 x2 : Int32}
    (k : Q (.inl (some (.int (Int32.ofInt 3)))) μ) :
    Wp d 280 (23, [some (.ref r0), some (.int x1), some (.int x2), some (.ref r3), none], [], μ) Q := wp_blk rfl e280_23 (wp_ri (ty := .int) rfl e280_23_r rfl ⟨rfl, rfl⟩ k)
def q280_25 : List (Nat × Instr × Nat) := [(25, .iconst 0, 1)]
theorem e280_25 : am_dec am_M280 q280_25 = true := by decide +kernel
theorem e280_25_r : am_dec am_M280 [(26, .ireturn, 1)] = true := by decide +kernel
theorem b280_25 {d : Nat} {Q : Option Value ⊕ Nat → am_Mem → Prop} {μ : am_Mem} {r0 r3 : Nat} {x1 x2 : Int32}
    (k : Q (.inl (some (.int (Int32.ofInt 0)))) μ) :
    Wp d 280 (25, [some (.ref r0), some (.int x1), some (.int x2), some (.ref r3), none], [], μ) Q := wp_blk rfl e280_25 (wp_ri (ty := .int) rfl e280_25_r rfl ⟨rfl, rfl⟩ k)
/-! RuleSheetsLaw.next(LRuleSheets;II[J)I -/
def q281_0 : List (Nat × Instr × Nat) := [(0, .aload_n 3, 1), (1, .iconst 0, 1), (2, .aload_n 0, 1), (3, .iload_n 1, 1), (4, .iload_n 2, 1)]
theorem e281_0 : am_dec am_M281 q281_0 = true := by decide +kernel
theorem e281_0_c : am_dc1 am_M281 5 (.invokevirtual 59) 3 = true := by decide +kernel
theorem b281_0 {d : Nat} {Q : Option Value ⊕ Nat → am_Mem → Prop} {μ : am_Mem} {r0 r3 : Nat} {x1 x2 : Int32} {P : Int32 → am_Mem → Prop} {X : Nat → am_Mem → Prop}
    (hk : am_kd μ r0 = (1, 11))
    (hc : Wp d 143 (0, [some (.ref r0), some (.int x1), some (.int x2)], [], μ) (pI P X)) (hr : ∀ x μ', P x μ' → Wp (d + 1) 281 (8, [some (.ref r0), some (.int x1), some (.int x2), some (.ref r3), none], [.int x, .int (Int32.ofInt 0), .ref r3], (μ')) Q)
    (hx : ∀ x μ', X x μ' → ∃ pc' j, am_hand GG 13 281 5 x (am_Mh am_M281) = some (pc', j) ∧ j < 5 ∧ Wp (d + 1) 281 (pc', am_drp [some (.ref r0), some (.int x1), some (.int x2), some (.ref r3), none] j, [], μ') Q) :
    Wp (d + 1) 281 (0, [some (.ref r0), some (.int x1), some (.int x2), some (.ref r3), none], [], μ) Q := wp_blk rfl e281_0 (wp_ch (as := [.int x1, .int x2]) rfl e281_0_c (by decide) rfl rfl rfl rfl hk hc (fun v μ' hv => by obtain ⟨x, rfl, hp⟩ := pI_r hv; exact hr x μ' hp) hx)
def q281_8 : List (Nat × Instr × Nat) := [(8, .i2l, 1), (9, .lastore, 1), (10, .goto 11, 3)]
theorem e281_8 : am_dec am_M281 q281_8 = true := by decide +kernel
theorem b281_8 {d : Nat} {Q : Option Value ⊕ Nat → am_Mem → Prop} {μ : am_Mem} {r0 r3 r90 : Nat} {x1 x2 s1 s2 : Int32}
    (h1 : (am_kd μ r90).1 = 6)
    (h2 : ¬ (s1 < 0 ∨ (am_kd μ r90).2 ≤ s1.toNatClampNeg))
    (k : Wp d 281 (21, [some (.ref r0), some (.int x1), some (.int x2), some (.ref r3), none], [], (am_pL μ r90 s1.toNatClampNeg s2.toInt64)) Q) :
    Wp d 281 (8, [some (.ref r0), some (.int x1), some (.int x2), some (.ref r3), none], [.int s2, .int s1, .ref r90], μ) Q := wp_blk rfl e281_8 (And.intro h1 (And.intro h2 k))
def q281_15 : List (Nat × Instr × Nat) := [(15, .iconst 1, 1)]
theorem e281_15 : am_dec am_M281 q281_15 = true := by decide +kernel
theorem e281_15_r : am_dec am_M281 [(16, .ireturn, 1)] = true := by decide +kernel
theorem b281_15 {d : Nat} {Q : Option Value ⊕ Nat → am_Mem → Prop} {μ : am_Mem} {r0 r3 : Nat} {x1 x2 : Int32}
    (k : Q (.inl (some (.int (Int32.ofInt 1)))) μ) :
    Wp d 281 (15, [some (.ref r0), some (.int x1), some (.int x2), some (.ref r3), none], [], μ) Q := wp_blk rfl e281_15 (wp_ri (ty := .int) rfl e281_15_r rfl ⟨rfl, rfl⟩ k)
def q281_19 : List (Nat × Instr × Nat) := [(19, .iconst 2, 1)]
theorem e281_19 : am_dec am_M281 q281_19 = true := by decide +kernel
theorem e281_19_r : am_dec am_M281 [(20, .ireturn, 1)] = true := by decide +kernel
theorem b281_19 {d : Nat} {Q : Option Value ⊕ Nat → am_Mem → Prop} {μ : am_Mem} {r0 r3 : Nat} {x1 x2 : Int32}
    (k : Q (.inl (some (.int (Int32.ofInt 2)))) μ) :
    Wp d 281 (19, [some (.ref r0), some (.int x1), some (.int x2), some (.ref r3), none], [], μ) Q := wp_blk rfl e281_19 (wp_ri (ty := .int) rfl e281_19_r rfl ⟨rfl, rfl⟩ k)
def q281_21 : List (Nat × Instr × Nat) := [(21, .iconst 0, 1)]
theorem e281_21 : am_dec am_M281 q281_21 = true := by decide +kernel
theorem e281_21_r : am_dec am_M281 [(22, .ireturn, 1)] = true := by decide +kernel
theorem b281_21 {d : Nat} {Q : Option Value ⊕ Nat → am_Mem → Prop} {μ : am_Mem} {r0 r3 : Nat} {x1 x2 : Int32}
    (k : Q (.inl (some (.int (Int32.ofInt 0)))) μ) :
    Wp d 281 (21, [some (.ref r0), some (.int x1), some (.int x2), some (.ref r3), none], [], μ) Q := wp_blk rfl e281_21 (wp_ri (ty := .int) rfl e281_21_r rfl ⟨rfl, rfl⟩ k)
/-! RuleSheetsLaw.value(LRuleSheets;I[J)I -/
def q282_0 : List (Nat × Instr × Nat) := [(0, .aload_n 2, 1), (1, .iconst 0, 1), (2, .aload_n 0, 1), (3, .iload_n 1, 1)]
theorem e282_0 : am_dec am_M282 q282_0 = true := by decide +kernel
theorem e282_0_c : am_dc1 am_M282 4 (.invokevirtual 62) 3 = true := by decide +kernel
theorem b282_0 {d : Nat} {Q : Option Value ⊕ Nat → am_Mem → Prop} {μ : am_Mem} {r0 r2 : Nat} {x1 : Int32} {P : Int32 → am_Mem → Prop} {X : Nat → am_Mem → Prop}
    (hk : am_kd μ r0 = (1, 11))
    (hc : Wp d 144 (0, [some (.ref r0), some (.int x1)], [], μ) (pI P X)) (hr : ∀ x μ', P x μ' → Wp (d + 1) 282 (7, [some (.ref r0), some (.int x1), some (.ref r2), none], [.int x, .int (Int32.ofInt 0), .ref r2], (μ')) Q)
    (hx : ∀ x μ', X x μ' → ∃ pc' j, am_hand GG 13 282 4 x (am_Mh am_M282) = some (pc', j) ∧ j < 4 ∧ Wp (d + 1) 282 (pc', am_drp [some (.ref r0), some (.int x1), some (.ref r2), none] j, [], μ') Q) :
    Wp (d + 1) 282 (0, [some (.ref r0), some (.int x1), some (.ref r2), none], [], μ) Q := wp_blk rfl e282_0 (wp_ch (as := [.int x1]) rfl e282_0_c (by decide) rfl rfl rfl rfl hk hc (fun v μ' hv => by obtain ⟨x, rfl, hp⟩ := pI_r hv; exact hr x μ' hp) hx)
def q282_7 : List (Nat × Instr × Nat) := [(7, .i2l, 1), (8, .lastore, 1), (9, .goto 9, 3)]
theorem e282_7 : am_dec am_M282 q282_7 = true := by decide +kernel
theorem b282_7 {d : Nat} {Q : Option Value ⊕ Nat → am_Mem → Prop} {μ : am_Mem} {r0 r2 r90 : Nat} {x1 s1 s2 : Int32}
    (h1 : (am_kd μ r90).1 = 6)
    (h2 : ¬ (s1 < 0 ∨ (am_kd μ r90).2 ≤ s1.toNatClampNeg))
    (k : Wp d 282 (18, [some (.ref r0), some (.int x1), some (.ref r2), none], [], (am_pL μ r90 s1.toNatClampNeg s2.toInt64)) Q) :
    Wp d 282 (7, [some (.ref r0), some (.int x1), some (.ref r2), none], [.int s2, .int s1, .ref r90], μ) Q := wp_blk rfl e282_7 (And.intro h1 (And.intro h2 k))
def q282_13 : List (Nat × Instr × Nat) := [(13, .iconst 1, 1)]
theorem e282_13 : am_dec am_M282 q282_13 = true := by decide +kernel
theorem e282_13_r : am_dec am_M282 [(14, .ireturn, 1)] = true := by decide +kernel
theorem b282_13 {d : Nat} {Q : Option Value ⊕ Nat → am_Mem → Prop} {μ : am_Mem} {r0 r2 : Nat} {x1 : Int32}
    (k : Q (.inl (some (.int (Int32.ofInt 1)))) μ) :
    Wp d 282 (13, [some (.ref r0), some (.int x1), some (.ref r2), none], [], μ) Q := wp_blk rfl e282_13 (wp_ri (ty := .int) rfl e282_13_r rfl ⟨rfl, rfl⟩ k)
def q282_16 : List (Nat × Instr × Nat) := [(16, .iconst 2, 1)]
theorem e282_16 : am_dec am_M282 q282_16 = true := by decide +kernel
theorem e282_16_r : am_dec am_M282 [(17, .ireturn, 1)] = true := by decide +kernel
theorem b282_16 {d : Nat} {Q : Option Value ⊕ Nat → am_Mem → Prop} {μ : am_Mem} {r0 r2 : Nat} {x1 : Int32}
    (k : Q (.inl (some (.int (Int32.ofInt 2)))) μ) :
    Wp d 282 (16, [some (.ref r0), some (.int x1), some (.ref r2), none], [], μ) Q := wp_blk rfl e282_16 (wp_ri (ty := .int) rfl e282_16_r rfl ⟨rfl, rfl⟩ k)
def q282_18 : List (Nat × Instr × Nat) := [(18, .iconst 0, 1)]
theorem e282_18 : am_dec am_M282 q282_18 = true := by decide +kernel
theorem e282_18_r : am_dec am_M282 [(19, .ireturn, 1)] = true := by decide +kernel
theorem b282_18 {d : Nat} {Q : Option Value ⊕ Nat → am_Mem → Prop} {μ : am_Mem} {r0 r2 : Nat} {x1 : Int32}
    (k : Q (.inl (some (.int (Int32.ofInt 0)))) μ) :
    Wp d 282 (18, [some (.ref r0), some (.int x1), some (.ref r2), none], [], μ) Q := wp_blk rfl e282_18 (wp_ri (ty := .int) rfl e282_18_r rfl ⟨rfl, rfl⟩ k)
/-! RuleSheetsLaw.best(LRuleSheets;I[J)I -/
def q283_0 : List (Nat × Instr × Nat) := [(0, .aload_n 2, 1), (1, .iconst 0, 1), (2, .aload_n 0, 1), (3, .iload_n 1, 1)]
theorem e283_0 : am_dec am_M283 q283_0 = true := by decide +kernel
theorem e283_0_c : am_dc1 am_M283 4 (.invokevirtual 65) 3 = true := by decide +kernel
theorem b283_0 {d : Nat} {Q : Option Value ⊕ Nat → am_Mem → Prop} {μ : am_Mem} {r0 r2 : Nat} {x1 : Int32} {P : Int32 → am_Mem → Prop} {X : Nat → am_Mem → Prop}
    (hk : am_kd μ r0 = (1, 11))
    (hc : Wp d 146 (0, [some (.ref r0), some (.int x1)], [], μ) (pI P X)) (hr : ∀ x μ', P x μ' → Wp (d + 1) 283 (7, [some (.ref r0), some (.int x1), some (.ref r2), none], [.int x, .int (Int32.ofInt 0), .ref r2], (μ')) Q)
    (hx : ∀ x μ', X x μ' → ∃ pc' j, am_hand GG 13 283 4 x (am_Mh am_M283) = some (pc', j) ∧ j < 4 ∧ Wp (d + 1) 283 (pc', am_drp [some (.ref r0), some (.int x1), some (.ref r2), none] j, [], μ') Q) :
    Wp (d + 1) 283 (0, [some (.ref r0), some (.int x1), some (.ref r2), none], [], μ) Q := wp_blk rfl e283_0 (wp_ch (as := [.int x1]) rfl e283_0_c (by decide) rfl rfl rfl rfl hk hc (fun v μ' hv => by obtain ⟨x, rfl, hp⟩ := pI_r hv; exact hr x μ' hp) hx)
def q283_7 : List (Nat × Instr × Nat) := [(7, .i2l, 1), (8, .lastore, 1), (9, .goto 9, 3)]
theorem e283_7 : am_dec am_M283 q283_7 = true := by decide +kernel
theorem b283_7 {d : Nat} {Q : Option Value ⊕ Nat → am_Mem → Prop} {μ : am_Mem} {r0 r2 r90 : Nat} {x1 s1 s2 : Int32}
    (h1 : (am_kd μ r90).1 = 6)
    (h2 : ¬ (s1 < 0 ∨ (am_kd μ r90).2 ≤ s1.toNatClampNeg))
    (k : Wp d 283 (18, [some (.ref r0), some (.int x1), some (.ref r2), none], [], (am_pL μ r90 s1.toNatClampNeg s2.toInt64)) Q) :
    Wp d 283 (7, [some (.ref r0), some (.int x1), some (.ref r2), none], [.int s2, .int s1, .ref r90], μ) Q := wp_blk rfl e283_7 (And.intro h1 (And.intro h2 k))
def q283_13 : List (Nat × Instr × Nat) := [(13, .iconst 1, 1)]
theorem e283_13 : am_dec am_M283 q283_13 = true := by decide +kernel
theorem e283_13_r : am_dec am_M283 [(14, .ireturn, 1)] = true := by decide +kernel
theorem b283_13 {d : Nat} {Q : Option Value ⊕ Nat → am_Mem → Prop} {μ : am_Mem} {r0 r2 : Nat} {x1 : Int32}
    (k : Q (.inl (some (.int (Int32.ofInt 1)))) μ) :
    Wp d 283 (13, [some (.ref r0), some (.int x1), some (.ref r2), none], [], μ) Q := wp_blk rfl e283_13 (wp_ri (ty := .int) rfl e283_13_r rfl ⟨rfl, rfl⟩ k)
def q283_16 : List (Nat × Instr × Nat) := [(16, .iconst 2, 1)]
theorem e283_16 : am_dec am_M283 q283_16 = true := by decide +kernel
theorem e283_16_r : am_dec am_M283 [(17, .ireturn, 1)] = true := by decide +kernel
theorem b283_16 {d : Nat} {Q : Option Value ⊕ Nat → am_Mem → Prop} {μ : am_Mem} {r0 r2 : Nat} {x1 : Int32}
    (k : Q (.inl (some (.int (Int32.ofInt 2)))) μ) :
    Wp d 283 (16, [some (.ref r0), some (.int x1), some (.ref r2), none], [], μ) Q := wp_blk rfl e283_16 (wp_ri (ty := .int) rfl e283_16_r rfl ⟨rfl, rfl⟩ k)
def q283_18 : List (Nat × Instr × Nat) := [(18, .iconst 0, 1)]
theorem e283_18 : am_dec am_M283 q283_18 = true := by decide +kernel
theorem e283_18_r : am_dec am_M283 [(19, .ireturn, 1)] = true := by decide +kernel
theorem b283_18 {d : Nat} {Q : Option Value ⊕ Nat → am_Mem → Prop} {μ : am_Mem} {r0 r2 : Nat} {x1 : Int32}
    (k : Q (.inl (some (.int (Int32.ofInt 0)))) μ) :
    Wp d 283 (18, [some (.ref r0), some (.int x1), some (.ref r2), none], [], μ) Q := wp_blk rfl e283_18 (wp_ri (ty := .int) rfl e283_18_r rfl ⟨rfl, rfl⟩ k)
/-! RuleSheetsLaw.law([I)Z -/
def q295_0 : List (Nat × Instr × Nat) := [(0, .new 8, 3), (3, .dup, 1)]
theorem e295_0 : am_dec am_M295 q295_0 = true := by decide +kernel
theorem e295_0_c : am_dc1 am_M295 4 (.invokespecial 68) 3 = true := by decide +kernel
theorem b295_0 {d : Nat} {Q : Option Value ⊕ Nat → am_Mem → Prop} {μ : am_Mem} {r0 : Nat} {P : am_Mem → Prop}
    (hc : Wp d 118 (0, [some (.ref (am_n μ))], [], (am_nO μ 11 19)) (pV P noX)) (hr : ∀ μ', P μ' → Wp (d + 1) 295 (7, [some (.ref r0), none, none, none, none, none, none], [.ref (am_n μ)], (μ')) Q) :
    Wp (d + 1) 295 (0, [some (.ref r0), none, none, none, none, none, none], [], μ) Q := wp_blk rfl e295_0 (wp_ci (as := []) rfl e295_0_c rfl rfl rfl rfl hc (fun v μ' hv => by obtain ⟨rfl, hp⟩ := pV_r hv; exact hr μ' hp) (fun _ _ h => h))
def q295_7 : List (Nat × Instr × Nat) := [(7, .astore_n 1, 1), (8, .new 69, 3), (11, .dup, 1)]
theorem e295_7 : am_dec am_M295 q295_7 = true := by decide +kernel
theorem e295_7_c : am_dc1 am_M295 12 (.invokespecial 71) 3 = true := by decide +kernel
theorem b295_7 {d : Nat} {Q : Option Value ⊕ Nat → am_Mem → Prop} {μ : am_Mem} {r0 r90 : Nat} {P : am_Mem → Prop}
    (hc : Wp d 147 (0, [some (.ref (am_n μ))], [], (am_nO μ 12 94)) (pV P noX)) (hr : ∀ μ', P μ' → Wp (d + 1) 295 (15, [some (.ref r0), some (.ref r90), none, none, none, none, none], [.ref (am_n μ)], (μ')) Q) :
    Wp (d + 1) 295 (7, [some (.ref r0), none, none, none, none, none, none], [.ref r90], μ) Q := wp_blk rfl e295_7 (wp_ci (as := []) rfl e295_7_c rfl rfl rfl rfl hc (fun v μ' hv => by obtain ⟨rfl, hp⟩ := pV_r hv; exact hr μ' hp) (fun _ _ h => h))
def q295_15 : List (Nat × Instr × Nat) := [(15, .astore_n 2, 1), (16, .iconst 1, 1), (17, .newarray .long, 2), (19, .astore_n 3, 1), (20, .iconst 0, 1), (21, .istore 4, 2)]
theorem e295_15 : am_dec am_M295 q295_15 = true := by decide +kernel
theorem b295_15 {d : Nat} {Q : Option Value ⊕ Nat → am_Mem → Prop} {μ : am_Mem} {r0 r1 r90 : Nat}
    (k : Wp d 295 (23, [some (.ref r0), some (.ref r1), some (.ref r90), some (.ref (am_n μ)), some (.int (Int32.ofInt 0)), none, none], [], (am_nA μ 6 (Int32.ofInt 1).toNatClampNeg)) Q) :
    Wp d 295 (15, [some (.ref r0), some (.ref r1), none, none, none, none, none], [.ref r90], μ) Q := wp_blk rfl e295_15 (And.intro (by decide) k)
def q295_23 : List (Nat × Instr × Nat) := [(23, .iload 4, 2), (25, .aload_n 0, 1), (26, .arraylength, 1), (27, .iconst 4, 1), (28, .isub, 1), (29, .if_icmp .gt 962, 3)]
theorem e295_23 : am_dec am_M295 q295_23 = true := by decide +kernel
theorem b295_23 {d : Nat} {Q : Option Value ⊕ Nat → am_Mem → Prop} {μ : am_Mem} {r0 r1 r2 r3 : Nat} {x4 : Int32} {o5 o6 : Option Value}
    (h1 : 2 ≤ (am_kd μ r0).1 ∧ (am_kd μ r0).1 ≤ 10 ∧ ¬ (am_kd μ r0).1 = 9)
    (k1 : ((Int32.ofNat (am_kd μ r0).2) - (Int32.ofInt 4)) < x4 → Wp d 295 (991, [some (.ref r0), some (.ref r1), some (.ref r2), some (.ref r3), some (.int x4), o5, o6], [], μ) Q) (k2 : ¬ (((Int32.ofNat (am_kd μ r0).2) - (Int32.ofInt 4)) < x4) → Wp d 295 (32, [some (.ref r0), some (.ref r1), some (.ref r2), some (.ref r3), some (.int x4), o5, o6], [], μ) Q) :
    Wp d 295 (23, [some (.ref r0), some (.ref r1), some (.ref r2), some (.ref r3), some (.int x4), o5, o6], [], μ) Q := wp_blk rfl e295_23 (And.intro h1 (And.intro k1 k2))
def q295_32 : List (Nat × Instr × Nat) := [(32, .aload_n 0, 1), (33, .iload 4, 2), (35, .iaload, 1), (36, .bipush 31, 2), (38, .iand, 1)]
theorem e295_32 : am_dec am_M295 q295_32 = true := by decide +kernel
def q295_32_s : List (Nat × Instr × Nat) := [(39, .tableswitch 946 0 16 #[81, 137, 173, 186, 199, 255, 299, 355, 406, 462, 518, 598, 642, 698, 766, 834, 890], 81)]
theorem e295_32_s : am_dec am_M295 q295_32_s = true := by decide +kernel
theorem b295_32 {d : Nat} {Q : Option Value ⊕ Nat → am_Mem → Prop} {μ : am_Mem} {r0 r1 r2 r3 : Nat} {x4 : Int32} {o5 o6 : Option Value}
    (h1 : (am_kd μ r0).1 = 2 ∨ (am_kd μ r0).1 = 8)
    (h2 : ¬ (x4 < 0 ∨ (am_kd μ r0).2 ≤ x4.toNatClampNeg))
    (k : am_wsw 946 0 16 #[81, 137, 173, 186, 199, 255, 299, 355, 406, 462, 518, 598, 642, 698, 766, 834, 890] 39 [some (.ref r0), some (.ref r1), some (.ref r2), some (.ref r3), some (.int x4), o5, o6] [.int ((am_A μ r0 x4.toNatClampNeg) &&& ((Int8.ofInt 31).toInt32))] μ (fun pc lv st μ => Wp d 295 (pc, lv, st, μ) Q)) :
    Wp d 295 (32, [some (.ref r0), some (.ref r1), some (.ref r2), some (.ref r3), some (.int x4), o5, o6], [], μ) Q := wp_blk rfl e295_32 (And.intro h1 (And.intro h2 (wp_blk rfl e295_32_s k)))
def q295_120 : List (Nat × Instr × Nat) := [(120, .aload_n 1, 1), (121, .aload_n 0, 1), (122, .iload 4, 2), (124, .iconst 1, 1), (125, .iadd, 1), (126, .iaload, 1), (127, .aload_n 3, 1)]
theorem e295_120 : am_dec am_M295 q295_120 = true := by decide +kernel
theorem e295_120_c : am_dc1 am_M295 128 (.invokestatic 72) 3 = true := by decide +kernel
theorem b295_120 {d : Nat} {Q : Option Value ⊕ Nat → am_Mem → Prop} {μ : am_Mem} {r0 r1 r2 r3 : Nat} {x4 : Int32} {o5 o6 : Option Value} {P : Int32 → am_Mem → Prop} {X : Nat → am_Mem → Prop}
    (h1 : (am_kd μ r0).1 = 2 ∨ (am_kd μ r0).1 = 8)
    (h2 : ¬ ((x4 + (Int32.ofInt 1)) < 0 ∨ (am_kd μ r0).2 ≤ (x4 + (Int32.ofInt 1)).toNatClampNeg))
    (hc : Wp d 269 (0, [some (.ref r1), some (.int (am_A μ r0 (x4 + (Int32.ofInt 1)).toNatClampNeg)), some (.ref r3), none], [], μ) (pI P X)) (hr : ∀ x μ', P x μ' → Wp (d + 1) 295 (131, [some (.ref r0), some (.ref r1), some (.ref r2), some (.ref r3), some (.int x4), o5, o6], [.int x], (μ')) Q)
    (hx : ∀ x μ', X x μ' → Q (.inr x) μ') :
    Wp (d + 1) 295 (120, [some (.ref r0), some (.ref r1), some (.ref r2), some (.ref r3), some (.int x4), o5, o6], [], μ) Q := wp_blk rfl e295_120 (And.intro h1 (And.intro h2 (wp_cs (vs := [.ref r1, .int (am_A μ r0 (x4 + (Int32.ofInt 1)).toNatClampNeg), .ref r3]) rfl e295_120_c rfl rfl rfl rfl rfl hc (fun v μ' hv => by obtain ⟨x, rfl, hp⟩ := pI_r hv; exact hr x μ' hp) hx)))
def q295_131 : List (Nat × Instr × Nat) := [(131, .istore 5, 2), (133, .aload_n 2, 1), (134, .aload_n 0, 1), (135, .iload 4, 2), (137, .iconst 1, 1), (138, .iadd, 1), (139, .iaload, 1)]
theorem e295_131 : am_dec am_M295 q295_131 = true := by decide +kernel
theorem e295_131_c : am_dc1 am_M295 140 (.invokevirtual 77) 3 = true := by decide +kernel
theorem b295_131 {d : Nat} {Q : Option Value ⊕ Nat → am_Mem → Prop} {μ : am_Mem} {r0 r1 r2 r3 : Nat} {x4 s0 : Int32} {o5 o6 : Option Value} {P : Int32 → am_Mem → Prop} {X : Nat → am_Mem → Prop}
    (h1 : (am_kd μ r0).1 = 2 ∨ (am_kd μ r0).1 = 8)
    (h2 : ¬ ((x4 + (Int32.ofInt 1)) < 0 ∨ (am_kd μ r0).2 ≤ (x4 + (Int32.ofInt 1)).toNatClampNeg))
    (hk : am_kd μ r2 = (1, 12))
    (hc : Wp d 149 (0, [some (.ref r2), some (.int (am_A μ r0 (x4 + (Int32.ofInt 1)).toNatClampNeg)), none, none, none, none], [], μ) (pI P X)) (hr : ∀ x μ', P x μ' → Wp (d + 1) 295 (143, [some (.ref r0), some (.ref r1), some (.ref r2), some (.ref r3), some (.int x4), some (.int s0), o6], [.int x], (μ')) Q)
    (hx : ∀ x μ', X x μ' → Q (.inr x) μ') :
    Wp (d + 1) 295 (131, [some (.ref r0), some (.ref r1), some (.ref r2), some (.ref r3), some (.int x4), o5, o6], [.int s0], μ) Q := wp_blk rfl e295_131 (And.intro h1 (And.intro h2 (wp_cv (as := [.int (am_A μ r0 (x4 + (Int32.ofInt 1)).toNatClampNeg)]) rfl e295_131_c rfl rfl rfl rfl rfl hk hc (fun v μ' hv => by obtain ⟨x, rfl, hp⟩ := pI_r hv; exact hr x μ' hp) hx)))
def q295_143 : List (Nat × Instr × Nat) := [(143, .istore 6, 2), (145, .aload_n 2, 1)]
theorem e295_143 : am_dec am_M295 q295_143 = true := by decide +kernel
theorem e295_143_c : am_dc1 am_M295 146 (.invokevirtual 78) 3 = true := by decide +kernel
theorem b295_143 {d : Nat} {Q : Option Value ⊕ Nat → am_Mem → Prop} {μ : am_Mem} {r0 r1 r2 r3 : Nat} {x4 x5 s0 : Int32} {o6 : Option Value} {P : Int32 → am_Mem → Prop} {X : Nat → am_Mem → Prop}
    (hk : am_kd μ r2 = (1, 12))
    (hc : Wp d 148 (0, [some (.ref r2)], [], μ) (pI P X)) (hr : ∀ x μ', P x μ' → Wp (d + 1) 295 (149, [some (.ref r0), some (.ref r1), some (.ref r2), some (.ref r3), some (.int x4), some (.int x5), some (.int s0)], [.int x], (μ')) Q)
    (hx : ∀ x μ', X x μ' → Q (.inr x) μ') :
    Wp (d + 1) 295 (143, [some (.ref r0), some (.ref r1), some (.ref r2), some (.ref r3), some (.int x4), some (.int x5), o6], [.int s0], μ) Q := wp_blk rfl e295_143 (wp_cv (as := []) rfl e295_143_c rfl rfl rfl rfl rfl hk hc (fun v μ' hv => by obtain ⟨x, rfl, hp⟩ := pI_r hv; exact hr x μ' hp) hx)
def q295_149 : List (Nat × Instr × Nat) := [(149, .iload 5, 2), (151, .if_icmp .eq 5, 3)]
theorem e295_149 : am_dec am_M295 q295_149 = true := by decide +kernel
theorem b295_149 {d : Nat} {Q : Option Value ⊕ Nat → am_Mem → Prop} {μ : am_Mem} {r0 r1 r2 r3 : Nat} {x4 x5 x6 s0 : Int32}
    (k1 : s0 = x5 → Wp d 295 (156, [some (.ref r0), some (.ref r1), some (.ref r2), some (.ref r3), some (.int x4), some (.int x5), some (.int x6)], [], μ) Q) (k2 : ¬ (s0 = x5) → Wp d 295 (154, [some (.ref r0), some (.ref r1), some (.ref r2), some (.ref r3), some (.int x4), some (.int x5), some (.int x6)], [], μ) Q) :
    Wp d 295 (149, [some (.ref r0), some (.ref r1), some (.ref r2), some (.ref r3), some (.int x4), some (.int x5), some (.int x6)], [.int s0], μ) Q := wp_blk rfl e295_149 (And.intro k1 k2)
def q295_154 : List (Nat × Instr × Nat) := [(154, .iconst 0, 1)]
theorem e295_154 : am_dec am_M295 q295_154 = true := by decide +kernel
theorem e295_154_r : am_dec am_M295 [(155, .ireturn, 1)] = true := by decide +kernel
theorem b295_154 {d : Nat} {Q : Option Value ⊕ Nat → am_Mem → Prop} {μ : am_Mem} {r0 r1 r2 r3 : Nat} {x4 x5 x6 : Int32}
    (k : Q (.inl (some (.int (Int32.ofInt 0)))) μ) :
    Wp d 295 (154, [some (.ref r0), some (.ref r1), some (.ref r2), some (.ref r3), some (.int x4), some (.int x5), some (.int x6)], [], μ) Q := wp_blk rfl e295_154 (wp_ri (ty := .boolean) rfl e295_154_r rfl (by decide) k)
def q295_156 : List (Nat × Instr × Nat) := [(156, .iload 5, 2), (158, .ifCond .ne 15, 3)]
theorem e295_156 : am_dec am_M295 q295_156 = true := by decide +kernel
theorem b295_156 {d : Nat} {Q : Option Value ⊕ Nat → am_Mem → Prop} {μ : am_Mem} {r0 r1 r2 r3 : Nat} {x4 x5 x6 : Int32}
    (k1 : ¬ x5 = 0 → Wp d 295 (173, [some (.ref r0), some (.ref r1), some (.ref r2), some (.ref r3), some (.int x4), some (.int x5), some (.int x6)], [], μ) Q) (k2 : ¬ (¬ x5 = 0) → Wp d 295 (161, [some (.ref r0), some (.ref r1), some (.ref r2), some (.ref r3), some (.int x4), some (.int x5), some (.int x6)], [], μ) Q) :
    Wp d 295 (156, [some (.ref r0), some (.ref r1), some (.ref r2), some (.ref r3), some (.int x4), some (.int x5), some (.int x6)], [], μ) Q := wp_blk rfl e295_156 (And.intro k1 k2)
def q295_161 : List (Nat × Instr × Nat) := [(161, .aload_n 3, 1), (162, .iconst 0, 1), (163, .laload, 1), (164, .iload 6, 2), (166, .i2l, 1), (167, .lcmp, 1), (168, .ifCond .eq 5, 3)]
theorem e295_161 : am_dec am_M295 q295_161 = true := by decide +kernel
theorem b295_161 {d : Nat} {Q : Option Value ⊕ Nat → am_Mem → Prop} {μ : am_Mem} {r0 r1 r2 r3 : Nat} {x4 x5 x6 : Int32}
    (h1 : (am_kd μ r3).1 = 6)
    (h2 : ¬ ((Int32.ofInt 0) < 0 ∨ (am_kd μ r3).2 ≤ (Int32.ofInt 0).toNatClampNeg))
    (k1 : (lg_cmp (am_L μ r3 (Int32.ofInt 0).toNatClampNeg) x6.toInt64) = 0 → Wp d 295 (173, [some (.ref r0), some (.ref r1), some (.ref r2), some (.ref r3), some (.int x4), some (.int x5), some (.int x6)], [], μ) Q) (k2 : ¬ ((lg_cmp (am_L μ r3 (Int32.ofInt 0).toNatClampNeg) x6.toInt64) = 0) → Wp d 295 (171, [some (.ref r0), some (.ref r1), some (.ref r2), some (.ref r3), some (.int x4), some (.int x5), some (.int x6)], [], μ) Q) :
    Wp d 295 (161, [some (.ref r0), some (.ref r1), some (.ref r2), some (.ref r3), some (.int x4), some (.int x5), some (.int x6)], [], μ) Q := wp_blk rfl e295_161 (And.intro h1 (And.intro h2 (And.intro k1 k2)))
def q295_171 : List (Nat × Instr × Nat) := [(171, .iconst 0, 1)]
theorem e295_171 : am_dec am_M295 q295_171 = true := by decide +kernel
theorem e295_171_r : am_dec am_M295 [(172, .ireturn, 1)] = true := by decide +kernel
theorem b295_171 {d : Nat} {Q : Option Value ⊕ Nat → am_Mem → Prop} {μ : am_Mem} {r0 r1 r2 r3 : Nat} {x4 x5 x6 : Int32}
    (k : Q (.inl (some (.int (Int32.ofInt 0)))) μ) :
    Wp d 295 (171, [some (.ref r0), some (.ref r1), some (.ref r2), some (.ref r3), some (.int x4), some (.int x5), some (.int x6)], [], μ) Q := wp_blk rfl e295_171 (wp_ri (ty := .boolean) rfl e295_171_r rfl (by decide) k)
def q295_173 : List (Nat × Instr × Nat) := [(173, .goto 812, 3)]
theorem e295_173 : am_dec am_M295 q295_173 = true := by decide +kernel
theorem b295_173 {d : Nat} {Q : Option Value ⊕ Nat → am_Mem → Prop} {μ : am_Mem} {r0 r1 r2 r3 : Nat} {x4 x5 x6 : Int32}
    (k : Wp d 295 (985, [some (.ref r0), some (.ref r1), some (.ref r2), some (.ref r3), some (.int x4), some (.int x5), some (.int x6)], [], μ) Q) :
    Wp d 295 (173, [some (.ref r0), some (.ref r1), some (.ref r2), some (.ref r3), some (.int x4), some (.int x5), some (.int x6)], [], μ) Q := wp_blk rfl e295_173 k
def q295_176 : List (Nat × Instr × Nat) := [(176, .aload_n 1, 1), (177, .aload_n 0, 1), (178, .iload 4, 2), (180, .iconst 1, 1), (181, .iadd, 1), (182, .iaload, 1)]
theorem e295_176 : am_dec am_M295 q295_176 = true := by decide +kernel
theorem e295_176_c : am_dc1 am_M295 183 (.invokestatic 81) 3 = true := by decide +kernel
theorem b295_176 {d : Nat} {Q : Option Value ⊕ Nat → am_Mem → Prop} {μ : am_Mem} {r0 r1 r2 r3 : Nat} {x4 : Int32} {o5 o6 : Option Value} {P : Int32 → am_Mem → Prop} {X : Nat → am_Mem → Prop}
    (h1 : (am_kd μ r0).1 = 2 ∨ (am_kd μ r0).1 = 8)
    (h2 : ¬ ((x4 + (Int32.ofInt 1)) < 0 ∨ (am_kd μ r0).2 ≤ (x4 + (Int32.ofInt 1)).toNatClampNeg))
    (hc : Wp d 270 (0, [some (.ref r1), some (.int (am_A μ r0 (x4 + (Int32.ofInt 1)).toNatClampNeg)), none], [], μ) (pI P X)) (hr : ∀ x μ', P x μ' → Wp (d + 1) 295 (186, [some (.ref r0), some (.ref r1), some (.ref r2), some (.ref r3), some (.int x4), o5, o6], [.int x], (μ')) Q)
    (hx : ∀ x μ', X x μ' → Q (.inr x) μ') :
    Wp (d + 1) 295 (176, [some (.ref r0), some (.ref r1), some (.ref r2), some (.ref r3), some (.int x4), o5, o6], [], μ) Q := wp_blk rfl e295_176 (And.intro h1 (And.intro h2 (wp_cs (vs := [.ref r1, .int (am_A μ r0 (x4 + (Int32.ofInt 1)).toNatClampNeg)]) rfl e295_176_c rfl rfl rfl rfl rfl hc (fun v μ' hv => by obtain ⟨x, rfl, hp⟩ := pI_r hv; exact hr x μ' hp) hx)))
def q295_186 : List (Nat × Instr × Nat) := [(186, .istore 5, 2), (188, .aload_n 2, 1), (189, .aload_n 0, 1), (190, .iload 4, 2), (192, .iconst 1, 1), (193, .iadd, 1), (194, .iaload, 1)]
theorem e295_186 : am_dec am_M295 q295_186 = true := by decide +kernel
theorem e295_186_c : am_dc1 am_M295 195 (.invokevirtual 84) 3 = true := by decide +kernel
theorem b295_186 {d : Nat} {Q : Option Value ⊕ Nat → am_Mem → Prop} {μ : am_Mem} {r0 r1 r2 r3 : Nat} {x4 s0 : Int32} {o5 o6 : Option Value} {P : am_Mem → Prop} {X : Nat → am_Mem → Prop}
    (h1 : (am_kd μ r0).1 = 2 ∨ (am_kd μ r0).1 = 8)
    (h2 : ¬ ((x4 + (Int32.ofInt 1)) < 0 ∨ (am_kd μ r0).2 ≤ (x4 + (Int32.ofInt 1)).toNatClampNeg))
    (hk : am_kd μ r2 = (1, 12))
    (hc : Wp d 152 (0, [some (.ref r2), some (.int (am_A μ r0 (x4 + (Int32.ofInt 1)).toNatClampNeg))], [], μ) (pV P X)) (hr : ∀ μ', P μ' → Wp (d + 1) 295 (198, [some (.ref r0), some (.ref r1), some (.ref r2), some (.ref r3), some (.int x4), some (.int s0), o6], [], (μ')) Q)
    (hx : ∀ x μ', X x μ' → Q (.inr x) μ') :
    Wp (d + 1) 295 (186, [some (.ref r0), some (.ref r1), some (.ref r2), some (.ref r3), some (.int x4), o5, o6], [.int s0], μ) Q := wp_blk rfl e295_186 (And.intro h1 (And.intro h2 (wp_cv (as := [.int (am_A μ r0 (x4 + (Int32.ofInt 1)).toNatClampNeg)]) rfl e295_186_c rfl rfl rfl rfl rfl hk hc (fun v μ' hv => by obtain ⟨rfl, hp⟩ := pV_r hv; exact hr μ' hp) hx)))
def q295_198 : List (Nat × Instr × Nat) := [(198, .aload_n 2, 1)]
theorem e295_198 : am_dec am_M295 q295_198 = true := by decide +kernel
theorem e295_198_c : am_dc1 am_M295 199 (.invokevirtual 78) 3 = true := by decide +kernel
theorem b295_198 {d : Nat} {Q : Option Value ⊕ Nat → am_Mem → Prop} {μ : am_Mem} {r0 r1 r2 r3 : Nat} {x4 x5 : Int32} {o6 : Option Value} {P : Int32 → am_Mem → Prop} {X : Nat → am_Mem → Prop}
    (hk : am_kd μ r2 = (1, 12))
    (hc : Wp d 148 (0, [some (.ref r2)], [], μ) (pI P X)) (hr : ∀ x μ', P x μ' → Wp (d + 1) 295 (202, [some (.ref r0), some (.ref r1), some (.ref r2), some (.ref r3), some (.int x4), some (.int x5), o6], [.int x], (μ')) Q)
    (hx : ∀ x μ', X x μ' → Q (.inr x) μ') :
    Wp (d + 1) 295 (198, [some (.ref r0), some (.ref r1), some (.ref r2), some (.ref r3), some (.int x4), some (.int x5), o6], [], μ) Q := wp_blk rfl e295_198 (wp_cv (as := []) rfl e295_198_c rfl rfl rfl rfl rfl hk hc (fun v μ' hv => by obtain ⟨x, rfl, hp⟩ := pI_r hv; exact hr x μ' hp) hx)
def q295_202 : List (Nat × Instr × Nat) := [(202, .iload 5, 2), (204, .if_icmp .eq 5, 3)]
theorem e295_202 : am_dec am_M295 q295_202 = true := by decide +kernel
theorem b295_202 {d : Nat} {Q : Option Value ⊕ Nat → am_Mem → Prop} {μ : am_Mem} {r0 r1 r2 r3 : Nat} {x4 x5 s0 : Int32} {o6 : Option Value}
    (k1 : s0 = x5 → Wp d 295 (209, [some (.ref r0), some (.ref r1), some (.ref r2), some (.ref r3), some (.int x4), some (.int x5), o6], [], μ) Q) (k2 : ¬ (s0 = x5) → Wp d 295 (207, [some (.ref r0), some (.ref r1), some (.ref r2), some (.ref r3), some (.int x4), some (.int x5), o6], [], μ) Q) :
    Wp d 295 (202, [some (.ref r0), some (.ref r1), some (.ref r2), some (.ref r3), some (.int x4), some (.int x5), o6], [.int s0], μ) Q := wp_blk rfl e295_202 (And.intro k1 k2)
def q295_207 : List (Nat × Instr × Nat) := [(207, .iconst 0, 1)]
theorem e295_207 : am_dec am_M295 q295_207 = true := by decide +kernel
theorem e295_207_r : am_dec am_M295 [(208, .ireturn, 1)] = true := by decide +kernel
theorem b295_207 {d : Nat} {Q : Option Value ⊕ Nat → am_Mem → Prop} {μ : am_Mem} {r0 r1 r2 r3 : Nat} {x4 x5 : Int32} {o6 : Option Value}
    (k : Q (.inl (some (.int (Int32.ofInt 0)))) μ) :
    Wp d 295 (207, [some (.ref r0), some (.ref r1), some (.ref r2), some (.ref r3), some (.int x4), some (.int x5), o6], [], μ) Q := wp_blk rfl e295_207 (wp_ri (ty := .boolean) rfl e295_207_r rfl (by decide) k)
def q295_209 : List (Nat × Instr × Nat) := [(209, .goto 776, 3)]
theorem e295_209 : am_dec am_M295 q295_209 = true := by decide +kernel
theorem b295_209 {d : Nat} {Q : Option Value ⊕ Nat → am_Mem → Prop} {μ : am_Mem} {r0 r1 r2 r3 : Nat} {x4 x5 : Int32} {o6 : Option Value}
    (k : Wp d 295 (985, [some (.ref r0), some (.ref r1), some (.ref r2), some (.ref r3), some (.int x4), some (.int x5), o6], [], μ) Q) :
    Wp d 295 (209, [some (.ref r0), some (.ref r1), some (.ref r2), some (.ref r3), some (.int x4), some (.int x5), o6], [], μ) Q := wp_blk rfl e295_209 k
def q295_212 : List (Nat × Instr × Nat) := [(212, .aload_n 1, 1)]
theorem e295_212 : am_dec am_M295 q295_212 = true := by decide +kernel
theorem e295_212_c : am_dc1 am_M295 213 (.invokevirtual 85) 3 = true := by decide +kernel
theorem b295_212 {d : Nat} {Q : Option Value ⊕ Nat → am_Mem → Prop} {μ : am_Mem} {r0 r1 r2 r3 : Nat} {x4 : Int32} {o5 o6 : Option Value} {P : Int32 → am_Mem → Prop} {X : Nat → am_Mem → Prop}
    (hk : am_kd μ r1 = (1, 11))
    (hc : Wp d 119 (0, [some (.ref r1), none, none], [], μ) (pI P X)) (hr : ∀ x μ', P x μ' → Wp (d + 1) 295 (216, [some (.ref r0), some (.ref r1), some (.ref r2), some (.ref r3), some (.int x4), o5, o6], [.int x], (μ')) Q)
    (hx : ∀ x μ', X x μ' → Q (.inr x) μ') :
    Wp (d + 1) 295 (212, [some (.ref r0), some (.ref r1), some (.ref r2), some (.ref r3), some (.int x4), o5, o6], [], μ) Q := wp_blk rfl e295_212 (wp_cv (as := []) rfl e295_212_c rfl rfl rfl rfl rfl hk hc (fun v μ' hv => by obtain ⟨x, rfl, hp⟩ := pI_r hv; exact hr x μ' hp) hx)
def q295_216 : List (Nat × Instr × Nat) := [(216, .aload_n 2, 1)]
theorem e295_216 : am_dec am_M295 q295_216 = true := by decide +kernel
theorem e295_216_c : am_dc1 am_M295 217 (.invokevirtual 88) 3 = true := by decide +kernel
theorem b295_216 {d : Nat} {Q : Option Value ⊕ Nat → am_Mem → Prop} {μ : am_Mem} {r0 r1 r2 r3 : Nat} {x4 s0 : Int32} {o5 o6 : Option Value} {P : Int32 → am_Mem → Prop} {X : Nat → am_Mem → Prop}
    (hk : am_kd μ r2 = (1, 12))
    (hc : Wp d 153 (0, [some (.ref r2), none, none], [], μ) (pI P X)) (hr : ∀ x μ', P x μ' → Wp (d + 1) 295 (220, [some (.ref r0), some (.ref r1), some (.ref r2), some (.ref r3), some (.int x4), o5, o6], [.int x, .int s0], (μ')) Q)
    (hx : ∀ x μ', X x μ' → Q (.inr x) μ') :
    Wp (d + 1) 295 (216, [some (.ref r0), some (.ref r1), some (.ref r2), some (.ref r3), some (.int x4), o5, o6], [.int s0], μ) Q := wp_blk rfl e295_216 (wp_cv (as := []) rfl e295_216_c rfl rfl rfl rfl rfl hk hc (fun v μ' hv => by obtain ⟨x, rfl, hp⟩ := pI_r hv; exact hr x μ' hp) hx)
def q295_220 : List (Nat × Instr × Nat) := [(220, .if_icmp .eq 765, 3)]
theorem e295_220 : am_dec am_M295 q295_220 = true := by decide +kernel
theorem b295_220 {d : Nat} {Q : Option Value ⊕ Nat → am_Mem → Prop} {μ : am_Mem} {r0 r1 r2 r3 : Nat} {x4 s0 s1 : Int32} {o5 o6 : Option Value}
    (k1 : s0 = s1 → Wp d 295 (985, [some (.ref r0), some (.ref r1), some (.ref r2), some (.ref r3), some (.int x4), o5, o6], [], μ) Q) (k2 : ¬ (s0 = s1) → Wp d 295 (223, [some (.ref r0), some (.ref r1), some (.ref r2), some (.ref r3), some (.int x4), o5, o6], [], μ) Q) :
    Wp d 295 (220, [some (.ref r0), some (.ref r1), some (.ref r2), some (.ref r3), some (.int x4), o5, o6], [.int s1, .int s0], μ) Q := wp_blk rfl e295_220 (And.intro k1 k2)
def q295_223 : List (Nat × Instr × Nat) := [(223, .iconst 0, 1)]
theorem e295_223 : am_dec am_M295 q295_223 = true := by decide +kernel
theorem e295_223_r : am_dec am_M295 [(224, .ireturn, 1)] = true := by decide +kernel
theorem b295_223 {d : Nat} {Q : Option Value ⊕ Nat → am_Mem → Prop} {μ : am_Mem} {r0 r1 r2 r3 : Nat} {x4 : Int32} {o5 o6 : Option Value}
    (k : Q (.inl (some (.int (Int32.ofInt 0)))) μ) :
    Wp d 295 (223, [some (.ref r0), some (.ref r1), some (.ref r2), some (.ref r3), some (.int x4), o5, o6], [], μ) Q := wp_blk rfl e295_223 (wp_ri (ty := .boolean) rfl e295_223_r rfl (by decide) k)
def q295_225 : List (Nat × Instr × Nat) := [(225, .aload_n 1, 1)]
theorem e295_225 : am_dec am_M295 q295_225 = true := by decide +kernel
theorem e295_225_c : am_dc1 am_M295 226 (.invokevirtual 89) 3 = true := by decide +kernel
theorem b295_225 {d : Nat} {Q : Option Value ⊕ Nat → am_Mem → Prop} {μ : am_Mem} {r0 r1 r2 r3 : Nat} {x4 : Int32} {o5 o6 : Option Value} {P : Int32 → am_Mem → Prop} {X : Nat → am_Mem → Prop}
    (hk : am_kd μ r1 = (1, 11))
    (hc : Wp d 120 (0, [some (.ref r1)], [], μ) (pI P X)) (hr : ∀ x μ', P x μ' → Wp (d + 1) 295 (229, [some (.ref r0), some (.ref r1), some (.ref r2), some (.ref r3), some (.int x4), o5, o6], [.int x], (μ')) Q)
    (hx : ∀ x μ', X x μ' → Q (.inr x) μ') :
    Wp (d + 1) 295 (225, [some (.ref r0), some (.ref r1), some (.ref r2), some (.ref r3), some (.int x4), o5, o6], [], μ) Q := wp_blk rfl e295_225 (wp_cv (as := []) rfl e295_225_c rfl rfl rfl rfl rfl hk hc (fun v μ' hv => by obtain ⟨x, rfl, hp⟩ := pI_r hv; exact hr x μ' hp) hx)
def q295_229 : List (Nat × Instr × Nat) := [(229, .aload_n 2, 1)]
theorem e295_229 : am_dec am_M295 q295_229 = true := by decide +kernel
theorem e295_229_c : am_dc1 am_M295 230 (.invokevirtual 92) 3 = true := by decide +kernel
theorem b295_229 {d : Nat} {Q : Option Value ⊕ Nat → am_Mem → Prop} {μ : am_Mem} {r0 r1 r2 r3 : Nat} {x4 s0 : Int32} {o5 o6 : Option Value} {P : Int32 → am_Mem → Prop} {X : Nat → am_Mem → Prop}
    (hk : am_kd μ r2 = (1, 12))
    (hc : Wp d 209 (0, [some (.ref r2)], [], μ) (pI P X)) (hr : ∀ x μ', P x μ' → Wp (d + 1) 295 (233, [some (.ref r0), some (.ref r1), some (.ref r2), some (.ref r3), some (.int x4), o5, o6], [.int x, .int s0], (μ')) Q)
    (hx : ∀ x μ', X x μ' → Q (.inr x) μ') :
    Wp (d + 1) 295 (229, [some (.ref r0), some (.ref r1), some (.ref r2), some (.ref r3), some (.int x4), o5, o6], [.int s0], μ) Q := wp_blk rfl e295_229 (wp_cv (as := []) rfl e295_229_c rfl rfl rfl rfl rfl hk hc (fun v μ' hv => by obtain ⟨x, rfl, hp⟩ := pI_r hv; exact hr x μ' hp) hx)
def q295_233 : List (Nat × Instr × Nat) := [(233, .if_icmp .eq 752, 3)]
theorem e295_233 : am_dec am_M295 q295_233 = true := by decide +kernel
theorem b295_233 {d : Nat} {Q : Option Value ⊕ Nat → am_Mem → Prop} {μ : am_Mem} {r0 r1 r2 r3 : Nat} {x4 s0 s1 : Int32} {o5 o6 : Option Value}
    (k1 : s0 = s1 → Wp d 295 (985, [some (.ref r0), some (.ref r1), some (.ref r2), some (.ref r3), some (.int x4), o5, o6], [], μ) Q) (k2 : ¬ (s0 = s1) → Wp d 295 (236, [some (.ref r0), some (.ref r1), some (.ref r2), some (.ref r3), some (.int x4), o5, o6], [], μ) Q) :
    Wp d 295 (233, [some (.ref r0), some (.ref r1), some (.ref r2), some (.ref r3), some (.int x4), o5, o6], [.int s1, .int s0], μ) Q := wp_blk rfl e295_233 (And.intro k1 k2)
def q295_236 : List (Nat × Instr × Nat) := [(236, .iconst 0, 1)]
theorem e295_236 : am_dec am_M295 q295_236 = true := by decide +kernel
theorem e295_236_r : am_dec am_M295 [(237, .ireturn, 1)] = true := by decide +kernel
theorem b295_236 {d : Nat} {Q : Option Value ⊕ Nat → am_Mem → Prop} {μ : am_Mem} {r0 r1 r2 r3 : Nat} {x4 : Int32} {o5 o6 : Option Value}
    (k : Q (.inl (some (.int (Int32.ofInt 0)))) μ) :
    Wp d 295 (236, [some (.ref r0), some (.ref r1), some (.ref r2), some (.ref r3), some (.int x4), o5, o6], [], μ) Q := wp_blk rfl e295_236 (wp_ri (ty := .boolean) rfl e295_236_r rfl (by decide) k)
def q295_238 : List (Nat × Instr × Nat) := [(238, .aload_n 1, 1), (239, .aload_n 0, 1), (240, .iload 4, 2), (242, .iconst 1, 1), (243, .iadd, 1), (244, .iaload, 1), (245, .aload_n 3, 1)]
theorem e295_238 : am_dec am_M295 q295_238 = true := by decide +kernel
theorem e295_238_c : am_dc1 am_M295 246 (.invokestatic 93) 3 = true := by decide +kernel
theorem b295_238 {d : Nat} {Q : Option Value ⊕ Nat → am_Mem → Prop} {μ : am_Mem} {r0 r1 r2 r3 : Nat} {x4 : Int32} {o5 o6 : Option Value} {P : Int32 → am_Mem → Prop} {X : Nat → am_Mem → Prop}
    (h1 : (am_kd μ r0).1 = 2 ∨ (am_kd μ r0).1 = 8)
    (h2 : ¬ ((x4 + (Int32.ofInt 1)) < 0 ∨ (am_kd μ r0).2 ≤ (x4 + (Int32.ofInt 1)).toNatClampNeg))
    (hc : Wp d 271 (0, [some (.ref r1), some (.int (am_A μ r0 (x4 + (Int32.ofInt 1)).toNatClampNeg)), some (.ref r3), none], [], μ) (pI P X)) (hr : ∀ x μ', P x μ' → Wp (d + 1) 295 (249, [some (.ref r0), some (.ref r1), some (.ref r2), some (.ref r3), some (.int x4), o5, o6], [.int x], (μ')) Q)
    (hx : ∀ x μ', X x μ' → Q (.inr x) μ') :
    Wp (d + 1) 295 (238, [some (.ref r0), some (.ref r1), some (.ref r2), some (.ref r3), some (.int x4), o5, o6], [], μ) Q := wp_blk rfl e295_238 (And.intro h1 (And.intro h2 (wp_cs (vs := [.ref r1, .int (am_A μ r0 (x4 + (Int32.ofInt 1)).toNatClampNeg), .ref r3]) rfl e295_238_c rfl rfl rfl rfl rfl hc (fun v μ' hv => by obtain ⟨x, rfl, hp⟩ := pI_r hv; exact hr x μ' hp) hx)))
def q295_249 : List (Nat × Instr × Nat) := [(249, .istore 5, 2), (251, .aload_n 2, 1), (252, .aload_n 0, 1), (253, .iload 4, 2), (255, .iconst 1, 1), (256, .iadd, 1), (257, .iaload, 1)]
theorem e295_249 : am_dec am_M295 q295_249 = true := by decide +kernel
theorem e295_249_c : am_dc1 am_M295 258 (.invokevirtual 95) 3 = true := by decide +kernel
theorem b295_249 {d : Nat} {Q : Option Value ⊕ Nat → am_Mem → Prop} {μ : am_Mem} {r0 r1 r2 r3 : Nat} {x4 s0 : Int32} {o5 o6 : Option Value} {P : Int32 → am_Mem → Prop} {X : Nat → am_Mem → Prop}
    (h1 : (am_kd μ r0).1 = 2 ∨ (am_kd μ r0).1 = 8)
    (h2 : ¬ ((x4 + (Int32.ofInt 1)) < 0 ∨ (am_kd μ r0).2 ≤ (x4 + (Int32.ofInt 1)).toNatClampNeg))
    (hk : am_kd μ r2 = (1, 12))
    (hc : Wp d 210 (0, [some (.ref r2), some (.int (am_A μ r0 (x4 + (Int32.ofInt 1)).toNatClampNeg))], [], μ) (pI P X)) (hr : ∀ x μ', P x μ' → Wp (d + 1) 295 (261, [some (.ref r0), some (.ref r1), some (.ref r2), some (.ref r3), some (.int x4), some (.int s0), o6], [.int x], (μ')) Q)
    (hx : ∀ x μ', X x μ' → Q (.inr x) μ') :
    Wp (d + 1) 295 (249, [some (.ref r0), some (.ref r1), some (.ref r2), some (.ref r3), some (.int x4), o5, o6], [.int s0], μ) Q := wp_blk rfl e295_249 (And.intro h1 (And.intro h2 (wp_cv (as := [.int (am_A μ r0 (x4 + (Int32.ofInt 1)).toNatClampNeg)]) rfl e295_249_c rfl rfl rfl rfl rfl hk hc (fun v μ' hv => by obtain ⟨x, rfl, hp⟩ := pI_r hv; exact hr x μ' hp) hx)))
def q295_261 : List (Nat × Instr × Nat) := [(261, .istore 6, 2), (263, .aload_n 2, 1)]
theorem e295_261 : am_dec am_M295 q295_261 = true := by decide +kernel
theorem e295_261_c : am_dc1 am_M295 264 (.invokevirtual 78) 3 = true := by decide +kernel
theorem b295_261 {d : Nat} {Q : Option Value ⊕ Nat → am_Mem → Prop} {μ : am_Mem} {r0 r1 r2 r3 : Nat} {x4 x5 s0 : Int32} {o6 : Option Value} {P : Int32 → am_Mem → Prop} {X : Nat → am_Mem → Prop}
    (hk : am_kd μ r2 = (1, 12))
    (hc : Wp d 148 (0, [some (.ref r2)], [], μ) (pI P X)) (hr : ∀ x μ', P x μ' → Wp (d + 1) 295 (267, [some (.ref r0), some (.ref r1), some (.ref r2), some (.ref r3), some (.int x4), some (.int x5), some (.int s0)], [.int x], (μ')) Q)
    (hx : ∀ x μ', X x μ' → Q (.inr x) μ') :
    Wp (d + 1) 295 (261, [some (.ref r0), some (.ref r1), some (.ref r2), some (.ref r3), some (.int x4), some (.int x5), o6], [.int s0], μ) Q := wp_blk rfl e295_261 (wp_cv (as := []) rfl e295_261_c rfl rfl rfl rfl rfl hk hc (fun v μ' hv => by obtain ⟨x, rfl, hp⟩ := pI_r hv; exact hr x μ' hp) hx)
def q295_267 : List (Nat × Instr × Nat) := [(267, .iload 5, 2), (269, .if_icmp .eq 5, 3)]
theorem e295_267 : am_dec am_M295 q295_267 = true := by decide +kernel
theorem b295_267 {d : Nat} {Q : Option Value ⊕ Nat → am_Mem → Prop} {μ : am_Mem} {r0 r1 r2 r3 : Nat} {x4 x5 x6 s0 : Int32}
    (k1 : s0 = x5 → Wp d 295 (274, [some (.ref r0), some (.ref r1), some (.ref r2), some (.ref r3), some (.int x4), some (.int x5), some (.int x6)], [], μ) Q) (k2 : ¬ (s0 = x5) → Wp d 295 (272, [some (.ref r0), some (.ref r1), some (.ref r2), some (.ref r3), some (.int x4), some (.int x5), some (.int x6)], [], μ) Q) :
    Wp d 295 (267, [some (.ref r0), some (.ref r1), some (.ref r2), some (.ref r3), some (.int x4), some (.int x5), some (.int x6)], [.int s0], μ) Q := wp_blk rfl e295_267 (And.intro k1 k2)
def q295_272 : List (Nat × Instr × Nat) := [(272, .iconst 0, 1)]
theorem e295_272 : am_dec am_M295 q295_272 = true := by decide +kernel
theorem e295_272_r : am_dec am_M295 [(273, .ireturn, 1)] = true := by decide +kernel
theorem b295_272 {d : Nat} {Q : Option Value ⊕ Nat → am_Mem → Prop} {μ : am_Mem} {r0 r1 r2 r3 : Nat} {x4 x5 x6 : Int32}
    (k : Q (.inl (some (.int (Int32.ofInt 0)))) μ) :
    Wp d 295 (272, [some (.ref r0), some (.ref r1), some (.ref r2), some (.ref r3), some (.int x4), some (.int x5), some (.int x6)], [], μ) Q := wp_blk rfl e295_272 (wp_ri (ty := .boolean) rfl e295_272_r rfl (by decide) k)
def q295_274 : List (Nat × Instr × Nat) := [(274, .iload 5, 2), (276, .ifCond .ne 15, 3)]
theorem e295_274 : am_dec am_M295 q295_274 = true := by decide +kernel
theorem b295_274 {d : Nat} {Q : Option Value ⊕ Nat → am_Mem → Prop} {μ : am_Mem} {r0 r1 r2 r3 : Nat} {x4 x5 x6 : Int32}
    (k1 : ¬ x5 = 0 → Wp d 295 (291, [some (.ref r0), some (.ref r1), some (.ref r2), some (.ref r3), some (.int x4), some (.int x5), some (.int x6)], [], μ) Q) (k2 : ¬ (¬ x5 = 0) → Wp d 295 (279, [some (.ref r0), some (.ref r1), some (.ref r2), some (.ref r3), some (.int x4), some (.int x5), some (.int x6)], [], μ) Q) :
    Wp d 295 (274, [some (.ref r0), some (.ref r1), some (.ref r2), some (.ref r3), some (.int x4), some (.int x5), some (.int x6)], [], μ) Q := wp_blk rfl e295_274 (And.intro k1 k2)
def q295_279 : List (Nat × Instr × Nat) := [(279, .aload_n 3, 1), (280, .iconst 0, 1), (281, .laload, 1), (282, .iload 6, 2), (284, .i2l, 1), (285, .lcmp, 1), (286, .ifCond .eq 5, 3)]
theorem e295_279 : am_dec am_M295 q295_279 = true := by decide +kernel
theorem b295_279 {d : Nat} {Q : Option Value ⊕ Nat → am_Mem → Prop} {μ : am_Mem} {r0 r1 r2 r3 : Nat} {x4 x5 x6 : Int32}
    (h1 : (am_kd μ r3).1 = 6)
    (h2 : ¬ ((Int32.ofInt 0) < 0 ∨ (am_kd μ r3).2 ≤ (Int32.ofInt 0).toNatClampNeg))
    (k1 : (lg_cmp (am_L μ r3 (Int32.ofInt 0).toNatClampNeg) x6.toInt64) = 0 → Wp d 295 (291, [some (.ref r0), some (.ref r1), some (.ref r2), some (.ref r3), some (.int x4), some (.int x5), some (.int x6)], [], μ) Q) (k2 : ¬ ((lg_cmp (am_L μ r3 (Int32.ofInt 0).toNatClampNeg) x6.toInt64) = 0) → Wp d 295 (289, [some (.ref r0), some (.ref r1), some (.ref r2), some (.ref r3), some (.int x4), some (.int x5), some (.int x6)], [], μ) Q) :
    Wp d 295 (279, [some (.ref r0), some (.ref r1), some (.ref r2), some (.ref r3), some (.int x4), some (.int x5), some (.int x6)], [], μ) Q := wp_blk rfl e295_279 (And.intro h1 (And.intro h2 (And.intro k1 k2)))
def q295_289 : List (Nat × Instr × Nat) := [(289, .iconst 0, 1)]
theorem e295_289 : am_dec am_M295 q295_289 = true := by decide +kernel
theorem e295_289_r : am_dec am_M295 [(290, .ireturn, 1)] = true := by decide +kernel
theorem b295_289 {d : Nat} {Q : Option Value ⊕ Nat → am_Mem → Prop} {μ : am_Mem} {r0 r1 r2 r3 : Nat} {x4 x5 x6 : Int32}
    (k : Q (.inl (some (.int (Int32.ofInt 0)))) μ) :
    Wp d 295 (289, [some (.ref r0), some (.ref r1), some (.ref r2), some (.ref r3), some (.int x4), some (.int x5), some (.int x6)], [], μ) Q := wp_blk rfl e295_289 (wp_ri (ty := .boolean) rfl e295_289_r rfl (by decide) k)
def q295_291 : List (Nat × Instr × Nat) := [(291, .goto 694, 3)]
theorem e295_291 : am_dec am_M295 q295_291 = true := by decide +kernel
theorem b295_291 {d : Nat} {Q : Option Value ⊕ Nat → am_Mem → Prop} {μ : am_Mem} {r0 r1 r2 r3 : Nat} {x4 x5 x6 : Int32}
    (k : Wp d 295 (985, [some (.ref r0), some (.ref r1), some (.ref r2), some (.ref r3), some (.int x4), some (.int x5), some (.int x6)], [], μ) Q) :
    Wp d 295 (291, [some (.ref r0), some (.ref r1), some (.ref r2), some (.ref r3), some (.int x4), some (.int x5), some (.int x6)], [], μ) Q := wp_blk rfl e295_291 k
def q295_294 : List (Nat × Instr × Nat) := [(294, .aload_n 1, 1), (295, .aload_n 3, 1)]
theorem e295_294 : am_dec am_M295 q295_294 = true := by decide +kernel
theorem e295_294_c : am_dc1 am_M295 296 (.invokestatic 96) 3 = true := by decide +kernel
theorem b295_294 {d : Nat} {Q : Option Value ⊕ Nat → am_Mem → Prop} {μ : am_Mem} {r0 r1 r2 r3 : Nat} {x4 : Int32} {o5 o6 : Option Value} {P : Int32 → am_Mem → Prop} {X : Nat → am_Mem → Prop}
    (hc : Wp d 272 (0, [some (.ref r1), some (.ref r3), none], [], μ) (pI P X)) (hr : ∀ x μ', P x μ' → Wp (d + 1) 295 (299, [some (.ref r0), some (.ref r1), some (.ref r2), some (.ref r3), some (.int x4), o5, o6], [.int x], (μ')) Q)
    (hx : ∀ x μ', X x μ' → Q (.inr x) μ') :
    Wp (d + 1) 295 (294, [some (.ref r0), some (.ref r1), some (.ref r2), some (.ref r3), some (.int x4), o5, o6], [], μ) Q := wp_blk rfl e295_294 (wp_cs (vs := [.ref r1, .ref r3]) rfl e295_294_c rfl rfl rfl rfl rfl hc (fun v μ' hv => by obtain ⟨x, rfl, hp⟩ := pI_r hv; exact hr x μ' hp) hx)
def q295_299 : List (Nat × Instr × Nat) := [(299, .istore 5, 2), (301, .aload_n 2, 1)]
theorem e295_299 : am_dec am_M295 q295_299 = true := by decide +kernel
theorem e295_299_c : am_dc1 am_M295 302 (.invokevirtual 99) 3 = true := by decide +kernel
theorem b295_299 {d : Nat} {Q : Option Value ⊕ Nat → am_Mem → Prop} {μ : am_Mem} {r0 r1 r2 r3 : Nat} {x4 s0 : Int32} {o5 o6 : Option Value} {P : Int32 → am_Mem → Prop} {X : Nat → am_Mem → Prop}
    (hk : am_kd μ r2 = (1, 12))
    (hc : Wp d 211 (0, [some (.ref r2), none], [], μ) (pI P X)) (hr : ∀ x μ', P x μ' → Wp (d + 1) 295 (305, [some (.ref r0), some (.ref r1), some (.ref r2), some (.ref r3), some (.int x4), some (.int s0), o6], [.int x], (μ')) Q)
    (hx : ∀ x μ', X x μ' → Q (.inr x) μ') :
    Wp (d + 1) 295 (299, [some (.ref r0), some (.ref r1), some (.ref r2), some (.ref r3), some (.int x4), o5, o6], [.int s0], μ) Q := wp_blk rfl e295_299 (wp_cv (as := []) rfl e295_299_c rfl rfl rfl rfl rfl hk hc (fun v μ' hv => by obtain ⟨x, rfl, hp⟩ := pI_r hv; exact hr x μ' hp) hx)
def q295_305 : List (Nat × Instr × Nat) := [(305, .istore 6, 2), (307, .aload_n 2, 1)]
theorem e295_305 : am_dec am_M295 q295_305 = true := by decide +kernel
theorem e295_305_c : am_dc1 am_M295 308 (.invokevirtual 78) 3 = true := by decide +kernel
theorem b295_305 {d : Nat} {Q : Option Value ⊕ Nat → am_Mem → Prop} {μ : am_Mem} {r0 r1 r2 r3 : Nat} {x4 x5 s0 : Int32} {o6 : Option Value} {P : Int32 → am_Mem → Prop} {X : Nat → am_Mem → Prop}
    (hk : am_kd μ r2 = (1, 12))
    (hc : Wp d 148 (0, [some (.ref r2)], [], μ) (pI P X)) (hr : ∀ x μ', P x μ' → Wp (d + 1) 295 (311, [some (.ref r0), some (.ref r1), some (.ref r2), some (.ref r3), some (.int x4), some (.int x5), some (.int s0)], [.int x], (μ')) Q)
    (hx : ∀ x μ', X x μ' → Q (.inr x) μ') :
    Wp (d + 1) 295 (305, [some (.ref r0), some (.ref r1), some (.ref r2), some (.ref r3), some (.int x4), some (.int x5), o6], [.int s0], μ) Q := wp_blk rfl e295_305 (wp_cv (as := []) rfl e295_305_c rfl rfl rfl rfl rfl hk hc (fun v μ' hv => by obtain ⟨x, rfl, hp⟩ := pI_r hv; exact hr x μ' hp) hx)
def q295_311 : List (Nat × Instr × Nat) := [(311, .iload 5, 2), (313, .if_icmp .eq 5, 3)]
theorem e295_311 : am_dec am_M295 q295_311 = true := by decide +kernel
theorem b295_311 {d : Nat} {Q : Option Value ⊕ Nat → am_Mem → Prop} {μ : am_Mem} {r0 r1 r2 r3 : Nat} {x4 x5 x6 s0 : Int32}
    (k1 : s0 = x5 → Wp d 295 (318, [some (.ref r0), some (.ref r1), some (.ref r2), some (.ref r3), some (.int x4), some (.int x5), some (.int x6)], [], μ) Q) (k2 : ¬ (s0 = x5) → Wp d 295 (316, [some (.ref r0), some (.ref r1), some (.ref r2), some (.ref r3), some (.int x4), some (.int x5), some (.int x6)], [], μ) Q) :
    Wp d 295 (311, [some (.ref r0), some (.ref r1), some (.ref r2), some (.ref r3), some (.int x4), some (.int x5), some (.int x6)], [.int s0], μ) Q := wp_blk rfl e295_311 (And.intro k1 k2)
def q295_316 : List (Nat × Instr × Nat) := [(316, .iconst 0, 1)]
theorem e295_316 : am_dec am_M295 q295_316 = true := by decide +kernel
theorem e295_316_r : am_dec am_M295 [(317, .ireturn, 1)] = true := by decide +kernel
theorem b295_316 {d : Nat} {Q : Option Value ⊕ Nat → am_Mem → Prop} {μ : am_Mem} {r0 r1 r2 r3 : Nat} {x4 x5 x6 : Int32}
    (k : Q (.inl (some (.int (Int32.ofInt 0)))) μ) :
    Wp d 295 (316, [some (.ref r0), some (.ref r1), some (.ref r2), some (.ref r3), some (.int x4), some (.int x5), some (.int x6)], [], μ) Q := wp_blk rfl e295_316 (wp_ri (ty := .boolean) rfl e295_316_r rfl (by decide) k)
def q295_318 : List (Nat × Instr × Nat) := [(318, .iload 5, 2), (320, .ifCond .ne 15, 3)]
theorem e295_318 : am_dec am_M295 q295_318 = true := by decide +kernel
theorem b295_318 {d : Nat} {Q : Option Value ⊕ Nat → am_Mem → Prop} {μ : am_Mem} {r0 r1 r2 r3 : Nat} {x4 x5 x6 : Int32}
    (k1 : ¬ x5 = 0 → Wp d 295 (335, [some (.ref r0), some (.ref r1), some (.ref r2), some (.ref r3), some (.int x4), some (.int x5), some (.int x6)], [], μ) Q) (k2 : ¬ (¬ x5 = 0) → Wp d 295 (323, [some (.ref r0), some (.ref r1), some (.ref r2), some (.ref r3), some (.int x4), some (.int x5), some (.int x6)], [], μ) Q) :
    Wp d 295 (318, [some (.ref r0), some (.ref r1), some (.ref r2), some (.ref r3), some (.int x4), some (.int x5), some (.int x6)], [], μ) Q := wp_blk rfl e295_318 (And.intro k1 k2)
def q295_323 : List (Nat × Instr × Nat) := [(323, .aload_n 3, 1), (324, .iconst 0, 1), (325, .laload, 1), (326, .iload 6, 2), (328, .i2l, 1), (329, .lcmp, 1), (330, .ifCond .eq 5, 3)]
theorem e295_323 : am_dec am_M295 q295_323 = true := by decide +kernel
theorem b295_323 {d : Nat} {Q : Option Value ⊕ Nat → am_Mem → Prop} {μ : am_Mem} {r0 r1 r2 r3 : Nat} {x4 x5 x6 : Int32}
    (h1 : (am_kd μ r3).1 = 6)
    (h2 : ¬ ((Int32.ofInt 0) < 0 ∨ (am_kd μ r3).2 ≤ (Int32.ofInt 0).toNatClampNeg))
    (k1 : (lg_cmp (am_L μ r3 (Int32.ofInt 0).toNatClampNeg) x6.toInt64) = 0 → Wp d 295 (335, [some (.ref r0), some (.ref r1), some (.ref r2), some (.ref r3), some (.int x4), some (.int x5), some (.int x6)], [], μ) Q) (k2 : ¬ ((lg_cmp (am_L μ r3 (Int32.ofInt 0).toNatClampNeg) x6.toInt64) = 0) → Wp d 295 (333, [some (.ref r0), some (.ref r1), some (.ref r2), some (.ref r3), some (.int x4), some (.int x5), some (.int x6)], [], μ) Q) :
    Wp d 295 (323, [some (.ref r0), some (.ref r1), some (.ref r2), some (.ref r3), some (.int x4), some (.int x5), some (.int x6)], [], μ) Q := wp_blk rfl e295_323 (And.intro h1 (And.intro h2 (And.intro k1 k2)))
def q295_333 : List (Nat × Instr × Nat) := [(333, .iconst 0, 1)]
theorem e295_333 : am_dec am_M295 q295_333 = true := by decide +kernel
theorem e295_333_r : am_dec am_M295 [(334, .ireturn, 1)] = true := by decide +kernel
theorem b295_333 {d : Nat} {Q : Option Value ⊕ Nat → am_Mem → Prop} {μ : am_Mem} {r0 r1 r2 r3 : Nat} {x4 x5 x6 : Int32}
    (k : Q (.inl (some (.int (Int32.ofInt 0)))) μ) :
    Wp d 295 (333, [some (.ref r0), some (.ref r1), some (.ref r2), some (.ref r3), some (.int x4), some (.int x5), some (.int x6)], [], μ) Q := wp_blk rfl e295_333 (wp_ri (ty := .boolean) rfl e295_333_r rfl (by decide) k)
def q295_335 : List (Nat × Instr × Nat) := [(335, .goto 650, 3)]
theorem e295_335 : am_dec am_M295 q295_335 = true := by decide +kernel
theorem b295_335 {d : Nat} {Q : Option Value ⊕ Nat → am_Mem → Prop} {μ : am_Mem} {r0 r1 r2 r3 : Nat} {x4 x5 x6 : Int32}
    (k : Wp d 295 (985, [some (.ref r0), some (.ref r1), some (.ref r2), some (.ref r3), some (.int x4), some (.int x5), some (.int x6)], [], μ) Q) :
    Wp d 295 (335, [some (.ref r0), some (.ref r1), some (.ref r2), some (.ref r3), some (.int x4), some (.int x5), some (.int x6)], [], μ) Q := wp_blk rfl e295_335 k
def q295_338 : List (Nat × Instr × Nat) := [(338, .aload_n 1, 1), (339, .aload_n 0, 1), (340, .iload 4, 2), (342, .iconst 1, 1), (343, .iadd, 1), (344, .iaload, 1), (345, .aload_n 3, 1)]
theorem e295_338 : am_dec am_M295 q295_338 = true := by decide +kernel
theorem e295_338_c : am_dc1 am_M295 346 (.invokestatic 100) 3 = true := by decide +kernel
theorem b295_338 {d : Nat} {Q : Option Value ⊕ Nat → am_Mem → Prop} {μ : am_Mem} {r0 r1 r2 r3 : Nat} {x4 : Int32} {o5 o6 : Option Value} {P : Int32 → am_Mem → Prop} {X : Nat → am_Mem → Prop}
    (h1 : (am_kd μ r0).1 = 2 ∨ (am_kd μ r0).1 = 8)
    (h2 : ¬ ((x4 + (Int32.ofInt 1)) < 0 ∨ (am_kd μ r0).2 ≤ (x4 + (Int32.ofInt 1)).toNatClampNeg))
    (hc : Wp d 273 (0, [some (.ref r1), some (.int (am_A μ r0 (x4 + (Int32.ofInt 1)).toNatClampNeg)), some (.ref r3), none], [], μ) (pI P X)) (hr : ∀ x μ', P x μ' → Wp (d + 1) 295 (349, [some (.ref r0), some (.ref r1), some (.ref r2), some (.ref r3), some (.int x4), o5, o6], [.int x], (μ')) Q)
    (hx : ∀ x μ', X x μ' → Q (.inr x) μ') :
    Wp (d + 1) 295 (338, [some (.ref r0), some (.ref r1), some (.ref r2), some (.ref r3), some (.int x4), o5, o6], [], μ) Q := wp_blk rfl e295_338 (And.intro h1 (And.intro h2 (wp_cs (vs := [.ref r1, .int (am_A μ r0 (x4 + (Int32.ofInt 1)).toNatClampNeg), .ref r3]) rfl e295_338_c rfl rfl rfl rfl rfl hc (fun v μ' hv => by obtain ⟨x, rfl, hp⟩ := pI_r hv; exact hr x μ' hp) hx)))
def q295_349 : List (Nat × Instr × Nat) := [(349, .istore 5, 2), (351, .aload_n 2, 1), (352, .aload_n 0, 1), (353, .iload 4, 2), (355, .iconst 1, 1), (356, .iadd, 1), (357, .iaload, 1)]
theorem e295_349 : am_dec am_M295 q295_349 = true := by decide +kernel
theorem e295_349_c : am_dc1 am_M295 358 (.invokevirtual 102) 3 = true := by decide +kernel
theorem b295_349 {d : Nat} {Q : Option Value ⊕ Nat → am_Mem → Prop} {μ : am_Mem} {r0 r1 r2 r3 : Nat} {x4 s0 : Int32} {o5 o6 : Option Value} {P : Int32 → am_Mem → Prop} {X : Nat → am_Mem → Prop}
    (h1 : (am_kd μ r0).1 = 2 ∨ (am_kd μ r0).1 = 8)
    (h2 : ¬ ((x4 + (Int32.ofInt 1)) < 0 ∨ (am_kd μ r0).2 ≤ (x4 + (Int32.ofInt 1)).toNatClampNeg))
    (hk : am_kd μ r2 = (1, 12))
    (hc : Wp d 240 (0, [some (.ref r2), some (.int (am_A μ r0 (x4 + (Int32.ofInt 1)).toNatClampNeg)), none, none], [], μ) (pI P X)) (hr : ∀ x μ', P x μ' → Wp (d + 1) 295 (361, [some (.ref r0), some (.ref r1), some (.ref r2), some (.ref r3), some (.int x4), some (.int s0), o6], [.int x], (μ')) Q)
    (hx : ∀ x μ', X x μ' → Q (.inr x) μ') :
    Wp (d + 1) 295 (349, [some (.ref r0), some (.ref r1), some (.ref r2), some (.ref r3), some (.int x4), o5, o6], [.int s0], μ) Q := wp_blk rfl e295_349 (And.intro h1 (And.intro h2 (wp_cv (as := [.int (am_A μ r0 (x4 + (Int32.ofInt 1)).toNatClampNeg)]) rfl e295_349_c rfl rfl rfl rfl rfl hk hc (fun v μ' hv => by obtain ⟨x, rfl, hp⟩ := pI_r hv; exact hr x μ' hp) hx)))
def q295_361 : List (Nat × Instr × Nat) := [(361, .istore 6, 2), (363, .aload_n 2, 1)]
theorem e295_361 : am_dec am_M295 q295_361 = true := by decide +kernel
theorem e295_361_c : am_dc1 am_M295 364 (.invokevirtual 78) 3 = true := by decide +kernel
theorem b295_361 {d : Nat} {Q : Option Value ⊕ Nat → am_Mem → Prop} {μ : am_Mem} {r0 r1 r2 r3 : Nat} {x4 x5 s0 : Int32} {o6 : Option Value} {P : Int32 → am_Mem → Prop} {X : Nat → am_Mem → Prop}
    (hk : am_kd μ r2 = (1, 12))
    (hc : Wp d 148 (0, [some (.ref r2)], [], μ) (pI P X)) (hr : ∀ x μ', P x μ' → Wp (d + 1) 295 (367, [some (.ref r0), some (.ref r1), some (.ref r2), some (.ref r3), some (.int x4), some (.int x5), some (.int s0)], [.int x], (μ')) Q)
    (hx : ∀ x μ', X x μ' → Q (.inr x) μ') :
    Wp (d + 1) 295 (361, [some (.ref r0), some (.ref r1), some (.ref r2), some (.ref r3), some (.int x4), some (.int x5), o6], [.int s0], μ) Q := wp_blk rfl e295_361 (wp_cv (as := []) rfl e295_361_c rfl rfl rfl rfl rfl hk hc (fun v μ' hv => by obtain ⟨x, rfl, hp⟩ := pI_r hv; exact hr x μ' hp) hx)
def q295_367 : List (Nat × Instr × Nat) := [(367, .iload 5, 2), (369, .if_icmp .eq 5, 3)]
theorem e295_367 : am_dec am_M295 q295_367 = true := by decide +kernel
theorem b295_367 {d : Nat} {Q : Option Value ⊕ Nat → am_Mem → Prop} {μ : am_Mem} {r0 r1 r2 r3 : Nat} {x4 x5 x6 s0 : Int32}
    (k1 : s0 = x5 → Wp d 295 (374, [some (.ref r0), some (.ref r1), some (.ref r2), some (.ref r3), some (.int x4), some (.int x5), some (.int x6)], [], μ) Q) (k2 : ¬ (s0 = x5) → Wp d 295 (372, [some (.ref r0), some (.ref r1), some (.ref r2), some (.ref r3), some (.int x4), some (.int x5), some (.int x6)], [], μ) Q) :
    Wp d 295 (367, [some (.ref r0), some (.ref r1), some (.ref r2), some (.ref r3), some (.int x4), some (.int x5), some (.int x6)], [.int s0], μ) Q := wp_blk rfl e295_367 (And.intro k1 k2)
def q295_372 : List (Nat × Instr × Nat) := [(372, .iconst 0, 1)]
theorem e295_372 : am_dec am_M295 q295_372 = true := by decide +kernel
theorem e295_372_r : am_dec am_M295 [(373, .ireturn, 1)] = true := by decide +kernel
theorem b295_372 {d : Nat} {Q : Option Value ⊕ Nat → am_Mem → Prop} {μ : am_Mem} {r0 r1 r2 r3 : Nat} {x4 x5 x6 : Int32}
    (k : Q (.inl (some (.int (Int32.ofInt 0)))) μ) :
    Wp d 295 (372, [some (.ref r0), some (.ref r1), some (.ref r2), some (.ref r3), some (.int x4), some (.int x5), some (.int x6)], [], μ) Q := wp_blk rfl e295_372 (wp_ri (ty := .boolean) rfl e295_372_r rfl (by decide) k)
def q295_374 : List (Nat × Instr × Nat) := [(374, .iload 5, 2), (376, .ifCond .ne 15, 3)]
theorem e295_374 : am_dec am_M295 q295_374 = true := by decide +kernel
theorem b295_374 {d : Nat} {Q : Option Value ⊕ Nat → am_Mem → Prop} {μ : am_Mem} {r0 r1 r2 r3 : Nat} {x4 x5 x6 : Int32}
    (k1 : ¬ x5 = 0 → Wp d 295 (391, [some (.ref r0), some (.ref r1), some (.ref r2), some (.ref r3), some (.int x4), some (.int x5), some (.int x6)], [], μ) Q) (k2 : ¬ (¬ x5 = 0) → Wp d 295 (379, [some (.ref r0), some (.ref r1), some (.ref r2), some (.ref r3), some (.int x4), some (.int x5), some (.int x6)], [], μ) Q) :
    Wp d 295 (374, [some (.ref r0), some (.ref r1), some (.ref r2), some (.ref r3), some (.int x4), some (.int x5), some (.int x6)], [], μ) Q := wp_blk rfl e295_374 (And.intro k1 k2)
def q295_379 : List (Nat × Instr × Nat) := [(379, .aload_n 3, 1), (380, .iconst 0, 1), (381, .laload, 1), (382, .iload 6, 2), (384, .i2l, 1), (385, .lcmp, 1), (386, .ifCond .eq 5, 3)]
theorem e295_379 : am_dec am_M295 q295_379 = true := by decide +kernel
theorem b295_379 {d : Nat} {Q : Option Value ⊕ Nat → am_Mem → Prop} {μ : am_Mem} {r0 r1 r2 r3 : Nat} {x4 x5 x6 : Int32}
    (h1 : (am_kd μ r3).1 = 6)
    (h2 : ¬ ((Int32.ofInt 0) < 0 ∨ (am_kd μ r3).2 ≤ (Int32.ofInt 0).toNatClampNeg))
    (k1 : (lg_cmp (am_L μ r3 (Int32.ofInt 0).toNatClampNeg) x6.toInt64) = 0 → Wp d 295 (391, [some (.ref r0), some (.ref r1), some (.ref r2), some (.ref r3), some (.int x4), some (.int x5), some (.int x6)], [], μ) Q) (k2 : ¬ ((lg_cmp (am_L μ r3 (Int32.ofInt 0).toNatClampNeg) x6.toInt64) = 0) → Wp d 295 (389, [some (.ref r0), some (.ref r1), some (.ref r2), some (.ref r3), some (.int x4), some (.int x5), some (.int x6)], [], μ) Q) :
    Wp d 295 (379, [some (.ref r0), some (.ref r1), some (.ref r2), some (.ref r3), some (.int x4), some (.int x5), some (.int x6)], [], μ) Q := wp_blk rfl e295_379 (And.intro h1 (And.intro h2 (And.intro k1 k2)))
def q295_389 : List (Nat × Instr × Nat) := [(389, .iconst 0, 1)]
theorem e295_389 : am_dec am_M295 q295_389 = true := by decide +kernel
theorem e295_389_r : am_dec am_M295 [(390, .ireturn, 1)] = true := by decide +kernel
theorem b295_389 {d : Nat} {Q : Option Value ⊕ Nat → am_Mem → Prop} {μ : am_Mem} {r0 r1 r2 r3 : Nat} {x4 x5 x6 : Int32}
    (k : Q (.inl (some (.int (Int32.ofInt 0)))) μ) :
    Wp d 295 (389, [some (.ref r0), some (.ref r1), some (.ref r2), some (.ref r3), some (.int x4), some (.int x5), some (.int x6)], [], μ) Q := wp_blk rfl e295_389 (wp_ri (ty := .boolean) rfl e295_389_r rfl (by decide) k)
def q295_391 : List (Nat × Instr × Nat) := [(391, .goto 594, 3)]
theorem e295_391 : am_dec am_M295 q295_391 = true := by decide +kernel
theorem b295_391 {d : Nat} {Q : Option Value ⊕ Nat → am_Mem → Prop} {μ : am_Mem} {r0 r1 r2 r3 : Nat} {x4 x5 x6 : Int32}
    (k : Wp d 295 (985, [some (.ref r0), some (.ref r1), some (.ref r2), some (.ref r3), some (.int x4), some (.int x5), some (.int x6)], [], μ) Q) :
    Wp d 295 (391, [some (.ref r0), some (.ref r1), some (.ref r2), some (.ref r3), some (.int x4), some (.int x5), some (.int x6)], [], μ) Q := wp_blk rfl e295_391 k
def q295_394 : List (Nat × Instr × Nat) := [(394, .aload_n 1, 1), (395, .aload_n 3, 1)]
theorem e295_394 : am_dec am_M295 q295_394 = true := by decide +kernel
theorem e295_394_c : am_dc1 am_M295 396 (.invokestatic 103) 3 = true := by decide +kernel
theorem b295_394 {d : Nat} {Q : Option Value ⊕ Nat → am_Mem → Prop} {μ : am_Mem} {r0 r1 r2 r3 : Nat} {x4 : Int32} {o5 o6 : Option Value} {P : Int32 → am_Mem → Prop} {X : Nat → am_Mem → Prop}
    (hc : Wp d 274 (0, [some (.ref r1), some (.ref r3), none], [], μ) (pI P X)) (hr : ∀ x μ', P x μ' → Wp (d + 1) 295 (399, [some (.ref r0), some (.ref r1), some (.ref r2), some (.ref r3), some (.int x4), o5, o6], [.int x], (μ')) Q)
    (hx : ∀ x μ', X x μ' → Q (.inr x) μ') :
    Wp (d + 1) 295 (394, [some (.ref r0), some (.ref r1), some (.ref r2), some (.ref r3), some (.int x4), o5, o6], [], μ) Q := wp_blk rfl e295_394 (wp_cs (vs := [.ref r1, .ref r3]) rfl e295_394_c rfl rfl rfl rfl rfl hc (fun v μ' hv => by obtain ⟨x, rfl, hp⟩ := pI_r hv; exact hr x μ' hp) hx)
def q295_399 : List (Nat × Instr × Nat) := [(399, .istore 5, 2), (401, .aload_n 2, 1)]
theorem e295_399 : am_dec am_M295 q295_399 = true := by decide +kernel
theorem e295_399_c : am_dc1 am_M295 402 (.invokevirtual 105) 3 = true := by decide +kernel
theorem b295_399 {d : Nat} {Q : Option Value ⊕ Nat → am_Mem → Prop} {μ : am_Mem} {r0 r1 r2 r3 : Nat} {x4 s0 : Int32} {o5 o6 : Option Value} {P : Int32 → am_Mem → Prop} {X : Nat → am_Mem → Prop}
    (hk : am_kd μ r2 = (1, 12))
    (hc : Wp d 244 (0, [some (.ref r2), none], [], μ) (pI P X)) (hr : ∀ x μ', P x μ' → Wp (d + 1) 295 (405, [some (.ref r0), some (.ref r1), some (.ref r2), some (.ref r3), some (.int x4), some (.int s0), o6], [.int x], (μ')) Q)
    (hx : ∀ x μ', X x μ' → Q (.inr x) μ') :
    Wp (d + 1) 295 (399, [some (.ref r0), some (.ref r1), some (.ref r2), some (.ref r3), some (.int x4), o5, o6], [.int s0], μ) Q := wp_blk rfl e295_399 (wp_cv (as := []) rfl e295_399_c rfl rfl rfl rfl rfl hk hc (fun v μ' hv => by obtain ⟨x, rfl, hp⟩ := pI_r hv; exact hr x μ' hp) hx)
def q295_405 : List (Nat × Instr × Nat) := [(405, .istore 6, 2), (407, .aload_n 2, 1)]
theorem e295_405 : am_dec am_M295 q295_405 = true := by decide +kernel
theorem e295_405_c : am_dc1 am_M295 408 (.invokevirtual 78) 3 = true := by decide +kernel
theorem b295_405 {d : Nat} {Q : Option Value ⊕ Nat → am_Mem → Prop} {μ : am_Mem} {r0 r1 r2 r3 : Nat} {x4 x5 s0 : Int32} {o6 : Option Value} {P : Int32 → am_Mem → Prop} {X : Nat → am_Mem → Prop}
    (hk : am_kd μ r2 = (1, 12))
    (hc : Wp d 148 (0, [some (.ref r2)], [], μ) (pI P X)) (hr : ∀ x μ', P x μ' → Wp (d + 1) 295 (411, [some (.ref r0), some (.ref r1), some (.ref r2), some (.ref r3), some (.int x4), some (.int x5), some (.int s0)], [.int x], (μ')) Q)
    (hx : ∀ x μ', X x μ' → Q (.inr x) μ') :
    Wp (d + 1) 295 (405, [some (.ref r0), some (.ref r1), some (.ref r2), some (.ref r3), some (.int x4), some (.int x5), o6], [.int s0], μ) Q := wp_blk rfl e295_405 (wp_cv (as := []) rfl e295_405_c rfl rfl rfl rfl rfl hk hc (fun v μ' hv => by obtain ⟨x, rfl, hp⟩ := pI_r hv; exact hr x μ' hp) hx)
def q295_411 : List (Nat × Instr × Nat) := [(411, .iload 5, 2), (413, .if_icmp .eq 5, 3)]
theorem e295_411 : am_dec am_M295 q295_411 = true := by decide +kernel
theorem b295_411 {d : Nat} {Q : Option Value ⊕ Nat → am_Mem → Prop} {μ : am_Mem} {r0 r1 r2 r3 : Nat} {x4 x5 x6 s0 : Int32}
    (k1 : s0 = x5 → Wp d 295 (418, [some (.ref r0), some (.ref r1), some (.ref r2), some (.ref r3), some (.int x4), some (.int x5), some (.int x6)], [], μ) Q) (k2 : ¬ (s0 = x5) → Wp d 295 (416, [some (.ref r0), some (.ref r1), some (.ref r2), some (.ref r3), some (.int x4), some (.int x5), some (.int x6)], [], μ) Q) :
    Wp d 295 (411, [some (.ref r0), some (.ref r1), some (.ref r2), some (.ref r3), some (.int x4), some (.int x5), some (.int x6)], [.int s0], μ) Q := wp_blk rfl e295_411 (And.intro k1 k2)
def q295_416 : List (Nat × Instr × Nat) := [(416, .iconst 0, 1)]
theorem e295_416 : am_dec am_M295 q295_416 = true := by decide +kernel
theorem e295_416_r : am_dec am_M295 [(417, .ireturn, 1)] = true := by decide +kernel
theorem b295_416 {d : Nat} {Q : Option Value ⊕ Nat → am_Mem → Prop} {μ : am_Mem} {r0 r1 r2 r3 : Nat} {x4 x5 x6 : Int32}
    (k : Q (.inl (some (.int (Int32.ofInt 0)))) μ) :
    Wp d 295 (416, [some (.ref r0), some (.ref r1), some (.ref r2), some (.ref r3), some (.int x4), some (.int x5), some (.int x6)], [], μ) Q := wp_blk rfl e295_416 (wp_ri (ty := .boolean) rfl e295_416_r rfl (by decide) k)
def q295_418 : List (Nat × Instr × Nat) := [(418, .iload 5, 2), (420, .ifCond .ne 22, 3)]
theorem e295_418 : am_dec am_M295 q295_418 = true := by decide +kernel
theorem b295_418 {d : Nat} {Q : Option Value ⊕ Nat → am_Mem → Prop} {μ : am_Mem} {r0 r1 r2 r3 : Nat} {x4 x5 x6 : Int32}
    (k1 : ¬ x5 = 0 → Wp d 295 (442, [some (.ref r0), some (.ref r1), some (.ref r2), some (.ref r3), some (.int x4), some (.int x5), some (.int x6)], [], μ) Q) (k2 : ¬ (¬ x5 = 0) → Wp d 295 (423, [some (.ref r0), some (.ref r1), some (.ref r2), some (.ref r3), some (.int x4), some (.int x5), some (.int x6)], [], μ) Q) :
    Wp d 295 (418, [some (.ref r0), some (.ref r1), some (.ref r2), some (.ref r3), some (.int x4), some (.int x5), some (.int x6)], [], μ) Q := wp_blk rfl e295_418 (And.intro k1 k2)
def q295_423 : List (Nat × Instr × Nat) := [(423, .aload_n 3, 1), (424, .iconst 0, 1), (425, .laload, 1), (426, .iload 6, 2), (428, .ifCond .eq 7, 3)]
theorem e295_423 : am_dec am_M295 q295_423 = true := by decide +kernel
theorem b295_423 {d : Nat} {Q : Option Value ⊕ Nat → am_Mem → Prop} {μ : am_Mem} {r0 r1 r2 r3 : Nat} {x4 x5 x6 : Int32}
    (h1 : (am_kd μ r3).1 = 6)
    (h2 : ¬ ((Int32.ofInt 0) < 0 ∨ (am_kd μ r3).2 ≤ (Int32.ofInt 0).toNatClampNeg))
    (k1 : x6 = 0 → Wp d 295 (435, [some (.ref r0), some (.ref r1), some (.ref r2), some (.ref r3), some (.int x4), some (.int x5), some (.int x6)], [.long (am_L μ r3 (Int32.ofInt 0).toNatClampNeg)], μ) Q) (k2 : ¬ (x6 = 0) → Wp d 295 (431, [some (.ref r0), some (.ref r1), some (.ref r2), some (.ref r3), some (.int x4), some (.int x5), some (.int x6)], [.long (am_L μ r3 (Int32.ofInt 0).toNatClampNeg)], μ) Q) :
    Wp d 295 (423, [some (.ref r0), some (.ref r1), some (.ref r2), some (.ref r3), some (.int x4), some (.int x5), some (.int x6)], [], μ) Q := wp_blk rfl e295_423 (And.intro h1 (And.intro h2 (And.intro k1 k2)))
def q295_431 : List (Nat × Instr × Nat) := [(431, .lconst 1, 1), (432, .goto 4, 3)]
theorem e295_431 : am_dec am_M295 q295_431 = true := by decide +kernel
theorem b295_431 {d : Nat} {Q : Option Value ⊕ Nat → am_Mem → Prop} {μ : am_Mem} {r0 r1 r2 r3 : Nat} {x4 x5 x6 : Int32} {y90 : Int64}
    (k : Wp d 295 (436, [some (.ref r0), some (.ref r1), some (.ref r2), some (.ref r3), some (.int x4), some (.int x5), some (.int x6)], [.long (Int64.ofNat 1), .long y90], μ) Q) :
    Wp d 295 (431, [some (.ref r0), some (.ref r1), some (.ref r2), some (.ref r3), some (.int x4), some (.int x5), some (.int x6)], [.long y90], μ) Q := wp_blk rfl e295_431 k
def q295_435 : List (Nat × Instr × Nat) := [(435, .lconst 0, 1)]
theorem e295_435 : am_dec am_M295 q295_435 = true := by decide +kernel
theorem b295_435 {d : Nat} {Q : Option Value ⊕ Nat → am_Mem → Prop} {μ : am_Mem} {r0 r1 r2 r3 : Nat} {x4 x5 x6 : Int32} {y90 : Int64}
    (k : Wp d 295 (436, [some (.ref r0), some (.ref r1), some (.ref r2), some (.ref r3), some (.int x4), some (.int x5), some (.int x6)], [.long (Int64.ofNat 0), .long y90], μ) Q) :
    Wp d 295 (435, [some (.ref r0), some (.ref r1), some (.ref r2), some (.ref r3), some (.int x4), some (.int x5), some (.int x6)], [.long y90], μ) Q := wp_blk rfl e295_435 k
def q295_436 : List (Nat × Instr × Nat) := [(436, .lcmp, 1), (437, .ifCond .eq 5, 3)]
theorem e295_436 : am_dec am_M295 q295_436 = true := by decide +kernel
theorem b295_436 {d : Nat} {Q : Option Value ⊕ Nat → am_Mem → Prop} {μ : am_Mem} {r0 r1 r2 r3 : Nat} {x4 x5 x6 : Int32} {y90 y91 : Int64}
    (k1 : (lg_cmp y90 y91) = 0 → Wp d 295 (442, [some (.ref r0), some (.ref r1), some (.ref r2), some (.ref r3), some (.int x4), some (.int x5), some (.int x6)], [], μ) Q) (k2 : ¬ ((lg_cmp y90 y91) = 0) → Wp d 295 (440, [some (.ref r0), some (.ref r1), some (.ref r2), some (.ref r3), some (.int x4), some (.int x5), some (.int x6)], [], μ) Q) :
    Wp d 295 (436, [some (.ref r0), some (.ref r1), some (.ref r2), some (.ref r3), some (.int x4), some (.int x5), some (.int x6)], [.long y91, .long y90], μ) Q := wp_blk rfl e295_436 (And.intro k1 k2)
def q295_440 : List (Nat × Instr × Nat) := [(440, .iconst 0, 1)]
theorem e295_440 : am_dec am_M295 q295_440 = true := by decide +kernel
theorem e295_440_r : am_dec am_M295 [(441, .ireturn, 1)] = true := by decide +kernel
theorem b295_440 {d : Nat} {Q : Option Value ⊕ Nat → am_Mem → Prop} {μ : am_Mem} {r0 r1 r2 r3 : Nat} {x4 x5 x6 : Int32}
    (k : Q (.inl (some (.int (Int32.ofInt 0)))) μ) :
    Wp d 295 (440, [some (.ref r0), some (.ref r1), some (.ref r2), some (.ref r3), some (.int x4), some (.int x5), some (.int x6)], [], μ) Q := wp_blk rfl e295_440 (wp_ri (ty := .boolean) rfl e295_440_r rfl (by decide) k)
def q295_442 : List (Nat × Instr × Nat) := [(442, .goto 543, 3)]
theorem e295_442 : am_dec am_M295 q295_442 = true := by decide +kernel
theorem b295_442 {d : Nat} {Q : Option Value ⊕ Nat → am_Mem → Prop} {μ : am_Mem} {r0 r1 r2 r3 : Nat} {x4 x5 x6 : Int32}
    (k : Wp d 295 (985, [some (.ref r0), some (.ref r1), some (.ref r2), some (.ref r3), some (.int x4), some (.int x5), some (.int x6)], [], μ) Q) :
    Wp d 295 (442, [some (.ref r0), some (.ref r1), some (.ref r2), some (.ref r3), some (.int x4), some (.int x5), some (.int x6)], [], μ) Q := wp_blk rfl e295_442 k
def q295_445 : List (Nat × Instr × Nat) := [(445, .aload_n 1, 1), (446, .aload_n 0, 1), (447, .iload 4, 2), (449, .iconst 1, 1), (450, .iadd, 1), (451, .iaload, 1), (452, .aload_n 3, 1)]
theorem e295_445 : am_dec am_M295 q295_445 = true := by decide +kernel
theorem e295_445_c : am_dc1 am_M295 453 (.invokestatic 106) 3 = true := by decide +kernel
theorem b295_445 {d : Nat} {Q : Option Value ⊕ Nat → am_Mem → Prop} {μ : am_Mem} {r0 r1 r2 r3 : Nat} {x4 : Int32} {o5 o6 : Option Value} {P : Int32 → am_Mem → Prop} {X : Nat → am_Mem → Prop}
    (h1 : (am_kd μ r0).1 = 2 ∨ (am_kd μ r0).1 = 8)
    (h2 : ¬ ((x4 + (Int32.ofInt 1)) < 0 ∨ (am_kd μ r0).2 ≤ (x4 + (Int32.ofInt 1)).toNatClampNeg))
    (hc : Wp d 275 (0, [some (.ref r1), some (.int (am_A μ r0 (x4 + (Int32.ofInt 1)).toNatClampNeg)), some (.ref r3), none], [], μ) (pI P X)) (hr : ∀ x μ', P x μ' → Wp (d + 1) 295 (456, [some (.ref r0), some (.ref r1), some (.ref r2), some (.ref r3), some (.int x4), o5, o6], [.int x], (μ')) Q)
    (hx : ∀ x μ', X x μ' → Q (.inr x) μ') :
    Wp (d + 1) 295 (445, [some (.ref r0), some (.ref r1), some (.ref r2), some (.ref r3), some (.int x4), o5, o6], [], μ) Q := wp_blk rfl e295_445 (And.intro h1 (And.intro h2 (wp_cs (vs := [.ref r1, .int (am_A μ r0 (x4 + (Int32.ofInt 1)).toNatClampNeg), .ref r3]) rfl e295_445_c rfl rfl rfl rfl rfl hc (fun v μ' hv => by obtain ⟨x, rfl, hp⟩ := pI_r hv; exact hr x μ' hp) hx)))
def q295_456 : List (Nat × Instr × Nat) := [(456, .istore 5, 2), (458, .aload_n 2, 1), (459, .aload_n 0, 1), (460, .iload 4, 2), (462, .iconst 1, 1), (463, .iadd, 1), (464, .iaload, 1)]
theorem e295_456 : am_dec am_M295 q295_456 = true := by decide +kernel
theorem e295_456_c : am_dc1 am_M295 465 (.invokevirtual 108) 3 = true := by decide +kernel
theorem b295_456 {d : Nat} {Q : Option Value ⊕ Nat → am_Mem → Prop} {μ : am_Mem} {r0 r1 r2 r3 : Nat} {x4 s0 : Int32} {o5 o6 : Option Value} {P : Int32 → am_Mem → Prop} {X : Nat → am_Mem → Prop}
    (h1 : (am_kd μ r0).1 = 2 ∨ (am_kd μ r0).1 = 8)
    (h2 : ¬ ((x4 + (Int32.ofInt 1)) < 0 ∨ (am_kd μ r0).2 ≤ (x4 + (Int32.ofInt 1)).toNatClampNeg))
    (hk : am_kd μ r2 = (1, 12))
    (hc : Wp d 246 (0, [some (.ref r2), some (.int (am_A μ r0 (x4 + (Int32.ofInt 1)).toNatClampNeg)), none, none], [], μ) (pI P X)) (hr : ∀ x μ', P x μ' → Wp (d + 1) 295 (468, [some (.ref r0), some (.ref r1), some (.ref r2), some (.ref r3), some (.int x4), some (.int s0), o6], [.int x], (μ')) Q)
    (hx : ∀ x μ', X x μ' → Q (.inr x) μ') :
    Wp (d + 1) 295 (456, [some (.ref r0), some (.ref r1), some (.ref r2), some (.ref r3), some (.int x4), o5, o6], [.int s0], μ) Q := wp_blk rfl e295_456 (And.intro h1 (And.intro h2 (wp_cv (as := [.int (am_A μ r0 (x4 + (Int32.ofInt 1)).toNatClampNeg)]) rfl e295_456_c rfl rfl rfl rfl rfl hk hc (fun v μ' hv => by obtain ⟨x, rfl, hp⟩ := pI_r hv; exact hr x μ' hp) hx)))
def q295_468 : List (Nat × Instr × Nat) := [(468, .istore 6, 2), (470, .aload_n 2, 1)]
theorem e295_468 : am_dec am_M295 q295_468 = true := by decide +kernel
theorem e295_468_c : am_dc1 am_M295 471 (.invokevirtual 78) 3 = true := by decide +kernel
theorem b295_468 {d : Nat} {Q : Option Value ⊕ Nat → am_Mem → Prop} {μ : am_Mem} {r0 r1 r2 r3 : Nat} {x4 x5 s0 : Int32} {o6 : Option Value} {P : Int32 → am_Mem → Prop} {X : Nat → am_Mem → Prop}
    (hk : am_kd μ r2 = (1, 12))
    (hc : Wp d 148 (0, [some (.ref r2)], [], μ) (pI P X)) (hr : ∀ x μ', P x μ' → Wp (d + 1) 295 (474, [some (.ref r0), some (.ref r1), some (.ref r2), some (.ref r3), some (.int x4), some (.int x5), some (.int s0)], [.int x], (μ')) Q)
    (hx : ∀ x μ', X x μ' → Q (.inr x) μ') :
    Wp (d + 1) 295 (468, [some (.ref r0), some (.ref r1), some (.ref r2), some (.ref r3), some (.int x4), some (.int x5), o6], [.int s0], μ) Q := wp_blk rfl e295_468 (wp_cv (as := []) rfl e295_468_c rfl rfl rfl rfl rfl hk hc (fun v μ' hv => by obtain ⟨x, rfl, hp⟩ := pI_r hv; exact hr x μ' hp) hx)
def q295_474 : List (Nat × Instr × Nat) := [(474, .iload 5, 2), (476, .if_icmp .eq 5, 3)]
theorem e295_474 : am_dec am_M295 q295_474 = true := by decide +kernel
theorem b295_474 {d : Nat} {Q : Option Value ⊕ Nat → am_Mem → Prop} {μ : am_Mem} {r0 r1 r2 r3 : Nat} {x4 x5 x6 s0 : Int32}
    (k1 : s0 = x5 → Wp d 295 (481, [some (.ref r0), some (.ref r1), some (.ref r2), some (.ref r3), some (.int x4), some (.int x5), some (.int x6)], [], μ) Q) (k2 : ¬ (s0 = x5) → Wp d 295 (479, [some (.ref r0), some (.ref r1), some (.ref r2), some (.ref r3), some (.int x4), some (.int x5), some (.int x6)], [], μ) Q) :
    Wp d 295 (474, [some (.ref r0), some (.ref r1), some (.ref r2), some (.ref r3), some (.int x4), some (.int x5), some (.int x6)], [.int s0], μ) Q := wp_blk rfl e295_474 (And.intro k1 k2)
def q295_479 : List (Nat × Instr × Nat) := [(479, .iconst 0, 1)]
theorem e295_479 : am_dec am_M295 q295_479 = true := by decide +kernel
theorem e295_479_r : am_dec am_M295 [(480, .ireturn, 1)] = true := by decide +kernel
theorem b295_479 {d : Nat} {Q : Option Value ⊕ Nat → am_Mem → Prop} {μ : am_Mem} {r0 r1 r2 r3 : Nat} {x4 x5 x6 : Int32}
    (k : Q (.inl (some (.int (Int32.ofInt 0)))) μ) :
    Wp d 295 (479, [some (.ref r0), some (.ref r1), some (.ref r2), some (.ref r3), some (.int x4), some (.int x5), some (.int x6)], [], μ) Q := wp_blk rfl e295_479 (wp_ri (ty := .boolean) rfl e295_479_r rfl (by decide) k)
def q295_481 : List (Nat × Instr × Nat) := [(481, .iload 5, 2), (483, .ifCond .ne 15, 3)]
theorem e295_481 : am_dec am_M295 q295_481 = true := by decide +kernel
theorem b295_481 {d : Nat} {Q : Option Value ⊕ Nat → am_Mem → Prop} {μ : am_Mem} {r0 r1 r2 r3 : Nat} {x4 x5 x6 : Int32}
    (k1 : ¬ x5 = 0 → Wp d 295 (498, [some (.ref r0), some (.ref r1), some (.ref r2), some (.ref r3), some (.int x4), some (.int x5), some (.int x6)], [], μ) Q) (k2 : ¬ (¬ x5 = 0) → Wp d 295 (486, [some (.ref r0), some (.ref r1), some (.ref r2), some (.ref r3), some (.int x4), some (.int x5), some (.int x6)], [], μ) Q) :
    Wp d 295 (481, [some (.ref r0), some (.ref r1), some (.ref r2), some (.ref r3), some (.int x4), some (.int x5), some (.int x6)], [], μ) Q := wp_blk rfl e295_481 (And.intro k1 k2)
def q295_486 : List (Nat × Instr × Nat) := [(486, .aload_n 3, 1), (487, .iconst 0, 1), (488, .laload, 1), (489, .iload 6, 2), (491, .i2l, 1), (492, .lcmp, 1), (493, .ifCond .eq 5, 3)]
theorem e295_486 : am_dec am_M295 q295_486 = true := by decide +kernel
theorem b295_486 {d : Nat} {Q : Option Value ⊕ Nat → am_Mem → Prop} {μ : am_Mem} {r0 r1 r2 r3 : Nat} {x4 x5 x6 : Int32}
    (h1 : (am_kd μ r3).1 = 6)
    (h2 : ¬ ((Int32.ofInt 0) < 0 ∨ (am_kd μ r3).2 ≤ (Int32.ofInt 0).toNatClampNeg))
    (k1 : (lg_cmp (am_L μ r3 (Int32.ofInt 0).toNatClampNeg) x6.toInt64) = 0 → Wp d 295 (498, [some (.ref r0), some (.ref r1), some (.ref r2), some (.ref r3), some (.int x4), some (.int x5), some (.int x6)], [], μ) Q) (k2 : ¬ ((lg_cmp (am_L μ r3 (Int32.ofInt 0).toNatClampNeg) x6.toInt64) = 0) → Wp d 295 (496, [some (.ref r0), some (.ref r1), some (.ref r2), some (.ref r3), some (.int x4), some (.int x5), some (.int x6)], [], μ) Q) :
    Wp d 295 (486, [some (.ref r0), some (.ref r1), some (.ref r2), some (.ref r3), some (.int x4), some (.int x5), some (.int x6)], [], μ) Q := wp_blk rfl e295_486 (And.intro h1 (And.intro h2 (And.intro k1 k2)))
def q295_496 : List (Nat × Instr × Nat) := [(496, .iconst 0, 1)]
theorem e295_496 : am_dec am_M295 q295_496 = true := by decide +kernel
theorem e295_496_r : am_dec am_M295 [(497, .ireturn, 1)] = true := by decide +kernel
theorem b295_496 {d : Nat} {Q : Option Value ⊕ Nat → am_Mem → Prop} {μ : am_Mem} {r0 r1 r2 r3 : Nat} {x4 x5 x6 : Int32}
    (k : Q (.inl (some (.int (Int32.ofInt 0)))) μ) :
    Wp d 295 (496, [some (.ref r0), some (.ref r1), some (.ref r2), some (.ref r3), some (.int x4), some (.int x5), some (.int x6)], [], μ) Q := wp_blk rfl e295_496 (wp_ri (ty := .boolean) rfl e295_496_r rfl (by decide) k)
def q295_498 : List (Nat × Instr × Nat) := [(498, .goto 487, 3)]
theorem e295_498 : am_dec am_M295 q295_498 = true := by decide +kernel
theorem b295_498 {d : Nat} {Q : Option Value ⊕ Nat → am_Mem → Prop} {μ : am_Mem} {r0 r1 r2 r3 : Nat} {x4 x5 x6 : Int32}
    (k : Wp d 295 (985, [some (.ref r0), some (.ref r1), some (.ref r2), some (.ref r3), some (.int x4), some (.int x5), some (.int x6)], [], μ) Q) :
    Wp d 295 (498, [some (.ref r0), some (.ref r1), some (.ref r2), some (.ref r3), some (.int x4), some (.int x5), some (.int x6)], [], μ) Q := wp_blk rfl e295_498 k
def q295_501 : List (Nat × Instr × Nat) := [(501, .aload_n 1, 1), (502, .aload_n 0, 1), (503, .iload 4, 2), (505, .iconst 1, 1), (506, .iadd, 1), (507, .iaload, 1), (508, .aload_n 3, 1)]
theorem e295_501 : am_dec am_M295 q295_501 = true := by decide +kernel
theorem e295_501_c : am_dc1 am_M295 509 (.invokestatic 109) 3 = true := by decide +kernel
theorem b295_501 {d : Nat} {Q : Option Value ⊕ Nat → am_Mem → Prop} {μ : am_Mem} {r0 r1 r2 r3 : Nat} {x4 : Int32} {o5 o6 : Option Value} {P : Int32 → am_Mem → Prop} {X : Nat → am_Mem → Prop}
    (h1 : (am_kd μ r0).1 = 2 ∨ (am_kd μ r0).1 = 8)
    (h2 : ¬ ((x4 + (Int32.ofInt 1)) < 0 ∨ (am_kd μ r0).2 ≤ (x4 + (Int32.ofInt 1)).toNatClampNeg))
    (hc : Wp d 276 (0, [some (.ref r1), some (.int (am_A μ r0 (x4 + (Int32.ofInt 1)).toNatClampNeg)), some (.ref r3), none], [], μ) (pI P X)) (hr : ∀ x μ', P x μ' → Wp (d + 1) 295 (512, [some (.ref r0), some (.ref r1), some (.ref r2), some (.ref r3), some (.int x4), o5, o6], [.int x], (μ')) Q)
    (hx : ∀ x μ', X x μ' → Q (.inr x) μ') :
    Wp (d + 1) 295 (501, [some (.ref r0), some (.ref r1), some (.ref r2), some (.ref r3), some (.int x4), o5, o6], [], μ) Q := wp_blk rfl e295_501 (And.intro h1 (And.intro h2 (wp_cs (vs := [.ref r1, .int (am_A μ r0 (x4 + (Int32.ofInt 1)).toNatClampNeg), .ref r3]) rfl e295_501_c rfl rfl rfl rfl rfl hc (fun v μ' hv => by obtain ⟨x, rfl, hp⟩ := pI_r hv; exact hr x μ' hp) hx)))
def q295_512 : List (Nat × Instr × Nat) := [(512, .istore 5, 2), (514, .aload_n 2, 1), (515, .aload_n 0, 1), (516, .iload 4, 2), (518, .iconst 1, 1), (519, .iadd, 1), (520, .iaload, 1)]
theorem e295_512 : am_dec am_M295 q295_512 = true := by decide +kernel
theorem e295_512_c : am_dc1 am_M295 521 (.invokevirtual 111) 3 = true := by decide +kernel
theorem b295_512 {d : Nat} {Q : Option Value ⊕ Nat → am_Mem → Prop} {μ : am_Mem} {r0 r1 r2 r3 : Nat} {x4 s0 : Int32} {o5 o6 : Option Value} {P : Int32 → am_Mem → Prop} {X : Nat → am_Mem → Prop}
    (h1 : (am_kd μ r0).1 = 2 ∨ (am_kd μ r0).1 = 8)
    (h2 : ¬ ((x4 + (Int32.ofInt 1)) < 0 ∨ (am_kd μ r0).2 ≤ (x4 + (Int32.ofInt 1)).toNatClampNeg))
    (hk : am_kd μ r2 = (1, 12))
    (hc : Wp d 249 (0, [some (.ref r2), some (.int (am_A μ r0 (x4 + (Int32.ofInt 1)).toNatClampNeg)), none, none, none], [], μ) (pI P X)) (hr : ∀ x μ', P x μ' → Wp (d + 1) 295 (524, [some (.ref r0), some (.ref r1), some (.ref r2), some (.ref r3), some (.int x4), some (.int s0), o6], [.int x], (μ')) Q)
    (hx : ∀ x μ', X x μ' → Q (.inr x) μ') :
    Wp (d + 1) 295 (512, [some (.ref r0), some (.ref r1), some (.ref r2), some (.ref r3), some (.int x4), o5, o6], [.int s0], μ) Q := wp_blk rfl e295_512 (And.intro h1 (And.intro h2 (wp_cv (as := [.int (am_A μ r0 (x4 + (Int32.ofInt 1)).toNatClampNeg)]) rfl e295_512_c rfl rfl rfl rfl rfl hk hc (fun v μ' hv => by obtain ⟨x, rfl, hp⟩ := pI_r hv; exact hr x μ' hp) hx)))
def q295_524 : List (Nat × Instr × Nat) := [(524, .istore 6, 2), (526, .aload_n 2, 1)]
theorem e295_524 : am_dec am_M295 q295_524 = true := by decide +kernel
theorem e295_524_c : am_dc1 am_M295 527 (.invokevirtual 78) 3 = true := by decide +kernel
theorem b295_524 {d : Nat} {Q : Option Value ⊕ Nat → am_Mem → Prop} {μ : am_Mem} {r0 r1 r2 r3 : Nat} {x4 x5 s0 : Int32} {o6 : Option Value} {P : Int32 → am_Mem → Prop} {X : Nat → am_Mem → Prop}
    (hk : am_kd μ r2 = (1, 12))
    (hc : Wp d 148 (0, [some (.ref r2)], [], μ) (pI P X)) (hr : ∀ x μ', P x μ' → Wp (d + 1) 295 (530, [some (.ref r0), some (.ref r1), some (.ref r2), some (.ref r3), some (.int x4), some (.int x5), some (.int s0)], [.int x], (μ')) Q)
    (hx : ∀ x μ', X x μ' → Q (.inr x) μ') :
    Wp (d + 1) 295 (524, [some (.ref r0), some (.ref r1), some (.ref r2), some (.ref r3), some (.int x4), some (.int x5), o6], [.int s0], μ) Q := wp_blk rfl e295_524 (wp_cv (as := []) rfl e295_524_c rfl rfl rfl rfl rfl hk hc (fun v μ' hv => by obtain ⟨x, rfl, hp⟩ := pI_r hv; exact hr x μ' hp) hx)
def q295_530 : List (Nat × Instr × Nat) := [(530, .iload 5, 2), (532, .if_icmp .eq 5, 3)]
theorem e295_530 : am_dec am_M295 q295_530 = true := by decide +kernel
theorem b295_530 {d : Nat} {Q : Option Value ⊕ Nat → am_Mem → Prop} {μ : am_Mem} {r0 r1 r2 r3 : Nat} {x4 x5 x6 s0 : Int32}
    (k1 : s0 = x5 → Wp d 295 (537, [some (.ref r0), some (.ref r1), some (.ref r2), some (.ref r3), some (.int x4), some (.int x5), some (.int x6)], [], μ) Q) (k2 : ¬ (s0 = x5) → Wp d 295 (535, [some (.ref r0), some (.ref r1), some (.ref r2), some (.ref r3), some (.int x4), some (.int x5), some (.int x6)], [], μ) Q) :
    Wp d 295 (530, [some (.ref r0), some (.ref r1), some (.ref r2), some (.ref r3), some (.int x4), some (.int x5), some (.int x6)], [.int s0], μ) Q := wp_blk rfl e295_530 (And.intro k1 k2)
def q295_535 : List (Nat × Instr × Nat) := [(535, .iconst 0, 1)]
theorem e295_535 : am_dec am_M295 q295_535 = true := by decide +kernel
theorem e295_535_r : am_dec am_M295 [(536, .ireturn, 1)] = true := by decide +kernel
theorem b295_535 {d : Nat} {Q : Option Value ⊕ Nat → am_Mem → Prop} {μ : am_Mem} {r0 r1 r2 r3 : Nat} {x4 x5 x6 : Int32}
    (k : Q (.inl (some (.int (Int32.ofInt 0)))) μ) :
    Wp d 295 (535, [some (.ref r0), some (.ref r1), some (.ref r2), some (.ref r3), some (.int x4), some (.int x5), some (.int x6)], [], μ) Q := wp_blk rfl e295_535 (wp_ri (ty := .boolean) rfl e295_535_r rfl (by decide) k)
def q295_537 : List (Nat × Instr × Nat) := [(537, .iload 5, 2), (539, .ifCond .ne 15, 3)]
theorem e295_537 : am_dec am_M295 q295_537 = true := by decide +kernel
theorem b295_537 {d : Nat} {Q : Option Value ⊕ Nat → am_Mem → Prop} {μ : am_Mem} {r0 r1 r2 r3 : Nat} {x4 x5 x6 : Int32}
    (k1 : ¬ x5 = 0 → Wp d 295 (554, [some (.ref r0), some (.ref r1), some (.ref r2), some (.ref r3), some (.int x4), some (.int x5), some (.int x6)], [], μ) Q) (k2 : ¬ (¬ x5 = 0) → Wp d 295 (542, [some (.ref r0), some (.ref r1), some (.ref r2), some (.ref r3), some (.int x4), some (.int x5), some (.int x6)], [], μ) Q) :
    Wp d 295 (537, [some (.ref r0), some (.ref r1), some (.ref r2), some (.ref r3), some (.int x4), some (.int x5), some (.int x6)], [], μ) Q := wp_blk rfl e295_537 (And.intro k1 k2)
def q295_542 : List (Nat × Instr × Nat) := [(542, .aload_n 3, 1), (543, .iconst 0, 1), (544, .laload, 1), (545, .iload 6, 2), (547, .i2l, 1), (548, .lcmp, 1), (549, .ifCond .eq 5, 3)]
theorem e295_542 : am_dec am_M295 q295_542 = true := by decide +kernel
theorem b295_542 {d : Nat} {Q : Option Value ⊕ Nat → am_Mem → Prop} {μ : am_Mem} {r0 r1 r2 r3 : Nat} {x4 x5 x6 : Int32}
    (h1 : (am_kd μ r3).1 = 6)
    (h2 : ¬ ((Int32.ofInt 0) < 0 ∨ (am_kd μ r3).2 ≤ (Int32.ofInt 0).toNatClampNeg))
    (k1 : (lg_cmp (am_L μ r3 (Int32.ofInt 0).toNatClampNeg) x6.toInt64) = 0 → Wp d 295 (554, [some (.ref r0), some (.ref r1), some (.ref r2), some (.ref r3), some (.int x4), some (.int x5), some (.int x6)], [], μ) Q) (k2 : ¬ ((lg_cmp (am_L μ r3 (Int32.ofInt 0).toNatClampNeg) x6.toInt64) = 0) → Wp d 295 (552, [some (.ref r0), some (.ref r1), some (.ref r2), some (.ref r3), some (.int x4), some (.int x5), some (.int x6)], [], μ) Q) :
    Wp d 295 (542, [some (.ref r0), some (.ref r1), some (.ref r2), some (.ref r3), some (.int x4), some (.int x5), some (.int x6)], [], μ) Q := wp_blk rfl e295_542 (And.intro h1 (And.intro h2 (And.intro k1 k2)))
def q295_552 : List (Nat × Instr × Nat) := [(552, .iconst 0, 1)]
theorem e295_552 : am_dec am_M295 q295_552 = true := by decide +kernel
theorem e295_552_r : am_dec am_M295 [(553, .ireturn, 1)] = true := by decide +kernel
theorem b295_552 {d : Nat} {Q : Option Value ⊕ Nat → am_Mem → Prop} {μ : am_Mem} {r0 r1 r2 r3 : Nat} {x4 x5 x6 : Int32}
    (k : Q (.inl (some (.int (Int32.ofInt 0)))) μ) :
    Wp d 295 (552, [some (.ref r0), some (.ref r1), some (.ref r2), some (.ref r3), some (.int x4), some (.int x5), some (.int x6)], [], μ) Q := wp_blk rfl e295_552 (wp_ri (ty := .boolean) rfl e295_552_r rfl (by decide) k)
def q295_554 : List (Nat × Instr × Nat) := [(554, .goto 431, 3)]
theorem e295_554 : am_dec am_M295 q295_554 = true := by decide +kernel
theorem b295_554 {d : Nat} {Q : Option Value ⊕ Nat → am_Mem → Prop} {μ : am_Mem} {r0 r1 r2 r3 : Nat} {x4 x5 x6 : Int32}
    (k : Wp d 295 (985, [some (.ref r0), some (.ref r1), some (.ref r2), some (.ref r3), some (.int x4), some (.int x5), some (.int x6)], [], μ) Q) :
    Wp d 295 (554, [some (.ref r0), some (.ref r1), some (.ref r2), some (.ref r3), some (.int x4), some (.int x5), some (.int x6)], [], μ) Q := wp_blk rfl e295_554 k
def q295_557 : List (Nat × Instr × Nat) := [(557, .aload_n 1, 1), (558, .aload_n 0, 1), (559, .iload 4, 2), (561, .iconst 1, 1), (562, .iadd, 1), (563, .iaload, 1), (564, .aload_n 0, 1), (565, .iload 4, 2), (567, .iconst 2, 1), (568, .iadd, 1), (569, .iaload, 1), (570, .aload_n 0, 1), (571, .iload 4, 2), (573, .iconst 3, 1), (574, .iadd, 1), (575, .iaload, 1), (576, .aload_n 3, 1)]
theorem e295_557 : am_dec am_M295 q295_557 = true := by decide +kernel
theorem e295_557_c : am_dc1 am_M295 577 (.invokestatic 112) 3 = true := by decide +kernel
theorem b295_557 {d : Nat} {Q : Option Value ⊕ Nat → am_Mem → Prop} {μ : am_Mem} {r0 r1 r2 r3 : Nat} {x4 : Int32} {o5 o6 : Option Value} {P : Int32 → am_Mem → Prop} {X : Nat → am_Mem → Prop}
    (h1 : (am_kd μ r0).1 = 2 ∨ (am_kd μ r0).1 = 8)
    (h2 : ¬ ((x4 + (Int32.ofInt 1)) < 0 ∨ (am_kd μ r0).2 ≤ (x4 + (Int32.ofInt 1)).toNatClampNeg))
    (h3 : (am_kd μ r0).1 = 2 ∨ (am_kd μ r0).1 = 8)
    (h4 : ¬ ((x4 + (Int32.ofInt 2)) < 0 ∨ (am_kd μ r0).2 ≤ (x4 + (Int32.ofInt 2)).toNatClampNeg))
    (h5 : (am_kd μ r0).1 = 2 ∨ (am_kd μ r0).1 = 8)
    (h6 : ¬ ((x4 + (Int32.ofInt 3)) < 0 ∨ (am_kd μ r0).2 ≤ (x4 + (Int32.ofInt 3)).toNatClampNeg))
    (hc : Wp d 277 (0, [some (.ref r1), some (.int (am_A μ r0 (x4 + (Int32.ofInt 1)).toNatClampNeg)), some (.int (am_A μ r0 (x4 + (Int32.ofInt 2)).toNatClampNeg)), some (.int (am_A μ r0 (x4 + (Int32.ofInt 3)).toNatClampNeg)), some (.ref r3), none], [], μ) (pI P X)) (hr : ∀ x μ', P x μ' → Wp (d + 1) 295 (580, [some (.ref r0), some (.ref r1), some (.ref r2), some (.ref r3), some (.int x4), o5, o6], [.int x], (μ')) Q)
    (hx : ∀ x μ', X x μ' → Q (.inr x) μ') :
    Wp (d + 1) 295 (557, [some (.ref r0), some (.ref r1), some (.ref r2), some (.ref r3), some (.int x4), o5, o6], [], μ) Q := wp_blk rfl e295_557 (And.intro h1 (And.intro h2 (And.intro h3 (And.intro h4 (And.intro h5 (And.intro h6 (wp_cs (vs := [.ref r1, .int (am_A μ r0 (x4 + (Int32.ofInt 1)).toNatClampNeg), .int (am_A μ r0 (x4 + (Int32.ofInt 2)).toNatClampNeg), .int (am_A μ r0 (x4 + (Int32.ofInt 3)).toNatClampNeg), .ref r3]) rfl e295_557_c rfl rfl rfl rfl rfl hc (fun v μ' hv => by obtain ⟨x, rfl, hp⟩ := pI_r hv; exact hr x μ' hp) hx)))))))
def q295_580 : List (Nat × Instr × Nat) := [(580, .istore 5, 2), (582, .aload_n 2, 1), (583, .aload_n 0, 1), (584, .iload 4, 2), (586, .iconst 1, 1), (587, .iadd, 1), (588, .iaload, 1), (589, .aload_n 0, 1), (590, .iload 4, 2), (592, .iconst 2, 1), (593, .iadd, 1), (594, .iaload, 1), (595, .aload_n 0, 1), (596, .iload 4, 2), (598, .iconst 3, 1), (599, .iadd, 1), (600, .iaload, 1)]
theorem e295_580 : am_dec am_M295 q295_580 = true := by decide +kernel
theorem e295_580_c : am_dc1 am_M295 601 (.invokevirtual 115) 3 = true := by decide +kernel
theorem b295_580 {d : Nat} {Q : Option Value ⊕ Nat → am_Mem → Prop} {μ : am_Mem} {r0 r1 r2 r3 : Nat} {x4 s0 : Int32} {o5 o6 : Option Value} {P : Int32 → am_Mem → Prop} {X : Nat → am_Mem → Prop}
    (h1 : (am_kd μ r0).1 = 2 ∨ (am_kd μ r0).1 = 8)
    (h2 : ¬ ((x4 + (Int32.ofInt 1)) < 0 ∨ (am_kd μ r0).2 ≤ (x4 + (Int32.ofInt 1)).toNatClampNeg))
    (h3 : (am_kd μ r0).1 = 2 ∨ (am_kd μ r0).1 = 8)
    (h4 : ¬ ((x4 + (Int32.ofInt 2)) < 0 ∨ (am_kd μ r0).2 ≤ (x4 + (Int32.ofInt 2)).toNatClampNeg))
    (h5 : (am_kd μ r0).1 = 2 ∨ (am_kd μ r0).1 = 8)
    (h6 : ¬ ((x4 + (Int32.ofInt 3)) < 0 ∨ (am_kd μ r0).2 ≤ (x4 + (Int32.ofInt 3)).toNatClampNeg))
    (hk : am_kd μ r2 = (1, 12))
    (hc : Wp d 252 (0, [some (.ref r2), some (.int (am_A μ r0 (x4 + (Int32.ofInt 1)).toNatClampNeg)), some (.int (am_A μ r0 (x4 + (Int32.ofInt 2)).toNatClampNeg)), some (.int (am_A μ r0 (x4 + (Int32.ofInt 3)).toNatClampNeg)), none, none, none], [], μ) (pI P X)) (hr : ∀ x μ', P x μ' → Wp (d + 1) 295 (604, [some (.ref r0), some (.ref r1), some (.ref r2), some (.ref r3), some (.int x4), some (.int s0), o6], [.int x], (μ')) Q)
    (hx : ∀ x μ', X x μ' → Q (.inr x) μ') :
    Wp (d + 1) 295 (580, [some (.ref r0), some (.ref r1), some (.ref r2), some (.ref r3), some (.int x4), o5, o6], [.int s0], μ) Q := wp_blk rfl e295_580 (And.intro h1 (And.intro h2 (And.intro h3 (And.intro h4 (And.intro h5 (And.intro h6 (wp_cv (as := [.int (am_A μ r0 (x4 + (Int32.ofInt 1)).toNatClampNeg), .int (am_A μ r0 (x4 + (Int32.ofInt 2)).toNatClampNeg), .int (am_A μ r0 (x4 + (Int32.ofInt 3)).toNatClampNeg)]) rfl e295_580_c rfl rfl rfl rfl rfl hk hc (fun v μ' hv => by obtain ⟨x, rfl, hp⟩ := pI_r hv; exact hr x μ' hp) hx)))))))
def q295_604 : List (Nat × Instr × Nat) := [(604, .istore 6, 2), (606, .aload_n 2, 1)]
theorem e295_604 : am_dec am_M295 q295_604 = true := by decide +kernel
theorem e295_604_c : am_dc1 am_M295 607 (.invokevirtual 78) 3 = true := by decide +kernel
theorem b295_604 {d : Nat} {Q : Option Value ⊕ Nat → am_Mem → Prop} {μ : am_Mem} {r0 r1 r2 r3 : Nat} {x4 x5 s0 : Int32} {o6 : Option Value} {P : Int32 → am_Mem → Prop} {X : Nat → am_Mem → Prop}
    (hk : am_kd μ r2 = (1, 12))
    (hc : Wp d 148 (0, [some (.ref r2)], [], μ) (pI P X)) (hr : ∀ x μ', P x μ' → Wp (d + 1) 295 (610, [some (.ref r0), some (.ref r1), some (.ref r2), some (.ref r3), some (.int x4), some (.int x5), some (.int s0)], [.int x], (μ')) Q)
    (hx : ∀ x μ', X x μ' → Q (.inr x) μ') :
    Wp (d + 1) 295 (604, [some (.ref r0), some (.ref r1), some (.ref r2), some (.ref r3), some (.int x4), some (.int x5), o6], [.int s0], μ) Q := wp_blk rfl e295_604 (wp_cv (as := []) rfl e295_604_c rfl rfl rfl rfl rfl hk hc (fun v μ' hv => by obtain ⟨x, rfl, hp⟩ := pI_r hv; exact hr x μ' hp) hx)
def q295_610 : List (Nat × Instr × Nat) := [(610, .iload 5, 2), (612, .if_icmp .eq 5, 3)]
theorem e295_610 : am_dec am_M295 q295_610 = true := by decide +kernel
theorem b295_610 {d : Nat} {Q : Option Value ⊕ Nat → am_Mem → Prop} {μ : am_Mem} {r0 r1 r2 r3 : Nat} {x4 x5 x6 s0 : Int32}
    (k1 : s0 = x5 → Wp d 295 (617, [some (.ref r0), some (.ref r1), some (.ref r2), some (.ref r3), some (.int x4), some (.int x5), some (.int x6)], [], μ) Q) (k2 : ¬ (s0 = x5) → Wp d 295 (615, [some (.ref r0), some (.ref r1), some (.ref r2), some (.ref r3), some (.int x4), some (.int x5), some (.int x6)], [], μ) Q) :
    Wp d 295 (610, [some (.ref r0), some (.ref r1), some (.ref r2), some (.ref r3), some (.int x4), some (.int x5), some (.int x6)], [.int s0], μ) Q := wp_blk rfl e295_610 (And.intro k1 k2)
def q295_615 : List (Nat × Instr × Nat) := [(615, .iconst 0, 1)]
theorem e295_615 : am_dec am_M295 q295_615 = true := by decide +kernel
theorem e295_615_r : am_dec am_M295 [(616, .ireturn, 1)] = true := by decide +kernel
theorem b295_615 {d : Nat} {Q : Option Value ⊕ Nat → am_Mem → Prop} {μ : am_Mem} {r0 r1 r2 r3 : Nat} {x4 x5 x6 : Int32}
    (k : Q (.inl (some (.int (Int32.ofInt 0)))) μ) :
    Wp d 295 (615, [some (.ref r0), some (.ref r1), some (.ref r2), some (.ref r3), some (.int x4), some (.int x5), some (.int x6)], [], μ) Q := wp_blk rfl e295_615 (wp_ri (ty := .boolean) rfl e295_615_r rfl (by decide) k)
def q295_617 : List (Nat × Instr × Nat) := [(617, .iload 5, 2), (619, .ifCond .ne 15, 3)]
theorem e295_617 : am_dec am_M295 q295_617 = true := by decide +kernel
theorem b295_617 {d : Nat} {Q : Option Value ⊕ Nat → am_Mem → Prop} {μ : am_Mem} {r0 r1 r2 r3 : Nat} {x4 x5 x6 : Int32}
    (k1 : ¬ x5 = 0 → Wp d 295 (634, [some (.ref r0), some (.ref r1), some (.ref r2), some (.ref r3), some (.int x4), some (.int x5), some (.int x6)], [], μ) Q) (k2 : ¬ (¬ x5 = 0) → Wp d 295 (622, [some (.ref r0), some (.ref r1), some (.ref r2), some (.ref r3), some (.int x4), some (.int x5), some (.int x6)], [], μ) Q) :
    Wp d 295 (617, [some (.ref r0), some (.ref r1), some (.ref r2), some (.ref r3), some (.int x4), some (.int x5), some (.int x6)], [], μ) Q := wp_blk rfl e295_617 (And.intro k1 k2)
def q295_622 : List (Nat × Instr × Nat) := [(622, .aload_n 3, 1), (623, .iconst 0, 1), (624, .laload, 1), (625, .iload 6, 2), (627, .i2l, 1), (628, .lcmp, 1), (629, .ifCond .eq 5, 3)]
theorem e295_622 : am_dec am_M295 q295_622 = true := by decide +kernel
theorem b295_622 {d : Nat} {Q : Option Value ⊕ Nat → am_Mem → Prop} {μ : am_Mem} {r0 r1 r2 r3 : Nat} {x4 x5 x6 : Int32}
    (h1 : (am_kd μ r3).1 = 6)
    (h2 : ¬ ((Int32.ofInt 0) < 0 ∨ (am_kd μ r3).2 ≤ (Int32.ofInt 0).toNatClampNeg))
    (k1 : (lg_cmp (am_L μ r3 (Int32.ofInt 0).toNatClampNeg) x6.toInt64) = 0 → Wp d 295 (634, [some (.ref r0), some (.ref r1), some (.ref r2), some (.ref r3), some (.int x4), some (.int x5), some (.int x6)], [], μ) Q) (k2 : ¬ ((lg_cmp (am_L μ r3 (Int32.ofInt 0).toNatClampNeg) x6.toInt64) = 0) → Wp d 295 (632, [some (.ref r0), some (.ref r1), some (.ref r2), some (.ref r3), some (.int x4), some (.int x5), some (.int x6)], [], μ) Q) :
    Wp d 295 (622, [some (.ref r0), some (.ref r1), some (.ref r2), some (.ref r3), some (.int x4), some (.int x5), some (.int x6)], [], μ) Q := wp_blk rfl e295_622 (And.intro h1 (And.intro h2 (And.intro k1 k2)))
def q295_632 : List (Nat × Instr × Nat) := [(632, .iconst 0, 1)]
theorem e295_632 : am_dec am_M295 q295_632 = true := by decide +kernel
theorem e295_632_r : am_dec am_M295 [(633, .ireturn, 1)] = true := by decide +kernel
theorem b295_632 {d : Nat} {Q : Option Value ⊕ Nat → am_Mem → Prop} {μ : am_Mem} {r0 r1 r2 r3 : Nat} {x4 x5 x6 : Int32}
    (k : Q (.inl (some (.int (Int32.ofInt 0)))) μ) :
    Wp d 295 (632, [some (.ref r0), some (.ref r1), some (.ref r2), some (.ref r3), some (.int x4), some (.int x5), some (.int x6)], [], μ) Q := wp_blk rfl e295_632 (wp_ri (ty := .boolean) rfl e295_632_r rfl (by decide) k)
def q295_634 : List (Nat × Instr × Nat) := [(634, .goto 351, 3)]
theorem e295_634 : am_dec am_M295 q295_634 = true := by decide +kernel
theorem b295_634 {d : Nat} {Q : Option Value ⊕ Nat → am_Mem → Prop} {μ : am_Mem} {r0 r1 r2 r3 : Nat} {x4 x5 x6 : Int32}
    (k : Wp d 295 (985, [some (.ref r0), some (.ref r1), some (.ref r2), some (.ref r3), some (.int x4), some (.int x5), some (.int x6)], [], μ) Q) :
    Wp d 295 (634, [some (.ref r0), some (.ref r1), some (.ref r2), some (.ref r3), some (.int x4), some (.int x5), some (.int x6)], [], μ) Q := wp_blk rfl e295_634 k
def q295_637 : List (Nat × Instr × Nat) := [(637, .aload_n 1, 1), (638, .aload_n 3, 1)]
theorem e295_637 : am_dec am_M295 q295_637 = true := by decide +kernel
theorem e295_637_c : am_dc1 am_M295 639 (.invokestatic 116) 3 = true := by decide +kernel
theorem b295_637 {d : Nat} {Q : Option Value ⊕ Nat → am_Mem → Prop} {μ : am_Mem} {r0 r1 r2 r3 : Nat} {x4 : Int32} {o5 o6 : Option Value} {P : Int32 → am_Mem → Prop} {X : Nat → am_Mem → Prop}
    (hc : Wp d 278 (0, [some (.ref r1), some (.ref r3), none], [], μ) (pI P X)) (hr : ∀ x μ', P x μ' → Wp (d + 1) 295 (642, [some (.ref r0), some (.ref r1), some (.ref r2), some (.ref r3), some (.int x4), o5, o6], [.int x], (μ')) Q)
    (hx : ∀ x μ', X x μ' → Q (.inr x) μ') :
    Wp (d + 1) 295 (637, [some (.ref r0), some (.ref r1), some (.ref r2), some (.ref r3), some (.int x4), o5, o6], [], μ) Q := wp_blk rfl e295_637 (wp_cs (vs := [.ref r1, .ref r3]) rfl e295_637_c rfl rfl rfl rfl rfl hc (fun v μ' hv => by obtain ⟨x, rfl, hp⟩ := pI_r hv; exact hr x μ' hp) hx)
def q295_642 : List (Nat × Instr × Nat) := [(642, .istore 5, 2), (644, .aload_n 2, 1)]
theorem e295_642 : am_dec am_M295 q295_642 = true := by decide +kernel
theorem e295_642_c : am_dc1 am_M295 645 (.invokevirtual 118) 3 = true := by decide +kernel
theorem b295_642 {d : Nat} {Q : Option Value ⊕ Nat → am_Mem → Prop} {μ : am_Mem} {r0 r1 r2 r3 : Nat} {x4 s0 : Int32} {o5 o6 : Option Value} {P : Int32 → am_Mem → Prop} {X : Nat → am_Mem → Prop}
    (hk : am_kd μ r2 = (1, 12))
    (hc : Wp d 253 (0, [some (.ref r2), none, none, none], [], μ) (pI P X)) (hr : ∀ x μ', P x μ' → Wp (d + 1) 295 (648, [some (.ref r0), some (.ref r1), some (.ref r2), some (.ref r3), some (.int x4), some (.int s0), o6], [.int x], (μ')) Q)
    (hx : ∀ x μ', X x μ' → Q (.inr x) μ') :
    Wp (d + 1) 295 (642, [some (.ref r0), some (.ref r1), some (.ref r2), some (.ref r3), some (.int x4), o5, o6], [.int s0], μ) Q := wp_blk rfl e295_642 (wp_cv (as := []) rfl e295_642_c rfl rfl rfl rfl rfl hk hc (fun v μ' hv => by obtain ⟨x, rfl, hp⟩ := pI_r hv; exact hr x μ' hp) hx)
def q295_648 : List (Nat × Instr × Nat) := [(648, .istore 6, 2), (650, .aload_n 2, 1)]
theorem e295_648 : am_dec am_M295 q295_648 = true := by decide +kernel
theorem e295_648_c : am_dc1 am_M295 651 (.invokevirtual 78) 3 = true := by decide +kernel
theorem b295_648 {d : Nat} {Q : Option Value ⊕ Nat → am_Mem → Prop} {μ : am_Mem} {r0 r1 r2 r3 : Nat} {x4 x5 s0 : Int32} {o6 : Option Value} {P : Int32 → am_Mem → Prop} {X : Nat → am_Mem → Prop}
    (hk : am_kd μ r2 = (1, 12))
    (hc : Wp d 148 (0, [some (.ref r2)], [], μ) (pI P X)) (hr : ∀ x μ', P x μ' → Wp (d + 1) 295 (654, [some (.ref r0), some (.ref r1), some (.ref r2), some (.ref r3), some (.int x4), some (.int x5), some (.int s0)], [.int x], (μ')) Q)
    (hx : ∀ x μ', X x μ' → Q (.inr x) μ') :
    Wp (d + 1) 295 (648, [some (.ref r0), some (.ref r1), some (.ref r2), some (.ref r3), some (.int x4), some (.int x5), o6], [.int s0], μ) Q := wp_blk rfl e295_648 (wp_cv (as := []) rfl e295_648_c rfl rfl rfl rfl rfl hk hc (fun v μ' hv => by obtain ⟨x, rfl, hp⟩ := pI_r hv; exact hr x μ' hp) hx)
def q295_654 : List (Nat × Instr × Nat) := [(654, .iload 5, 2), (656, .if_icmp .eq 5, 3)]
theorem e295_654 : am_dec am_M295 q295_654 = true := by decide +kernel
theorem b295_654 {d : Nat} {Q : Option Value ⊕ Nat → am_Mem → Prop} {μ : am_Mem} {r0 r1 r2 r3 : Nat} {x4 x5 x6 s0 : Int32}
    (k1 : s0 = x5 → Wp d 295 (661, [some (.ref r0), some (.ref r1), some (.ref r2), some (.ref r3), some (.int x4), some (.int x5), some (.int x6)], [], μ) Q) (k2 : ¬ (s0 = x5) → Wp d 295 (659, [some (.ref r0), some (.ref r1), some (.ref r2), some (.ref r3), some (.int x4), some (.int x5), some (.int x6)], [], μ) Q) :
    Wp d 295 (654, [some (.ref r0), some (.ref r1), some (.ref r2), some (.ref r3), some (.int x4), some (.int x5), some (.int x6)], [.int s0], μ) Q := wp_blk rfl e295_654 (And.intro k1 k2)
def q295_659 : List (Nat × Instr × Nat) := [(659, .iconst 0, 1)]
theorem e295_659 : am_dec am_M295 q295_659 = true := by decide +kernel
theorem e295_659_r : am_dec am_M295 [(660, .ireturn, 1)] = true := by decide +kernel
theorem b295_659 {d : Nat} {Q : Option Value ⊕ Nat → am_Mem → Prop} {μ : am_Mem} {r0 r1 r2 r3 : Nat} {x4 x5 x6 : Int32}
    (k : Q (.inl (some (.int (Int32.ofInt 0)))) μ) :
    Wp d 295 (659, [some (.ref r0), some (.ref r1), some (.ref r2), some (.ref r3), some (.int x4), some (.int x5), some (.int x6)], [], μ) Q := wp_blk rfl e295_659 (wp_ri (ty := .boolean) rfl e295_659_r rfl (by decide) k)
def q295_661 : List (Nat × Instr × Nat) := [(661, .iload 5, 2), (663, .ifCond .ne 15, 3)]
theorem e295_661 : am_dec am_M295 q295_661 = true := by decide +kernel
theorem b295_661 {d : Nat} {Q : Option Value ⊕ Nat → am_Mem → Prop} {μ : am_Mem} {r0 r1 r2 r3 : Nat} {x4 x5 x6 : Int32}
    (k1 : ¬ x5 = 0 → Wp d 295 (678, [some (.ref r0), some (.ref r1), some (.ref r2), some (.ref r3), some (.int x4), some (.int x5), some (.int x6)], [], μ) Q) (k2 : ¬ (¬ x5 = 0) → Wp d 295 (666, [some (.ref r0), some (.ref r1), some (.ref r2), some (.ref r3), some (.int x4), some (.int x5), some (.int x6)], [], μ) Q) :
    Wp d 295 (661, [some (.ref r0), some (.ref r1), some (.ref r2), some (.ref r3), some (.int x4), some (.int x5), some (.int x6)], [], μ) Q := wp_blk rfl e295_661 (And.intro k1 k2)
def q295_666 : List (Nat × Instr × Nat) := [(666, .aload_n 3, 1), (667, .iconst 0, 1), (668, .laload, 1), (669, .iload 6, 2), (671, .i2l, 1), (672, .lcmp, 1), (673, .ifCond .eq 5, 3)]
theorem e295_666 : am_dec am_M295 q295_666 = true := by decide +kernel
theorem b295_666 {d : Nat} {Q : Option Value ⊕ Nat → am_Mem → Prop} {μ : am_Mem} {r0 r1 r2 r3 : Nat} {x4 x5 x6 : Int32}
    (h1 : (am_kd μ r3).1 = 6)
    (h2 : ¬ ((Int32.ofInt 0) < 0 ∨ (am_kd μ r3).2 ≤ (Int32.ofInt 0).toNatClampNeg))
    (k1 : (lg_cmp (am_L μ r3 (Int32.ofInt 0).toNatClampNeg) x6.toInt64) = 0 → Wp d 295 (678, [some (.ref r0), some (.ref r1), some (.ref r2), some (.ref r3), some (.int x4), some (.int x5), some (.int x6)], [], μ) Q) (k2 : ¬ ((lg_cmp (am_L μ r3 (Int32.ofInt 0).toNatClampNeg) x6.toInt64) = 0) → Wp d 295 (676, [some (.ref r0), some (.ref r1), some (.ref r2), some (.ref r3), some (.int x4), some (.int x5), some (.int x6)], [], μ) Q) :
    Wp d 295 (666, [some (.ref r0), some (.ref r1), some (.ref r2), some (.ref r3), some (.int x4), some (.int x5), some (.int x6)], [], μ) Q := wp_blk rfl e295_666 (And.intro h1 (And.intro h2 (And.intro k1 k2)))
def q295_676 : List (Nat × Instr × Nat) := [(676, .iconst 0, 1)]
theorem e295_676 : am_dec am_M295 q295_676 = true := by decide +kernel
theorem e295_676_r : am_dec am_M295 [(677, .ireturn, 1)] = true := by decide +kernel
theorem b295_676 {d : Nat} {Q : Option Value ⊕ Nat → am_Mem → Prop} {μ : am_Mem} {r0 r1 r2 r3 : Nat} {x4 x5 x6 : Int32}
    (k : Q (.inl (some (.int (Int32.ofInt 0)))) μ) :
    Wp d 295 (676, [some (.ref r0), some (.ref r1), some (.ref r2), some (.ref r3), some (.int x4), some (.int x5), some (.int x6)], [], μ) Q := wp_blk rfl e295_676 (wp_ri (ty := .boolean) rfl e295_676_r rfl (by decide) k)
def q295_678 : List (Nat × Instr × Nat) := [(678, .goto 307, 3)]
theorem e295_678 : am_dec am_M295 q295_678 = true := by decide +kernel
theorem b295_678 {d : Nat} {Q : Option Value ⊕ Nat → am_Mem → Prop} {μ : am_Mem} {r0 r1 r2 r3 : Nat} {x4 x5 x6 : Int32}
    (k : Wp d 295 (985, [some (.ref r0), some (.ref r1), some (.ref r2), some (.ref r3), some (.int x4), some (.int x5), some (.int x6)], [], μ) Q) :
    Wp d 295 (678, [some (.ref r0), some (.ref r1), some (.ref r2), some (.ref r3), some (.int x4), some (.int x5), some (.int x6)], [], μ) Q := wp_blk rfl e295_678 k
def q295_681 : List (Nat × Instr × Nat) := [(681, .aload_n 1, 1), (682, .aload_n 0, 1), (683, .iload 4, 2), (685, .iconst 1, 1), (686, .iadd, 1), (687, .iaload, 1), (688, .aload_n 3, 1)]
theorem e295_681 : am_dec am_M295 q295_681 = true := by decide +kernel
theorem e295_681_c : am_dc1 am_M295 689 (.invokestatic 119) 3 = true := by decide +kernel
theorem b295_681 {d : Nat} {Q : Option Value ⊕ Nat → am_Mem → Prop} {μ : am_Mem} {r0 r1 r2 r3 : Nat} {x4 : Int32} {o5 o6 : Option Value} {P : Int32 → am_Mem → Prop} {X : Nat → am_Mem → Prop}
    (h1 : (am_kd μ r0).1 = 2 ∨ (am_kd μ r0).1 = 8)
    (h2 : ¬ ((x4 + (Int32.ofInt 1)) < 0 ∨ (am_kd μ r0).2 ≤ (x4 + (Int32.ofInt 1)).toNatClampNeg))
    (hc : Wp d 279 (0, [some (.ref r1), some (.int (am_A μ r0 (x4 + (Int32.ofInt 1)).toNatClampNeg)), some (.ref r3), none], [], μ) (pI P X)) (hr : ∀ x μ', P x μ' → Wp (d + 1) 295 (692, [some (.ref r0), some (.ref r1), some (.ref r2), some (.ref r3), some (.int x4), o5, o6], [.int x], (μ')) Q)
    (hx : ∀ x μ', X x μ' → Q (.inr x) μ') :
    Wp (d + 1) 295 (681, [some (.ref r0), some (.ref r1), some (.ref r2), some (.ref r3), some (.int x4), o5, o6], [], μ) Q := wp_blk rfl e295_681 (And.intro h1 (And.intro h2 (wp_cs (vs := [.ref r1, .int (am_A μ r0 (x4 + (Int32.ofInt 1)).toNatClampNeg), .ref r3]) rfl e295_681_c rfl rfl rfl rfl rfl hc (fun v μ' hv => by obtain ⟨x, rfl, hp⟩ := pI_r hv; exact hr x μ' hp) hx)))
def q295_692 : List (Nat × Instr × Nat) := [(692, .istore 5, 2), (694, .aload_n 2, 1), (695, .aload_n 0, 1), (696, .iload 4, 2), (698, .iconst 1, 1), (699, .iadd, 1), (700, .iaload, 1)]
theorem e295_692 : am_dec am_M295 q295_692 = true := by decide +kernel
theorem e295_692_c : am_dc1 am_M295 701 (.invokevirtual 121) 3 = true := by decide +kernel
theorem b295_692 {d : Nat} {Q : Option Value ⊕ Nat → am_Mem → Prop} {μ : am_Mem} {r0 r1 r2 r3 : Nat} {x4 s0 : Int32} {o5 o6 : Option Value} {P : Int32 → am_Mem → Prop} {X : Nat → am_Mem → Prop}
    (h1 : (am_kd μ r0).1 = 2 ∨ (am_kd μ r0).1 = 8)
    (h2 : ¬ ((x4 + (Int32.ofInt 1)) < 0 ∨ (am_kd μ r0).2 ≤ (x4 + (Int32.ofInt 1)).toNatClampNeg))
    (hk : am_kd μ r2 = (1, 12))
    (hc : Wp d 263 (0, [some (.ref r2), some (.int (am_A μ r0 (x4 + (Int32.ofInt 1)).toNatClampNeg))], [], μ) (pI P X)) (hr : ∀ x μ', P x μ' → Wp (d + 1) 295 (704, [some (.ref r0), some (.ref r1), some (.ref r2), some (.ref r3), some (.int x4), some (.int s0), o6], [.int x], (μ')) Q)
    (hx : ∀ x μ', X x μ' → Q (.inr x) μ') :
    Wp (d + 1) 295 (692, [some (.ref r0), some (.ref r1), some (.ref r2), some (.ref r3), some (.int x4), o5, o6], [.int s0], μ) Q := wp_blk rfl e295_692 (And.intro h1 (And.intro h2 (wp_cv (as := [.int (am_A μ r0 (x4 + (Int32.ofInt 1)).toNatClampNeg)]) rfl e295_692_c rfl rfl rfl rfl rfl hk hc (fun v μ' hv => by obtain ⟨x, rfl, hp⟩ := pI_r hv; exact hr x μ' hp) hx)))
def q295_704 : List (Nat × Instr × Nat) := [(704, .istore 6, 2), (706, .aload_n 2, 1)]
theorem e295_704 : am_dec am_M295 q295_704 = true := by decide +kernel
theorem e295_704_c : am_dc1 am_M295 707 (.invokevirtual 78) 3 = true := by decide +kernel
theorem b295_704 {d : Nat} {Q : Option Value ⊕ Nat → am_Mem → Prop} {μ : am_Mem} {r0 r1 r2 r3 : Nat} {x4 x5 s0 : Int32} {o6 : Option Value} {P : Int32 → am_Mem → Prop} {X : Nat → am_Mem → Prop}
    (hk : am_kd μ r2 = (1, 12))
    (hc : Wp d 148 (0, [some (.ref r2)], [], μ) (pI P X)) (hr : ∀ x μ', P x μ' → Wp (d + 1) 295 (710, [some (.ref r0), some (.ref r1), some (.ref r2), some (.ref r3), some (.int x4), some (.int x5), some (.int s0)], [.int x], (μ')) Q)
    (hx : ∀ x μ', X x μ' → Q (.inr x) μ') :
    Wp (d + 1) 295 (704, [some (.ref r0), some (.ref r1), some (.ref r2), some (.ref r3), some (.int x4), some (.int x5), o6], [.int s0], μ) Q := wp_blk rfl e295_704 (wp_cv (as := []) rfl e295_704_c rfl rfl rfl rfl rfl hk hc (fun v μ' hv => by obtain ⟨x, rfl, hp⟩ := pI_r hv; exact hr x μ' hp) hx)
def q295_710 : List (Nat × Instr × Nat) := [(710, .iload 5, 2), (712, .if_icmp .eq 5, 3)]
theorem e295_710 : am_dec am_M295 q295_710 = true := by decide +kernel
theorem b295_710 {d : Nat} {Q : Option Value ⊕ Nat → am_Mem → Prop} {μ : am_Mem} {r0 r1 r2 r3 : Nat} {x4 x5 x6 s0 : Int32}
    (k1 : s0 = x5 → Wp d 295 (717, [some (.ref r0), some (.ref r1), some (.ref r2), some (.ref r3), some (.int x4), some (.int x5), some (.int x6)], [], μ) Q) (k2 : ¬ (s0 = x5) → Wp d 295 (715, [some (.ref r0), some (.ref r1), some (.ref r2), some (.ref r3), some (.int x4), some (.int x5), some (.int x6)], [], μ) Q) :
    Wp d 295 (710, [some (.ref r0), some (.ref r1), some (.ref r2), some (.ref r3), some (.int x4), some (.int x5), some (.int x6)], [.int s0], μ) Q := wp_blk rfl e295_710 (And.intro k1 k2)
def q295_715 : List (Nat × Instr × Nat) := [(715, .iconst 0, 1)]
theorem e295_715 : am_dec am_M295 q295_715 = true := by decide +kernel
theorem e295_715_r : am_dec am_M295 [(716, .ireturn, 1)] = true := by decide +kernel
theorem b295_715 {d : Nat} {Q : Option Value ⊕ Nat → am_Mem → Prop} {μ : am_Mem} {r0 r1 r2 r3 : Nat} {x4 x5 x6 : Int32}
    (k : Q (.inl (some (.int (Int32.ofInt 0)))) μ) :
    Wp d 295 (715, [some (.ref r0), some (.ref r1), some (.ref r2), some (.ref r3), some (.int x4), some (.int x5), some (.int x6)], [], μ) Q := wp_blk rfl e295_715 (wp_ri (ty := .boolean) rfl e295_715_r rfl (by decide) k)
def q295_717 : List (Nat × Instr × Nat) := [(717, .iload 5, 2), (719, .ifCond .ne 15, 3)]
theorem e295_717 : am_dec am_M295 q295_717 = true := by decide +kernel
theorem b295_717 {d : Nat} {Q : Option Value ⊕ Nat → am_Mem → Prop} {μ : am_Mem} {r0 r1 r2 r3 : Nat} {x4 x5 x6 : Int32}
    (k1 : ¬ x5 = 0 → Wp d 295 (734, [some (.ref r0), some (.ref r1), some (.ref r2), some (.ref r3), some (.int x4), some (.int x5), some (.int x6)], [], μ) Q) (k2 : ¬ (¬ x5 = 0) → Wp d 295 (722, [some (.ref r0), some (.ref r1), some (.ref r2), some (.ref r3), some (.int x4), some (.int x5), some (.int x6)], [], μ) Q) :
    Wp d 295 (717, [some (.ref r0), some (.ref r1), some (.ref r2), some (.ref r3), some (.int x4), some (.int x5), some (.int x6)], [], μ) Q := wp_blk rfl e295_717 (And.intro k1 k2)
def q295_722 : List (Nat × Instr × Nat) := [(722, .aload_n 3, 1), (723, .iconst 0, 1), (724, .laload, 1), (725, .iload 6, 2), (727, .i2l, 1), (728, .lcmp, 1), (729, .ifCond .eq 5, 3)]
theorem e295_722 : am_dec am_M295 q295_722 = true := by decide +kernel
theorem b295_722 {d : Nat} {Q : Option Value ⊕ Nat → am_Mem → Prop} {μ : am_Mem} {r0 r1 r2 r3 : Nat} {x4 x5 x6 : Int32}
    (h1 : (am_kd μ r3).1 = 6)
    (h2 : ¬ ((Int32.ofInt 0) < 0 ∨ (am_kd μ r3).2 ≤ (Int32.ofInt 0).toNatClampNeg))
    (k1 : (lg_cmp (am_L μ r3 (Int32.ofInt 0).toNatClampNeg) x6.toInt64) = 0 → Wp d 295 (734, [some (.ref r0), some (.ref r1), some (.ref r2), some (.ref r3), some (.int x4), some (.int x5), some (.int x6)], [], μ) Q) (k2 : ¬ ((lg_cmp (am_L μ r3 (Int32.ofInt 0).toNatClampNeg) x6.toInt64) = 0) → Wp d 295 (732, [some (.ref r0), some (.ref r1), some (.ref r2), some (.ref r3), some (.int x4), some (.int x5), some (.int x6)], [], μ) Q) :
    Wp d 295 (722, [some (.ref r0), some (.ref r1), some (.ref r2), some (.ref r3), some (.int x4), some (.int x5), some (.int x6)], [], μ) Q := wp_blk rfl e295_722 (And.intro h1 (And.intro h2 (And.intro k1 k2)))
def q295_732 : List (Nat × Instr × Nat) := [(732, .iconst 0, 1)]
theorem e295_732 : am_dec am_M295 q295_732 = true := by decide +kernel
theorem e295_732_r : am_dec am_M295 [(733, .ireturn, 1)] = true := by decide +kernel
theorem b295_732 {d : Nat} {Q : Option Value ⊕ Nat → am_Mem → Prop} {μ : am_Mem} {r0 r1 r2 r3 : Nat} {x4 x5 x6 : Int32}
    (k : Q (.inl (some (.int (Int32.ofInt 0)))) μ) :
    Wp d 295 (732, [some (.ref r0), some (.ref r1), some (.ref r2), some (.ref r3), some (.int x4), some (.int x5), some (.int x6)], [], μ) Q := wp_blk rfl e295_732 (wp_ri (ty := .boolean) rfl e295_732_r rfl (by decide) k)
def q295_734 : List (Nat × Instr × Nat) := [(734, .goto 251, 3)]
theorem e295_734 : am_dec am_M295 q295_734 = true := by decide +kernel
theorem b295_734 {d : Nat} {Q : Option Value ⊕ Nat → am_Mem → Prop} {μ : am_Mem} {r0 r1 r2 r3 : Nat} {x4 x5 x6 : Int32}
    (k : Wp d 295 (985, [some (.ref r0), some (.ref r1), some (.ref r2), some (.ref r3), some (.int x4), some (.int x5), some (.int x6)], [], μ) Q) :
    Wp d 295 (734, [some (.ref r0), some (.ref r1), some (.ref r2), some (.ref r3), some (.int x4), some (.int x5), some (.int x6)], [], μ) Q := wp_blk rfl e295_734 k
def q295_737 : List (Nat × Instr × Nat) := [(737, .aload_n 1, 1), (738, .aload_n 0, 1), (739, .iload 4, 2), (741, .iconst 1, 1), (742, .iadd, 1), (743, .iaload, 1), (744, .aload_n 0, 1), (745, .iload 4, 2), (747, .iconst 2, 1), (748, .iadd, 1), (749, .iaload, 1), (750, .aload_n 3, 1)]
theorem e295_737 : am_dec am_M295 q295_737 = true := by decide +kernel
theorem e295_737_c : am_dc1 am_M295 751 (.invokestatic 122) 3 = true := by decide +kernel
theorem b295_737 {d : Nat} {Q : Option Value ⊕ Nat → am_Mem → Prop} {μ : am_Mem} {r0 r1 r2 r3 : Nat} {x4 : Int32} {o5 o6 : Option Value} {P : Int32 → am_Mem → Prop} {X : Nat → am_Mem → Prop}
    (h1 : (am_kd μ r0).1 = 2 ∨ (am_kd μ r0).1 = 8)
    (h2 : ¬ ((x4 + (Int32.ofInt 1)) < 0 ∨ (am_kd μ r0).2 ≤ (x4 + (Int32.ofInt 1)).toNatClampNeg))
    (h3 : (am_kd μ r0).1 = 2 ∨ (am_kd μ r0).1 = 8)
    (h4 : ¬ ((x4 + (Int32.ofInt 2)) < 0 ∨ (am_kd μ r0).2 ≤ (x4 + (Int32.ofInt 2)).toNatClampNeg))
    (hc : Wp d 280 (0, [some (.ref r1), some (.int (am_A μ r0 (x4 + (Int32.ofInt 1)).toNatClampNeg)), some (.int (am_A μ r0 (x4 + (Int32.ofInt 2)).toNatClampNeg)), some (.ref r3), none], [], μ) (pI P X)) (hr : ∀ x μ', P x μ' → Wp (d + 1) 295 (754, [some (.ref r0), some (.ref r1), some (.ref r2), some (.ref r3), some (.int x4), o5, o6], [.int x], (μ')) Q)
    (hx : ∀ x μ', X x μ' → Q (.inr x) μ') :
    Wp (d + 1) 295 (737, [some (.ref r0), some (.ref r1), some (.ref r2), some (.ref r3), some (.int x4), o5, o6], [], μ) Q := wp_blk rfl e295_737 (And.intro h1 (And.intro h2 (And.intro h3 (And.intro h4 (wp_cs (vs := [.ref r1, .int (am_A μ r0 (x4 + (Int32.ofInt 1)).toNatClampNeg), .int (am_A μ r0 (x4 + (Int32.ofInt 2)).toNatClampNeg), .ref r3]) rfl e295_737_c rfl rfl rfl rfl rfl hc (fun v μ' hv => by obtain ⟨x, rfl, hp⟩ := pI_r hv; exact hr x μ' hp) hx)))))
def q295_754 : List (Nat × Instr × Nat) := [(754, .istore 5, 2), (756, .aload_n 2, 1), (757, .aload_n 0, 1), (758, .iload 4, 2), (760, .iconst 1, 1), (761, .iadd, 1), (762, .iaload, 1), (763, .aload_n 0, 1), (764, .iload 4, 2), (766, .iconst 2, 1), (767, .iadd, 1), (768, .iaload, 1)]
theorem e295_754 : am_dec am_M295 q295_754 = true := by decide +kernel
theorem e295_754_c : am_dc1 am_M295 769 (.invokevirtual 125) 3 = true := by decide +kernel
theorem b295_754 {d : Nat} {Q : Option Value ⊕ Nat → am_Mem → Prop} {μ : am_Mem} {r0 r1 r2 r3 : Nat} {x4 s0 : Int32} {o5 o6 : Option Value} {P : Int32 → am_Mem → Prop} {X : Nat → am_Mem → Prop}
    (h1 : (am_kd μ r0).1 = 2 ∨ (am_kd μ r0).1 = 8)
    (h2 : ¬ ((x4 + (Int32.ofInt 1)) < 0 ∨ (am_kd μ r0).2 ≤ (x4 + (Int32.ofInt 1)).toNatClampNeg))
    (h3 : (am_kd μ r0).1 = 2 ∨ (am_kd μ r0).1 = 8)
    (h4 : ¬ ((x4 + (Int32.ofInt 2)) < 0 ∨ (am_kd μ r0).2 ≤ (x4 + (Int32.ofInt 2)).toNatClampNeg))
    (hk : am_kd μ r2 = (1, 12))
    (hc : Wp d 264 (0, [some (.ref r2), some (.int (am_A μ r0 (x4 + (Int32.ofInt 1)).toNatClampNeg)), some (.int (am_A μ r0 (x4 + (Int32.ofInt 2)).toNatClampNeg)), none], [], μ) (pI P X)) (hr : ∀ x μ', P x μ' → Wp (d + 1) 295 (772, [some (.ref r0), some (.ref r1), some (.ref r2), some (.ref r3), some (.int x4), some (.int s0), o6], [.int x], (μ')) Q)
    (hx : ∀ x μ', X x μ' → Q (.inr x) μ') :
    Wp (d + 1) 295 (754, [some (.ref r0), some (.ref r1), some (.ref r2), some (.ref r3), some (.int x4), o5, o6], [.int s0], μ) Q := wp_blk rfl e295_754 (And.intro h1 (And.intro h2 (And.intro h3 (And.intro h4 (wp_cv (as := [.int (am_A μ r0 (x4 + (Int32.ofInt 1)).toNatClampNeg), .int (am_A μ r0 (x4 + (Int32.ofInt 2)).toNatClampNeg)]) rfl e295_754_c rfl rfl rfl rfl rfl hk hc (fun v μ' hv => by obtain ⟨x, rfl, hp⟩ := pI_r hv; exact hr x μ' hp) hx)))))
def q295_772 : List (Nat × Instr × Nat) := [(772, .istore 6, 2), (774, .aload_n 2, 1)]
theorem e295_772 : am_dec am_M295 q295_772 = true := by decide +kernel
theorem e295_772_c : am_dc1 am_M295 775 (.invokevirtual 78) 3 = true := by decide +kernel
theorem b295_772 {d : Nat} {Q : Option Value ⊕ Nat → am_Mem → Prop} {μ : am_Mem} {r0 r1 r2 r3 : Nat} {x4 x5 s0 : Int32} {o6 : Option Value} {P : Int32 → am_Mem → Prop} {X : Nat → am_Mem → Prop}
    (hk : am_kd μ r2 = (1, 12))
    (hc : Wp d 148 (0, [some (.ref r2)], [], μ) (pI P X)) (hr : ∀ x μ', P x μ' → Wp (d + 1) 295 (778, [some (.ref r0), some (.ref r1), some (.ref r2), some (.ref r3), some (.int x4), some (.int x5), some (.int s0)], [.int x], (μ')) Q)
    (hx : ∀ x μ', X x μ' → Q (.inr x) μ') :
    Wp (d + 1) 295 (772, [some (.ref r0), some (.ref r1), some (.ref r2), some (.ref r3), some (.int x4), some (.int x5), o6], [.int s0], μ) Q := wp_blk rfl e295_772 (wp_cv (as := []) rfl e295_772_c rfl rfl rfl rfl rfl hk hc (fun v μ' hv => by obtain ⟨x, rfl, hp⟩ := pI_r hv; exact hr x μ' hp) hx)
def q295_778 : List (Nat × Instr × Nat) := [(778, .iload 5, 2), (780, .if_icmp .eq 5, 3)]
theorem e295_778 : am_dec am_M295 q295_778 = true := by decide +kernel
theorem b295_778 {d : Nat} {Q : Option Value ⊕ Nat → am_Mem → Prop} {μ : am_Mem} {r0 r1 r2 r3 : Nat} {x4 x5 x6 s0 : Int32}
    (k1 : s0 = x5 → Wp d 295 (785, [some (.ref r0), some (.ref r1), some (.ref r2), some (.ref r3), some (.int x4), some (.int x5), some (.int x6)], [], μ) Q) (k2 : ¬ (s0 = x5) → Wp d 295 (783, [some (.ref r0), some (.ref r1), some (.ref r2), some (.ref r3), some (.int x4), some (.int x5), some (.int x6)], [], μ) Q) :
    Wp d 295 (778, [some (.ref r0), some (.ref r1), some (.ref r2), some (.ref r3), some (.int x4), some (.int x5), some (.int x6)], [.int s0], μ) Q := wp_blk rfl e295_778 (And.intro k1 k2)
def q295_783 : List (Nat × Instr × Nat) := [(783, .iconst 0, 1)]
theorem e295_783 : am_dec am_M295 q295_783 = true := by decide +kernel
theorem e295_783_r : am_dec am_M295 [(784, .ireturn, 1)] = true := by decide +kernel
theorem b295_783 {d : Nat} {Q : Option Value ⊕ Nat → am_Mem → Prop} {μ : am_Mem} {r0 r1 r2 r3 : Nat} {x4 x5 x6 : Int32}
    (k : Q (.inl (some (.int (Int32.ofInt 0)))) μ) :
    Wp d 295 (783, [some (.ref r0), some (.ref r1), some (.ref r2), some (.ref r3), some (.int x4), some (.int x5), some (.int x6)], [], μ) Q := wp_blk rfl e295_783 (wp_ri (ty := .boolean) rfl e295_783_r rfl (by decide) k)
def q295_785 : List (Nat × Instr × Nat) := [(785, .iload 5, 2), (787, .ifCond .ne 15, 3)]
theorem e295_785 : am_dec am_M295 q295_785 = true := by decide +kernel
theorem b295_785 {d : Nat} {Q : Option Value ⊕ Nat → am_Mem → Prop} {μ : am_Mem} {r0 r1 r2 r3 : Nat} {x4 x5 x6 : Int32}
    (k1 : ¬ x5 = 0 → Wp d 295 (802, [some (.ref r0), some (.ref r1), some (.ref r2), some (.ref r3), some (.int x4), some (.int x5), some (.int x6)], [], μ) Q) (k2 : ¬ (¬ x5 = 0) → Wp d 295 (790, [some (.ref r0), some (.ref r1), some (.ref r2), some (.ref r3), some (.int x4), some (.int x5), some (.int x6)], [], μ) Q) :
    Wp d 295 (785, [some (.ref r0), some (.ref r1), some (.ref r2), some (.ref r3), some (.int x4), some (.int x5), some (.int x6)], [], μ) Q := wp_blk rfl e295_785 (And.intro k1 k2)
def q295_790 : List (Nat × Instr × Nat) := [(790, .aload_n 3, 1), (791, .iconst 0, 1), (792, .laload, 1), (793, .iload 6, 2), (795, .i2l, 1), (796, .lcmp, 1), (797, .ifCond .eq 5, 3)]
theorem e295_790 : am_dec am_M295 q295_790 = true := by decide +kernel
theorem b295_790 {d : Nat} {Q : Option Value ⊕ Nat → am_Mem → Prop} {μ : am_Mem} {r0 r1 r2 r3 : Nat} {x4 x5 x6 : Int32}
    (h1 : (am_kd μ r3).1 = 6)
    (h2 : ¬ ((Int32.ofInt 0) < 0 ∨ (am_kd μ r3).2 ≤ (Int32.ofInt 0).toNatClampNeg))
    (k1 : (lg_cmp (am_L μ r3 (Int32.ofInt 0).toNatClampNeg) x6.toInt64) = 0 → Wp d 295 (802, [some (.ref r0), some (.ref r1), some (.ref r2), some (.ref r3), some (.int x4), some (.int x5), some (.int x6)], [], μ) Q) (k2 : ¬ ((lg_cmp (am_L μ r3 (Int32.ofInt 0).toNatClampNeg) x6.toInt64) = 0) → Wp d 295 (800, [some (.ref r0), some (.ref r1), some (.ref r2), some (.ref r3), some (.int x4), some (.int x5), some (.int x6)], [], μ) Q) :
    Wp d 295 (790, [some (.ref r0), some (.ref r1), some (.ref r2), some (.ref r3), some (.int x4), some (.int x5), some (.int x6)], [], μ) Q := wp_blk rfl e295_790 (And.intro h1 (And.intro h2 (And.intro k1 k2)))
def q295_800 : List (Nat × Instr × Nat) := [(800, .iconst 0, 1)]
theorem e295_800 : am_dec am_M295 q295_800 = true := by decide +kernel
theorem e295_800_r : am_dec am_M295 [(801, .ireturn, 1)] = true := by decide +kernel
theorem b295_800 {d : Nat} {Q : Option Value ⊕ Nat → am_Mem → Prop} {μ : am_Mem} {r0 r1 r2 r3 : Nat} {x4 x5 x6 : Int32}
    (k : Q (.inl (some (.int (Int32.ofInt 0)))) μ) :
    Wp d 295 (800, [some (.ref r0), some (.ref r1), some (.ref r2), some (.ref r3), some (.int x4), some (.int x5), some (.int x6)], [], μ) Q := wp_blk rfl e295_800 (wp_ri (ty := .boolean) rfl e295_800_r rfl (by decide) k)
def q295_802 : List (Nat × Instr × Nat) := [(802, .goto 183, 3)]
theorem e295_802 : am_dec am_M295 q295_802 = true := by decide +kernel
theorem b295_802 {d : Nat} {Q : Option Value ⊕ Nat → am_Mem → Prop} {μ : am_Mem} {r0 r1 r2 r3 : Nat} {x4 x5 x6 : Int32}
    (k : Wp d 295 (985, [some (.ref r0), some (.ref r1), some (.ref r2), some (.ref r3), some (.int x4), some (.int x5), some (.int x6)], [], μ) Q) :
    Wp d 295 (802, [some (.ref r0), some (.ref r1), some (.ref r2), some (.ref r3), some (.int x4), some (.int x5), some (.int x6)], [], μ) Q := wp_blk rfl e295_802 k
def q295_805 : List (Nat × Instr × Nat) := [(805, .aload_n 1, 1), (806, .aload_n 0, 1), (807, .iload 4, 2), (809, .iconst 1, 1), (810, .iadd, 1), (811, .iaload, 1), (812, .aload_n 0, 1), (813, .iload 4, 2), (815, .iconst 2, 1), (816, .iadd, 1), (817, .iaload, 1), (818, .aload_n 3, 1)]
theorem e295_805 : am_dec am_M295 q295_805 = true := by decide +kernel
theorem e295_805_c : am_dc1 am_M295 819 (.invokestatic 126) 3 = true := by decide +kernel
theorem b295_805 {d : Nat} {Q : Option Value ⊕ Nat → am_Mem → Prop} {μ : am_Mem} {r0 r1 r2 r3 : Nat} {x4 : Int32} {o5 o6 : Option Value} {P : Int32 → am_Mem → Prop} {X : Nat → am_Mem → Prop}
    (h1 : (am_kd μ r0).1 = 2 ∨ (am_kd μ r0).1 = 8)
    (h2 : ¬ ((x4 + (Int32.ofInt 1)) < 0 ∨ (am_kd μ r0).2 ≤ (x4 + (Int32.ofInt 1)).toNatClampNeg))
    (h3 : (am_kd μ r0).1 = 2 ∨ (am_kd μ r0).1 = 8)
    (h4 : ¬ ((x4 + (Int32.ofInt 2)) < 0 ∨ (am_kd μ r0).2 ≤ (x4 + (Int32.ofInt 2)).toNatClampNeg))
    (hc : Wp d 281 (0, [some (.ref r1), some (.int (am_A μ r0 (x4 + (Int32.ofInt 1)).toNatClampNeg)), some (.int (am_A μ r0 (x4 + (Int32.ofInt 2)).toNatClampNeg)), some (.ref r3), none], [], μ) (pI P X)) (hr : ∀ x μ', P x μ' → Wp (d + 1) 295 (822, [some (.ref r0), some (.ref r1), some (.ref r2), some (.ref r3), some (.int x4), o5, o6], [.int x], (μ')) Q)
    (hx : ∀ x μ', X x μ' → Q (.inr x) μ') :
    Wp (d + 1) 295 (805, [some (.ref r0), some (.ref r1), some (.ref r2), some (.ref r3), some (.int x4), o5, o6], [], μ) Q := wp_blk rfl e295_805 (And.intro h1 (And.intro h2 (And.intro h3 (And.intro h4 (wp_cs (vs := [.ref r1, .int (am_A μ r0 (x4 + (Int32.ofInt 1)).toNatClampNeg), .int (am_A μ r0 (x4 + (Int32.ofInt 2)).toNatClampNeg), .ref r3]) rfl e295_805_c rfl rfl rfl rfl rfl hc (fun v μ' hv => by obtain ⟨x, rfl, hp⟩ := pI_r hv; exact hr x μ' hp) hx)))))
def q295_822 : List (Nat × Instr × Nat) := [(822, .istore 5, 2), (824, .aload_n 2, 1), (825, .aload_n 0, 1), (826, .iload 4, 2), (828, .iconst 1, 1), (829, .iadd, 1), (830, .iaload, 1), (831, .aload_n 0, 1), (832, .iload 4, 2), (834, .iconst 2, 1), (835, .iadd, 1), (836, .iaload, 1)]
theorem e295_822 : am_dec am_M295 q295_822 = true := by decide +kernel
theorem e295_822_c : am_dc1 am_M295 837 (.invokevirtual 128) 3 = true := by decide +kernel
theorem b295_822 {d : Nat} {Q : Option Value ⊕ Nat → am_Mem → Prop} {μ : am_Mem} {r0 r1 r2 r3 : Nat} {x4 s0 : Int32} {o5 o6 : Option Value} {P : Int32 → am_Mem → Prop} {X : Nat → am_Mem → Prop}
    (h1 : (am_kd μ r0).1 = 2 ∨ (am_kd μ r0).1 = 8)
    (h2 : ¬ ((x4 + (Int32.ofInt 1)) < 0 ∨ (am_kd μ r0).2 ≤ (x4 + (Int32.ofInt 1)).toNatClampNeg))
    (h3 : (am_kd μ r0).1 = 2 ∨ (am_kd μ r0).1 = 8)
    (h4 : ¬ ((x4 + (Int32.ofInt 2)) < 0 ∨ (am_kd μ r0).2 ≤ (x4 + (Int32.ofInt 2)).toNatClampNeg))
    (hk : am_kd μ r2 = (1, 12))
    (hc : Wp d 266 (0, [some (.ref r2), some (.int (am_A μ r0 (x4 + (Int32.ofInt 1)).toNatClampNeg)), some (.int (am_A μ r0 (x4 + (Int32.ofInt 2)).toNatClampNeg)), none], [], μ) (pI P X)) (hr : ∀ x μ', P x μ' → Wp (d + 1) 295 (840, [some (.ref r0), some (.ref r1), some (.ref r2), some (.ref r3), some (.int x4), some (.int s0), o6], [.int x], (μ')) Q)
    (hx : ∀ x μ', X x μ' → Q (.inr x) μ') :
    Wp (d + 1) 295 (822, [some (.ref r0), some (.ref r1), some (.ref r2), some (.ref r3), some (.int x4), o5, o6], [.int s0], μ) Q := wp_blk rfl e295_822 (And.intro h1 (And.intro h2 (And.intro h3 (And.intro h4 (wp_cv (as := [.int (am_A μ r0 (x4 + (Int32.ofInt 1)).toNatClampNeg), .int (am_A μ r0 (x4 + (Int32.ofInt 2)).toNatClampNeg)]) rfl e295_822_c rfl rfl rfl rfl rfl hk hc (fun v μ' hv => by obtain ⟨x, rfl, hp⟩ := pI_r hv; exact hr x μ' hp) hx)))))
def q295_840 : List (Nat × Instr × Nat) := [(840, .istore 6, 2), (842, .aload_n 2, 1)]
theorem e295_840 : am_dec am_M295 q295_840 = true := by decide +kernel
theorem e295_840_c : am_dc1 am_M295 843 (.invokevirtual 78) 3 = true := by decide +kernel
theorem b295_840 {d : Nat} {Q : Option Value ⊕ Nat → am_Mem → Prop} {μ : am_Mem} {r0 r1 r2 r3 : Nat} {x4 x5 s0 : Int32} {o6 : Option Value} {P : Int32 → am_Mem → Prop} {X : Nat → am_Mem → Prop}
    (hk : am_kd μ r2 = (1, 12))
    (hc : Wp d 148 (0, [some (.ref r2)], [], μ) (pI P X)) (hr : ∀ x μ', P x μ' → Wp (d + 1) 295 (846, [some (.ref r0), some (.ref r1), some (.ref r2), some (.ref r3), some (.int x4), some (.int x5), some (.int s0)], [.int x], (μ')) Q)
    (hx : ∀ x μ', X x μ' → Q (.inr x) μ') :
    Wp (d + 1) 295 (840, [some (.ref r0), some (.ref r1), some (.ref r2), some (.ref r3), some (.int x4), some (.int x5), o6], [.int s0], μ) Q := wp_blk rfl e295_840 (wp_cv (as := []) rfl e295_840_c rfl rfl rfl rfl rfl hk hc (fun v μ' hv => by obtain ⟨x, rfl, hp⟩ := pI_r hv; exact hr x μ' hp) hx)
def q295_846 : List (Nat × Instr × Nat) := [(846, .iload 5, 2), (848, .if_icmp .eq 5, 3)]
theorem e295_846 : am_dec am_M295 q295_846 = true := by decide +kernel
theorem b295_846 {d : Nat} {Q : Option Value ⊕ Nat → am_Mem → Prop} {μ : am_Mem} {r0 r1 r2 r3 : Nat} {x4 x5 x6 s0 : Int32}
    (k1 : s0 = x5 → Wp d 295 (853, [some (.ref r0), some (.ref r1), some (.ref r2), some (.ref r3), some (.int x4), some (.int x5), some (.int x6)], [], μ) Q) (k2 : ¬ (s0 = x5) → Wp d 295 (851, [some (.ref r0), some (.ref r1), some (.ref r2), some (.ref r3), some (.int x4), some (.int x5), some (.int x6)], [], μ) Q) :
    Wp d 295 (846, [some (.ref r0), some (.ref r1), some (.ref r2), some (.ref r3), some (.int x4), some (.int x5), some (.int x6)], [.int s0], μ) Q := wp_blk rfl e295_846 (And.intro k1 k2)
def q295_851 : List (Nat × Instr × Nat) := [(851, .iconst 0, 1)]
theorem e295_851 : am_dec am_M295 q295_851 = true := by decide +kernel
theorem e295_851_r : am_dec am_M295 [(852, .ireturn, 1)] = true := by decide +kernel
theorem b295_851 {d : Nat} {Q : Option Value ⊕ Nat → am_Mem → Prop} {μ : am_Mem} {r0 r1 r2 r3 : Nat} {x4 x5 x6 : Int32}
    (k : Q (.inl (some (.int (Int32.ofInt 0)))) μ) :
    Wp d 295 (851, [some (.ref r0), some (.ref r1), some (.ref r2), some (.ref r3), some (.int x4), some (.int x5), some (.int x6)], [], μ) Q := wp_blk rfl e295_851 (wp_ri (ty := .boolean) rfl e295_851_r rfl (by decide) k)
def q295_853 : List (Nat × Instr × Nat) := [(853, .iload 5, 2), (855, .ifCond .ne 15, 3)]
theorem e295_853 : am_dec am_M295 q295_853 = true := by decide +kernel
theorem b295_853 {d : Nat} {Q : Option Value ⊕ Nat → am_Mem → Prop} {μ : am_Mem} {r0 r1 r2 r3 : Nat} {x4 x5 x6 : Int32}
    (k1 : ¬ x5 = 0 → Wp d 295 (870, [some (.ref r0), some (.ref r1), some (.ref r2), some (.ref r3), some (.int x4), some (.int x5), some (.int x6)], [], μ) Q) (k2 : ¬ (¬ x5 = 0) → Wp d 295 (858, [some (.ref r0), some (.ref r1), some (.ref r2), some (.ref r3), some (.int x4), some (.int x5), some (.int x6)], [], μ) Q) :
    Wp d 295 (853, [some (.ref r0), some (.ref r1), some (.ref r2), some (.ref r3), some (.int x4), some (.int x5), some (.int x6)], [], μ) Q := wp_blk rfl e295_853 (And.intro k1 k2)
def q295_858 : List (Nat × Instr × Nat) := [(858, .aload_n 3, 1), (859, .iconst 0, 1), (860, .laload, 1), (861, .iload 6, 2), (863, .i2l, 1), (864, .lcmp, 1), (865, .ifCond .eq 5, 3)]
theorem e295_858 : am_dec am_M295 q295_858 = true := by decide +kernel
theorem b295_858 {d : Nat} {Q : Option Value ⊕ Nat → am_Mem → Prop} {μ : am_Mem} {r0 r1 r2 r3 : Nat} {x4 x5 x6 : Int32}
    (h1 : (am_kd μ r3).1 = 6)
    (h2 : ¬ ((Int32.ofInt 0) < 0 ∨ (am_kd μ r3).2 ≤ (Int32.ofInt 0).toNatClampNeg))
    (k1 : (lg_cmp (am_L μ r3 (Int32.ofInt 0).toNatClampNeg) x6.toInt64) = 0 → Wp d 295 (870, [some (.ref r0), some (.ref r1), some (.ref r2), some (.ref r3), some (.int x4), some (.int x5), some (.int x6)], [], μ) Q) (k2 : ¬ ((lg_cmp (am_L μ r3 (Int32.ofInt 0).toNatClampNeg) x6.toInt64) = 0) → Wp d 295 (868, [some (.ref r0), some (.ref r1), some (.ref r2), some (.ref r3), some (.int x4), some (.int x5), some (.int x6)], [], μ) Q) :
    Wp d 295 (858, [some (.ref r0), some (.ref r1), some (.ref r2), some (.ref r3), some (.int x4), some (.int x5), some (.int x6)], [], μ) Q := wp_blk rfl e295_858 (And.intro h1 (And.intro h2 (And.intro k1 k2)))
def q295_868 : List (Nat × Instr × Nat) := [(868, .iconst 0, 1)]
theorem e295_868 : am_dec am_M295 q295_868 = true := by decide +kernel
theorem e295_868_r : am_dec am_M295 [(869, .ireturn, 1)] = true := by decide +kernel
theorem b295_868 {d : Nat} {Q : Option Value ⊕ Nat → am_Mem → Prop} {μ : am_Mem} {r0 r1 r2 r3 : Nat} {x4 x5 x6 : Int32}
    (k : Q (.inl (some (.int (Int32.ofInt 0)))) μ) :
    Wp d 295 (868, [some (.ref r0), some (.ref r1), some (.ref r2), some (.ref r3), some (.int x4), some (.int x5), some (.int x6)], [], μ) Q := wp_blk rfl e295_868 (wp_ri (ty := .boolean) rfl e295_868_r rfl (by decide) k)
def q295_870 : List (Nat × Instr × Nat) := [(870, .goto 115, 3)]
theorem e295_870 : am_dec am_M295 q295_870 = true := by decide +kernel
theorem b295_870 {d : Nat} {Q : Option Value ⊕ Nat → am_Mem → Prop} {μ : am_Mem} {r0 r1 r2 r3 : Nat} {x4 x5 x6 : Int32}
    (k : Wp d 295 (985, [some (.ref r0), some (.ref r1), some (.ref r2), some (.ref r3), some (.int x4), some (.int x5), some (.int x6)], [], μ) Q) :
    Wp d 295 (870, [some (.ref r0), some (.ref r1), some (.ref r2), some (.ref r3), some (.int x4), some (.int x5), some (.int x6)], [], μ) Q := wp_blk rfl e295_870 k
def q295_873 : List (Nat × Instr × Nat) := [(873, .aload_n 1, 1), (874, .aload_n 0, 1), (875, .iload 4, 2), (877, .iconst 1, 1), (878, .iadd, 1), (879, .iaload, 1), (880, .aload_n 3, 1)]
theorem e295_873 : am_dec am_M295 q295_873 = true := by decide +kernel
theorem e295_873_c : am_dc1 am_M295 881 (.invokestatic 129) 3 = true := by decide +kernel
theorem b295_873 {d : Nat} {Q : Option Value ⊕ Nat → am_Mem → Prop} {μ : am_Mem} {r0 r1 r2 r3 : Nat} {x4 : Int32} {o5 o6 : Option Value} {P : Int32 → am_Mem → Prop} {X : Nat → am_Mem → Prop}
    (h1 : (am_kd μ r0).1 = 2 ∨ (am_kd μ r0).1 = 8)
    (h2 : ¬ ((x4 + (Int32.ofInt 1)) < 0 ∨ (am_kd μ r0).2 ≤ (x4 + (Int32.ofInt 1)).toNatClampNeg))
    (hc : Wp d 282 (0, [some (.ref r1), some (.int (am_A μ r0 (x4 + (Int32.ofInt 1)).toNatClampNeg)), some (.ref r3), none], [], μ) (pI P X)) (hr : ∀ x μ', P x μ' → Wp (d + 1) 295 (884, [some (.ref r0), some (.ref r1), some (.ref r2), some (.ref r3), some (.int x4), o5, o6], [.int x], (μ')) Q)
    (hx : ∀ x μ', X x μ' → Q (.inr x) μ') :
    Wp (d + 1) 295 (873, [some (.ref r0), some (.ref r1), some (.ref r2), some (.ref r3), some (.int x4), o5, o6], [], μ) Q := wp_blk rfl e295_873 (And.intro h1 (And.intro h2 (wp_cs (vs := [.ref r1, .int (am_A μ r0 (x4 + (Int32.ofInt 1)).toNatClampNeg), .ref r3]) rfl e295_873_c rfl rfl rfl rfl rfl hc (fun v μ' hv => by obtain ⟨x, rfl, hp⟩ := pI_r hv; exact hr x μ' hp) hx)))
def q295_884 : List (Nat × Instr × Nat) := [(884, .istore 5, 2), (886, .aload_n 2, 1), (887, .aload_n 0, 1), (888, .iload 4, 2), (890, .iconst 1, 1), (891, .iadd, 1), (892, .iaload, 1)]
theorem e295_884 : am_dec am_M295 q295_884 = true := by decide +kernel
theorem e295_884_c : am_dc1 am_M295 893 (.invokevirtual 131) 3 = true := by decide +kernel
theorem b295_884 {d : Nat} {Q : Option Value ⊕ Nat → am_Mem → Prop} {μ : am_Mem} {r0 r1 r2 r3 : Nat} {x4 s0 : Int32} {o5 o6 : Option Value} {P : Int32 → am_Mem → Prop} {X : Nat → am_Mem → Prop}
    (h1 : (am_kd μ r0).1 = 2 ∨ (am_kd μ r0).1 = 8)
    (h2 : ¬ ((x4 + (Int32.ofInt 1)) < 0 ∨ (am_kd μ r0).2 ≤ (x4 + (Int32.ofInt 1)).toNatClampNeg))
    (hk : am_kd μ r2 = (1, 12))
    (hc : Wp d 267 (0, [some (.ref r2), some (.int (am_A μ r0 (x4 + (Int32.ofInt 1)).toNatClampNeg)), none], [], μ) (pI P X)) (hr : ∀ x μ', P x μ' → Wp (d + 1) 295 (896, [some (.ref r0), some (.ref r1), some (.ref r2), some (.ref r3), some (.int x4), some (.int s0), o6], [.int x], (μ')) Q)
    (hx : ∀ x μ', X x μ' → Q (.inr x) μ') :
    Wp (d + 1) 295 (884, [some (.ref r0), some (.ref r1), some (.ref r2), some (.ref r3), some (.int x4), o5, o6], [.int s0], μ) Q := wp_blk rfl e295_884 (And.intro h1 (And.intro h2 (wp_cv (as := [.int (am_A μ r0 (x4 + (Int32.ofInt 1)).toNatClampNeg)]) rfl e295_884_c rfl rfl rfl rfl rfl hk hc (fun v μ' hv => by obtain ⟨x, rfl, hp⟩ := pI_r hv; exact hr x μ' hp) hx)))
def q295_896 : List (Nat × Instr × Nat) := [(896, .istore 6, 2), (898, .aload_n 2, 1)]
theorem e295_896 : am_dec am_M295 q295_896 = true := by decide +kernel
theorem e295_896_c : am_dc1 am_M295 899 (.invokevirtual 78) 3 = true := by decide +kernel
theorem b295_896 {d : Nat} {Q : Option Value ⊕ Nat → am_Mem → Prop} {μ : am_Mem} {r0 r1 r2 r3 : Nat} {x4 x5 s0 : Int32} {o6 : Option Value} {P : Int32 → am_Mem → Prop} {X : Nat → am_Mem → Prop}
    (hk : am_kd μ r2 = (1, 12))
    (hc : Wp d 148 (0, [some (.ref r2)], [], μ) (pI P X)) (hr : ∀ x μ', P x μ' → Wp (d + 1) 295 (902, [some (.ref r0), some (.ref r1), some (.ref r2), some (.ref r3), some (.int x4), some (.int x5), some (.int s0)], [.int x], (μ')) Q)
    (hx : ∀ x μ', X x μ' → Q (.inr x) μ') :
    Wp (d + 1) 295 (896, [some (.ref r0), some (.ref r1), some (.ref r2), some (.ref r3), some (.int x4), some (.int x5), o6], [.int s0], μ) Q := wp_blk rfl e295_896 (wp_cv (as := []) rfl e295_896_c rfl rfl rfl rfl rfl hk hc (fun v μ' hv => by obtain ⟨x, rfl, hp⟩ := pI_r hv; exact hr x μ' hp) hx)
def q295_902 : List (Nat × Instr × Nat) := [(902, .iload 5, 2), (904, .if_icmp .eq 5, 3)]
theorem e295_902 : am_dec am_M295 q295_902 = true := by decide +kernel
theorem b295_902 {d : Nat} {Q : Option Value ⊕ Nat → am_Mem → Prop} {μ : am_Mem} {r0 r1 r2 r3 : Nat} {x4 x5 x6 s0 : Int32}
    (k1 : s0 = x5 → Wp d 295 (909, [some (.ref r0), some (.ref r1), some (.ref r2), some (.ref r3), some (.int x4), some (.int x5), some (.int x6)], [], μ) Q) (k2 : ¬ (s0 = x5) → Wp d 295 (907, [some (.ref r0), some (.ref r1), some (.ref r2), some (.ref r3), some (.int x4), some (.int x5), some (.int x6)], [], μ) Q) :
    Wp d 295 (902, [some (.ref r0), some (.ref r1), some (.ref r2), some (.ref r3), some (.int x4), some (.int x5), some (.int x6)], [.int s0], μ) Q := wp_blk rfl e295_902 (And.intro k1 k2)
def q295_907 : List (Nat × Instr × Nat) := [(907, .iconst 0, 1)]
theorem e295_907 : am_dec am_M295 q295_907 = true := by decide +kernel
theorem e295_907_r : am_dec am_M295 [(908, .ireturn, 1)] = true := by decide +kernel
theorem b295_907 {d : Nat} {Q : Option Value ⊕ Nat → am_Mem → Prop} {μ : am_Mem} {r0 r1 r2 r3 : Nat} {x4 x5 x6 : Int32}
    (k : Q (.inl (some (.int (Int32.ofInt 0)))) μ) :
    Wp d 295 (907, [some (.ref r0), some (.ref r1), some (.ref r2), some (.ref r3), some (.int x4), some (.int x5), some (.int x6)], [], μ) Q := wp_blk rfl e295_907 (wp_ri (ty := .boolean) rfl e295_907_r rfl (by decide) k)
def q295_909 : List (Nat × Instr × Nat) := [(909, .iload 5, 2), (911, .ifCond .ne 15, 3)]
theorem e295_909 : am_dec am_M295 q295_909 = true := by decide +kernel
theorem b295_909 {d : Nat} {Q : Option Value ⊕ Nat → am_Mem → Prop} {μ : am_Mem} {r0 r1 r2 r3 : Nat} {x4 x5 x6 : Int32}
    (k1 : ¬ x5 = 0 → Wp d 295 (926, [some (.ref r0), some (.ref r1), some (.ref r2), some (.ref r3), some (.int x4), some (.int x5), some (.int x6)], [], μ) Q) (k2 : ¬ (¬ x5 = 0) → Wp d 295 (914, [some (.ref r0), some (.ref r1), some (.ref r2), some (.ref r3), some (.int x4), some (.int x5), some (.int x6)], [], μ) Q) :
    Wp d 295 (909, [some (.ref r0), some (.ref r1), some (.ref r2), some (.ref r3), some (.int x4), some (.int x5), some (.int x6)], [], μ) Q := wp_blk rfl e295_909 (And.intro k1 k2)
def q295_914 : List (Nat × Instr × Nat) := [(914, .aload_n 3, 1), (915, .iconst 0, 1), (916, .laload, 1), (917, .iload 6, 2), (919, .i2l, 1), (920, .lcmp, 1), (921, .ifCond .eq 5, 3)]
theorem e295_914 : am_dec am_M295 q295_914 = true := by decide +kernel
theorem b295_914 {d : Nat} {Q : Option Value ⊕ Nat → am_Mem → Prop} {μ : am_Mem} {r0 r1 r2 r3 : Nat} {x4 x5 x6 : Int32}
    (h1 : (am_kd μ r3).1 = 6)
    (h2 : ¬ ((Int32.ofInt 0) < 0 ∨ (am_kd μ r3).2 ≤ (Int32.ofInt 0).toNatClampNeg))
    (k1 : (lg_cmp (am_L μ r3 (Int32.ofInt 0).toNatClampNeg) x6.toInt64) = 0 → Wp d 295 (926, [some (.ref r0), some (.ref r1), some (.ref r2), some (.ref r3), some (.int x4), some (.int x5), some (.int x6)], [], μ) Q) (k2 : ¬ ((lg_cmp (am_L μ r3 (Int32.ofInt 0).toNatClampNeg) x6.toInt64) = 0) → Wp d 295 (924, [some (.ref r0), some (.ref r1), some (.ref r2), some (.ref r3), some (.int x4), some (.int x5), some (.int x6)], [], μ) Q) :
    Wp d 295 (914, [some (.ref r0), some (.ref r1), some (.ref r2), some (.ref r3), some (.int x4), some (.int x5), some (.int x6)], [], μ) Q := wp_blk rfl e295_914 (And.intro h1 (And.intro h2 (And.intro k1 k2)))
def q295_924 : List (Nat × Instr × Nat) := [(924, .iconst 0, 1)]
theorem e295_924 : am_dec am_M295 q295_924 = true := by decide +kernel
theorem e295_924_r : am_dec am_M295 [(925, .ireturn, 1)] = true := by decide +kernel
theorem b295_924 {d : Nat} {Q : Option Value ⊕ Nat → am_Mem → Prop} {μ : am_Mem} {r0 r1 r2 r3 : Nat} {x4 x5 x6 : Int32}
    (k : Q (.inl (some (.int (Int32.ofInt 0)))) μ) :
    Wp d 295 (924, [some (.ref r0), some (.ref r1), some (.ref r2), some (.ref r3), some (.int x4), some (.int x5), some (.int x6)], [], μ) Q := wp_blk rfl e295_924 (wp_ri (ty := .boolean) rfl e295_924_r rfl (by decide) k)
def q295_926 : List (Nat × Instr × Nat) := [(926, .goto 59, 3)]
theorem e295_926 : am_dec am_M295 q295_926 = true := by decide +kernel
theorem b295_926 {d : Nat} {Q : Option Value ⊕ Nat → am_Mem → Prop} {μ : am_Mem} {r0 r1 r2 r3 : Nat} {x4 x5 x6 : Int32}
    (k : Wp d 295 (985, [some (.ref r0), some (.ref r1), some (.ref r2), some (.ref r3), some (.int x4), some (.int x5), some (.int x6)], [], μ) Q) :
    Wp d 295 (926, [some (.ref r0), some (.ref r1), some (.ref r2), some (.ref r3), some (.int x4), some (.int x5), some (.int x6)], [], μ) Q := wp_blk rfl e295_926 k
def q295_929 : List (Nat × Instr × Nat) := [(929, .aload_n 1, 1), (930, .aload_n 0, 1), (931, .iload 4, 2), (933, .iconst 1, 1), (934, .iadd, 1), (935, .iaload, 1), (936, .aload_n 3, 1)]
theorem e295_929 : am_dec am_M295 q295_929 = true := by decide +kernel
theorem e295_929_c : am_dc1 am_M295 937 (.invokestatic 132) 3 = true := by decide +kernel
theorem b295_929 {d : Nat} {Q : Option Value ⊕ Nat → am_Mem → Prop} {μ : am_Mem} {r0 r1 r2 r3 : Nat} {x4 : Int32} {o5 o6 : Option Value} {P : Int32 → am_Mem → Prop} {X : Nat → am_Mem → Prop}
    (h1 : (am_kd μ r0).1 = 2 ∨ (am_kd μ r0).1 = 8)
    (h2 : ¬ ((x4 + (Int32.ofInt 1)) < 0 ∨ (am_kd μ r0).2 ≤ (x4 + (Int32.ofInt 1)).toNatClampNeg))
    (hc : Wp d 283 (0, [some (.ref r1), some (.int (am_A μ r0 (x4 + (Int32.ofInt 1)).toNatClampNeg)), some (.ref r3), none], [], μ) (pI P X)) (hr : ∀ x μ', P x μ' → Wp (d + 1) 295 (940, [some (.ref r0), some (.ref r1), some (.ref r2), some (.ref r3), some (.int x4), o5, o6], [.int x], (μ')) Q)
    (hx : ∀ x μ', X x μ' → Q (.inr x) μ') :
    Wp (d + 1) 295 (929, [some (.ref r0), some (.ref r1), some (.ref r2), some (.ref r3), some (.int x4), o5, o6], [], μ) Q := wp_blk rfl e295_929 (And.intro h1 (And.intro h2 (wp_cs (vs := [.ref r1, .int (am_A μ r0 (x4 + (Int32.ofInt 1)).toNatClampNeg), .ref r3]) rfl e295_929_c rfl rfl rfl rfl rfl hc (fun v μ' hv => by obtain ⟨x, rfl, hp⟩ := pI_r hv; exact hr x μ' hp) hx)))
def q295_940 : List (Nat × Instr × Nat) := [(940, .istore 5, 2), (942, .aload_n 2, 1), (943, .aload_n 0, 1), (944, .iload 4, 2), (946, .iconst 1, 1), (947, .iadd, 1), (948, .iaload, 1)]
theorem e295_940 : am_dec am_M295 q295_940 = true := by decide +kernel
theorem e295_940_c : am_dc1 am_M295 949 (.invokevirtual 134) 3 = true := by decide +kernel
theorem b295_940 {d : Nat} {Q : Option Value ⊕ Nat → am_Mem → Prop} {μ : am_Mem} {r0 r1 r2 r3 : Nat} {x4 s0 : Int32} {o5 o6 : Option Value} {P : Int32 → am_Mem → Prop} {X : Nat → am_Mem → Prop}
    (h1 : (am_kd μ r0).1 = 2 ∨ (am_kd μ r0).1 = 8)
    (h2 : ¬ ((x4 + (Int32.ofInt 1)) < 0 ∨ (am_kd μ r0).2 ≤ (x4 + (Int32.ofInt 1)).toNatClampNeg))
    (hk : am_kd μ r2 = (1, 12))
    (hc : Wp d 268 (0, [some (.ref r2), some (.int (am_A μ r0 (x4 + (Int32.ofInt 1)).toNatClampNeg)), none, none, none], [], μ) (pI P X)) (hr : ∀ x μ', P x μ' → Wp (d + 1) 295 (952, [some (.ref r0), some (.ref r1), some (.ref r2), some (.ref r3), some (.int x4), some (.int s0), o6], [.int x], (μ')) Q)
    (hx : ∀ x μ', X x μ' → Q (.inr x) μ') :
    Wp (d + 1) 295 (940, [some (.ref r0), some (.ref r1), some (.ref r2), some (.ref r3), some (.int x4), o5, o6], [.int s0], μ) Q := wp_blk rfl e295_940 (And.intro h1 (And.intro h2 (wp_cv (as := [.int (am_A μ r0 (x4 + (Int32.ofInt 1)).toNatClampNeg)]) rfl e295_940_c rfl rfl rfl rfl rfl hk hc (fun v μ' hv => by obtain ⟨x, rfl, hp⟩ := pI_r hv; exact hr x μ' hp) hx)))
def q295_952 : List (Nat × Instr × Nat) := [(952, .istore 6, 2), (954, .aload_n 2, 1)]
theorem e295_952 : am_dec am_M295 q295_952 = true := by decide +kernel
theorem e295_952_c : am_dc1 am_M295 955 (.invokevirtual 78) 3 = true := by decide +kernel
theorem b295_952 {d : Nat} {Q : Option Value ⊕ Nat → am_Mem → Prop} {μ : am_Mem} {r0 r1 r2 r3 : Nat} {x4 x5 s0 : Int32} {o6 : Option Value} {P : Int32 → am_Mem → Prop} {X : Nat → am_Mem → Prop}
    (hk : am_kd μ r2 = (1, 12))
    (hc : Wp d 148 (0, [some (.ref r2)], [], μ) (pI P X)) (hr : ∀ x μ', P x μ' → Wp (d + 1) 295 (958, [some (.ref r0), some (.ref r1), some (.ref r2), some (.ref r3), some (.int x4), some (.int x5), some (.int s0)], [.int x], (μ')) Q)
    (hx : ∀ x μ', X x μ' → Q (.inr x) μ') :
    Wp (d + 1) 295 (952, [some (.ref r0), some (.ref r1), some (.ref r2), some (.ref r3), some (.int x4), some (.int x5), o6], [.int s0], μ) Q := wp_blk rfl e295_952 (wp_cv (as := []) rfl e295_952_c rfl rfl rfl rfl rfl hk hc (fun v μ' hv => by obtain ⟨x, rfl, hp⟩ := pI_r hv; exact hr x μ' hp) hx)
def q295_958 : List (Nat × Instr × Nat) := [(958, .iload 5, 2), (960, .if_icmp .eq 5, 3)]
theorem e295_958 : am_dec am_M295 q295_958 = true := by decide +kernel
theorem b295_958 {d : Nat} {Q : Option Value ⊕ Nat → am_Mem → Prop} {μ : am_Mem} {r0 r1 r2 r3 : Nat} {x4 x5 x6 s0 : Int32}
    (k1 : s0 = x5 → Wp d 295 (965, [some (.ref r0), some (.ref r1), some (.ref r2), some (.ref r3), some (.int x4), some (.int x5), some (.int x6)], [], μ) Q) (k2 : ¬ (s0 = x5) → Wp d 295 (963, [some (.ref r0), some (.ref r1), some (.ref r2), some (.ref r3), some (.int x4), some (.int x5), some (.int x6)], [], μ) Q) :
    Wp d 295 (958, [some (.ref r0), some (.ref r1), some (.ref r2), some (.ref r3), some (.int x4), some (.int x5), some (.int x6)], [.int s0], μ) Q := wp_blk rfl e295_958 (And.intro k1 k2)
def q295_963 : List (Nat × Instr × Nat) := [(963, .iconst 0, 1)]
theorem e295_963 : am_dec am_M295 q295_963 = true := by decide +kernel
theorem e295_963_r : am_dec am_M295 [(964, .ireturn, 1)] = true := by decide +kernel
theorem b295_963 {d : Nat} {Q : Option Value ⊕ Nat → am_Mem → Prop} {μ : am_Mem} {r0 r1 r2 r3 : Nat} {x4 x5 x6 : Int32}
    (k : Q (.inl (some (.int (Int32.ofInt 0)))) μ) :
    Wp d 295 (963, [some (.ref r0), some (.ref r1), some (.ref r2), some (.ref r3), some (.int x4), some (.int x5), some (.int x6)], [], μ) Q := wp_blk rfl e295_963 (wp_ri (ty := .boolean) rfl e295_963_r rfl (by decide) k)
def q295_965 : List (Nat × Instr × Nat) := [(965, .iload 5, 2), (967, .ifCond .ne 15, 3)]
theorem e295_965 : am_dec am_M295 q295_965 = true := by decide +kernel
theorem b295_965 {d : Nat} {Q : Option Value ⊕ Nat → am_Mem → Prop} {μ : am_Mem} {r0 r1 r2 r3 : Nat} {x4 x5 x6 : Int32}
    (k1 : ¬ x5 = 0 → Wp d 295 (982, [some (.ref r0), some (.ref r1), some (.ref r2), some (.ref r3), some (.int x4), some (.int x5), some (.int x6)], [], μ) Q) (k2 : ¬ (¬ x5 = 0) → Wp d 295 (970, [some (.ref r0), some (.ref r1), some (.ref r2), some (.ref r3), some (.int x4), some (.int x5), some (.int x6)], [], μ) Q) :
    Wp d 295 (965, [some (.ref r0), some (.ref r1), some (.ref r2), some (.ref r3), some (.int x4), some (.int x5), some (.int x6)], [], μ) Q := wp_blk rfl e295_965 (And.intro k1 k2)
def q295_970 : List (Nat × Instr × Nat) := [(970, .aload_n 3, 1), (971, .iconst 0, 1), (972, .laload, 1), (973, .iload 6, 2), (975, .i2l, 1), (976, .lcmp, 1), (977, .ifCond .eq 5, 3)]
theorem e295_970 : am_dec am_M295 q295_970 = true := by decide +kernel
theorem b295_970 {d : Nat} {Q : Option Value ⊕ Nat → am_Mem → Prop} {μ : am_Mem} {r0 r1 r2 r3 : Nat} {x4 x5 x6 : Int32}
    (h1 : (am_kd μ r3).1 = 6)
    (h2 : ¬ ((Int32.ofInt 0) < 0 ∨ (am_kd μ r3).2 ≤ (Int32.ofInt 0).toNatClampNeg))
    (k1 : (lg_cmp (am_L μ r3 (Int32.ofInt 0).toNatClampNeg) x6.toInt64) = 0 → Wp d 295 (982, [some (.ref r0), some (.ref r1), some (.ref r2), some (.ref r3), some (.int x4), some (.int x5), some (.int x6)], [], μ) Q) (k2 : ¬ ((lg_cmp (am_L μ r3 (Int32.ofInt 0).toNatClampNeg) x6.toInt64) = 0) → Wp d 295 (980, [some (.ref r0), some (.ref r1), some (.ref r2), some (.ref r3), some (.int x4), some (.int x5), some (.int x6)], [], μ) Q) :
    Wp d 295 (970, [some (.ref r0), some (.ref r1), some (.ref r2), some (.ref r3), some (.int x4), some (.int x5), some (.int x6)], [], μ) Q := wp_blk rfl e295_970 (And.intro h1 (And.intro h2 (And.intro k1 k2)))
def q295_980 : List (Nat × Instr × Nat) := [(980, .iconst 0, 1)]
theorem e295_980 : am_dec am_M295 q295_980 = true := by decide +kernel
theorem e295_980_r : am_dec am_M295 [(981, .ireturn, 1)] = true := by decide +kernel
theorem b295_980 {d : Nat} {Q : Option Value ⊕ Nat → am_Mem → Prop} {μ : am_Mem} {r0 r1 r2 r3 : Nat} {x4 x5 x6 : Int32}
    (k : Q (.inl (some (.int (Int32.ofInt 0)))) μ) :
    Wp d 295 (980, [some (.ref r0), some (.ref r1), some (.ref r2), some (.ref r3), some (.int x4), some (.int x5), some (.int x6)], [], μ) Q := wp_blk rfl e295_980 (wp_ri (ty := .boolean) rfl e295_980_r rfl (by decide) k)
def q295_982 : List (Nat × Instr × Nat) := [(982, .goto 3, 3)]
theorem e295_982 : am_dec am_M295 q295_982 = true := by decide +kernel
theorem b295_982 {d : Nat} {Q : Option Value ⊕ Nat → am_Mem → Prop} {μ : am_Mem} {r0 r1 r2 r3 : Nat} {x4 x5 x6 : Int32}
    (k : Wp d 295 (985, [some (.ref r0), some (.ref r1), some (.ref r2), some (.ref r3), some (.int x4), some (.int x5), some (.int x6)], [], μ) Q) :
    Wp d 295 (982, [some (.ref r0), some (.ref r1), some (.ref r2), some (.ref r3), some (.int x4), some (.int x5), some (.int x6)], [], μ) Q := wp_blk rfl e295_982 k
def q295_985 : List (Nat × Instr × Nat) := [(985, .iinc 4 4, 3), (988, .goto (-965), 3)]
theorem e295_985 : am_dec am_M295 q295_985 = true := by decide +kernel
theorem b295_985 {d : Nat} {Q : Option Value ⊕ Nat → am_Mem → Prop} {μ : am_Mem} {r0 r1 r2 r3 : Nat} {x4 : Int32} {o5 o6 : Option Value}
    (k : Wp d 295 (23, [some (.ref r0), some (.ref r1), some (.ref r2), some (.ref r3), some (.int (x4 + Int32.ofInt 4)), o5, o6], [], μ) Q) :
    Wp d 295 (985, [some (.ref r0), some (.ref r1), some (.ref r2), some (.ref r3), some (.int x4), o5, o6], [], μ) Q := wp_blk rfl e295_985 k
def q295_991 : List (Nat × Instr × Nat) := [(991, .iconst 1, 1)]
theorem e295_991 : am_dec am_M295 q295_991 = true := by decide +kernel
theorem e295_991_r : am_dec am_M295 [(992, .ireturn, 1)] = true := by decide +kernel
theorem b295_991 {d : Nat} {Q : Option Value ⊕ Nat → am_Mem → Prop} {μ : am_Mem} {r0 r1 r2 r3 : Nat} {x4 : Int32} {o5 o6 : Option Value}
    (k : Q (.inl (some (.int (Int32.ofInt 1)))) μ) :
    Wp d 295 (991, [some (.ref r0), some (.ref r1), some (.ref r2), some (.ref r3), some (.int x4), o5, o6], [], μ) Q := wp_blk rfl e295_991 (wp_ri (ty := .boolean) rfl e295_991_r rfl (by decide) k)
