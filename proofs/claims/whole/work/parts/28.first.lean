/-! ===== printed: what is refused at once: no sheet, no state, no states ===== -/
/-- refuse, the first being so -/
theorem r_refuse1 {d : Nat} {μ : am_Mem} {x2 x3 : Int32} (hk : am_kd μ 125 = (1, 12)) : Wp d 151 (0, [some (.ref 125), some (.int (Int32.ofInt 1)), some (.int x2), some (.int x3)], [], μ) (pI (fun y μ' => y = Int32.ofInt 1 ∧ μ' = am_pA μ 125 0 (Int32.ofInt 1)) noX) := by
  refine b151_0 (fun h => absurd h (by first | decide | (simp [am_pA, am_u2, am_A]; done))) (fun _ => ?_)
  refine b151_5 ?_
  refine b151_26 hk hk (fun h => absurd h (by first | decide | (simp [am_pA, am_u2, am_A]; done))) (fun _ => ?_)
  refine b151_36 ?_
  exact b151_41 (by decide) ⟨rfl, rfl⟩
theorem r0_sheet {d : Nat} {μ : am_Mem} {a0 : Int32} (hk : am_kd μ 125 = (1, 12)) (h4 : am_A μ 125 4 = 0) : Wp (d + 1) 210 (0, [some (.ref 125), some (.int a0)], [], μ) (pI (fun y μ' => y = Int32.ofInt 0 ∧ μ' = am_pA μ 125 0 (Int32.ofInt 1)) noX) := by
  refine b210_0 hk (fun h => absurd h (by first | decide | (simp [am_pA, am_u2, am_A, h4]; done))) (fun _ => ?_)
  refine b210_8 ?_
  refine b210_13 hk (fun _ => ?_) (fun h => absurd (by first | decide | (simp [am_pA, am_u2, am_A, h4]; done)) h)
  refine b210_34 ?_
  refine b210_35 hk (r_refuse1 hk) (fun y μ' hy => ?_) (fun _ _ h => h.elim)
  obtain ⟨rfl, rfl⟩ := hy
  refine b210_39 (fun h => absurd h (by first | decide | (simp [am_pA, am_u2, am_A, h4]; done))) (fun _ => ?_)
  exact b210_42 ⟨rfl, rfl⟩
theorem r0_start {d : Nat} {μ : am_Mem} (hk : am_kd μ 125 = (1, 12)) (h4 : am_A μ 125 4 = 0) : Wp (d + 1) 211 (0, [some (.ref 125), none], [], μ) (pI (fun y μ' => y = Int32.ofInt 0 ∧ μ' = am_pA μ 125 0 (Int32.ofInt 1)) noX) := by
  refine b211_0 hk (fun _ => ?_) (fun h => absurd (by first | decide | (simp [am_pA, am_u2, am_A, h4]; done)) h)
  refine b211_31 ?_
  refine b211_32 hk (fun h => absurd h (by first | decide | (simp [am_pA, am_u2, am_A, h4]; done))) (fun _ => ?_)
  refine b211_41 ?_
  refine b211_46 (fun h => absurd h (by first | decide | (simp [am_pA, am_u2, am_A, h4]; done))) (fun _ => ?_)
  refine b211_50 ?_
  refine b211_55 hk (r_refuse1 hk) (fun y μ' hy => ?_) (fun _ _ h => h.elim)
  obtain ⟨rfl, rfl⟩ := hy
  refine b211_59 (fun h => absurd h (by first | decide | (simp [am_pA, am_u2, am_A, h4]; done))) (fun _ => ?_)
  exact b211_62 ⟨rfl, rfl⟩
theorem r0_moves {d : Nat} {μ : am_Mem} {a0 : Int32} (hk : am_kd μ 125 = (1, 12)) (h72 : am_A μ 125 72 = 0) : Wp (d + 1) 240 (0, [some (.ref 125), some (.int a0), none, none], [], μ) (pI (fun y μ' => y = Int32.ofInt 0 ∧ μ' = am_pA μ 125 0 (Int32.ofInt 1)) noX) := by
  refine b240_0 hk (fun _ => ?_) (fun h => absurd (by first | decide | (simp [am_pA, am_u2, am_A, h72]; done)) h)
  refine b240_19 ?_
  refine b240_20 (fun _ => ?_) (fun h => absurd (by first | decide | (simp [am_pA, am_u2, am_A, h72]; done)) h)
  refine b240_36 ?_
  refine b240_37 hk (fun h => absurd h (by first | decide | (simp [am_pA, am_u2, am_A, h72]; done))) (fun _ => ?_)
  refine b240_46 ?_
  refine b240_51 hk (fun _ => ?_) (fun h => absurd (by first | decide | (simp [am_pA, am_u2, am_A, h72]; done)) h)
  refine b240_66 ?_
  refine b240_67 (fun h => absurd h (by first | decide | (simp [am_pA, am_u2, am_A, h72]; done))) (fun _ => ?_)
  refine b240_71 ?_
  refine b240_76 hk (r_refuse1 hk) (fun y μ' hy => ?_) (fun _ _ h => h.elim)
  obtain ⟨rfl, rfl⟩ := hy
  refine b240_79 (fun h => absurd h (by first | decide | (simp [am_pA, am_u2, am_A, h72]; done))) (fun _ => ?_)
  exact b240_82 ⟨rfl, rfl⟩
theorem r0_terminal {d : Nat} {μ : am_Mem} (hk : am_kd μ 125 = (1, 12)) (h72 : am_A μ 125 72 = 0) : Wp (d + 1) 244 (0, [some (.ref 125), none], [], μ) (pI (fun y μ' => y = Int32.ofInt 0 ∧ μ' = am_pA μ 125 0 (Int32.ofInt 1)) noX) := by
  refine b244_0 hk (fun _ => ?_) (fun h => absurd (by first | decide | (simp [am_pA, am_u2, am_A, h72]; done)) h)
  refine b244_18 ?_
  refine b244_19 hk (fun h => absurd h (by first | decide | (simp [am_pA, am_u2, am_A, h72]; done))) (fun _ => ?_)
  refine b244_28 ?_
  refine b244_33 (fun h => absurd h (by first | decide | (simp [am_pA, am_u2, am_A, h72]; done))) (fun _ => ?_)
  refine b244_37 ?_
  refine b244_42 hk (r_refuse1 hk) (fun y μ' hy => ?_) (fun _ _ h => h.elim)
  obtain ⟨rfl, rfl⟩ := hy
  refine b244_46 (fun h => absurd h (by first | decide | (simp [am_pA, am_u2, am_A, h72]; done))) (fun _ => ?_)
  exact b244_49 ⟨rfl, rfl⟩
theorem r0_goal {d : Nat} {μ : am_Mem} {a0 : Int32} (hk : am_kd μ 125 = (1, 12)) (h72 : am_A μ 125 72 = 0) : Wp (d + 1) 246 (0, [some (.ref 125), some (.int a0), none, none], [], μ) (pI (fun y μ' => y = Int32.ofInt 0 ∧ μ' = am_pA μ 125 0 (Int32.ofInt 1)) noX) := by
  refine b246_0 hk (fun _ => ?_) (fun h => absurd (by first | decide | (simp [am_pA, am_u2, am_A, h72]; done)) h)
  refine b246_19 ?_
  refine b246_20 (fun _ => ?_) (fun h => absurd (by first | decide | (simp [am_pA, am_u2, am_A, h72]; done)) h)
  refine b246_36 ?_
  refine b246_37 hk (fun h => absurd h (by first | decide | (simp [am_pA, am_u2, am_A, h72]; done))) (fun _ => ?_)
  refine b246_46 ?_
  refine b246_51 hk (fun _ => ?_) (fun h => absurd (by first | decide | (simp [am_pA, am_u2, am_A, h72]; done)) h)
  refine b246_66 ?_
  refine b246_67 (fun h => absurd h (by first | decide | (simp [am_pA, am_u2, am_A, h72]; done))) (fun _ => ?_)
  refine b246_71 ?_
  refine b246_76 hk (r_refuse1 hk) (fun y μ' hy => ?_) (fun _ _ h => h.elim)
  obtain ⟨rfl, rfl⟩ := hy
  refine b246_79 (fun h => absurd h (by first | decide | (simp [am_pA, am_u2, am_A, h72]; done))) (fun _ => ?_)
  exact b246_82 ⟨rfl, rfl⟩
theorem r0_play {d : Nat} {μ : am_Mem} {a0 : Int32} (hk : am_kd μ 125 = (1, 12)) (h72 : am_A μ 125 72 = 0) : Wp (d + 1) 249 (0, [some (.ref 125), some (.int a0), none, none, none], [], μ) (pI (fun y μ' => y = Int32.ofInt 0 ∧ μ' = am_pA μ 125 0 (Int32.ofInt 1)) noX) := by
  refine b249_0 hk (fun _ => ?_) (fun h => absurd (by first | decide | (simp [am_pA, am_u2, am_A, h72]; done)) h)
  refine b249_22 ?_
  refine b249_23 (fun _ => ?_) (fun h => absurd (by first | decide | (simp [am_pA, am_u2, am_A, h72]; done)) h)
  refine b249_39 ?_
  refine b249_40 (fun _ => ?_) (fun h => absurd (by first | decide | (simp [am_pA, am_u2, am_A, h72]; done)) h)
  refine b249_64 ?_
  refine b249_65 (fun _ => ?_) (fun h => absurd (by first | decide | (simp [am_pA, am_u2, am_A, h72]; done)) h)
  refine b249_107 hk (fun h => absurd h (by first | decide | (simp [am_pA, am_u2, am_A, h72]; done))) (fun _ => ?_)
  refine b249_115 ?_
  refine b249_120 hk (fun _ => ?_) (fun h => absurd (by first | decide | (simp [am_pA, am_u2, am_A, h72]; done)) h)
  refine b249_144 ?_
  refine b249_145 (fun h => absurd h (by first | decide | (simp [am_pA, am_u2, am_A, h72]; done))) (fun _ => ?_)
  refine b249_149 ?_
  refine b249_154 hk (r_refuse1 hk) (fun y μ' hy => ?_) (fun _ _ h => h.elim)
  obtain ⟨rfl, rfl⟩ := hy
  refine b249_157 (fun h => absurd h (by first | decide | (simp [am_pA, am_u2, am_A, h72]; done))) (fun _ => ?_)
  exact b249_160 ⟨rfl, rfl⟩
theorem r0_explore {d : Nat} {μ : am_Mem} (hk : am_kd μ 125 = (1, 12)) (h4 : am_A μ 125 4 = 0) : Wp (d + 1) 253 (0, [some (.ref 125), none, none, none], [], μ) (pI (fun y μ' => y = Int32.ofInt 0 ∧ μ' = am_pA (am_pA μ 125 75 (Int32.ofInt 0)) 125 0 (Int32.ofInt 1)) noX) := by
  refine b253_0 hk hk hk (fun _ => ?_) (fun h => absurd (by first | decide | (simp [am_pA, am_u2, am_A, h4]; done)) h)
  refine b253_32 ?_
  refine b253_33 hk hk (fun h => absurd h (by first | decide | (simp [am_pA, am_u2, am_A, h4]; done))) (fun _ => ?_)
  refine b253_47 ?_
  refine b253_52 (fun h => absurd h (by first | decide | (simp [am_pA, am_u2, am_A, h4]; done))) (fun _ => ?_)
  refine b253_56 ?_
  refine b253_61 hk (r_refuse1 hk) (fun y μ' hy => ?_) (fun _ _ h => h.elim)
  obtain ⟨rfl, rfl⟩ := hy
  refine b253_65 (fun h => absurd h (by first | decide | (simp [am_pA, am_u2, am_A, h4]; done))) (fun _ => ?_)
  exact b253_68 ⟨rfl, rfl⟩
theorem r0_defect {d : Nat} {μ : am_Mem} {a0 : Int32} (hk : am_kd μ 125 = (1, 12)) (h81 : am_A μ 125 81 = 0) : Wp (d + 1) 263 (0, [some (.ref 125), some (.int a0)], [], μ) (pI (fun y μ' => y = Int32.ofInt 0 ∧ μ' = am_pA μ 125 0 (Int32.ofInt 1)) noX) := by
  refine b263_0 hk (fun h => absurd h (by first | decide | (simp [am_pA, am_u2, am_A, h81]; done))) (fun _ => ?_)
  refine b263_8 ?_
  refine b263_13 hk (fun _ => ?_) (fun h => absurd (by first | decide | (simp [am_pA, am_u2, am_A, h81]; done)) h)
  refine b263_34 ?_
  refine b263_35 hk (r_refuse1 hk) (fun y μ' hy => ?_) (fun _ _ h => h.elim)
  obtain ⟨rfl, rfl⟩ := hy
  refine b263_39 (fun h => absurd h (by first | decide | (simp [am_pA, am_u2, am_A, h81]; done))) (fun _ => ?_)
  exact b263_42 ⟨rfl, rfl⟩
theorem r0_state {d : Nat} {μ : am_Mem} {a0 a1 : Int32} (hk : am_kd μ 125 = (1, 12)) (h81 : am_A μ 125 81 = 0) : Wp (d + 1) 264 (0, [some (.ref 125), some (.int a0), some (.int a1), none], [], μ) (pI (fun y μ' => y = Int32.ofInt 0 ∧ μ' = am_pA μ 125 0 (Int32.ofInt 1)) noX) := by
  refine b264_0 hk (fun _ => ?_) (fun h => absurd (by first | decide | (simp [am_pA, am_u2, am_A, h81]; done)) h)
  refine b264_19 ?_
  refine b264_20 hk (fun h => absurd h (by first | decide | (simp [am_pA, am_u2, am_A, h81]; done))) (fun _ => ?_)
  refine b264_29 ?_
  refine b264_34 hk (fun _ => ?_) (fun h => absurd (by first | decide | (simp [am_pA, am_u2, am_A, h81]; done)) h)
  refine b264_49 ?_
  refine b264_50 (fun _ => ?_) (fun h => absurd (by first | decide | (simp [am_pA, am_u2, am_A, h81]; done)) h)
  refine b264_70 ?_
  refine b264_71 hk (r_refuse1 hk) (fun y μ' hy => ?_) (fun _ _ h => h.elim)
  obtain ⟨rfl, rfl⟩ := hy
  refine b264_74 (fun h => absurd h (by first | decide | (simp [am_pA, am_u2, am_A, h81]; done))) (fun _ => ?_)
  exact b264_77 ⟨rfl, rfl⟩
theorem r0_next {d : Nat} {μ : am_Mem} {a0 a1 : Int32} (hk : am_kd μ 125 = (1, 12)) (h81 : am_A μ 125 81 = 0) : Wp (d + 1) 266 (0, [some (.ref 125), some (.int a0), some (.int a1), none], [], μ) (pI (fun y μ' => y = Int32.ofInt 0 ∧ μ' = am_pA μ 125 0 (Int32.ofInt 1)) noX) := by
  refine b266_0 hk (fun _ => ?_) (fun h => absurd (by first | decide | (simp [am_pA, am_u2, am_A, h81]; done)) h)
  refine b266_56 ?_
  refine b266_57 hk (fun h => absurd h (by first | decide | (simp [am_pA, am_u2, am_A, h81]; done))) (fun _ => ?_)
  refine b266_66 ?_
  refine b266_71 hk (fun _ => ?_) (fun h => absurd (by first | decide | (simp [am_pA, am_u2, am_A, h81]; done)) h)
  refine b266_86 ?_
  refine b266_87 hk (r_refuse1 hk) (fun y μ' hy => ?_) (fun _ _ h => h.elim)
  obtain ⟨rfl, rfl⟩ := hy
  refine b266_91 (fun h => absurd h (by first | decide | (simp [am_pA, am_u2, am_A, h81]; done))) (fun _ => ?_)
  exact b266_94 ⟨rfl, rfl⟩
theorem r0_value {d : Nat} {μ : am_Mem} {a0 : Int32} (hk : am_kd μ 125 = (1, 12)) (h81 : am_A μ 125 81 = 0) : Wp (d + 1) 267 (0, [some (.ref 125), some (.int a0), none], [], μ) (pI (fun y μ' => y = Int32.ofInt 0 ∧ μ' = am_pA μ 125 0 (Int32.ofInt 1)) noX) := by
  refine b267_0 hk (fun _ => ?_) (fun h => absurd (by first | decide | (simp [am_pA, am_u2, am_A, h81]; done)) h)
  refine b267_18 ?_
  refine b267_19 (fun h => absurd h (by first | decide | (simp [am_pA, am_u2, am_A, h81]; done))) (fun _ => ?_)
  refine b267_25 ?_
  refine b267_30 (fun _ => ?_) (fun h => absurd (by first | decide | (simp [am_pA, am_u2, am_A, h81]; done)) h)
  refine b267_46 ?_
  refine b267_47 hk (r_refuse1 hk) (fun y μ' hy => ?_) (fun _ _ h => h.elim)
  obtain ⟨rfl, rfl⟩ := hy
  refine b267_51 (fun h => absurd h (by first | decide | (simp [am_pA, am_u2, am_A, h81]; done))) (fun _ => ?_)
  exact b267_54 ⟨rfl, rfl⟩
theorem r0_best {d : Nat} {μ : am_Mem} {a0 : Int32} (hk : am_kd μ 125 = (1, 12)) (h81 : am_A μ 125 81 = 0) : Wp (d + 1) 268 (0, [some (.ref 125), some (.int a0), none, none, none], [], μ) (pI (fun y μ' => y = Int32.ofInt 0 ∧ μ' = am_pA μ 125 0 (Int32.ofInt 1)) noX) := by
  refine b268_0 hk (fun _ => ?_) (fun h => absurd (by first | decide | (simp [am_pA, am_u2, am_A, h81]; done)) h)
  refine b268_18 ?_
  refine b268_19 (fun h => absurd h (by first | decide | (simp [am_pA, am_u2, am_A, h81]; done))) (fun _ => ?_)
  refine b268_25 ?_
  refine b268_30 (fun _ => ?_) (fun h => absurd (by first | decide | (simp [am_pA, am_u2, am_A, h81]; done)) h)
  refine b268_46 ?_
  refine b268_47 hk (r_refuse1 hk) (fun y μ' hy => ?_) (fun _ _ h => h.elim)
  obtain ⟨rfl, rfl⟩ := hy
  refine b268_51 (fun h => absurd h (by first | decide | (simp [am_pA, am_u2, am_A, h81]; done))) (fun _ => ?_)
  exact b268_54 ⟨rfl, rfl⟩
theorem c0_needSheet {d : Nat} {μ : am_Mem} (hk : am_kd μ 16 = (1, 11)) (h : am_A μ 16 6 = 0) : Wp d 124 (0, [some (.ref 16)], [], μ) (pV (fun _ => False) (fun e μ' => e = 1 ∧ μ' = am_nX μ)) := b124_0 hk (fun q => absurd q (by first | exact fun z => z h | exact fun z => h z | simp [h])) (fun _ => b124_7 ⟨rfl, rfl⟩)
theorem c0_needState {d : Nat} {μ : am_Mem} (hk : am_kd μ 16 = (1, 11)) (h : am_A μ 16 12 = Int32.ofInt (-1)) : Wp d 128 (0, [some (.ref 16)], [], μ) (pV (fun _ => False) (fun e μ' => e = 1 ∧ μ' = am_nX μ)) := b128_0 hk (fun q => absurd q (by first | exact fun z => z h | exact fun z => h z | simp [h])) (fun _ => b128_8 ⟨rfl, rfl⟩)
theorem c0_needStates {d : Nat} {μ : am_Mem} (hk : am_kd μ 16 = (1, 11)) (h : ¬ am_A μ 16 17 = Int32.ofInt 1) : Wp d 140 (0, [some (.ref 16)], [], μ) (pV (fun _ => False) (fun e μ' => e = 1 ∧ μ' = am_nX μ)) := b140_0 hk (fun q => absurd q (by first | exact fun z => z h | exact fun z => h z | simp [h])) (fun _ => b140_8 ⟨rfl, rfl⟩)
theorem c0_needSound {d : Nat} {μ : am_Mem} (hk : am_kd μ 16 = (1, 11)) (h : ¬ am_A μ 16 17 = Int32.ofInt 1) : Wp d 145 (0, [some (.ref 16)], [], μ) (pV (fun _ => False) (fun e μ' => e = 1 ∧ μ' = am_nX μ)) := b145_0 hk (fun _ => b145_18 ⟨rfl, rfl⟩) (fun q => absurd q (by first | exact fun z => z h | exact fun z => h z | simp [h]))
theorem c0_sheet {d : Nat} {μ : am_Mem} {a0 : Int32} (hk : am_kd μ 16 = (1, 11)) (h : am_A μ 16 6 = 0) : Wp (d + 1) 123 (0, [some (.ref 16), some (.int a0)], [], μ) (pI (fun _ _ => False) (fun e μ' => e = 1 ∧ μ' = am_nX μ)) := b123_0 hk (c0_needSheet hk h) (fun μ' h => h.elim) (fun e μ' h => h)
theorem c0_start {d : Nat} {μ : am_Mem} (hk : am_kd μ 16 = (1, 11)) (h : am_A μ 16 6 = 0) : Wp (d + 1) 125 (0, [some (.ref 16)], [], μ) (pI (fun _ _ => False) (fun e μ' => e = 1 ∧ μ' = am_nX μ)) := b125_0 hk (c0_needSheet hk h) (fun μ' h => h.elim) (fun e μ' h => h)
theorem c0_moves {d : Nat} {μ : am_Mem} {a0 : Int32} (hk : am_kd μ 16 = (1, 11)) (h : am_A μ 16 12 = Int32.ofInt (-1)) : Wp (d + 1) 127 (0, [some (.ref 16), some (.int a0)], [], μ) (pI (fun _ _ => False) (fun e μ' => e = 1 ∧ μ' = am_nX μ)) := b127_0 hk (c0_needState hk h) (fun μ' h => h.elim) (fun e μ' h => h)
theorem c0_terminal {d : Nat} {μ : am_Mem} (hk : am_kd μ 16 = (1, 11)) (h : am_A μ 16 12 = Int32.ofInt (-1)) : Wp (d + 1) 131 (0, [some (.ref 16)], [], μ) (pI (fun _ _ => False) (fun e μ' => e = 1 ∧ μ' = am_nX μ)) := b131_0 hk (c0_needState hk h) (fun μ' h => h.elim) (fun e μ' h => h)
theorem c0_goal {d : Nat} {μ : am_Mem} {a0 : Int32} (hk : am_kd μ 16 = (1, 11)) (h : am_A μ 16 12 = Int32.ofInt (-1)) : Wp (d + 1) 132 (0, [some (.ref 16), some (.int a0)], [], μ) (pI (fun _ _ => False) (fun e μ' => e = 1 ∧ μ' = am_nX μ)) := b132_0 hk (c0_needState hk h) (fun μ' h => h.elim) (fun e μ' h => h)
theorem c0_play {d : Nat} {μ : am_Mem} {a0 : Int32} (hk : am_kd μ 16 = (1, 11)) (h : am_A μ 16 12 = Int32.ofInt (-1)) : Wp (d + 1) 133 (0, [some (.ref 16), some (.int a0)], [], μ) (pI (fun _ _ => False) (fun e μ' => e = 1 ∧ μ' = am_nX μ)) := b133_0 hk (c0_needState hk h) (fun μ' h => h.elim) (fun e μ' h => h)
theorem c0_sign {d : Nat} {μ : am_Mem} {a0 a1 a2 : Int32} (hk : am_kd μ 16 = (1, 11)) (h : am_A μ 16 6 = 0) : Wp (d + 1) 134 (0, [some (.ref 16), some (.int a0), some (.int a1), some (.int a2)], [], μ) (pI (fun _ _ => False) (fun e μ' => e = 1 ∧ μ' = am_nX μ)) := b134_0 hk (c0_needSheet hk h) (fun μ' h => h.elim) (fun e μ' h => h)
theorem c0_explore {d : Nat} {μ : am_Mem} (hk : am_kd μ 16 = (1, 11)) (h : am_A μ 16 6 = 0) : Wp (d + 1) 135 (0, [some (.ref 16), none], [], μ) (pI (fun _ _ => False) (fun e μ' => e = 1 ∧ μ' = am_nX μ)) := b135_0 hk (c0_needSheet hk h) (fun μ' h => h.elim) (fun e μ' h => h)
theorem c0_defect {d : Nat} {μ : am_Mem} {a0 : Int32} (hk : am_kd μ 16 = (1, 11)) (h : ¬ am_A μ 16 17 = Int32.ofInt 1) : Wp (d + 1) 139 (0, [some (.ref 16), some (.int a0)], [], μ) (pI (fun _ _ => False) (fun e μ' => e = 1 ∧ μ' = am_nX μ)) := b139_0 hk (c0_needStates hk h) (fun μ' h => h.elim) (fun e μ' h => h)
theorem c0_state {d : Nat} {μ : am_Mem} {a0 a1 : Int32} (hk : am_kd μ 16 = (1, 11)) (h : ¬ am_A μ 16 17 = Int32.ofInt 1) : Wp (d + 1) 141 (0, [some (.ref 16), some (.int a0), some (.int a1)], [], μ) (pI (fun _ _ => False) (fun e μ' => e = 1 ∧ μ' = am_nX μ)) := b141_0 hk (c0_needStates hk h) (fun μ' h => h.elim) (fun e μ' h => h)
theorem c0_next {d : Nat} {μ : am_Mem} {a0 a1 : Int32} (hk : am_kd μ 16 = (1, 11)) (h : ¬ am_A μ 16 17 = Int32.ofInt 1) : Wp (d + 1) 143 (0, [some (.ref 16), some (.int a0), some (.int a1)], [], μ) (pI (fun _ _ => False) (fun e μ' => e = 1 ∧ μ' = am_nX μ)) := b143_0 hk (c0_needStates hk h) (fun μ' h => h.elim) (fun e μ' h => h)
theorem c0_value {d : Nat} {μ : am_Mem} {a0 : Int32} (hk : am_kd μ 16 = (1, 11)) (h : ¬ am_A μ 16 17 = Int32.ofInt 1) : Wp (d + 1) 144 (0, [some (.ref 16), some (.int a0)], [], μ) (pI (fun _ _ => False) (fun e μ' => e = 1 ∧ μ' = am_nX μ)) := b144_0 hk (c0_needSound hk h) (fun μ' h => h.elim) (fun e μ' h => h)
theorem c0_best {d : Nat} {μ : am_Mem} {a0 : Int32} (hk : am_kd μ 16 = (1, 11)) (h : ¬ am_A μ 16 17 = Int32.ofInt 1) : Wp (d + 1) 146 (0, [some (.ref 16), some (.int a0)], [], μ) (pI (fun _ _ => False) (fun e μ' => e = 1 ∧ μ' = am_nX μ)) := b146_0 hk (c0_needSound hk h) (fun μ' h => h.elim) (fun e μ' h => h)
