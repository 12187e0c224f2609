/-! ===== printed: the law's own methods around the class's ===== -/
theorem w269 {d : Nat} {μ : am_Mem} {a0 : Int32} {P : Int32 → am_Mem → Prop} {X : Nat → am_Mem → Prop} {J : Int32 → am_Mem → Prop} (hk : am_kd μ 16 = (1, 11)) (hc : Wp d 121 (0, [some (.ref 16), some (.int a0), none, none, none], [], μ) (pI P X)) (hr : ∀ y μ', P y μ' → am_kd μ' 185 = (6, 1) ∧ J (Int32.ofInt 0) (am_pL μ' 185 (Int32.ofInt 0).toNatClampNeg y.toInt64)) (hx : ∀ e μ', X e μ' → (e = 0 ∧ J (Int32.ofInt 1) μ') ∨ (e = 3 ∧ J (Int32.ofInt 2) μ')) : Wp (d + 1) 269 (0, [some (.ref 16), some (.int a0), some (.ref 185), none], [], μ) (pI J noX) := by
  refine b269_0 hk hc (fun y μ' h => ?_) ?_
  · obtain ⟨h1, h2⟩ := hr y μ' h
    exact b269_7 (by rw [h1]) (by rw [h1]; decide) (b269_18 h2)
  · intro e μ' h
    have hz := hx e μ' h
    rcases hz with ⟨rfl, hj⟩ | ⟨rfl, hj⟩
    · exact ⟨13, 3, by decide +kernel, by decide, b269_13 hj⟩
    · exact ⟨16, 3, by decide +kernel, by decide, b269_16 hj⟩
theorem w270 {d : Nat} {μ : am_Mem} {a0 : Int32} {P : am_Mem → Prop} {X : Nat → am_Mem → Prop} {J : Int32 → am_Mem → Prop} (hk : am_kd μ 16 = (1, 11)) (hc : Wp d 122 (0, [some (.ref 16), some (.int a0)], [], μ) (pV P X)) (hr : ∀ μ', P μ' → J (Int32.ofInt 0) μ') (hx : ∀ e μ', X e μ' → (e = 0 ∧ J (Int32.ofInt 1) μ')) : Wp (d + 1) 270 (0, [some (.ref 16), some (.int a0), none], [], μ) (pI J noX) := by
  refine b270_0 hk hc (fun μ' h => b270_5 (b270_11 (hr μ' h))) ?_
  · intro e μ' h
    have hz := hx e μ' h
    obtain ⟨rfl, hj⟩ := hz
    · exact ⟨9, 2, by decide +kernel, by decide, b270_9 hj⟩
theorem w271 {d : Nat} {μ : am_Mem} {a0 : Int32} {P : Int32 → am_Mem → Prop} {X : Nat → am_Mem → Prop} {J : Int32 → am_Mem → Prop} (hk : am_kd μ 16 = (1, 11)) (hc : Wp d 123 (0, [some (.ref 16), some (.int a0)], [], μ) (pI P X)) (hr : ∀ y μ', P y μ' → am_kd μ' 185 = (6, 1) ∧ J (Int32.ofInt 0) (am_pL μ' 185 (Int32.ofInt 0).toNatClampNeg y.toInt64)) (hx : ∀ e μ', X e μ' → (e = 1 ∧ J (Int32.ofInt 1) μ') ∨ (e = 0 ∧ J (Int32.ofInt 2) μ')) : Wp (d + 1) 271 (0, [some (.ref 16), some (.int a0), some (.ref 185), none], [], μ) (pI J noX) := by
  refine b271_0 hk hc (fun y μ' h => ?_) ?_
  · obtain ⟨h1, h2⟩ := hr y μ' h
    exact b271_7 (by rw [h1]) (by rw [h1]; decide) (b271_18 h2)
  · intro e μ' h
    have hz := hx e μ' h
    rcases hz with ⟨rfl, hj⟩ | ⟨rfl, hj⟩
    · exact ⟨13, 3, by decide +kernel, by decide, b271_13 hj⟩
    · exact ⟨16, 3, by decide +kernel, by decide, b271_16 hj⟩
theorem w272 {d : Nat} {μ : am_Mem} {P : Int32 → am_Mem → Prop} {X : Nat → am_Mem → Prop} {J : Int32 → am_Mem → Prop} (hk : am_kd μ 16 = (1, 11)) (hc : Wp d 125 (0, [some (.ref 16)], [], μ) (pI P X)) (hr : ∀ y μ', P y μ' → am_kd μ' 185 = (6, 1) ∧ J (Int32.ofInt 0) (am_pL μ' 185 (Int32.ofInt 0).toNatClampNeg y.toInt64)) (hx : ∀ e μ', X e μ' → (e = 1 ∧ J (Int32.ofInt 1) μ') ∨ (e = 3 ∧ J (Int32.ofInt 2) μ')) : Wp (d + 1) 272 (0, [some (.ref 16), some (.ref 185), none], [], μ) (pI J noX) := by
  refine b272_0 hk hc (fun y μ' h => ?_) ?_
  · obtain ⟨h1, h2⟩ := hr y μ' h
    exact b272_6 (by rw [h1]) (by rw [h1]; decide) (b272_17 h2)
  · intro e μ' h
    have hz := hx e μ' h
    rcases hz with ⟨rfl, hj⟩ | ⟨rfl, hj⟩
    · exact ⟨12, 2, by decide +kernel, by decide, b272_12 hj⟩
    · exact ⟨15, 2, by decide +kernel, by decide, b272_15 hj⟩
theorem w273 {d : Nat} {μ : am_Mem} {a0 : Int32} {P : Int32 → am_Mem → Prop} {X : Nat → am_Mem → Prop} {J : Int32 → am_Mem → Prop} (hk : am_kd μ 16 = (1, 11)) (hc : Wp d 127 (0, [some (.ref 16), some (.int a0)], [], μ) (pI P X)) (hr : ∀ y μ', P y μ' → am_kd μ' 185 = (6, 1) ∧ J (Int32.ofInt 0) (am_pL μ' 185 (Int32.ofInt 0).toNatClampNeg y.toInt64)) (hx : ∀ e μ', X e μ' → (e = 1 ∧ J (Int32.ofInt 1) μ') ∨ (e = 2 ∧ J (Int32.ofInt 2) μ') ∨ (e = 3 ∧ J (Int32.ofInt 3) μ')) : Wp (d + 1) 273 (0, [some (.ref 16), some (.int a0), some (.ref 185), none], [], μ) (pI J noX) := by
  refine b273_0 hk hc (fun y μ' h => ?_) ?_
  · obtain ⟨h1, h2⟩ := hr y μ' h
    exact b273_7 (by rw [h1]) (by rw [h1]; decide) (b273_21 h2)
  · intro e μ' h
    have hz := hx e μ' h
    rcases hz with ⟨rfl, hj⟩ | ⟨rfl, hj⟩ | ⟨rfl, hj⟩
    · exact ⟨13, 3, by decide +kernel, by decide, b273_13 hj⟩
    · exact ⟨16, 3, by decide +kernel, by decide, b273_16 hj⟩
    · exact ⟨19, 3, by decide +kernel, by decide, b273_19 hj⟩
theorem w274 {d : Nat} {μ : am_Mem} {P : Int32 → am_Mem → Prop} {X : Nat → am_Mem → Prop} {J : Int32 → am_Mem → Prop} (hk : am_kd μ 16 = (1, 11)) (hc : Wp d 131 (0, [some (.ref 16)], [], μ) (pI P X)) (hr : ∀ y μ', P y μ' → am_kd μ' 185 = (6, 1) ∧ J (Int32.ofInt 0) (am_pL μ' 185 (Int32.ofInt 0).toNatClampNeg (if y = 0 then Int64.ofNat 0 else Int64.ofNat 1))) (hx : ∀ e μ', X e μ' → (e = 1 ∧ J (Int32.ofInt 1) μ') ∨ (e = 3 ∧ J (Int32.ofInt 2) μ')) : Wp (d + 1) 274 (0, [some (.ref 16), some (.ref 185), none], [], μ) (pI J noX) := by
  refine b274_0 hk hc (fun y μ' h => ?_) ?_
  · obtain ⟨h1, h2⟩ := hr y μ' h
    refine b274_6 (fun hy => b274_13 (b274_14 (by rw [h1]) (by rw [h1]; decide) ?_)) (fun hy => b274_9 (b274_14 (by rw [h1]) (by rw [h1]; decide) ?_))
    · rw [if_pos hy] at h2
      exact b274_24 h2
    · rw [if_neg hy] at h2
      exact b274_24 h2
  · intro e μ' h
    have hz := hx e μ' h
    rcases hz with ⟨rfl, hj⟩ | ⟨rfl, hj⟩
    · exact ⟨19, 2, by decide +kernel, by decide, b274_19 hj⟩
    · exact ⟨22, 2, by decide +kernel, by decide, b274_22 hj⟩
theorem w275 {d : Nat} {μ : am_Mem} {a0 : Int32} {P : Int32 → am_Mem → Prop} {X : Nat → am_Mem → Prop} {J : Int32 → am_Mem → Prop} (hk : am_kd μ 16 = (1, 11)) (hc : Wp d 132 (0, [some (.ref 16), some (.int a0)], [], μ) (pI P X)) (hr : ∀ y μ', P y μ' → am_kd μ' 185 = (6, 1) ∧ J (Int32.ofInt 0) (am_pL μ' 185 (Int32.ofInt 0).toNatClampNeg y.toInt64)) (hx : ∀ e μ', X e μ' → (e = 1 ∧ J (Int32.ofInt 1) μ') ∨ (e = 2 ∧ J (Int32.ofInt 2) μ') ∨ (e = 3 ∧ J (Int32.ofInt 3) μ')) : Wp (d + 1) 275 (0, [some (.ref 16), some (.int a0), some (.ref 185), none], [], μ) (pI J noX) := by
  refine b275_0 hk hc (fun y μ' h => ?_) ?_
  · obtain ⟨h1, h2⟩ := hr y μ' h
    exact b275_7 (by rw [h1]) (by rw [h1]; decide) (b275_21 h2)
  · intro e μ' h
    have hz := hx e μ' h
    rcases hz with ⟨rfl, hj⟩ | ⟨rfl, hj⟩ | ⟨rfl, hj⟩
    · exact ⟨13, 3, by decide +kernel, by decide, b275_13 hj⟩
    · exact ⟨16, 3, by decide +kernel, by decide, b275_16 hj⟩
    · exact ⟨19, 3, by decide +kernel, by decide, b275_19 hj⟩
theorem w276 {d : Nat} {μ : am_Mem} {a0 : Int32} {P : Int32 → am_Mem → Prop} {X : Nat → am_Mem → Prop} {J : Int32 → am_Mem → Prop} (hk : am_kd μ 16 = (1, 11)) (hc : Wp d 133 (0, [some (.ref 16), some (.int a0)], [], μ) (pI P X)) (hr : ∀ y μ', P y μ' → am_kd μ' 185 = (6, 1) ∧ J (Int32.ofInt 0) (am_pL μ' 185 (Int32.ofInt 0).toNatClampNeg y.toInt64)) (hx : ∀ e μ', X e μ' → (e = 1 ∧ J (Int32.ofInt 1) μ') ∨ (e = 2 ∧ J (Int32.ofInt 2) μ') ∨ (e = 3 ∧ J (Int32.ofInt 3) μ')) : Wp (d + 1) 276 (0, [some (.ref 16), some (.int a0), some (.ref 185), none], [], μ) (pI J noX) := by
  refine b276_0 hk hc (fun y μ' h => ?_) ?_
  · obtain ⟨h1, h2⟩ := hr y μ' h
    exact b276_7 (by rw [h1]) (by rw [h1]; decide) (b276_21 h2)
  · intro e μ' h
    have hz := hx e μ' h
    rcases hz with ⟨rfl, hj⟩ | ⟨rfl, hj⟩ | ⟨rfl, hj⟩
    · exact ⟨13, 3, by decide +kernel, by decide, b276_13 hj⟩
    · exact ⟨16, 3, by decide +kernel, by decide, b276_16 hj⟩
    · exact ⟨19, 3, by decide +kernel, by decide, b276_19 hj⟩
theorem w277 {d : Nat} {μ : am_Mem} {a0 a1 a2 : Int32} {P : Int32 → am_Mem → Prop} {X : Nat → am_Mem → Prop} {J : Int32 → am_Mem → Prop} (hk : am_kd μ 16 = (1, 11)) (hc : Wp d 134 (0, [some (.ref 16), some (.int a0), some (.int a1), some (.int a2)], [], μ) (pI P X)) (hr : ∀ y μ', P y μ' → am_kd μ' 185 = (6, 1) ∧ J (Int32.ofInt 0) (am_pL μ' 185 (Int32.ofInt 0).toNatClampNeg y.toInt64)) (hx : ∀ e μ', X e μ' → (e = 1 ∧ J (Int32.ofInt 1) μ') ∨ (e = 0 ∧ J (Int32.ofInt 2) μ') ∨ (e = 2 ∧ J (Int32.ofInt 3) μ') ∨ (e = 3 ∧ J (Int32.ofInt 4) μ')) : Wp (d + 1) 277 (0, [some (.ref 16), some (.int a0), some (.int a1), some (.int a2), some (.ref 185), none], [], μ) (pI J noX) := by
  refine b277_0 hk hc (fun y μ' h => ?_) ?_
  · obtain ⟨h1, h2⟩ := hr y μ' h
    exact b277_10 (by rw [h1]) (by rw [h1]; decide) (b277_31 h2)
  · intro e μ' h
    have hz := hx e μ' h
    rcases hz with ⟨rfl, hj⟩ | ⟨rfl, hj⟩ | ⟨rfl, hj⟩ | ⟨rfl, hj⟩
    · exact ⟨17, 5, by decide +kernel, by decide, b277_17 hj⟩
    · exact ⟨21, 5, by decide +kernel, by decide, b277_21 hj⟩
    · exact ⟨25, 5, by decide +kernel, by decide, b277_25 hj⟩
    · exact ⟨29, 5, by decide +kernel, by decide, b277_29 hj⟩
theorem w278 {d : Nat} {μ : am_Mem} {P : Int32 → am_Mem → Prop} {X : Nat → am_Mem → Prop} {J : Int32 → am_Mem → Prop} (hk : am_kd μ 16 = (1, 11)) (hc : Wp d 135 (0, [some (.ref 16), none], [], μ) (pI P X)) (hr : ∀ y μ', P y μ' → am_kd μ' 185 = (6, 1) ∧ J (Int32.ofInt 0) (am_pL μ' 185 (Int32.ofInt 0).toNatClampNeg y.toInt64)) (hx : ∀ e μ', X e μ' → (e = 1 ∧ J (Int32.ofInt 1) μ') ∨ (e = 3 ∧ J (Int32.ofInt 2) μ')) : Wp (d + 1) 278 (0, [some (.ref 16), some (.ref 185), none], [], μ) (pI J noX) := by
  refine b278_0 hk hc (fun y μ' h => ?_) ?_
  · obtain ⟨h1, h2⟩ := hr y μ' h
    exact b278_6 (by rw [h1]) (by rw [h1]; decide) (b278_17 h2)
  · intro e μ' h
    have hz := hx e μ' h
    rcases hz with ⟨rfl, hj⟩ | ⟨rfl, hj⟩
    · exact ⟨12, 2, by decide +kernel, by decide, b278_12 hj⟩
    · exact ⟨15, 2, by decide +kernel, by decide, b278_15 hj⟩
theorem w279 {d : Nat} {μ : am_Mem} {a0 : Int32} {P : Int32 → am_Mem → Prop} {X : Nat → am_Mem → Prop} {J : Int32 → am_Mem → Prop} (hk : am_kd μ 16 = (1, 11)) (hc : Wp d 139 (0, [some (.ref 16), some (.int a0)], [], μ) (pI P X)) (hr : ∀ y μ', P y μ' → am_kd μ' 185 = (6, 1) ∧ J (Int32.ofInt 0) (am_pL μ' 185 (Int32.ofInt 0).toNatClampNeg y.toInt64)) (hx : ∀ e μ', X e μ' → (e = 1 ∧ J (Int32.ofInt 1) μ') ∨ (e = 0 ∧ J (Int32.ofInt 2) μ')) : Wp (d + 1) 279 (0, [some (.ref 16), some (.int a0), some (.ref 185), none], [], μ) (pI J noX) := by
  refine b279_0 hk hc (fun y μ' h => ?_) ?_
  · obtain ⟨h1, h2⟩ := hr y μ' h
    exact b279_7 (by rw [h1]) (by rw [h1]; decide) (b279_18 h2)
  · intro e μ' h
    have hz := hx e μ' h
    rcases hz with ⟨rfl, hj⟩ | ⟨rfl, hj⟩
    · exact ⟨13, 3, by decide +kernel, by decide, b279_13 hj⟩
    · exact ⟨16, 3, by decide +kernel, by decide, b279_16 hj⟩
theorem w280 {d : Nat} {μ : am_Mem} {a0 a1 : Int32} {P : Int32 → am_Mem → Prop} {X : Nat → am_Mem → Prop} {J : Int32 → am_Mem → Prop} (hk : am_kd μ 16 = (1, 11)) (hc : Wp d 141 (0, [some (.ref 16), some (.int a0), some (.int a1)], [], μ) (pI P X)) (hr : ∀ y μ', P y μ' → am_kd μ' 185 = (6, 1) ∧ J (Int32.ofInt 0) (am_pL μ' 185 (Int32.ofInt 0).toNatClampNeg y.toInt64)) (hx : ∀ e μ', X e μ' → (e = 1 ∧ J (Int32.ofInt 1) μ') ∨ (e = 2 ∧ J (Int32.ofInt 2) μ') ∨ (e = 0 ∧ J (Int32.ofInt 3) μ')) : Wp (d + 1) 280 (0, [some (.ref 16), some (.int a0), some (.int a1), some (.ref 185), none], [], μ) (pI J noX) := by
  refine b280_0 hk hc (fun y μ' h => ?_) ?_
  · obtain ⟨h1, h2⟩ := hr y μ' h
    exact b280_8 (by rw [h1]) (by rw [h1]; decide) (b280_25 h2)
  · intro e μ' h
    have hz := hx e μ' h
    rcases hz with ⟨rfl, hj⟩ | ⟨rfl, hj⟩ | ⟨rfl, hj⟩
    · exact ⟨15, 4, by decide +kernel, by decide, b280_15 hj⟩
    · exact ⟨19, 4, by decide +kernel, by decide, b280_19 hj⟩
    · exact ⟨23, 4, by decide +kernel, by decide, b280_23 hj⟩
theorem w281 {d : Nat} {μ : am_Mem} {a0 a1 : Int32} {P : Int32 → am_Mem → Prop} {X : Nat → am_Mem → Prop} {J : Int32 → am_Mem → Prop} (hk : am_kd μ 16 = (1, 11)) (hc : Wp d 143 (0, [some (.ref 16), some (.int a0), some (.int a1)], [], μ) (pI P X)) (hr : ∀ y μ', P y μ' → am_kd μ' 185 = (6, 1) ∧ J (Int32.ofInt 0) (am_pL μ' 185 (Int32.ofInt 0).toNatClampNeg y.toInt64)) (hx : ∀ e μ', X e μ' → (e = 1 ∧ J (Int32.ofInt 1) μ') ∨ (e = 2 ∧ J (Int32.ofInt 2) μ')) : Wp (d + 1) 281 (0, [some (.ref 16), some (.int a0), some (.int a1), some (.ref 185), none], [], μ) (pI J noX) := by
  refine b281_0 hk hc (fun y μ' h => ?_) ?_
  · obtain ⟨h1, h2⟩ := hr y μ' h
    exact b281_8 (by rw [h1]) (by rw [h1]; decide) (b281_21 h2)
  · intro e μ' h
    have hz := hx e μ' h
    rcases hz with ⟨rfl, hj⟩ | ⟨rfl, hj⟩
    · exact ⟨15, 4, by decide +kernel, by decide, b281_15 hj⟩
    · exact ⟨19, 4, by decide +kernel, by decide, b281_19 hj⟩
theorem w282 {d : Nat} {μ : am_Mem} {a0 : Int32} {P : Int32 → am_Mem → Prop} {X : Nat → am_Mem → Prop} {J : Int32 → am_Mem → Prop} (hk : am_kd μ 16 = (1, 11)) (hc : Wp d 144 (0, [some (.ref 16), some (.int a0)], [], μ) (pI P X)) (hr : ∀ y μ', P y μ' → am_kd μ' 185 = (6, 1) ∧ J (Int32.ofInt 0) (am_pL μ' 185 (Int32.ofInt 0).toNatClampNeg y.toInt64)) (hx : ∀ e μ', X e μ' → (e = 1 ∧ J (Int32.ofInt 1) μ') ∨ (e = 2 ∧ J (Int32.ofInt 2) μ')) : Wp (d + 1) 282 (0, [some (.ref 16), some (.int a0), some (.ref 185), none], [], μ) (pI J noX) := by
  refine b282_0 hk hc (fun y μ' h => ?_) ?_
  · obtain ⟨h1, h2⟩ := hr y μ' h
    exact b282_7 (by rw [h1]) (by rw [h1]; decide) (b282_18 h2)
  · intro e μ' h
    have hz := hx e μ' h
    rcases hz with ⟨rfl, hj⟩ | ⟨rfl, hj⟩
    · exact ⟨13, 3, by decide +kernel, by decide, b282_13 hj⟩
    · exact ⟨16, 3, by decide +kernel, by decide, b282_16 hj⟩
theorem w283 {d : Nat} {μ : am_Mem} {a0 : Int32} {P : Int32 → am_Mem → Prop} {X : Nat → am_Mem → Prop} {J : Int32 → am_Mem → Prop} (hk : am_kd μ 16 = (1, 11)) (hc : Wp d 146 (0, [some (.ref 16), some (.int a0)], [], μ) (pI P X)) (hr : ∀ y μ', P y μ' → am_kd μ' 185 = (6, 1) ∧ J (Int32.ofInt 0) (am_pL μ' 185 (Int32.ofInt 0).toNatClampNeg y.toInt64)) (hx : ∀ e μ', X e μ' → (e = 1 ∧ J (Int32.ofInt 1) μ') ∨ (e = 2 ∧ J (Int32.ofInt 2) μ')) : Wp (d + 1) 283 (0, [some (.ref 16), some (.int a0), some (.ref 185), none], [], μ) (pI J noX) := by
  refine b283_0 hk hc (fun y μ' h => ?_) ?_
  · obtain ⟨h1, h2⟩ := hr y μ' h
    exact b283_7 (by rw [h1]) (by rw [h1]; decide) (b283_18 h2)
  · intro e μ' h
    have hz := hx e μ' h
    rcases hz with ⟨rfl, hj⟩ | ⟨rfl, hj⟩
    · exact ⟨13, 3, by decide +kernel, by decide, b283_13 hj⟩
    · exact ⟨16, 3, by decide +kernel, by decide, b283_16 hj⟩
