/-! ===== the start: the law's run out of a run of the small machine ===== -/
def am_wrdL : List Int32 := [114, 111, 108, 101, 32, 105, 110, 105, 116, 32, 116, 114, 117, 101, 32, 110, 101, 120, 116, 32, 100, 111, 101, 115, 32, 108, 101, 103, 97, 108, 32, 103, 111, 97, 108, 32, 116, 101, 114, 109, 105, 110, 97, 108, 32, 110, 111, 116, 32, 100, 105, 115, 116, 105, 110, 99, 116, 32]
def am_fixL : List Int32 := [1, 1, 1, 1, 2, 2, 2, 0]
/-- the memory at the start: the script (0), FIXED (1), the words' bytes (3) -/
def am_m0 (L : Nat) (xs : Nat → Int32) : am_Mem := (16, 0, fun r => if r = 0 then (8, L) else if r = 1 then (8, 8) else if r = 3 then (10, 58) else (0, 0), fun r j => if r = 0 then xs j else if r = 1 then am_fixL.getD j 0 else if r = 3 then am_wrdL.getD j 0 else 0, fun _ _ => 0, fun _ _ => 15)
/-- WHAT IS LEFT TO SHOW: the small machine's law ends with 1, within the room -/
def am_Goal : Prop := ∀ (L : Nat) (xs : Nat → Int32), L ≤ 2048 → ∃ (n d : Nat) (μ' : am_Mem), d ≤ 1000 ∧ am_run GG n d am_LAW (0, am_ent GG am_LAW [.ref 0], [], am_m0 L xs) = some (.inl (some (.int 1)), μ') ∧ am_n μ' ≤ 61040 ∧ am_sl μ' ≤ 8913034
def am_xa (b f t v : Nat) : Nat → Nat := fun r => if r = 0 then b else if r = 1 then f else if r = 2 then t else if r = 3 then v else 0
theorem am_inst : ∀ (ci : Nat) (C : String) (T : u_T) (N : Nat), am_cls[ci]? = some (C, T, N) → Cond.instantiable C N ∈ am_T0 := by
  intro ci C T N h
  match ci, h with
  | 0, h => cases h; exact (am_inT (am_t2 32 rfl) rfl)
  | 1, h => cases h; exact (am_inT (am_t2 69 rfl) rfl)
  | 2, h => cases h; exact (am_inT (am_t2 63 rfl) rfl)
  | 3, h => cases h; exact (am_inT (am_t1 74 rfl) rfl)
  | 4, h => cases h; exact (am_inT (am_t2 7 rfl) rfl)
  | 5, h => cases h; exact (am_inT (am_t1 68 rfl) rfl)
  | 6, h => cases h; exact (am_inT (am_t3 19 rfl) rfl)
  | 7, h => cases h; exact (am_inT (am_t3 25 rfl) rfl)
  | 8, h => cases h; exact (am_inT (am_t2 114 rfl) rfl)
  | 9, h => cases h; exact (am_inT (am_t1 38 rfl) rfl)
  | 10, h => cases h; exact (am_inT (am_t2 228 rfl) rfl)
  | 11, h => cases h; exact (am_inT (am_t1 30 rfl) rfl)
  | 12, h => cases h; exact (am_inT (am_t7 18 rfl) rfl)
  | n + 13, h => cases h
theorem am_kn {s : State} {args : Array Value} (hts : ∀ w ∈ am_T0, w.before args s = true) : ∃ D : va_G, va_K D am_cls [] s := by
  have h : ∀ ci : Nat, ∃ q : ClassId × (Nat → Nat), ∀ z : vw_C, am_cls[ci]? = some z → u_Kn s z.1 z.2.1 z.2.2 q.1 q.2 := by
    intro ci
    cases hz : am_cls[ci]? with
    | none => exact ⟨(0, fun _ => 0), fun z h => by cases h⟩
    | some z =>
      obtain ⟨C, T, N⟩ := z
      obtain ⟨cC, iS, h⟩ := u_known (n := N) hts (am_okC ci C T N hz).2.1 (hts _ (am_inst ci C T N hz))
      exact ⟨(cC, iS), fun z' hz' => by cases hz'; exact h⟩
  obtain ⟨f, hf⟩ := Classical.axiomOfChoice h
  exact ⟨(fun ci => (f ci).1, fun ci => (f ci).2), fun ci q hq => hf ci q hq, fun t q hq => by cases hq⟩
theorem am_mem0 {s0 : State} {D : va_G} {b f t v L : Nat} {xs : Nat → Int32} (h0 : va_X b L xs s0 s0.heap) (hb : b < s0.heap.size) (h1 : va_T .int f 8 (fun j => .int (am_fixL.getD j 0)) (fun q => s0.heap.size ≤ q) s0 s0.heap) (h3 : va_T .byte v 58 (fun j => .int (am_wrdL.getD j 0)) (fun q => s0.heap.size ≤ q) s0 s0.heap) : am_Rep s0 (am_xa b f t v) D am_cls (am_m0 L xs) s0.heap := by
  refine ⟨Nat.le_refl _, rfl, fun q _ => rfl, fun r ci h => ?_, fun r t' n ty h ht => ?_, fun r t' n ty h ht => ?_⟩
  · have h : (if r = 0 then (8, L) else if r = 1 then (8, 8) else if r = 3 then (10, 58) else (0, 0) : Nat × Nat) = (1, ci) := h
    split at h
    · cases h
    · split at h
      · cases h
      · split at h <;> cases h
  · have h : (if r = 0 then (8, L) else if r = 1 then (8, 8) else if r = 3 then (10, 58) else (0, 0) : Nat × Nat) = (t', n) := h
    split at h
    · cases h; cases ht
    · split at h
      · cases h; cases ht
      · split at h <;> (cases h; cases ht)
  · have h : (if r = 0 then (8, L) else if r = 1 then (8, 8) else if r = 3 then (10, 58) else (0, 0) : Nat × Nat) = (t', n) := h
    split at h
    · rename_i e
      cases h; cases ht; subst e
      obtain ⟨cell, g1, g2, g3, g4, g5⟩ := h0
      exact ⟨by decide, hb, cell, g1, g2, g3, ⟨Nat.le_of_eq g4.symm, by rw [g4]⟩, g5⟩
    · split at h
      · rename_i e
        cases h; cases ht; subst e
        obtain ⟨cell, g1, g2, g3, g4, g5, g6, g7⟩ := h1
        exact ⟨by decide, Nat.lt_of_not_le g7, cell, g1, g2, g3, ⟨g4, g5⟩, g6⟩
      · split at h
        · rename_i e
          cases h; cases ht; subst e
          obtain ⟨cell, g1, g2, g3, g4, g5, g6, g7⟩ := h3
          exact ⟨by decide, Nat.lt_of_not_le g7, cell, g1, g2, g3, ⟨g4, g5⟩, g6⟩
        · cases h; cases ht
theorem am_okAc : ∀ e ∈ am_ta, ∀ q ∈ e.2, Cond.methodLink (am_cn e.1) q.1 arraycopyName ∈ am_T0 := by
  unfold am_ta
  exact List.forall_mem_cons.mpr ⟨List.forall_mem_cons.mpr ⟨(am_inT (am_t4 39 rfl) rfl), fun _ h => nomatch h⟩, List.forall_mem_cons.mpr ⟨List.forall_mem_cons.mpr ⟨(am_inT (am_t5 225 rfl) rfl), fun _ h => nomatch h⟩, List.forall_mem_cons.mpr ⟨List.forall_mem_cons.mpr ⟨(am_inT (am_t5 137 rfl) rfl), fun _ h => nomatch h⟩, (fun _ h => nomatch h)⟩⟩⟩
theorem am_okMi : ∀ e ∈ am_tn, ∀ q ∈ e.2, Cond.methodLink (am_cn e.1) q.1 Lib.Math.min.name ∈ am_T0 := by
  unfold am_tn
  exact List.forall_mem_cons.mpr ⟨List.forall_mem_cons.mpr ⟨(am_inT (am_t5 219 rfl) rfl), fun _ h => nomatch h⟩, List.forall_mem_cons.mpr ⟨List.forall_mem_cons.mpr ⟨(am_inT (am_t5 224 rfl) rfl), fun _ h => nomatch h⟩, List.forall_mem_cons.mpr ⟨List.forall_mem_cons.mpr ⟨(am_inT (am_t5 134 rfl) rfl), fun _ h => nomatch h⟩, (fun _ h => nomatch h)⟩⟩⟩
theorem am_x0 {s0 : State} {b f t v : Nat} (z1 : va_Z "RuleSheets$Checker" "FIXED" "[I" (.ref f) (fun q => s0.heap.size ≤ q) s0 s0.heap) (z2 : va_Z "java/lang/String" "COMPACT_STRINGS" "Z" (.int 1) (fun q => s0.heap.size ≤ q) s0 s0.heap)
    (k1 : vk_R "RuleSheets$Names" 9 "role init true next does legal goal terminal not distinct " t s0) (k2 : va_O "java/lang/String" t (fun q => s0.heap.size ≤ q) s0 s0.heap) (k3 : va_OF "java/lang/String" "coder" "B" (.int 0) t (fun q => s0.heap.size ≤ q) s0 s0.heap) (k4 : va_OF "java/lang/String" "value" "[B" (.ref v) t (fun q => s0.heap.size ≤ q) s0 s0.heap) : am_X GG s0 (am_xa b f t v) am_cn am_T0 := by
  refine ⟨fun oc ix w h => ?_, fun oc ix r h => ?_, fun oc ix a w h => ?_, fun a ci h => ?_, fun oc ix h => ?_, fun oc ix h => ?_⟩
  · refine am_lk2_mem h (P := fun oc ix w => ∃ C n d, Cond.fieldLink (am_cn oc) ix C n d ∈ am_T0 ∧ va_Z C n d (am_cv s0.heap.size (am_xa b f t v) w) (fun q => s0.heap.size ≤ q) s0 s0.heap) ?_
    unfold am_tv
    exact List.forall_mem_cons.mpr ⟨List.forall_mem_cons.mpr ⟨⟨_, _, _, (am_inT (am_t4 37 rfl) rfl), z1⟩, fun _ h => nomatch h⟩, List.forall_mem_cons.mpr ⟨List.forall_mem_cons.mpr ⟨⟨_, _, _, (am_inT (am_t1 88 rfl) rfl), z2⟩, fun _ h => nomatch h⟩, fun _ h => nomatch h⟩⟩
  · refine am_lk2_mem h (P := fun oc ix r => r < 16 ∧ ∃ tx, vk_R (am_cn oc) ix tx (am_xa b f t v r) s0) ?_
    unfold am_tx
    exact List.forall_mem_cons.mpr ⟨List.forall_mem_cons.mpr ⟨⟨by decide, _, k1⟩, fun _ h => nomatch h⟩, fun _ h => nomatch h⟩
  · have h2 : am_fX oc ix a = some w := h
    unfold am_fX at h2
    cases ho : Nat.beq oc 14 && Nat.beq a 2 with
    | false => rw [ho] at h2; cases h2
    | true =>
      rw [ho] at h2
      simp only [Bool.and_eq_true] at ho
      obtain rfl := Nat.eq_of_beq_eq_true ho.1
      obtain rfl := Nat.eq_of_beq_eq_true ho.2
      simp only [cond_true] at h2
      cases h9 : Nat.beq ix 9 with
      | true =>
        rw [h9] at h2
        obtain rfl := Nat.eq_of_beq_eq_true h9
        cases h2
        exact ⟨by decide, _, _, _, (am_inT (am_t10 100 rfl) rfl), k4⟩
      | false =>
        rw [h9] at h2
        simp only [cond_false] at h2
        cases h15 : Nat.beq ix 15 with
        | true =>
          rw [h15] at h2
          obtain rfl := Nat.eq_of_beq_eq_true h15
          cases h2
          exact ⟨by decide, _, _, _, (am_inT (am_t10 99 rfl) rfl), k3⟩
        | false => rw [h15] at h2; cases h2
  · have h2 : am_fO a = some ci := h
    unfold am_fO at h2
    cases ho : Nat.beq a 2 with
    | false => rw [ho] at h2; cases h2
    | true =>
      rw [ho] at h2
      obtain rfl := Nat.eq_of_beq_eq_true ho
      cases h2
      obtain ⟨cell, g1, g2, g3, g4⟩ := k2
      exact ⟨by decide, Nat.lt_of_not_le g4, cell, g1, g2, g3⟩
  · have h2 : am_fA oc ix = true := h
    unfold am_fA at h2
    split at h2
    · rename_i u hu
      exact ⟨am_lk2_mem hu (P := fun a b _ => Cond.methodLink (am_cn a) b arraycopyName ∈ am_T0) am_okAc, (am_inT (am_t4 41 rfl) rfl), (am_inT (am_t4 40 rfl) rfl), (am_inT (am_t1 24 rfl) rfl)⟩
    · cases h2
  · have h2 : am_fM oc ix = true := h
    unfold am_fM at h2
    split at h2
    · rename_i u hu
      exact ⟨am_lk2_mem hu (P := fun a b _ => Cond.methodLink (am_cn a) b Lib.Math.min.name ∈ am_T0) am_okMi, (am_inT (am_t5 135 rfl) rfl), (am_inT (am_t1 27 rfl) rfl), (am_inT (am_t5 136 rfl) rfl)⟩
    · cases h2
theorem am_sref {own text : String} {i : Nat} {args : Array Value} {s : State} (h : (Cond.stringRef own i text).before args s = true) : ∃ a, (Term.string own i).eval args s none [] s = some (.ref a) := by
  cases hc : s.vm.findClass own with
  | none =>
    have h1 := h
    simp only [Cond.before, Cond.holds, Cond.value] at h1
    simp [hc] at h1
  | some cur =>
    obtain ⟨k, cf, j, a, hk, -, -, -, hr, hev⟩ := Cond.stringRef_spec hc h
    exact ⟨a, hev⟩

theorem am_strs : ∀ q ∈ am_Ts, Cond.stringRef q.1 q.2.1 q.2.2 ∈ tables_1 := by
  unfold am_Ts
  exact List.forall_mem_cons.mpr ⟨am_t5 4 rfl, List.forall_mem_cons.mpr ⟨am_t5 39 rfl, List.forall_mem_cons.mpr ⟨am_t5 53 rfl, List.forall_mem_cons.mpr ⟨am_t5 82 rfl, List.forall_mem_cons.mpr ⟨am_t6 71 rfl, List.forall_mem_cons.mpr ⟨am_t6 92 rfl, List.forall_mem_cons.mpr ⟨am_t6 93 rfl, List.forall_mem_cons.mpr ⟨am_t6 99 rfl, List.forall_mem_cons.mpr ⟨am_t6 45 rfl, List.forall_mem_cons.mpr ⟨am_t5 75 rfl, List.forall_mem_cons.mpr ⟨am_t5 238 rfl, List.forall_mem_cons.mpr ⟨am_t6 12 rfl, List.forall_mem_cons.mpr ⟨am_t6 218 rfl, List.forall_mem_cons.mpr ⟨am_t7 9 rfl, List.forall_mem_cons.mpr ⟨am_t6 230 rfl, List.forall_mem_cons.mpr ⟨am_t6 117 rfl, List.forall_mem_cons.mpr ⟨am_t5 165 rfl, List.forall_mem_cons.mpr ⟨am_t5 179 rfl, List.forall_mem_cons.mpr ⟨am_t5 105 rfl, List.forall_mem_cons.mpr ⟨am_t5 159 rfl, List.forall_mem_cons.mpr ⟨am_t5 193 rfl, List.forall_mem_cons.mpr ⟨am_t1 79 rfl, List.forall_mem_cons.mpr ⟨am_t6 179 rfl, List.forall_mem_cons.mpr ⟨am_t6 160 rfl, List.forall_mem_cons.mpr ⟨am_t5 141 rfl, (fun _ h => nomatch h)⟩⟩⟩⟩⟩⟩⟩⟩⟩⟩⟩⟩⟩⟩⟩⟩⟩⟩⟩⟩⟩⟩⟩⟩⟩
def R_law : String := "RuleSheetsLaw"
def lw_P (b : Addr) (xs : List Int32) (args : Array Value) (s : State) : Prop := args = #[.ref b] ∧ s.IntsAt b xs ∧ xs.length ≤ 2048 ∧ (Jvm.Cond.and given_1 narrow_1).before args s = true
def lw_Q (_ : Array Value) (s : State) (o : Outcome) (t : State) : Prop := o = .returned (some (.int 1)) ∧ Framed s o t [] 61024 8913034
def lw_Z (below : List Frame) (a : Array Value) (s : State) : State → Prop := fun t => ∃ o, t.status = .running ∧ Ended t below o ∧ lw_Q a s o t
/-- what holds at the law's entry -/
def lw_At (p : Program) (s : State) (m : MethodId) (meth : Method) (c : Code) (b L : Nat) (xs : Nat → Int32) : Prop :=
  p.tables.exec = Jvm.exec ∧ c.code = code ∧ meth.sig.returnType = ret ∧ c.maxLocals = 7 ∧ s.vm.findClass R_law = some m.cls ∧ (∀ w ∈ am_T1, w.before #[Value.ref b] s = true) ∧ va_X b L xs s s.heap ∧ b < s.heap.size ∧ meth.locks = false ∧ (Jvm.Cond.and given_1 narrow_1).before #[Value.ref b] s = true ∧ c.exceptionTable.toList = []
theorem am_fixel {args : Array Value} {s : State} (h : (Jvm.Cond.and given_1 narrow_1).before args s = true) : ∀ j : Nat, j < 8 → (Cond.eq (.elem (.static "RuleSheets$Checker" "FIXED" "[I") (.int (Int32.ofNat j))) (.int (am_fixL.getD j 0))).before args s = true := fun j hj => match j, hj with
  | 0, _ => flat_of_before _ h (.eq (.elem (.static "RuleSheets$Checker" "FIXED" "[I") (.int 0)) (.int 1)) (by decide +kernel)
  | 1, _ => flat_of_before _ h (.eq (.elem (.static "RuleSheets$Checker" "FIXED" "[I") (.int 1)) (.int 1)) (by decide +kernel)
  | 2, _ => flat_of_before _ h (.eq (.elem (.static "RuleSheets$Checker" "FIXED" "[I") (.int 2)) (.int 1)) (by decide +kernel)
  | 3, _ => flat_of_before _ h (.eq (.elem (.static "RuleSheets$Checker" "FIXED" "[I") (.int 3)) (.int 1)) (by decide +kernel)
  | 4, _ => flat_of_before _ h (.eq (.elem (.static "RuleSheets$Checker" "FIXED" "[I") (.int 4)) (.int 2)) (by decide +kernel)
  | 5, _ => flat_of_before _ h (.eq (.elem (.static "RuleSheets$Checker" "FIXED" "[I") (.int 5)) (.int 2)) (by decide +kernel)
  | 6, _ => flat_of_before _ h (.eq (.elem (.static "RuleSheets$Checker" "FIXED" "[I") (.int 6)) (.int 2)) (by decide +kernel)
  | 7, _ => flat_of_before _ h (.eq (.elem (.static "RuleSheets$Checker" "FIXED" "[I") (.int 7)) (.int 0)) (by decide +kernel)
  | n + 8, h => absurd h (by omega)
theorem am_wrdel {args : Array Value} {s : State} (h : (Jvm.Cond.and given_1 narrow_1).before args s = true) : ∀ j : Nat, j < 58 → (Cond.eq (.elem (.field (.string "RuleSheets$Names" 9) "java/lang/String" "value" "[B") (.int (Int32.ofNat j))) (.int (am_wrdL.getD j 0))).before args s = true := fun j hj => match j, hj with
  | 0, _ => flat_of_before _ h (.eq (.elem (.field (.string "RuleSheets$Names" 9) "java/lang/String" "value" "[B") (.int 0)) (.int 114)) (by decide +kernel)
  | 1, _ => flat_of_before _ h (.eq (.elem (.field (.string "RuleSheets$Names" 9) "java/lang/String" "value" "[B") (.int 1)) (.int 111)) (by decide +kernel)
  | 2, _ => flat_of_before _ h (.eq (.elem (.field (.string "RuleSheets$Names" 9) "java/lang/String" "value" "[B") (.int 2)) (.int 108)) (by decide +kernel)
  | 3, _ => flat_of_before _ h (.eq (.elem (.field (.string "RuleSheets$Names" 9) "java/lang/String" "value" "[B") (.int 3)) (.int 101)) (by decide +kernel)
  | 4, _ => flat_of_before _ h (.eq (.elem (.field (.string "RuleSheets$Names" 9) "java/lang/String" "value" "[B") (.int 4)) (.int 32)) (by decide +kernel)
  | 5, _ => flat_of_before _ h (.eq (.elem (.field (.string "RuleSheets$Names" 9) "java/lang/String" "value" "[B") (.int 5)) (.int 105)) (by decide +kernel)
  | 6, _ => flat_of_before _ h (.eq (.elem (.field (.string "RuleSheets$Names" 9) "java/lang/String" "value" "[B") (.int 6)) (.int 110)) (by decide +kernel)
  | 7, _ => flat_of_before _ h (.eq (.elem (.field (.string "RuleSheets$Names" 9) "java/lang/String" "value" "[B") (.int 7)) (.int 105)) (by decide +kernel)
  | 8, _ => flat_of_before _ h (.eq (.elem (.field (.string "RuleSheets$Names" 9) "java/lang/String" "value" "[B") (.int 8)) (.int 116)) (by decide +kernel)
  | 9, _ => flat_of_before _ h (.eq (.elem (.field (.string "RuleSheets$Names" 9) "java/lang/String" "value" "[B") (.int 9)) (.int 32)) (by decide +kernel)
  | 10, _ => flat_of_before _ h (.eq (.elem (.field (.string "RuleSheets$Names" 9) "java/lang/String" "value" "[B") (.int 10)) (.int 116)) (by decide +kernel)
  | 11, _ => flat_of_before _ h (.eq (.elem (.field (.string "RuleSheets$Names" 9) "java/lang/String" "value" "[B") (.int 11)) (.int 114)) (by decide +kernel)
  | 12, _ => flat_of_before _ h (.eq (.elem (.field (.string "RuleSheets$Names" 9) "java/lang/String" "value" "[B") (.int 12)) (.int 117)) (by decide +kernel)
  | 13, _ => flat_of_before _ h (.eq (.elem (.field (.string "RuleSheets$Names" 9) "java/lang/String" "value" "[B") (.int 13)) (.int 101)) (by decide +kernel)
  | 14, _ => flat_of_before _ h (.eq (.elem (.field (.string "RuleSheets$Names" 9) "java/lang/String" "value" "[B") (.int 14)) (.int 32)) (by decide +kernel)
  | 15, _ => flat_of_before _ h (.eq (.elem (.field (.string "RuleSheets$Names" 9) "java/lang/String" "value" "[B") (.int 15)) (.int 110)) (by decide +kernel)
  | 16, _ => flat_of_before _ h (.eq (.elem (.field (.string "RuleSheets$Names" 9) "java/lang/String" "value" "[B") (.int 16)) (.int 101)) (by decide +kernel)
  | 17, _ => flat_of_before _ h (.eq (.elem (.field (.string "RuleSheets$Names" 9) "java/lang/String" "value" "[B") (.int 17)) (.int 120)) (by decide +kernel)
  | 18, _ => flat_of_before _ h (.eq (.elem (.field (.string "RuleSheets$Names" 9) "java/lang/String" "value" "[B") (.int 18)) (.int 116)) (by decide +kernel)
  | 19, _ => flat_of_before _ h (.eq (.elem (.field (.string "RuleSheets$Names" 9) "java/lang/String" "value" "[B") (.int 19)) (.int 32)) (by decide +kernel)
  | 20, _ => flat_of_before _ h (.eq (.elem (.field (.string "RuleSheets$Names" 9) "java/lang/String" "value" "[B") (.int 20)) (.int 100)) (by decide +kernel)
  | 21, _ => flat_of_before _ h (.eq (.elem (.field (.string "RuleSheets$Names" 9) "java/lang/String" "value" "[B") (.int 21)) (.int 111)) (by decide +kernel)
  | 22, _ => flat_of_before _ h (.eq (.elem (.field (.string "RuleSheets$Names" 9) "java/lang/String" "value" "[B") (.int 22)) (.int 101)) (by decide +kernel)
  | 23, _ => flat_of_before _ h (.eq (.elem (.field (.string "RuleSheets$Names" 9) "java/lang/String" "value" "[B") (.int 23)) (.int 115)) (by decide +kernel)
  | 24, _ => flat_of_before _ h (.eq (.elem (.field (.string "RuleSheets$Names" 9) "java/lang/String" "value" "[B") (.int 24)) (.int 32)) (by decide +kernel)
  | 25, _ => flat_of_before _ h (.eq (.elem (.field (.string "RuleSheets$Names" 9) "java/lang/String" "value" "[B") (.int 25)) (.int 108)) (by decide +kernel)
  | 26, _ => flat_of_before _ h (.eq (.elem (.field (.string "RuleSheets$Names" 9) "java/lang/String" "value" "[B") (.int 26)) (.int 101)) (by decide +kernel)
  | 27, _ => flat_of_before _ h (.eq (.elem (.field (.string "RuleSheets$Names" 9) "java/lang/String" "value" "[B") (.int 27)) (.int 103)) (by decide +kernel)
  | 28, _ => flat_of_before _ h (.eq (.elem (.field (.string "RuleSheets$Names" 9) "java/lang/String" "value" "[B") (.int 28)) (.int 97)) (by decide +kernel)
  | 29, _ => flat_of_before _ h (.eq (.elem (.field (.string "RuleSheets$Names" 9) "java/lang/String" "value" "[B") (.int 29)) (.int 108)) (by decide +kernel)
  | 30, _ => flat_of_before _ h (.eq (.elem (.field (.string "RuleSheets$Names" 9) "java/lang/String" "value" "[B") (.int 30)) (.int 32)) (by decide +kernel)
  | 31, _ => flat_of_before _ h (.eq (.elem (.field (.string "RuleSheets$Names" 9) "java/lang/String" "value" "[B") (.int 31)) (.int 103)) (by decide +kernel)
  | 32, _ => flat_of_before _ h (.eq (.elem (.field (.string "RuleSheets$Names" 9) "java/lang/String" "value" "[B") (.int 32)) (.int 111)) (by decide +kernel)
  | 33, _ => flat_of_before _ h (.eq (.elem (.field (.string "RuleSheets$Names" 9) "java/lang/String" "value" "[B") (.int 33)) (.int 97)) (by decide +kernel)
  | 34, _ => flat_of_before _ h (.eq (.elem (.field (.string "RuleSheets$Names" 9) "java/lang/String" "value" "[B") (.int 34)) (.int 108)) (by decide +kernel)
  | 35, _ => flat_of_before _ h (.eq (.elem (.field (.string "RuleSheets$Names" 9) "java/lang/String" "value" "[B") (.int 35)) (.int 32)) (by decide +kernel)
  | 36, _ => flat_of_before _ h (.eq (.elem (.field (.string "RuleSheets$Names" 9) "java/lang/String" "value" "[B") (.int 36)) (.int 116)) (by decide +kernel)
  | 37, _ => flat_of_before _ h (.eq (.elem (.field (.string "RuleSheets$Names" 9) "java/lang/String" "value" "[B") (.int 37)) (.int 101)) (by decide +kernel)
  | 38, _ => flat_of_before _ h (.eq (.elem (.field (.string "RuleSheets$Names" 9) "java/lang/String" "value" "[B") (.int 38)) (.int 114)) (by decide +kernel)
  | 39, _ => flat_of_before _ h (.eq (.elem (.field (.string "RuleSheets$Names" 9) "java/lang/String" "value" "[B") (.int 39)) (.int 109)) (by decide +kernel)
  | 40, _ => flat_of_before _ h (.eq (.elem (.field (.string "RuleSheets$Names" 9) "java/lang/String" "value" "[B") (.int 40)) (.int 105)) (by decide +kernel)
  | 41, _ => flat_of_before _ h (.eq (.elem (.field (.string "RuleSheets$Names" 9) "java/lang/String" "value" "[B") (.int 41)) (.int 110)) (by decide +kernel)
  | 42, _ => flat_of_before _ h (.eq (.elem (.field (.string "RuleSheets$Names" 9) "java/lang/String" "value" "[B") (.int 42)) (.int 97)) (by decide +kernel)
  | 43, _ => flat_of_before _ h (.eq (.elem (.field (.string "RuleSheets$Names" 9) "java/lang/String" "value" "[B") (.int 43)) (.int 108)) (by decide +kernel)
  | 44, _ => flat_of_before _ h (.eq (.elem (.field (.string "RuleSheets$Names" 9) "java/lang/String" "value" "[B") (.int 44)) (.int 32)) (by decide +kernel)
  | 45, _ => flat_of_before _ h (.eq (.elem (.field (.string "RuleSheets$Names" 9) "java/lang/String" "value" "[B") (.int 45)) (.int 110)) (by decide +kernel)
  | 46, _ => flat_of_before _ h (.eq (.elem (.field (.string "RuleSheets$Names" 9) "java/lang/String" "value" "[B") (.int 46)) (.int 111)) (by decide +kernel)
  | 47, _ => flat_of_before _ h (.eq (.elem (.field (.string "RuleSheets$Names" 9) "java/lang/String" "value" "[B") (.int 47)) (.int 116)) (by decide +kernel)
  | 48, _ => flat_of_before _ h (.eq (.elem (.field (.string "RuleSheets$Names" 9) "java/lang/String" "value" "[B") (.int 48)) (.int 32)) (by decide +kernel)
  | 49, _ => flat_of_before _ h (.eq (.elem (.field (.string "RuleSheets$Names" 9) "java/lang/String" "value" "[B") (.int 49)) (.int 100)) (by decide +kernel)
  | 50, _ => flat_of_before _ h (.eq (.elem (.field (.string "RuleSheets$Names" 9) "java/lang/String" "value" "[B") (.int 50)) (.int 105)) (by decide +kernel)
  | 51, _ => flat_of_before _ h (.eq (.elem (.field (.string "RuleSheets$Names" 9) "java/lang/String" "value" "[B") (.int 51)) (.int 115)) (by decide +kernel)
  | 52, _ => flat_of_before _ h (.eq (.elem (.field (.string "RuleSheets$Names" 9) "java/lang/String" "value" "[B") (.int 52)) (.int 116)) (by decide +kernel)
  | 53, _ => flat_of_before _ h (.eq (.elem (.field (.string "RuleSheets$Names" 9) "java/lang/String" "value" "[B") (.int 53)) (.int 105)) (by decide +kernel)
  | 54, _ => flat_of_before _ h (.eq (.elem (.field (.string "RuleSheets$Names" 9) "java/lang/String" "value" "[B") (.int 54)) (.int 110)) (by decide +kernel)
  | 55, _ => flat_of_before _ h (.eq (.elem (.field (.string "RuleSheets$Names" 9) "java/lang/String" "value" "[B") (.int 55)) (.int 99)) (by decide +kernel)
  | 56, _ => flat_of_before _ h (.eq (.elem (.field (.string "RuleSheets$Names" 9) "java/lang/String" "value" "[B") (.int 56)) (.int 116)) (by decide +kernel)
  | 57, _ => flat_of_before _ h (.eq (.elem (.field (.string "RuleSheets$Names" 9) "java/lang/String" "value" "[B") (.int 57)) (.int 32)) (by decide +kernel)
  | n + 58, h => absurd h (by omega)
set_option maxHeartbeats 2000000 in
theorem am_strN {args : Array Value} {s : State} (h : (Jvm.Cond.and given_1 narrow_1).before args s = true) (hA : ∀ a : Nat, a < s.heap.size → ¬ s.heap.size ≤ a) : ∃ t v : Nat, (Term.string "RuleSheets$Names" 9).eval args s none [] s = some (.ref t) ∧ va_O "java/lang/String" t (fun q => s.heap.size ≤ q) s s.heap ∧ va_OF "java/lang/String" "coder" "B" (.int 0) t (fun q => s.heap.size ≤ q) s s.heap ∧ va_OF "java/lang/String" "value" "[B" (.ref v) t (fun q => s.heap.size ≤ q) s s.heap ∧ va_T .byte v 58 (fun j => .int (am_wrdL.getD j 0)) (fun q => s.heap.size ≤ q) s s.heap := by
  have hf := flat_of_before _ h
  have w0 : ∀ i : Nat, i < 1 → ([58] : List Nat).getD i 0 < 2 ^ 31 := fun i hi => match i, hi with
    | 0, _ => by decide
    | n + 1, h => absurd h (by omega)
  have w1 : ∀ i : Nat, i < 1 → (Cond.eq (.length (.field (.string "RuleSheets$Names" 9) "java/lang/String" "value" "[B")) (.int (Int32.ofNat (([58] : List Nat).getD i 0)))).before args s = true := fun i hi => match i, hi with
    | 0, _ => hf (.eq (.length (.field (.string "RuleSheets$Names" 9) "java/lang/String" "value" "[B")) (.int 58)) (by decide +kernel)
    | n + 1, h => absurd h (by omega)
  have w2 : ∀ i : Nat, i < 1 → ∀ j : Nat, j < ([58] : List Nat).getD i 0 → (Cond.eq (.elem (.field (.string "RuleSheets$Names" 9) "java/lang/String" "value" "[B") (.int (Int32.ofNat j))) (.int ((([am_wrdL] : List (List Int32)).getD i []).getD j 0))).before args s = true := fun i hi => match i, hi with
    | 0, _ => fun j hj => am_wrdel h j hj
    | n + 1, h => absurd h (by omega)
  obtain ⟨adK, adV, ⟨h1, -⟩, h2⟩ := vk_Sof (args := args) (s := s) (N := 1) (tm := fun _ => .string "RuleSheets$Names" 9) (len := [58]) (byt := [am_wrdL]) (A := fun q => s.heap.size ≤ q) w0
    (fun i hi => hf (.exactly (.string "RuleSheets$Names" 9) "java/lang/String") (by decide +kernel)) (fun i hi => hf (.eq (.field (.string "RuleSheets$Names" 9) "java/lang/String" "coder" "B") (.int 0)) (by decide +kernel)) (fun i hi => hf (.arrayOf (.field (.string "RuleSheets$Names" 9) "java/lang/String" "value" "[B") .byte) (by decide +kernel))
    w1 w2 (fun i j hi hj hij => absurd (show i = j by omega) hij) hA
  obtain ⟨g1, g2, g3, g4⟩ := h1 0 (by decide)
  exact ⟨adK 0, adV 0, h2 0 (by decide), g1, g2, g3, g4⟩
theorem am_nocast {args : Array Value} {s : State} (h : (Jvm.Cond.and given_1 narrow_1).before args s = true) : ∀ q ∈ am_Nc, (Cond.not (.castable q.1 q.2)).before args s = true := by
  have hf := flat_of_before _ h
  unfold am_Nc
  exact List.forall_mem_cons.mpr ⟨hf (.not (.castable "java/lang/IllegalArgumentException" "java/lang/IllegalStateException")) (by decide +kernel), List.forall_mem_cons.mpr ⟨hf (.not (.castable "java/lang/IllegalArgumentException" "java/lang/IndexOutOfBoundsException")) (by decide +kernel), List.forall_mem_cons.mpr ⟨hf (.not (.castable "java/lang/IllegalArgumentException" "java/lang/UnsupportedOperationException")) (by decide +kernel), List.forall_mem_cons.mpr ⟨hf (.not (.castable "java/lang/IllegalStateException" "java/lang/IllegalArgumentException")) (by decide +kernel), List.forall_mem_cons.mpr ⟨hf (.not (.castable "java/lang/IllegalStateException" "java/lang/IndexOutOfBoundsException")) (by decide +kernel), List.forall_mem_cons.mpr ⟨hf (.not (.castable "java/lang/IllegalStateException" "java/lang/UnsupportedOperationException")) (by decide +kernel), List.forall_mem_cons.mpr ⟨hf (.not (.castable "java/lang/IndexOutOfBoundsException" "java/lang/IllegalArgumentException")) (by decide +kernel), List.forall_mem_cons.mpr ⟨hf (.not (.castable "java/lang/IndexOutOfBoundsException" "java/lang/IllegalStateException")) (by decide +kernel), List.forall_mem_cons.mpr ⟨hf (.not (.castable "java/lang/IndexOutOfBoundsException" "java/lang/UnsupportedOperationException")) (by decide +kernel), List.forall_mem_cons.mpr ⟨hf (.not (.castable "java/lang/UnsupportedOperationException" "java/lang/IllegalArgumentException")) (by decide +kernel), List.forall_mem_cons.mpr ⟨hf (.not (.castable "java/lang/UnsupportedOperationException" "java/lang/IllegalStateException")) (by decide +kernel), List.forall_mem_cons.mpr ⟨hf (.not (.castable "java/lang/UnsupportedOperationException" "java/lang/IndexOutOfBoundsException")) (by decide +kernel), (fun _ h => nomatch h)⟩⟩⟩⟩⟩⟩⟩⟩⟩⟩⟩⟩
set_option maxHeartbeats 2000000 in
theorem whole_start (hG : am_Goal) {p : Program} {e : Env} {s : State} {m : MethodId} {below : List Frame} {meth : Method} {c : Code} (l : Launch) (hls : l.stackTraces = false) {b L : Nat} {xs : Nat → Int32} (hL : L ≤ 2048) (C0 : lw_At p s m meth c b L xs) : W p l e room_1 s m #[Value.ref b] below meth c s.heap [] 0 0 (lw_Z below #[Value.ref b] s) (entryFrame m ([Value.ref b] : List Value).toArray 7) := by
  obtain ⟨hx, hb, hret, hml, hown, hts1, hX, hbl, hlocks, hgv, htab⟩ := C0
  have hA : ∀ a : Nat, a < s.heap.size → ¬ s.heap.size ≤ a := fun a h1 h2 => Nat.lt_irrefl _ (Nat.lt_of_lt_of_le h1 h2)
  have hts : ∀ w ∈ am_T0, w.before #[Value.ref b] s = true := fun w hw => hts1 w (List.mem_filter.mp hw).1
  have htn : ∀ w ∈ am_Tn, w.before #[Value.ref b] s = true := fun w hw => hts1 w (List.mem_cons_of_mem _ (List.mem_filter.mp hw).1)
  have hf := flat_of_before _ hgv
  obtain ⟨D, hK⟩ := am_kn hts
  obtain ⟨t, v, k0, k2, k3, k4, k5⟩ := am_strN hgv hA
  obtain ⟨f, f0, f1⟩ := va_Tof (args := #[Value.ref b]) (s := s) (tm := .static "RuleSheets$Checker" "FIXED" "[I") (ty := .int) (N := 8) (f := fun j => .int (am_fixL.getD j 0)) (A := fun q => s.heap.size ≤ q) (by decide) (hf (.arrayOf (.static "RuleSheets$Checker" "FIXED" "[I") .int) (by decide +kernel)) (va_eqt (hf (.eq (.length (.static "RuleSheets$Checker" "FIXED" "[I")) (.int 8)) (by decide +kernel))) (fun j hj => va_eqt (am_fixel hgv j hj)) hA
  have z1 := va_Zof (hts1 (.laysStatic "RuleSheets$Checker" "FIXED" "[I") (List.mem_cons_of_mem _ (List.mem_append_right _ (am_t4 38 rfl)))) (hts1 (.initialized "RuleSheets$Checker") (List.mem_cons_of_mem _ (List.mem_append_right _ (am_t1 10 rfl)))) f0 hA
  have z2 := va_Zof (hts1 (.laysStatic "java/lang/String" "COMPACT_STRINGS" "Z") (List.mem_cons_of_mem _ (List.mem_append_right _ (am_t1 89 rfl)))) (hts1 (.initialized "java/lang/String") (List.mem_cons_of_mem _ (List.mem_append_right _ (am_t1 5 rfl)))) (va_eqt (hf (.eq (.static "java/lang/String" "COMPACT_STRINGS" "Z") (.int 1)) (by decide +kernel))) hA
  have k1 : vk_R "RuleSheets$Names" 9 "role init true next does legal goal terminal not distinct " t s := vk_R.of (hts1 (.stringRef "RuleSheets$Names" 9 "role init true next does legal goal terminal not distinct ") (List.mem_cons_of_mem _ (List.mem_append_right _ (am_t1 79 rfl)))) k0
  have hXX : am_X GG s (am_xa b f t v) am_cn am_T0 := am_x0 z1 z2 k1 k2 k3 k4
  have hX0 := vx_Zqof (A := fun q => s.heap.size ≤ q) (hts1 (.laysStatic "java/lang/Throwable" "UNASSIGNED_STACK" "[Ljava/lang/StackTraceElement;") (List.mem_cons_of_mem _ (List.mem_append_right _ (am_t4 229 rfl)))) (hts1 (.initialized "java/lang/Throwable") (List.mem_cons_of_mem _ (List.mem_append_right _ (am_t1 18 rfl)))) (hf (.isRef (.static "java/lang/Throwable" "UNASSIGNED_STACK" "[Ljava/lang/StackTraceElement;")) (by decide +kernel)) hA
  have hX1 := vx_Zqof (A := fun q => s.heap.size ≤ q) (hts1 (.laysStatic "java/lang/Throwable" "SUPPRESSED_SENTINEL" "Ljava/util/List;") (List.mem_cons_of_mem _ (List.mem_append_right _ (am_t4 231 rfl)))) (hts1 (.initialized "java/lang/Throwable") (List.mem_cons_of_mem _ (List.mem_append_right _ (am_t1 18 rfl)))) (hf (.isRef (.static "java/lang/Throwable" "SUPPRESSED_SENTINEL" "Ljava/util/List;")) (by decide +kernel)) hA
  obtain ⟨n, d, μ', hd, hrun, hn, hsl⟩ := hG L xs hL
  have hP := am_all (l := l) (D := D) hls am_allG hXX hX0 hX1 n
  have hRep : am_Rep s (am_xa b f t v) D am_cls (am_m0 L xs) s.heap := am_mem0 hX hbl f1 k5
  have hmono := am_run_mono GG n d am_LAW _ _ _ hrun
  have hm1 : 16 ≤ am_n μ' := hmono.1
  have hM : am_mt GG am_LAW = some am_M295 := rfl
  have hZ : am_Z s D am_cls am_Tn am_Ts am_Nc s := by
    refine ⟨State.WarmedH.refl s, hK, fun w hw => ?_, fun q hq => ?_, fun q hq => va_Nc.of (am_nocast hgv q hq)⟩
    · have h9 := (List.mem_filter.mp hw).2
      simp only [am_stab, Bool.and_eq_true] at h9
      exact va_tabs h9.1 rfl (htn w hw)
    · have h9 := hts1 _ (List.mem_cons_of_mem _ (List.mem_append_right _ (am_strs q hq)))
      obtain ⟨a9, ha9⟩ := am_sref h9
      exact ⟨a9, vk_R.of h9 ha9⟩
  have hBd : am_Bd p s m #[Value.ref b] meth c s D am_cls am_cn am_T0 am_Tn (am_Mc am_M295) (am_Mo am_M295) (am_Ml am_M295) (decide ((am_My am_M295).name = "<init>")) (am_Mr am_M295) :=
    ⟨hx, hb, hml, hown, hts, htn, hK, Vm.Alike.refl _, hret, hlocks, fun h => by cases h⟩
  have hW := hP d am_LAW am_M295 0 _ [] (am_m0 L xs) _ μ' hrun hM p e room_1 s m #[Value.ref b] below meth c 16 0 (am_n μ' - 16) (am_sl μ') hBd hZ htab (fun q _ => rfl) rfl (Nat.le_refl _) (Nat.le_refl _) (by omega) (by omega) (by show am_n μ' - 16 ≤ 61024; omega) (by show am_sl μ' ≤ 8913034; omega) (by show d + 7 ≤ 2048; omega) (by show 80 * d + 200 ≤ 84000; omega)
  have hent : lv_has ((lg_sl [Value.ref b] ++ List.replicate (7 - (lg_sl [Value.ref b]).length) Slot.unset).toArray) 7 (am_cl s.heap.size (am_xa b f t v) (am_ent GG am_LAW [.ref 0])) := am_hent (vs := [.ref 0]) (lv_entry [Value.ref b] (n := 7) (by show 1 ≤ 7; omega))
  have hW2 := hW s.heap _ [] 0 0 hRep hent (fun z hz => nomatch hz) rfl rfl
  rw [lg_entry_eq]
  intro T hT X
  obtain ⟨t9, a1, o, b1, b2, b3⟩ := hW2 T hT X
  refine ⟨t9, a1, o, b1, b2, ?_⟩
  rcases b3 with ⟨⟨⟨v9, e1, e2⟩, -⟩, Lc, hfe, hfree⟩ | ⟨q, -, E, ce, L9, ⟨⟨x9, hx9, -⟩, -⟩, -⟩
  · cases e1
    refine ⟨e2, ?_⟩
    obtain ⟨f1, f2, f3⟩ := hfe
    refine ⟨f1, f2, f3.weaken (fun y hy hlt => absurd hlt (Nat.not_lt.mpr (hfree y hy))) (by omega) (by omega)⟩
  · cases hx9
