/-! ===== rules for calls, throws, returns ===== -/
section RUL
variable {M M' : am_M} {d k k' pc ix : Nat} {i : Instr} {lv : List (Option Value)} {st rest vs : List Value} {μ : am_Mem} {Q Q1 : Option Value ⊕ Nat → am_Mem → Prop}
/-- the instruction at a place -/
def am_dc1 (M : am_M) (pc : Nat) (i : Instr) (len : Nat) : Bool := match decode (am_Mc M) pc with
  | .ok (j, n) => decide (j = i) && Nat.beq n len
  | _ => false
theorem am_dc1_ok {len : Nat} (h : am_dc1 M pc i len = true) : decode (am_Mc M) pc = .ok (i, len) := by
  unfold am_dc1 at h
  split at h
  · rename_i j n he
    simp only [Bool.and_eq_true, decide_eq_true_eq] at h
    rw [he, h.1, Nat.eq_of_beq_eq_true h.2]
  · cases h
theorem wp_call (hM : am_mt GG k = some M) (hd : decode (am_Mc M) pc = .ok (i, 3)) (hcal : am_callee GG (am_Mo M) i st μ = some (k', vs, rest)) (hs : (rest.map fun v => v.category).sum ≤ 8) (h : Wp d k' (0, am_ent GG k' vs, [], μ) Q1) (hr : ∀ v μ', Q1 (.inl v) μ' → Wp (d + 1) k (pc + 3, lv, v.toList ++ rest, μ') Q)
    (hx : ∀ x μ', Q1 (.inr x) μ' → am_isp i = false ∧ ((am_Mh M = [] ∧ Q (.inr x) μ') ∨ (¬ am_Mh M = [] ∧ ∃ pc' j, am_hand GG (am_Mo M) k pc x (am_Mh M) = some (pc', j) ∧ j < am_Ml M ∧ Wp (d + 1) k (pc', am_drp lv j, [], μ') Q))) : Wp (d + 1) k (pc, lv, st, μ) Q := by
  obtain ⟨n, o, μ1, h1, h2⟩ := h
  cases o with
  | inl v =>
    obtain ⟨m, o2, μ2, h3, h4⟩ := hr v μ1 h2
    refine ⟨n + m + 1, o2, μ2, ?_, h4⟩
    unfold am_run
    simp only [hM, hd, hcal]
    rw [if_pos ⟨trivial, hs⟩, am_run_fuel GG n _ _ _ _ h1 (n + m) (by omega)]
    exact am_run_fuel GG m _ _ _ _ h3 (n + m) (by omega)
  | inr x =>
    obtain ⟨hi, hc⟩ := hx x μ1 h2
    have hni : ¬ am_isp i = true := by rw [hi]; decide
    rcases hc with ⟨hh, hq⟩ | ⟨hh, pc2, j, ha, hj, m, o2, μ2, h3, h4⟩
    · refine ⟨n + 1, .inr x, μ1, ?_, hq⟩
      unfold am_run
      simp only [hM, hd, hcal]
      rw [if_pos ⟨trivial, hs⟩, h1]
      simp only
      rw [if_neg hni, if_pos hh]
    · refine ⟨n + m + 1, o2, μ2, ?_, h4⟩
      unfold am_run
      simp only [hM, hd, hcal]
      rw [if_pos ⟨trivial, hs⟩, am_run_fuel GG n _ _ _ _ h1 (n + m) (by omega)]
      simp only
      rw [if_neg hni, if_neg hh, ha]
      simp only
      rw [if_pos hj]
      exact am_run_fuel GG m _ _ _ _ h3 (n + m) (by omega)
def am_cc (kd : Nat) (M' : am_M) (as : List Value) (vs rest : List Value) : Bool := Nat.beq (am_Mk M') kd && Nat.beq as.length (am_Ma M') && Nat.ble (lg_sl vs).length (am_Ml M') && Nat.ble (rest.map fun v => v.category).sum 8
theorem am_cc_ok {kd : Nat} {as : List Value} (h : am_cc kd M' as vs rest = true) : am_Mk M' = kd ∧ as.length = am_Ma M' ∧ (lg_sl vs).length ≤ am_Ml M' ∧ (rest.map fun v => v.category).sum ≤ 8 := by
  simp only [am_cc, Bool.and_eq_true] at h
  exact ⟨Nat.eq_of_beq_eq_true h.1.1.1, Nat.eq_of_beq_eq_true h.1.1.2, Nat.le_of_ble_eq_true h.1.2, Nat.le_of_ble_eq_true h.2⟩
theorem am_tk_rev {as rest : List Value} : ((as.reverse ++ rest).take as.length).reverse = as ∧ (as.reverse ++ rest).drop as.length = rest := by
  have e : as.length = as.reverse.length := by rw [List.length_reverse]
  rw [e, List.take_left, List.drop_left, List.reverse_reverse]
  exact ⟨rfl, rfl⟩
theorem am_cal_s {oc : Nat} (hrm : am_rm GG oc ix = some k') (hM' : am_mt GG k' = some M') (hc : am_cc 0 M' vs vs rest = true) : am_callee GG oc (.invokestatic ix) (vs.reverse ++ rest) μ = some (k', vs, rest) := by
  obtain ⟨h1, h2, h3, h4⟩ := am_cc_ok hc
  obtain ⟨e1, e2⟩ := am_tk_rev (as := vs) (rest := rest)
  simp only [am_callee, hrm, hM']
  rw [← h2, e1, e2, if_pos ⟨h1, by simp, h3⟩]
theorem am_cal_v {oc a : Nat} {as : List Value} (hrm : am_rm GG oc ix = some k') (hM' : am_mt GG k' = some M') (hc : am_cc 1 M' as (.ref a :: as) rest = true) (hk : am_kd μ a = (1, am_Mo M') ∨ am_xo GG a = some (am_Mo M')) : am_callee GG oc (.invokevirtual ix) (as.reverse ++ .ref a :: rest) μ = some (k', .ref a :: as, rest) := by
  obtain ⟨h1, h2, h3, h4⟩ := am_cc_ok hc
  obtain ⟨e1, e2⟩ := am_tk_rev (as := as) (rest := .ref a :: rest)
  simp only [am_callee, hrm, hM']
  rw [← h2, e1, e2]
  simp only
  rw [if_pos ⟨h1, hk, by simp, h3⟩]
theorem am_cal_i {oc a : Nat} {as : List Value} (hrm : am_rm GG oc ix = some k') (hM' : am_mt GG k' = some M') (hc : am_cc 2 M' as (.ref a :: as) rest = true) : am_callee GG oc (.invokespecial ix) (as.reverse ++ .ref a :: rest) μ = some (k', .ref a :: as, rest) := by
  obtain ⟨h1, h2, h3, h4⟩ := am_cc_ok hc
  obtain ⟨e1, e2⟩ := am_tk_rev (as := as) (rest := .ref a :: rest)
  simp only [am_callee, hrm, hM']
  rw [← h2, e1, e2]
  simp only
  rw [if_pos ⟨h1, by simp, h3⟩]
/-- a call of a static method, from a method without handlers -/
theorem wp_cs (hM : am_mt GG k = some M) (hd : am_dc1 M pc (.invokestatic ix) 3 = true) (hh : am_Mh M = []) (hrm : am_rm GG (am_Mo M) ix = some k') (hM' : am_mt GG k' = some M') (hst : st = vs.reverse ++ rest) (hc : am_cc 0 M' vs vs rest = true) (h : Wp d k' (0, am_ent GG k' vs, [], μ) Q1) (hr : ∀ v μ', Q1 (.inl v) μ' → Wp (d + 1) k (pc + 3, lv, v.toList ++ rest, μ') Q) (hx : ∀ x μ', Q1 (.inr x) μ' → Q (.inr x) μ') : Wp (d + 1) k (pc, lv, st, μ) Q := by
  subst hst
  exact wp_call hM (am_dc1_ok hd) (am_cal_s hrm hM' hc) (am_cc_ok hc).2.2.2 h hr fun x μ' hq => ⟨rfl, Or.inl ⟨hh, hx x μ' hq⟩⟩
theorem wp_cv {a : Nat} {as : List Value} (hM : am_mt GG k = some M) (hd : am_dc1 M pc (.invokevirtual ix) 3 = true) (hh : am_Mh M = []) (hrm : am_rm GG (am_Mo M) ix = some k') (hM' : am_mt GG k' = some M') (hst : st = as.reverse ++ .ref a :: rest) (hc : am_cc 1 M' as (.ref a :: as) rest = true) (hk : am_kd μ a = (1, am_Mo M')) (h : Wp d k' (0, am_ent GG k' (.ref a :: as), [], μ) Q1) (hr : ∀ v μ', Q1 (.inl v) μ' → Wp (d + 1) k (pc + 3, lv, v.toList ++ rest, μ') Q) (hx : ∀ x μ', Q1 (.inr x) μ' → Q (.inr x) μ') : Wp (d + 1) k (pc, lv, st, μ) Q := by
  subst hst
  exact wp_call hM (am_dc1_ok hd) (am_cal_v hrm hM' hc (Or.inl hk)) (am_cc_ok hc).2.2.2 h hr fun x μ' hq => ⟨rfl, Or.inl ⟨hh, hx x μ' hq⟩⟩
theorem wp_cx {a : Nat} {as : List Value} (hM : am_mt GG k = some M) (hd : am_dc1 M pc (.invokevirtual ix) 3 = true) (hh : am_Mh M = []) (hrm : am_rm GG (am_Mo M) ix = some k') (hM' : am_mt GG k' = some M') (hst : st = as.reverse ++ .ref a :: rest) (hc : am_cc 1 M' as (.ref a :: as) rest = true) (hk : am_xo GG a = some (am_Mo M')) (h : Wp d k' (0, am_ent GG k' (.ref a :: as), [], μ) Q1) (hr : ∀ v μ', Q1 (.inl v) μ' → Wp (d + 1) k (pc + 3, lv, v.toList ++ rest, μ') Q) (hx : ∀ x μ', Q1 (.inr x) μ' → Q (.inr x) μ') : Wp (d + 1) k (pc, lv, st, μ) Q := by
  subst hst
  exact wp_call hM (am_dc1_ok hd) (am_cal_v hrm hM' hc (Or.inr hk)) (am_cc_ok hc).2.2.2 h hr fun x μ' hq => ⟨rfl, Or.inl ⟨hh, hx x μ' hq⟩⟩
theorem wp_ci {a : Nat} {as : List Value} (hM : am_mt GG k = some M) (hd : am_dc1 M pc (.invokespecial ix) 3 = true) (hrm : am_rm GG (am_Mo M) ix = some k') (hM' : am_mt GG k' = some M') (hst : st = as.reverse ++ .ref a :: rest) (hc : am_cc 2 M' as (.ref a :: as) rest = true) (h : Wp d k' (0, am_ent GG k' (.ref a :: as), [], μ) Q1) (hr : ∀ v μ', Q1 (.inl v) μ' → Wp (d + 1) k (pc + 3, lv, v.toList ++ rest, μ') Q) (hx : ∀ x μ', ¬ Q1 (.inr x) μ') : Wp (d + 1) k (pc, lv, st, μ) Q := by
  subst hst
  exact wp_call hM (am_dc1_ok hd) (am_cal_i hrm hM' hc) (am_cc_ok hc).2.2.2 h hr fun x μ' hq => absurd hq (hx x μ')
/-- a call within a try: what is thrown is caught -/
theorem wp_ch {a : Nat} {as : List Value} (hM : am_mt GG k = some M) (hd : am_dc1 M pc (.invokevirtual ix) 3 = true) (hh : ¬ am_Mh M = []) (hrm : am_rm GG (am_Mo M) ix = some k') (hM' : am_mt GG k' = some M') (hst : st = as.reverse ++ .ref a :: rest) (hc : am_cc 1 M' as (.ref a :: as) rest = true) (hk : am_kd μ a = (1, am_Mo M')) (h : Wp d k' (0, am_ent GG k' (.ref a :: as), [], μ) Q1) (hr : ∀ v μ', Q1 (.inl v) μ' → Wp (d + 1) k (pc + 3, lv, v.toList ++ rest, μ') Q)
    (hx : ∀ x μ', Q1 (.inr x) μ' → ∃ pc' j, am_hand GG (am_Mo M) k pc x (am_Mh M) = some (pc', j) ∧ j < am_Ml M ∧ Wp (d + 1) k (pc', am_drp lv j, [], μ') Q) : Wp (d + 1) k (pc, lv, st, μ) Q := by
  subst hst
  exact wp_call hM (am_dc1_ok hd) (am_cal_v hrm hM' hc (Or.inl hk)) (am_cc_ok hc).2.2.2 h hr fun x μ' hq => ⟨rfl, Or.inr ⟨hh, hx x μ' hq⟩⟩
theorem wp_throw {x : Nat} (hM : am_mt GG k = some M) (hd : am_dc1 M pc i 3 = true) (hi : ∃ ik, i = .new ik) (hh : am_Mh M = []) (hth : am_throw GG (am_Mo M) k pc i = some x) (hs : Nat.ble (st.map fun v => v.category).sum 8 = true) (hq : Q (.inr x) (am_nX μ)) : Wp d k (pc, lv, st, μ) Q := by
  obtain ⟨ik, rfl⟩ := hi
  refine ⟨1, .inr x, am_nX μ, ?_, hq⟩
  have hcal : am_callee GG (am_Mo M) (.new ik) st μ = none := rfl
  unfold am_run
  simp only [hM, am_dc1_ok hd, hcal, hth]
  rw [if_pos ⟨trivial, hh, Nat.le_of_ble_eq_true hs⟩]
theorem wp_ri {ty : FieldType} {x : Int32} (hM : am_mt GG k = some M) (hd : am_dec M [(pc, .ireturn, 1)] = true) (hr : am_Mr M = some ty) (hn : narrow ty (.int x) = .int x ∧ fits ty (.int x) = true) (hq : Q (.inl (some (.int x))) μ) : Wp d k (pc, lv, [.int x], μ) Q := by
  refine wp_ret (v := some (.int x)) hM hd ?_ hq
  rw [hr]
  simp only [am_step]
  rw [if_pos hn]
theorem wp_rl {x : Int64} (hM : am_mt GG k = some M) (hd : am_dec M [(pc, .lreturn, 1)] = true) (hr : am_Mr M = some .long) (hq : Q (.inl (some (.long x))) μ) : Wp d k (pc, lv, [.long x], μ) Q := by
  refine wp_ret (v := some (.long x)) hM hd ?_ hq
  rw [hr]
  rfl
theorem wp_ra {x : Nat} {ty : FieldType} (hM : am_mt GG k = some M) (hd : am_dec M [(pc, .areturn, 1)] = true) (hr : am_Mr M = some (.array ty)) (hq : Q (.inl (some (.ref x))) μ) : Wp d k (pc, lv, [.ref x], μ) Q := by
  refine wp_ret (v := some (.ref x)) hM hd ?_ hq
  rw [hr]
  rfl
theorem wp_rv (hM : am_mt GG k = some M) (hd : am_dec M [(pc, .return_, 1)] = true) (hr : am_Mr M = none) (hq : Q (.inl none) μ) : Wp d k (pc, lv, [], μ) Q := by
  refine wp_ret (v := none) hM hd ?_ hq
  rw [hr]
  rfl
end RUL
/-- a contract's end: an int, or a throw -/
def pI (P : Int32 → am_Mem → Prop) (X : Nat → am_Mem → Prop) : Option Value ⊕ Nat → am_Mem → Prop := fun o μ => match o with
  | .inl (some (.int x)) => P x μ
  | .inr e => X e μ
  | _ => False
def pL (P : Int64 → am_Mem → Prop) (X : Nat → am_Mem → Prop) : Option Value ⊕ Nat → am_Mem → Prop := fun o μ => match o with
  | .inl (some (.long x)) => P x μ
  | .inr e => X e μ
  | _ => False
def pR (P : Nat → am_Mem → Prop) (X : Nat → am_Mem → Prop) : Option Value ⊕ Nat → am_Mem → Prop := fun o μ => match o with
  | .inl (some (.ref x)) => P x μ
  | .inr e => X e μ
  | _ => False
def pV (P : am_Mem → Prop) (X : Nat → am_Mem → Prop) : Option Value ⊕ Nat → am_Mem → Prop := fun o μ => match o with
  | .inl none => P μ
  | .inr e => X e μ
  | _ => False
def noX : Nat → am_Mem → Prop := fun _ _ => False
theorem pI_r {P : Int32 → am_Mem → Prop} {X : Nat → am_Mem → Prop} {v : Option Value} {μ : am_Mem} (h : pI P X (.inl v) μ) : ∃ x, v = some (.int x) ∧ P x μ := by
  cases v with
  | none => exact h.elim
  | some v => cases v <;> first | exact ⟨_, rfl, h⟩ | exact h.elim
theorem pL_r {P : Int64 → am_Mem → Prop} {X : Nat → am_Mem → Prop} {v : Option Value} {μ : am_Mem} (h : pL P X (.inl v) μ) : ∃ x, v = some (.long x) ∧ P x μ := by
  cases v with
  | none => exact h.elim
  | some v => cases v <;> first | exact ⟨_, rfl, h⟩ | exact h.elim
theorem pR_r {P : Nat → am_Mem → Prop} {X : Nat → am_Mem → Prop} {v : Option Value} {μ : am_Mem} (h : pR P X (.inl v) μ) : ∃ x, v = some (.ref x) ∧ P x μ := by
  cases v with
  | none => exact h.elim
  | some v => cases v <;> first | exact ⟨_, rfl, h⟩ | exact h.elim
theorem pV_r {P : am_Mem → Prop} {X : Nat → am_Mem → Prop} {v : Option Value} {μ : am_Mem} (h : pV P X (.inl v) μ) : v = none ∧ P μ := by
  cases v with
  | none => exact ⟨rfl, h⟩
  | some v => exact h.elim
