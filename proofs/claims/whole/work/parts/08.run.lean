/-! ===== a run of the small machine is a run of the machine ===== -/
def am_nst (w : Cond) : Bool := match w with
  | .fieldLinkNest _ _ _ _ _ _ => true
  | .methodLinkNest _ _ _ _ => true
  | _ => false
/-- words that stay, but aren't among the good ones -/
def am_stab (w : Cond) : Bool := w.onTables && (w.keepsFace || am_nst w)
theorem am_stab_warm {w : Cond} (h : am_stab w = true) {s U : State} (hW : s.WarmedH U.vm) (hZ : va_Nw w s) : va_Nw w U := by
  simp only [am_stab, Bool.and_eq_true, Bool.or_eq_true] at h
  rcases h with ⟨h1, h2 | h2⟩
  · exact va_tabs h1 (rfl : (s.setVm U.vm).vm = U.vm) (Cond.before_shiftedFace (args := #[]) (State.Shifted.of_warmed hW) w h2 hZ)
  · cases w with
    | fieldLinkNest a b c d e f => exact va_Nw.warmF hW hZ
    | methodLinkNest a b c d => exact va_Nw.warmM hW hZ
    | _ => cases h2
/-- what every state of the run knows of the tables -/
def am_Z (s0 : State) (D : va_G) (cl : List vw_C) (Tn : List Cond) (Ts : List (String × Nat × String)) (Nc : List (String × String)) (U : State) : Prop :=
  s0.WarmedH U.vm ∧ va_K D cl [] U ∧ (∀ w ∈ Tn, va_Nw w U) ∧ (∀ q ∈ Ts, ∃ sa, vk_R q.1 q.2.1 q.2.2 sa U) ∧ (∀ q ∈ Nc, va_Nc q.1 q.2 U)
theorem am_Z.warm {s0 s U : State} {D : va_G} {cl : List vw_C} {Tn : List Cond} {Ts : List (String × Nat × String)} {Nc : List (String × String)} (hst : ∀ w ∈ Tn, am_stab w = true) (h : am_Z s0 D cl Tn Ts Nc s) (hW : s.WarmedH U.vm) : am_Z s0 D cl Tn Ts Nc U := by
  obtain ⟨h1, h2, h3, h4, h5⟩ := h
  refine ⟨State.WarmedH.trans h1 hW, va_K.moved hW.alike h2, fun w hw => am_stab_warm (hst w hw) hW (h3 w hw), fun q hq => ?_, fun q hq => va_Nc.moved hW.alike (h5 q hq)⟩
  obtain ⟨sa, h⟩ := h4 q hq
  exact ⟨sa, vk_R.warm hW h⟩
def am_Pc (s0 : State) (xa : Nat → Nat) (D : va_G) (cl : List vw_C) (Tn : List Cond) (Ts : List (String × Nat × String)) (Nc : List (String × String)) (vs : List Value) (μ : am_Mem) : Array Value → State → Prop := fun av U =>
  av = (vs.map (am_cv s0.heap.size xa)).toArray ∧ am_Rep s0 xa D cl μ U.heap ∧ am_Z s0 D cl Tn Ts Nc U
def am_Qc (s0 : State) (xa : Nat → Nat) (D : va_G) (cl : List vw_C) (o : Option Value ⊕ Nat) (μ : am_Mem) : Array Value → State → Outcome → State → Prop := fun _ _ oc t =>
  (∃ v, o = .inl v ∧ oc = .returned (v.map (am_cv s0.heap.size xa))) ∧ am_Rep s0 xa D cl μ t.heap
def am_Xc (s0 : State) (xa : Nat → Nat) (D : va_G) (cl : List vw_C) (exn : Nat → String) (o : Option Value ⊕ Nat) (μ : am_Mem) : String → State → State → Prop := fun E _ t =>
  (∃ x, o = .inr x ∧ E = exn x) ∧ am_Rep s0 xa D cl μ t.heap
def am_cw (M : am_M) : Cond := if am_Mh M = [] then .code (am_My M) (am_Mc M) (am_Ml M) (am_Mr M) else .codeWith (am_My M) (am_Mc M) (am_Ml M) (am_Mr M) (am_Mh M)
def am_fr (d : Nat) : Nat := d + 7
def am_lo (d : Nat) : Nat := 80 * d + 200
def am_rmr (d mc ms : Nat) : Room := { frames := am_fr d, cells := mc, slots := ms, locals := am_lo d }
def am_Met (l : Launch) (s0 : State) (xa : Nat → Nat) (D : va_G) (cl : List vw_C) (T0 Tn : List Cond) (Ts : List (String × Nat × String)) (Nc : List (String × String)) (exn : Nat → String) (d : Nat) (M : am_M) (vs : List Value) (μ : am_Mem) (o : Option Value ⊕ Nat) (μ' : am_Mem) : Prop :=
  vx_Met l (am_My M) (am_cw M :: T0) (am_rmr d (am_n μ' - am_n μ) (am_sl μ' - am_sl μ)) (am_Pc s0 xa D cl Tn Ts Nc vs μ) (am_Qc s0 xa D cl o μ') (am_Xc s0 xa D cl exn o μ') (am_n μ' - am_n μ) (am_sl μ' - am_sl μ) (fun q => s0.heap.size ≤ q)
/-- the methods are as the words have them -/
def am_OkM (G : am_G) (cn : Nat → String) (T0 Tn : List Cond) : Prop :=
  (∀ k M, am_mt G k = some M → am_cw M ∈ T0 ∧ am_Ml M ≤ 60 ∧ (am_My M).cls = cn (am_Mo M) ∧ plainName (am_My M).cls = true ∧ ((am_My M).cls ≠ "java/lang/invoke/MethodHandle" ∧ (am_My M).cls ≠ "java/lang/invoke/VarHandle" ∧ (parseMethodDescriptor (am_My M).desc).map (fun d => d.parameters.length) = some (am_Ma M)) ∧ Cond.initialized (am_My M).cls ∈ T0 ∧
    (am_Mk M = 0 → Cond.static (am_My M) ∈ T0) ∧ (am_Mk M = 1 → am_Mh M = [] ∧ Cond.instanceMethod (am_My M) ∈ T0 ∧ Cond.selects (am_My M).cls (am_My M) (am_My M) ∈ T0) ∧ (am_Mk M = 2 → am_Mh M = [] ∧ (am_My M).name = "<init>" ∧ Cond.instanceMethod (am_My M) ∈ T0 ∧ am_Mr M = none)) ∧
  (∀ oc ix k M, am_rm G oc ix = some k → am_mt G k = some M → Cond.methodLink (cn oc) ix (am_My M) ∈ T0 ∨ (am_Mk M = 2 ∧ ∃ h, Cond.methodLinkNest (cn oc) ix (am_My M) h ∈ Tn))
def am_OkT (G : am_G) (cn : Nat → String) (T0 Tn : List Cond) (Ts : List (String × Nat × String)) (exn : Nat → String) : Prop := ∀ oc ik is ic x, am_th G oc ik is ic = some x → ∃ (text : String) (names : List String), Bundle.fit (exn x) = true ∧ (∀ n ∈ names, Bundle.fit n = true) ∧ names.length ≤ 2 ∧ Cond.classLink (cn oc) ik (exn x) ∈ T0 ∧ Cond.initialized (exn x) ∈ T0 ∧ (∀ w ∈ vx_atS (cn oc) ic (exn x) names, w ∈ T0 ∨ w ∈ Tn) ∧ (∀ w ∈ Cond.classLink (cn oc) ik (exn x) :: Cond.initialized (exn x) :: vx_atS (cn oc) ic (exn x) names, vx_ot w = true) ∧ (cn oc, is, text) ∈ Ts
def am_OkH (G : am_G) (cn : Nat → String) (T0 Tn : List Cond) (Nc : List (String × String)) (exn : Nat → String) : Prop := ∀ oc ix x b, am_ct G oc ix x = some b → ¬ ix = 0 ∧ ∃ nm, Cond.classLink (cn oc) ix nm ∈ T0 ∧ (b = true → Cond.castable (exn x) nm ∈ Tn) ∧ (b = false → (exn x, nm) ∈ Nc)
def am_All (G : am_G) (cl : List vw_C) (cn : Nat → String) (T0 Tn : List Cond) (Ts : List (String × Nat × String)) (Nc : List (String × String)) (exn : Nat → String) : Prop :=
  am_Ok G cl cn T0 Tn ∧ am_OkM G cn T0 Tn ∧ am_OkT G cn T0 Tn Ts exn ∧ am_OkH G cn T0 Tn Nc exn ∧ (∀ w ∈ T0, goodWord w = true) ∧ (∀ w ∈ Tn, am_stab w = true)
theorem am_callee_inv {G : am_G} {oc : Nat} {i : Instr} {st : List Value} {μ : am_Mem} {k : Nat} {vs rest : List Value} (h : am_callee G oc i st μ = some (k, vs, rest)) : ∃ ix M, am_rm G oc ix = some k ∧ am_mt G k = some M ∧ (lg_sl vs).length ≤ am_Ml M ∧
    ((i = .invokestatic ix ∧ am_Mk M = 0 ∧ st = vs.reverse ++ rest ∧ vs.length = am_Ma M) ∨
     (∃ a as, vs = .ref a :: as ∧ st = as.reverse ++ .ref a :: rest ∧ as.length = am_Ma M ∧ ((i = .invokevirtual ix ∧ am_Mk M = 1 ∧ (am_kd μ a = (1, am_Mo M) ∨ am_xo G a = some (am_Mo M))) ∨ (i = .invokespecial ix ∧ am_Mk M = 2)))) := by
  cases i with
  | invokestatic ix =>
    simp only [am_callee] at h
    split at h
    · rename_i k1 hk1
      split at h
      · rename_i M hM
        split at h
        · rename_i hc
          cases h
          refine ⟨ix, M, hk1, hM, hc.2.2, Or.inl ⟨rfl, hc.1, ?_, ?_⟩⟩
          · rw [List.reverse_reverse, List.take_append_drop]
          · rw [List.length_reverse, List.length_take]; omega
        · cases h
      · cases h
    · cases h
  | invokevirtual ix =>
    simp only [am_callee] at h
    split at h
    · rename_i k1 hk1
      split at h
      · rename_i M hM
        split at h
        · rename_i a rest1 hdr
          split at h
          · rename_i hc
            cases h
            refine ⟨ix, M, hk1, hM, hc.2.2.2, Or.inr ⟨a, _, rfl, ?_, ?_, Or.inl ⟨rfl, hc.1, hc.2.1⟩⟩⟩
            · rw [List.reverse_reverse, ← hdr, List.take_append_drop]
            · rw [List.length_reverse, List.length_take]; omega
          · cases h
        · cases h
      · cases h
    · cases h
  | invokespecial ix =>
    simp only [am_callee] at h
    split at h
    · rename_i k1 hk1
      split at h
      · rename_i M hM
        split at h
        · rename_i a rest1 hdr
          split at h
          · rename_i hc
            cases h
            refine ⟨ix, M, hk1, hM, hc.2.2, Or.inr ⟨a, _, rfl, ?_, ?_, Or.inr ⟨rfl, hc.1⟩⟩⟩
            · rw [List.reverse_reverse, ← hdr, List.take_append_drop]
            · rw [List.length_reverse, List.length_take]; omega
          · cases h
        · cases h
      · cases h
    · cases h
  | _ => cases h
theorem am_fetch_inv {G : am_G} {k pc : Nat} {M : am_M} {x : Instr × Nat} (hM : am_mt G k = some M) (h : am_fetch G k pc = some x) : decode (am_Mc M) pc = .ok x := by
  unfold am_fetch at h
  rw [hM] at h
  simp only at h
  split at h
  · rename_i y hy
    cases h
    exact hy
  · cases h
theorem am_throw_inv {G : am_G} {oc k pc : Nat} {i : Instr} {x : Nat} {M : am_M} (hM : am_mt G k = some M) (h : am_throw G oc k pc i = some x) : ∃ ik is ic, i = .new ik ∧ decode (am_Mc M) (pc + 3) = .ok (.dup, 1) ∧ ((decode (am_Mc M) (pc + 4) = .ok (.ldc is, 2) ∧ decode (am_Mc M) (pc + 6) = .ok (.invokespecial ic, 3) ∧ decode (am_Mc M) (pc + 9) = .ok (.athrow, 1)) ∨ (decode (am_Mc M) (pc + 4) = .ok (.ldc_w is, 3) ∧ decode (am_Mc M) (pc + 7) = .ok (.invokespecial ic, 3) ∧ decode (am_Mc M) (pc + 10) = .ok (.athrow, 1))) ∧ am_th G oc ik is ic = some x := by
  cases i with
  | new ik =>
    simp only [am_throw] at h
    split at h
    · rename_i h3 h4
      split at h
      · rename_i h6 h9
        exact ⟨ik, _, _, rfl, am_fetch_inv hM h3, Or.inl ⟨am_fetch_inv hM h4, am_fetch_inv hM h6, am_fetch_inv hM h9⟩, h⟩
      · cases h
    · rename_i h3 h4
      split at h
      · rename_i h6 h9
        exact ⟨ik, _, _, rfl, am_fetch_inv hM h3, Or.inr ⟨am_fetch_inv hM h4, am_fetch_inv hM h6, am_fetch_inv hM h9⟩, h⟩
      · cases h
    · cases h
  | _ => cases h
theorem am_mapcat (h0 : Nat) (xa : Nat → Nat) (vs : List Value) : ((vs.map (am_cv h0 xa)).map fun v => v.category) = vs.map fun v => v.category := by
  rw [List.map_map]
  exact List.map_congr_left fun v _ => am_cv_cat h0 xa v
theorem am_sl_len (h0 : Nat) (xa : Nat → Nat) (vs : List Value) : (lg_sl (vs.map (am_cv h0 xa))).length = (lg_sl vs).length := by
  induction vs with
  | nil => rfl
  | cons v vs ih =>
    unfold lg_sl at ih ⊢
    simp only [List.map_cons, List.flatMap_cons, List.length_append, am_cv_cat, ih]
    congr 1
    split <;> rfl
theorem am_hand_inv {G : am_G} {oc k pc x : Nat} {M : am_M} (hM : am_mt G k = some M) : ∀ {hs : List (Nat × Nat × Nat × Nat)} {pc' j : Nat}, am_hand G oc k pc x hs = some (pc', j) → ∃ pre h suf, hs = pre ++ h :: suf ∧ (∀ z ∈ pre, ¬ (z.1 ≤ pc ∧ pc < z.2.1) ∨ am_ct G oc z.2.2.2 x = some false) ∧ (h.1 ≤ pc ∧ pc < h.2.1) ∧ am_ct G oc h.2.2.2 x = some true ∧ ((∃ jj : Fin 4, decode (am_Mc M) h.2.2.1 = .ok (.astore_n jj, 1) ∧ pc' = h.2.2.1 + 1 ∧ j = (jj : Nat)) ∨ (decode (am_Mc M) h.2.2.1 = .ok (.astore j, 2) ∧ pc' = h.2.2.1 + 2)) := by
  intro hs
  induction hs with
  | nil => intro pc' j h; cases h
  | cons h hs ih =>
    intro pc' j hh
    unfold am_hand at hh
    split at hh
    · rename_i hc
      split at hh
      · rename_i ht
        split at hh
        · rename_i jj hf
          cases hh
          exact ⟨[], h, hs, rfl, (fun z hz => nomatch hz), hc, ht, Or.inl ⟨jj, am_fetch_inv hM hf, rfl, rfl⟩⟩
        · rename_i jj hf
          cases hh
          exact ⟨[], h, hs, rfl, (fun z hz => nomatch hz), hc, ht, Or.inr ⟨am_fetch_inv hM hf, rfl⟩⟩
        · cases hh
      · rename_i ht
        obtain ⟨pre, h1, suf, e1, e2, e3⟩ := ih hh
        refine ⟨h :: pre, h1, suf, by rw [e1]; rfl, fun z hz => ?_, e3⟩
        rcases List.mem_cons.mp hz with rfl | hz
        · exact Or.inr ht
        · exact e2 z hz
      · cases hh
    · rename_i hc
      obtain ⟨pre, h1, suf, e1, e2, e3⟩ := ih hh
      refine ⟨h :: pre, h1, suf, by rw [e1]; rfl, fun z hz => ?_, e3⟩
      rcases List.mem_cons.mp hz with rfl | hz
      · exact Or.inl hc
      · exact e2 z hz
