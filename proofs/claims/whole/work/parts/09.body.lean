/-! ===== the whole run, by how long it is ===== -/
section AMB
variable {l : Launch} {G : am_G} {s0 : State} {xa : Nat → Nat} {D : va_G} {cl : List vw_C} {cn : Nat → String} {T0 Tn : List Cond} {Ts : List (String × Nat × String)} {Nc : List (String × String)} {exn : Nat → String}
def am_P (l : Launch) (G : am_G) (s0 : State) (xa : Nat → Nat) (D : va_G) (cl : List vw_C) (cn : Nat → String) (T0 Tn : List Cond) (Ts : List (String × Nat × String)) (Nc : List (String × String)) (exn : Nat → String) (n : Nat) : Prop :=
  ∀ (d k : Nat) (M : am_M) (pc : Nat) (lv : List (Option Value)) (st : List Value) (μ : am_Mem) (o : Option Value ⊕ Nat) (μ' : am_Mem), am_run G n d k (pc, lv, st, μ) = some (o, μ') → am_mt G k = some M →
  ∀ (p : Program) (e : Env) (R : Room) (s : State) (m : MethodId) (args : Array Value) (below : List Frame) (meth : Method) (c : Code) (n0 z0 mc ms : Nat),
    am_Bd p s m args meth c s0 D cl cn T0 Tn (am_Mc M) (am_Mo M) (am_Ml M) (decide ((am_My M).name = "<init>")) (am_Mr M) → am_Z s0 D cl Tn Ts Nc s → c.exceptionTable.toList = tableOf (am_Mh M) → (∀ q, q < s0.heap.size → s.heap[q]? = s0.heap[q]?) → s.heap.size + 16 = s0.heap.size + n0 → n0 ≤ am_n μ → z0 ≤ am_sl μ → mc + n0 = am_n μ' → ms + z0 = am_sl μ' → mc ≤ R.cells → ms ≤ R.slots → am_fr d ≤ R.frames → am_lo d ≤ R.locals →
    am_K p l e R s m args below meth c (vx_MQ below (am_Qc s0 xa D cl o μ') (am_Xc s0 xa D cl exn o μ') args s mc ms (fun q => s0.heap.size ≤ q)) s0 xa D cl (am_Ml M) n0 z0 pc lv st μ
theorem am_met_of {n : Nat} (hP : am_P l G s0 xa D cl cn T0 Tn Ts Nc exn n) (ok : am_All G cl cn T0 Tn Ts Nc exn) {d k : Nat} {M : am_M} {vs : List Value} {μ μ' : am_Mem} {o : Option Value ⊕ Nat} (hrun : am_run G n d k (0, am_ent G k vs, [], μ) = some (o, μ')) (hM : am_mt G k = some M) (hlen : (lg_sl vs).length ≤ am_Ml M) : am_Met l s0 xa D cl T0 Tn Ts Nc exn d M vs μ o μ' := by
  have hmono := am_run_mono G n d k _ o μ' hrun
  obtain ⟨hw1, hw2, hw3, hw4, hw5, hw6, -⟩ := ok.2.1.1 k M hM
  have main : ∀ (p : Program) (e : Env) (s : State) (m : MethodId) (args : Array Value) (below : List Frame) (meth : Method) (c : Code) (s₁ : State), BodyLoose p l (am_My M) (headSpec (am_cw M :: T0) (am_rmr d (am_n μ' - am_n μ) (am_sl μ' - am_sl μ))) (am_Mc M) (am_Ml M) (am_Mr M) e s m args below meth c s₁ → c.maxLocals = am_Ml M → c.exceptionTable.toList = tableOf (am_Mh M) → am_Pc s0 xa D cl Tn Ts Nc vs μ args s →
      W p l e (am_rmr d (am_n μ' - am_n μ) (am_sl μ' - am_sl μ)) s m args below meth c s.heap [] 0 0 (vx_MQ below (am_Qc s0 xa D cl o μ') (am_Xc s0 xa D cl exn o μ') args s (am_n μ' - am_n μ) (am_sl μ' - am_sl μ) (fun q => s0.heap.size ≤ q)) (entryFrame m args (am_Ml M)) := by
    intro p e s m args below meth c s₁ B hml htab hPc
    obtain ⟨rfl, hRep, hZ⟩ := hPc
    have hts0 := atoms_spec (ws := am_cw M :: T0) B.pre
    have hBd : am_Bd p s m (vs.map (am_cv s0.heap.size xa)).toArray meth c s0 D cl cn T0 Tn (am_Mc M) (am_Mo M) (am_Ml M) (decide ((am_My M).name = "<init>")) (am_Mr M) := by
      refine ⟨B.exec, B.bytes, hml, ?_, fun w hw => hts0 w (List.mem_cons_of_mem _ hw), fun w hw => va_Nw.use ?_ (hZ.2.2.1 w hw), hZ.2.1, hZ.1.alike, B.returns, B.notSynchronized, fun h => ?_⟩
      · rw [← hw3]; exact findClass_of_methodNamed B.named
      · have := ok.2.2.2.2.2 w hw
        simp only [am_stab, Bool.and_eq_true] at this
        exact this.1
      · rw [(name_of_methodNamed B.named B.method).1]; exact of_decide_eq_true h
    have hK := hP d k M 0 (am_ent G k vs) [] μ o μ' hrun hM p e (am_rmr d (am_n μ' - am_n μ) (am_sl μ' - am_sl μ)) s m _ below meth c (am_n μ) (am_sl μ) (am_n μ' - am_n μ) (am_sl μ' - am_sl μ) hBd hZ htab hRep.2.2.1 hRep.2.1 (Nat.le_refl _) (Nat.le_refl _) (Nat.sub_add_cancel hmono.1) (Nat.sub_add_cancel hmono.2) (Nat.le_refl _) (Nat.le_refl _) (Nat.le_refl _) (Nat.le_refl _)
    rw [lg_entry_eq]
    refine hK s.heap _ [] 0 0 hRep ?_ (fun z hz => nomatch hz) (Nat.zero_add _) (Nat.zero_add _)
    have hl := lv_entry (vs.map (am_cv s0.heap.size xa)) (n := am_Ml M) (by rw [am_sl_len]; exact hlen)
    have e : am_ent G k vs = am_pad (am_Ml M) (am_lay vs) := by unfold am_ent; rw [hM]
    rw [e]
    exact am_hent hl
  by_cases hMh : am_Mh M = []
  · refine vx_ofW (cc := am_Mc M) (maxL := am_Ml M) (ret := am_Mr M) (ws' := T0) hw4 (by unfold am_cw; rw [if_pos hMh]) ?_
    intro p e s m args below meth c s₁ B hml htab hPc
    refine main p e s m args below meth c s₁ B hml ?_ hPc
    rw [hMh]
    exact List.eq_nil_iff_forall_not_mem.mpr htab
  · refine vx_ofWH (cc := am_Mc M) (maxL := am_Ml M) (ret := am_Mr M) (hh := am_Mh M) (ws' := T0) hw4 (by unfold am_cw; rw [if_neg hMh]) ?_
    intro p e s m args below meth c s₁ B hml hPc
    have hcw := atoms_spec (ws := am_cw M :: T0) B.pre _ List.mem_cons_self
    unfold am_cw at hcw
    rw [if_neg hMh] at hcw
    exact main p e s m args below meth c s₁ B hml (vx_table (x := am_My M) B hcw) hPc
end AMB
