/-! ===== calls, throws, ends; the theorem ===== -/
section AMN
variable {p : Program} {l : Launch} {e : Env} {R : Room} {s : State} {m : MethodId} {args : Array Value} {below : List Frame} {meth : Method} {c : Code} {H : Heap} {locs : List Loc} {cells slots : Nat} {Q : State → Prop}
variable {G : am_G} {s0 : State} {xa : Nat → Nat} {D : va_G} {cl : List vw_C} {cn : Nat → String} {T0 Tn : List Cond} {Ts : List (String × Nat × String)} {Nc : List (String × String)} {exn : Nat → String}
variable {cc : ByteArray} {oc nL n0 z0 : Nat} {ini : Bool} {ret : Option FieldType} {ls : Array Slot} {pc k d : Nat} {i : Instr} {st rest vs : List Value} {μ μ1 : am_Mem} {o1 : Option Value ⊕ Nat}
theorem am_blind (hst : ∀ w ∈ Tn, am_stab w = true) : FrameBlind (am_Pc s0 xa D cl Tn Ts Nc vs μ) := by
  intro a U g mk h
  obtain ⟨h1, h2, h3, h4, h5, h6, h7⟩ := h
  refine ⟨h1, h2, h3, va_K.moved (u := U) (U := U.calling g mk a) (Vm.Alike.refl U.vm) h4, fun w hw => va_tabs ?_ (rfl : U.vm = (U.calling g mk a).vm) (h5 w hw), fun q hq => ?_, fun q hq => h7 q hq⟩
  · have := hst w hw
    simp only [am_stab, Bool.and_eq_true] at this
    exact this.1
  · obtain ⟨sa, hsa⟩ := h6 q hq
    exact ⟨sa, vk_R.same rfl hsa⟩
theorem am_runcall (ok : am_All G cl cn T0 Tn Ts Nc exn) (hXX : am_X G s0 xa cn T0) (hB : am_Bd p s m args meth c s0 D cl cn T0 Tn cc oc nL ini ret) (hZ : am_Z s0 D cl Tn Ts Nc s) (hR : am_Rep s0 xa D cl μ H) {M : am_M} (hMet : am_Met l s0 xa D cl T0 Tn Ts Nc exn d M vs μ o1 μ1) (hM : am_mt G k = some M) (hsp : am_isp i = true → ∃ v, o1 = .inl v)
    (hcal : am_callee G oc i st μ = some (k, vs, rest)) (hd : decode cc pc = .ok (i, 3)) (hsz : ls.size = nL) (hsum : (rest.map fun v => v.category).sum ≤ 8) (hf : cells + (am_n μ1 - am_n μ) ≤ R.cells ∧ slots + (am_sl μ1 - am_sl μ) ≤ R.slots) (hRf : am_fr (d + 1) ≤ R.frames) (hRl : am_lo (d + 1) ≤ R.locals) :
    vx_Run p l e R s m args below meth c H locs cells slots (am_n μ1 - am_n μ) (am_sl μ1 - am_sl μ) (F0 m pc ls (st.map (am_cv s0.heap.size xa))) (rest.map (am_cv s0.heap.size xa)) (am_Qc s0 xa D cl o1 μ1 (vs.map (am_cv s0.heap.size xa)).toArray) (am_Xc s0 xa D cl exn o1 μ1) (fun q => s0.heap.size ≤ q) := by
  obtain ⟨hx, hb, hml, hown, hts, hnt, hK, hal, hret, hlocks, hini⟩ := hB
  obtain ⟨ok1, ok2, ok3, ok4, ok5, ok6⟩ := ok
  obtain ⟨ix, M2, hrm, hM2, hfit, hkind⟩ := am_callee_inv hcal
  cases Option.some.inj (hM.symm.trans hM2)
  obtain ⟨hw1, hw2, hw3, hw4, hw5, hw6, hw7, hw8, hw9⟩ := ok2.1 k M hM
  have hgood : GoodIn T0 (am_cw M :: T0) := by
    refine goodIn_sub (fun w hw => ?_) (List.all_eq_true.mpr fun w hw => ?_)
    · rcases List.mem_cons.mp hw with rfl | h
      · exact hw1
      · exact h
    · rcases List.mem_cons.mp hw with rfl | h
      · exact ok5 _ hw1
      · exact ok5 w h
  have hroom : (am_rmr d (am_n μ1 - am_n μ) (am_sl μ1 - am_sl μ)).frames + 1 ≤ R.frames ∧ 8 + (am_Ml M + 11) + (am_rmr d (am_n μ1 - am_n μ) (am_sl μ1 - am_sl μ)).locals ≤ R.locals := by
    unfold am_fr at hRf
    unfold am_lo at hRl
    show d + 7 + 1 ≤ R.frames ∧ 8 + (am_Ml M + 11) + (80 * d + 200) ≤ R.locals
    omega
  have hPre : ∀ U : State, U.heap = H → s.WarmedH U.vm → am_Pc s0 xa D cl Tn Ts Nc vs μ (vs.map (am_cv s0.heap.size xa)).toArray U := fun U hU hW => ⟨rfl, by rw [hU]; exact hR, hZ.warm ok6 hW⟩
  have hsum' : 2 * (F0 m pc ls (st.map (am_cv s0.heap.size xa))).monitorRoom + ((rest.map (am_cv s0.heap.size xa)).map fun v => v.category).sum ≤ 8 := lv_room (by rw [am_mapcat]; exact hsum)
  rcases hkind with ⟨rfl, hk0, hst, hlen⟩ | ⟨a, as, rfl, hst, hlen, ⟨rfl, hk1, hkd⟩ | ⟨rfl, hk2⟩⟩
  · have hstack : (F0 m pc ls (st.map (am_cv s0.heap.size xa))).stack = (vs.map (am_cv s0.heap.size xa)).reverse ++ rest.map (am_cv s0.heap.size xa) := by
      show st.map _ = _
      rw [hst, List.map_append, List.map_reverse]
    have hlink : Cond.methodLink (cn oc) ix (am_My M) ∈ T0 := by
      rcases ok2.2 oc ix k M hrm hM with h | ⟨h, -⟩
      · exact h
      · rw [hk0] at h; cases h
    by_cases hMh : am_Mh M = []
    · refine vx_runS ⟨hx, hb, hml, hown, hts⟩ hMet ⟨callB_of (am_Ma M) (bytes := am_Mc M) (maxL := am_Ml M) (ret := am_Mr M) (ws' := T0) hts hgood (by unfold am_cw; rw [if_pos hMh]) rfl rfl (hts _ hw6) (hts _ hlink) hw5 hroom, hts _ (hw7 hk0)⟩ ⟨am_blind ok6, hPre⟩ rfl (by rw [List.length_map]; exact hlen) hsz hstack hsum' hd hf
    · have hgS : GoodIn T0 (va_wsS (cn oc) ix (am_My M) (am_cw M :: T0)) := by
        have h3 : ∀ w ∈ ([.methodLink (cn oc) ix (am_My M), .static (am_My M), .initialized (am_My M).cls] : List Cond), w ∈ T0 := by
          intro w hw
          simp only [List.mem_cons, List.not_mem_nil, or_false] at hw
          rcases hw with rfl | rfl | rfl
          · exact hlink
          · exact hw7 hk0
          · exact hw6
        exact goodIn_app (goodIn_sub h3 (List.all_eq_true.mpr fun w hw => ok5 w (h3 w hw))) hgood
      have hcw : vx_CSW R s args (cn oc) ix (am_My M) (am_Mc M) (am_Ml M) (am_Mr M) (am_Mh M) (am_cw M :: T0) (am_rmr d (am_n μ1 - am_n μ) (am_sl μ1 - am_sl μ)) (am_n μ1 - am_n μ) (am_sl μ1 - am_sl μ) (am_Ma M) :=
        vx_cwSW (am_Ma M) (ws' := T0) hts hgS (by unfold am_cw; rw [if_neg hMh]) rfl rfl hw5 hroom
      exact vx_runSX (hh := am_Mh M) (bytes := am_Mc M) (maxL := am_Ml M) (ret := am_Mr M) ⟨hx, hb, hml, hown, hts⟩ hMet hcw ⟨am_blind ok6, hPre⟩ rfl (by rw [List.length_map]; exact hlen) hsz hstack hsum' hd hf
  · have hstack : (F0 m pc ls (st.map (am_cv s0.heap.size xa))).stack = (as.map (am_cv s0.heap.size xa)).reverse ++ .ref (am_ad s0.heap.size xa a) :: rest.map (am_cv s0.heap.size xa) := by
      show st.map _ = _
      rw [hst, List.map_append, List.map_reverse]
      rfl
    have hlink : Cond.methodLink (cn oc) ix (am_My M) ∈ T0 := by
      rcases ok2.2 oc ix k M hrm hM with h | ⟨h, -⟩
      · exact h
      · rw [hk1] at h; cases h
    obtain ⟨hMh, hins, hsel⟩ := hw8 hk1
    obtain ⟨cell, q1, q3, hcl⟩ : ∃ cell : Cell, H[am_ad s0.heap.size xa a]? = some cell ∧ cell.vm.isStatics = false ∧ s.vm.findClass (am_My M).cls = some cell.cls := by
      rcases hkd with hkd | hkd
      · obtain ⟨h16, q, hq, cell, q1, q2, q3, q4⟩ := hR.2.2.2.1 a _ hkd
        obtain ⟨C, T, N⟩ := q
        obtain ⟨hcn, -⟩ := ok1.2.1 _ C T N hq
        refine ⟨cell, q1, by rw [q3]; rfl, ?_⟩
        rw [q2, hw3, ← hcn]
        exact (hK.1 _ _ hq).2.1
      · obtain ⟨h16, hlt, cell, c1, c2, c3⟩ := hXX.2.2.2.1 _ _ hkd
        have had : am_ad s0.heap.size xa a = xa a := by unfold am_ad; rw [if_pos h16]
        exact ⟨cell, by rw [had, hR.2.2.1 _ hlt]; exact c1, c2, by rw [hw3]; rw [hal.findClass]; exact c3⟩
    exact vx_runV (C := (am_My M).cls) ⟨hx, hb, hml, hown, hts⟩ hMet ⟨callB_of (am_Ma M) (bytes := am_Mc M) (maxL := am_Ml M) (ret := am_Mr M) (ws' := T0) hts hgood (by unfold am_cw; rw [if_pos hMh]) rfl rfl (hts _ hw6) (hts _ hlink) hw5 hroom, hts _ hins, hts _ hsel⟩ ⟨am_blind ok6, ⟨cell, q1, q3, hcl⟩, hPre⟩ rfl (by rw [List.length_map]; exact hlen) hsz hstack hsum' hd hf
  · have hstack : (F0 m pc ls (st.map (am_cv s0.heap.size xa))).stack = (as.map (am_cv s0.heap.size xa)).reverse ++ .ref (am_ad s0.heap.size xa a) :: rest.map (am_cv s0.heap.size xa) := by
      show st.map _ = _
      rw [hst, List.map_append, List.map_reverse]
      rfl
    obtain ⟨hMh, hnm, hins, hrn⟩ := hw9 hk2
    obtain ⟨v, rfl⟩ := hsp rfl
    have hMet2 : Met l (am_My M) (am_cw M :: T0) (am_rmr d (am_n μ1 - am_n μ) (am_sl μ1 - am_sl μ)) (am_Pc s0 xa D cl Tn Ts Nc (.ref a :: as) μ) (am_Qc s0 xa D cl (.inl v) μ1) (am_n μ1 - am_n μ) (am_sl μ1 - am_sl μ) (fun q => s0.heap.size ≤ q) := by
      refine MetFree.mono hMet (fun _ _ h => h) (fun _ _ _ _ _ h => h) (fun a s o t _ h => ?_)
      rcases h with h | ⟨q, -, E, ce, L, ⟨⟨x, hx, -⟩, -⟩, -⟩
      · exact h
      · cases hx
    have hcw : am_cw M = Cond.code (am_My M) (am_Mc M) (am_Ml M) none := by unfold am_cw; rw [if_pos hMh, hrn]
    intro T hT X
    refine Or.inl ?_
    rcases ok2.2 oc ix k M hrm hM with hlink | ⟨-, h, hlink⟩
    · exact va_runI (As := as.map (am_cv s0.heap.size xa)) ⟨hx, hb, hml, hown, hts⟩ hMet2 ⟨callB_of (am_Ma M) (bytes := am_Mc M) (maxL := am_Ml M) (ret := none) (ws' := T0) hts hgood (by rw [hcw]) rfl rfl (hts _ hw6) (hts _ hlink) hw5 hroom, hnm, hts _ hins⟩ ⟨am_blind ok6, hPre⟩ rfl (by rw [List.length_map]; exact hlen) hsz hstack hsum' hd hf T hT X
    · exact va_runIN (As := as.map (am_cv s0.heap.size xa)) ⟨hx, hb, hml, hown, hts⟩ hMet2 ⟨va_cnB (am_Ma M) (bytes := am_Mc M) (maxL := am_Ml M) (ret := none) (ws' := T0) hts hgood (by rw [hcw]) rfl rfl (hZ.2.2.1 _ hlink) (hts _ hw6) hw5 hroom, hnm, hts _ hins⟩ ⟨am_blind ok6, hPre⟩ rfl (by rw [List.length_map]; exact hlen) hsz hstack hsum' hd hf T hT X
/-- 'throw new E("text")' -/
theorem am_thr (hls : l.stackTraces = false) (ok : am_All G cl cn T0 Tn Ts Nc exn) (hX0 : vx_Zq Bundle.tN "UNASSIGNED_STACK" Bundle.steD (fun q => s0.heap.size ≤ q) s0 s0.heap) (hX1 : vx_Zq Bundle.tN "SUPPRESSED_SENTINEL" Bundle.listD (fun q => s0.heap.size ≤ q) s0 s0.heap)
    (hB : am_Bd p s m args meth c s0 D cl cn T0 Tn cc oc nL ini ret) (hZ : am_Z s0 D cl Tn Ts Nc s) (hR : am_Rep s0 xa D cl μ H) (hloc : ∀ z ∈ locs, s0.heap.size ≤ z.base) (hs0 : ∀ q, q < s0.heap.size → s.heap[q]? = s0.heap[q]?) (hsz : s.heap.size + 16 = s0.heap.size + n0) (hn0 : n0 ≤ am_n μ) (htab : c.exceptionTable.toList = [])
    {ik is ic x mc ms : Nat} (hth : am_th G oc ik is ic = some x) (d0 : decode cc pc = .ok (.new ik, 3)) (d3 : decode cc (pc + 3) = .ok (.dup, 1)) (d4 : decode cc (pc + 4) = .ok (.ldc is, 2)) (d6 : decode cc (pc + 6) = .ok (.invokespecial ic, 3)) (d9 : decode cc (pc + 9) = .ok (.athrow, 1)) (hsl : ls.size = nL) (hsum : (st.map fun v => v.category).sum ≤ 8)
    (hRf : am_fr d ≤ R.frames) (hRl : am_lo d ≤ R.locals) (hRc : cells + 1 ≤ R.cells) (hRs : slots + 6 ≤ R.slots) (hc : cells + 1 ≤ mc) (hs : slots + 6 ≤ ms) :
    W p l e R s m args below meth c H locs cells slots (vx_MQ below (am_Qc s0 xa D cl (.inr x) (am_nX μ)) (am_Xc s0 xa D cl exn (.inr x) (am_nX μ)) args s mc ms (fun q => s0.heap.size ≤ q)) (F0 m pc ls (st.map (am_cv s0.heap.size xa))) := by
  obtain ⟨hx, hb, hml, hown, hts, hnt, hK, hal, hret, hlocks, hini⟩ := hB
  obtain ⟨text, names, w1, w2, w3, w4, w5, w6, w7, w8⟩ := ok.2.2.1 oc ik is ic x hth
  obtain ⟨sa, hsa⟩ := hZ.2.2.2.1 _ w8
  have hzq : ∀ {n dd : String}, vx_Zq Bundle.tN n dd (fun q => s0.heap.size ≤ q) s0 s0.heap → vx_Zq Bundle.tN n dd (fun q => s0.heap.size ≤ q) s s.heap := fun h => vx_Zq.moved hal (h.kept fun q hq _ => hs0 q hq)
  have hS : va_S (fun q => s0.heap.size ≤ q) s.heap H locs := by
    refine ⟨?_, fun q hq hA => ?_, hloc⟩
    · have := hR.2.1
      omega
    · have hq2 : q < s0.heap.size := Nat.lt_of_not_le hA
      rw [hR.2.2.1 q hq2, hs0 q hq2]
  unfold am_fr at hRf
  unfold am_lo at hRl
  refine am_throwS hx hb hls hown w1 w2 (hts _ w4) (hts _ w5) hsa (fun w hw => ?_) w7 (hzq hX0) (hzq hX1) hS (hsl.trans hml.symm) d0 d3 d4 d6 d9 (by rw [htab]; exact fun x hx => nomatch hx) (by omega) ?_ hRc hRs hlocks (fun t h1 h2 => ⟨⟨x, rfl, rfl⟩, hR.nX h1 h2⟩) hloc hc hs
  · rcases w6 w hw with h | h
    · exact hts w h
    · exact hnt w h
  · rw [am_mapcat]
    have : 13 * (names.length + 1) ≤ 39 := by omega
    omega
/-- 'throw new E("text")' -/
theorem am_thrW (hls : l.stackTraces = false) (ok : am_All G cl cn T0 Tn Ts Nc exn) (hX0 : vx_Zq Bundle.tN "UNASSIGNED_STACK" Bundle.steD (fun q => s0.heap.size ≤ q) s0 s0.heap) (hX1 : vx_Zq Bundle.tN "SUPPRESSED_SENTINEL" Bundle.listD (fun q => s0.heap.size ≤ q) s0 s0.heap)
    (hB : am_Bd p s m args meth c s0 D cl cn T0 Tn cc oc nL ini ret) (hZ : am_Z s0 D cl Tn Ts Nc s) (hR : am_Rep s0 xa D cl μ H) (hloc : ∀ z ∈ locs, s0.heap.size ≤ z.base) (hs0 : ∀ q, q < s0.heap.size → s.heap[q]? = s0.heap[q]?) (hsz : s.heap.size + 16 = s0.heap.size + n0) (hn0 : n0 ≤ am_n μ) (htab : c.exceptionTable.toList = [])
    {ik is ic x mc ms : Nat} (hth : am_th G oc ik is ic = some x) (d0 : decode cc pc = .ok (.new ik, 3)) (d3 : decode cc (pc + 3) = .ok (.dup, 1)) (d4 : decode cc (pc + 4) = .ok (.ldc_w is, 3)) (d7 : decode cc (pc + 7) = .ok (.invokespecial ic, 3)) (d10 : decode cc (pc + 10) = .ok (.athrow, 1)) (hsl : ls.size = nL) (hsum : (st.map fun v => v.category).sum ≤ 8)
    (hRf : am_fr d ≤ R.frames) (hRl : am_lo d ≤ R.locals) (hRc : cells + 1 ≤ R.cells) (hRs : slots + 6 ≤ R.slots) (hc : cells + 1 ≤ mc) (hs : slots + 6 ≤ ms) :
    W p l e R s m args below meth c H locs cells slots (vx_MQ below (am_Qc s0 xa D cl (.inr x) (am_nX μ)) (am_Xc s0 xa D cl exn (.inr x) (am_nX μ)) args s mc ms (fun q => s0.heap.size ≤ q)) (F0 m pc ls (st.map (am_cv s0.heap.size xa))) := by
  obtain ⟨hx, hb, hml, hown, hts, hnt, hK, hal, hret, hlocks, hini⟩ := hB
  obtain ⟨text, names, w1, w2, w3, w4, w5, w6, w7, w8⟩ := ok.2.2.1 oc ik is ic x hth
  obtain ⟨sa, hsa⟩ := hZ.2.2.2.1 _ w8
  have hzq : ∀ {n dd : String}, vx_Zq Bundle.tN n dd (fun q => s0.heap.size ≤ q) s0 s0.heap → vx_Zq Bundle.tN n dd (fun q => s0.heap.size ≤ q) s s.heap := fun h => vx_Zq.moved hal (h.kept fun q hq _ => hs0 q hq)
  have hS : va_S (fun q => s0.heap.size ≤ q) s.heap H locs := by
    refine ⟨?_, fun q hq hA => ?_, hloc⟩
    · have := hR.2.1
      omega
    · have hq2 : q < s0.heap.size := Nat.lt_of_not_le hA
      rw [hR.2.2.1 q hq2, hs0 q hq2]
  unfold am_fr at hRf
  unfold am_lo at hRl
  refine am_throwSW hx hb hls hown w1 w2 (hts _ w4) (hts _ w5) hsa (fun w hw => ?_) w7 (hzq hX0) (hzq hX1) hS (hsl.trans hml.symm) d0 d3 d4 d7 d10 (by rw [htab]; exact fun x hx => nomatch hx) (by omega) ?_ hRc hRs hlocks (fun t h1 h2 => ⟨⟨x, rfl, rfl⟩, hR.nX h1 h2⟩) hloc hc hs
  · rcases w6 w hw with h | h
    · exact hts w h
    · exact hnt w h
  · rw [am_mapcat]
    have : 13 * (names.length + 1) ≤ 39 := by omega
    omega
/-- a return -/
theorem am_ret (hB : am_Bd p s m args meth c s0 D cl cn T0 Tn cc oc nL ini ret) (hR : am_Rep s0 xa D cl μ H) (hloc : ∀ z ∈ locs, s0.heap.size ≤ z.base) {lv : List (Option Value)} {v : Option Value} {len : Nat} (hd : decode cc pc = .ok (i, len)) (hlok : am_lok i len = true) (hs : am_step G oc nL ini ret pc i lv st μ = some (.inr (v, μ1))) :
    W p l e R s m args below meth c H locs cells slots (vx_MQ below (am_Qc s0 xa D cl (.inl v) μ1) (am_Xc s0 xa D cl exn (.inl v) μ1) args s cells slots (fun q => s0.heap.size ≤ q)) (F0 m pc ls (st.map (am_cv s0.heap.size xa))) := by
  obtain ⟨hx, hb, hml, hown, hts, hnt, hK, hal, hret, hlocks, hini⟩ := hB
  obtain ⟨rfl, h⟩ := am_step_ret hs
  rcases h with ⟨x, ty, rfl, rfl, rfl, hn, rfl⟩ | ⟨x, rfl, rfl, rfl, rfl⟩ | ⟨a, rt, rfl, rfl, rfl, hrt, rfl⟩ | ⟨rfl, rfl, rfl, rfl⟩
  · obtain rfl : len = 1 := eq_of_beq hlok
    exact vx_ret (W.zret hx hb hret hn (fun t ht _ => ⟨⟨_, rfl, rfl⟩, by rw [ht]; exact hR⟩) hloc hd hlocks)
  · obtain rfl : len = 1 := eq_of_beq hlok
    exact vx_ret (W.lret hx hb hret (fun t ht _ => ⟨⟨_, rfl, rfl⟩, by rw [ht]; exact hR⟩) hloc hd hlocks)
  · obtain rfl : len = 1 := eq_of_beq hlok
    exact vx_ret (W.aret hx hb hret hrt (Or.inr ⟨_, rfl⟩) (fun t ht _ => ⟨⟨_, rfl, rfl⟩, by rw [ht]; exact hR⟩) hloc hd hlocks)
  · obtain rfl : len = 1 := eq_of_beq hlok
    exact vx_ret (W.vret hx hb hret (fun t ht _ => ⟨⟨_, rfl, rfl⟩, by rw [ht]; exact hR⟩) hloc hd hlocks)
end AMN
