/-! ===== the theorem ===== -/
section AMZ
variable {l : Launch} {G : am_G} {s0 : State} {xa : Nat → Nat} {D : va_G} {cl : List vw_C} {cn : Nat → String} {T0 Tn : List Cond} {Ts : List (String × Nat × String)} {Nc : List (String × String)} {exn : Nat → String}
set_option maxHeartbeats 1000000 in
theorem am_all (hls : l.stackTraces = false) (ok : am_All G cl cn T0 Tn Ts Nc exn) (hXX : am_X G s0 xa cn T0) (hX0 : vx_Zq Bundle.tN "UNASSIGNED_STACK" Bundle.steD (fun q => s0.heap.size ≤ q) s0 s0.heap) (hX1 : vx_Zq Bundle.tN "SUPPRESSED_SENTINEL" Bundle.listD (fun q => s0.heap.size ≤ q) s0 s0.heap) :
    ∀ n, am_P l G s0 xa D cl cn T0 Tn Ts Nc exn n := by
  intro n
  induction n with
  | zero => intro d k M pc lv st μ o μ' h; cases h
  | succ n ih =>
    intro d k M pc lv st μ o μ' h hM p e R s m args below meth c n0 z0 mc ms hB hZ htab hs0 hsz hn0 hz0 hmc hms hRc hRs hRf hRl
    intro H ls locs cells slots hR hl hloc hcs hsl
    unfold am_run at h
    rw [hM] at h
    simp only at h
    split at h
    · rename_i i len hd
      split at h
      · rename_i k1 vs rest hcal
        cases d with
        | zero => cases h
        | succ d1 =>
          simp only at h
          split at h
          · rename_i hc3
            obtain ⟨rfl, hsum⟩ := hc3
            obtain ⟨ix, M1, hrm, hM1, hfit, -⟩ := am_callee_inv hcal
            split at h
            · cases h
            · rename_i v μ1 h1
              have hmet := am_met_of ih ok h1 hM1 hfit
              have hm1 := am_run_mono G n _ _ _ _ _ h1
              have hm2 := am_run_mono G n _ _ _ _ _ h
              have hm1a : am_n μ ≤ am_n μ1 := hm1.1
              have hm1b : am_sl μ ≤ am_sl μ1 := hm1.2
              have hm2a : am_n μ1 ≤ am_n μ' := hm2.1
              have hm2b : am_sl μ1 ≤ am_sl μ' := hm2.2
              have hrun := am_runcall (p := p) (e := e) (R := R) (below := below) (locs := locs) (cells := cells) (slots := slots) (ls := ls) ok hXX hB hZ hR hmet hM1 (fun _ => ⟨v, rfl⟩) hcal hd hl.1 hsum ⟨by omega, by omega⟩ hRf hRl
              intro T hT X
              rcases hrun T hT X with ⟨v2, st₀, t, T', L, e0, X', hL, e1, e2, ⟨⟨v3, hv3, hv4⟩, hR1⟩, hst⟩ | ⟨q, st₀, t, T', L, E, ce, e0, X', hL, e1, e2, ⟨⟨x, hx, -⟩, -⟩, hce, hcv, hcl, hst⟩
              · cases hv3
                cases hv4
                have hk := ih (d1 + 1) k M (pc + 3) lv (v.toList ++ rest) μ1 o μ' h hM p e R s m args below meth c n0 z0 mc ms hB hZ htab hs0 hsz (by omega) (by omega) hmc hms hRc hRs hRf hRl T'.heap ls (locs ++ L) (cells + (am_n μ1 - am_n μ)) (slots + (am_sl μ1 - am_sl μ)) (by rw [e1]; exact hR1) hl
                  (fun z hz => (List.mem_append.mp hz).elim (hloc z) (hL z)) (by omega) (by omega) T' rfl X'
                obtain ⟨t2, a1, b1⟩ := hk
                refine ⟨t2, hst t2 ?_, b1⟩
                have hmap : (v.toList ++ rest).map (am_cv s0.heap.size xa) = (v.map (am_cv s0.heap.size xa)).toList ++ rest.map (am_cv s0.heap.size xa) := by
                  rw [List.map_append]
                  cases v <;> rfl
                rw [hmap] at a1
                exact a1
              · cases hx
            · rename_i x μ1 h1
              split at h
              · cases h
              · rename_i hisp
                have hmet := am_met_of ih ok h1 hM1 hfit
                have hm1 := am_run_mono G n _ _ _ _ _ h1
                have hm1a : am_n μ ≤ am_n μ1 := hm1.1
                have hm1b : am_sl μ ≤ am_sl μ1 := hm1.2
                have hm2 : am_n μ1 ≤ am_n μ' ∧ am_sl μ1 ≤ am_sl μ' := by
                  split at h
                  · cases h; exact ⟨Nat.le_refl _, Nat.le_refl _⟩
                  · split at h
                    · cases h
                    · split at h
                      · exact am_run_mono G n _ _ _ _ _ h
                      · cases h
                have hm2a := hm2.1
                have hm2b := hm2.2
                have hrun := am_runcall (p := p) (e := e) (R := R) (below := below) (locs := locs) (cells := cells) (slots := slots) (ls := ls) ok hXX hB hZ hR hmet hM1 (fun hz => absurd hz hisp) hcal hd hl.1 hsum ⟨by omega, by omega⟩ hRf hRl
                intro T hT X
                rcases hrun T hT X with ⟨v2, st₀, t, T', L, e0, X', hL, e1, e2, ⟨⟨v3, hv3, hv4⟩, hR1⟩, hst⟩ | ⟨q, st₀, t, T', L, E, ce, e0, X', hL, e1, e2, ⟨⟨x2, hx2, hE⟩, hR1⟩, hce, hcv, hcl, hst⟩
                · cases hv3
                · cases hx2
                  have hloc2 : ∀ z ∈ locs ++ L, s0.heap.size ≤ z.base := fun z hz => (List.mem_append.mp hz).elim (hloc z) (hL z)
                  have hR1' : am_Rep s0 xa D cl μ1 T'.heap := by rw [e1]; exact hR1
                  have hce' : T'.heap[q]? = some ce := by rw [e1]; exact hce
                  obtain ⟨hx, hb, hml, hown, hts, hnt, hK, hal, hret, hlocks, hini⟩ := id hB
                  suffices hW : vx_W p l e R s m args below meth c T'.heap (locs ++ L) (cells + (am_n μ1 - am_n μ)) (slots + (am_sl μ1 - am_sl μ)) (vx_MQ below (am_Qc s0 xa D cl o μ') (am_Xc s0 xa D cl exn o μ') args s mc ms (fun q => s0.heap.size ≤ q)) (F0 m pc ls (rest.map (am_cv s0.heap.size xa))) q by
                    obtain ⟨t2, a1, b1⟩ := hW T' rfl X'
                    exact ⟨t2, hst.trans a1, b1⟩
                  split at h
                  · rename_i hMh
                    cases h
                    refine vx_out (by rw [htab, hMh]; exact fun x hx => nomatch hx) hlocks hce' hcv hcl (fun t2 ht2 _ => ⟨⟨x, rfl, hE⟩, by rw [ht2]; exact hR1'⟩) hloc2 (by omega) (by omega)
                  · rename_i hMh
                    split at h
                    · cases h
                    · rename_i pc2 j hha
                      split at h
                      · rename_i hj
                        obtain ⟨pre, hd1, suf, g1, g2, g3, g4, g5⟩ := am_hand_inv hM hha
                        obtain ⟨hn0x, nm, hlk, hca, -⟩ := ok.2.2.2.1 _ _ _ _ g4
                        refine am_catch hown (pre.map fun q => ⟨q.1, q.2.1, q.2.2.1, q.2.2.2⟩) ⟨hd1.1, hd1.2.1, hd1.2.2.1, hd1.2.2.2⟩ (suf.map fun q => ⟨q.1, q.2.1, q.2.2.1, q.2.2.2⟩) (by rw [htab, g1]; simp [tableOf]) (fun z hz => ?_) ?_ hn0x (hts _ hlk) (hnt _ (hca rfl)) hce' hcv (by rw [hE] at hcl; exact hcl) ?_
                        · obtain ⟨z1, hz1, rfl⟩ := List.mem_map.mp hz
                          rcases g2 z1 hz1 with g | g
                          · left
                            simp only [covers, Bool.and_eq_false_iff, decide_eq_false_iff_not]
                            by_cases hh : z1.1 ≤ pc
                            · exact Or.inr fun h2 => g ⟨hh, h2⟩
                            · exact Or.inl hh
                          · obtain ⟨y1, nm1, y2, -, y4⟩ := ok.2.2.2.1 _ _ _ _ g
                            exact Or.inr ⟨y1, nm1, hts _ y2, hZ.2.2.2.2 _ (y4 rfl)⟩
                        · simp only [covers, Bool.and_eq_true, decide_eq_true_eq]
                          exact g3
                        · rcases g5 with ⟨jj, g5, rfl, rfl⟩ | ⟨g5, rfl⟩
                          · refine lv_astore_n hx hb g5 rfl hl hj rfl (fun ls2 hl2 => ?_)
                            exact ih (d1 + 1) k M _ _ [] μ1 o μ' h hM p e R s m args below meth c n0 z0 mc ms hB hZ htab hs0 hsz (by omega) (by omega) hmc hms hRc hRs hRf hRl T'.heap ls2 (locs ++ L) _ _ hR1' (am_hd hl2) hloc2 (by omega) (by omega)
                          · refine lv_astore hx hb g5 hl hj rfl (fun ls2 hl2 => ?_)
                            exact ih (d1 + 1) k M _ _ [] μ1 o μ' h hM p e R s m args below meth c n0 z0 mc ms hB hZ htab hs0 hsz (by omega) (by omega) hmc hms hRc hRs hRf hRl T'.heap ls2 (locs ++ L) _ _ hR1' (am_hd hl2) hloc2 (by omega) (by omega)
                      · cases h
          · cases h
      · split at h
        · rename_i x hth
          split at h
          · rename_i hc3
            obtain ⟨rfl, hMh, hsum⟩ := hc3
            cases h
            obtain ⟨ik, is, ic, rfl, d3, hdd, hth2⟩ := am_throw_inv hM hth
            have hmc' : mc + n0 = am_n μ + 1 := hmc
            have hms' : ms + z0 = am_sl μ + 6 := hms
            rcases hdd with ⟨d4, d6, d9⟩ | ⟨d4, d7, d10⟩
            · exact am_thr hls ok hX0 hX1 hB hZ hR hloc hs0 hsz hn0 (by rw [htab, hMh]; rfl) hth2 hd d3 d4 d6 d9 hl.1 hsum hRf hRl (by omega) (by omega) (by omega) (by omega)
            · exact am_thrW hls ok hX0 hX1 hB hZ hR hloc hs0 hsz hn0 (by rw [htab, hMh]; rfl) hth2 hd d3 d4 d7 d10 hl.1 hsum hRf hRl (by omega) (by omega) (by omega) (by omega)
          · cases h
        · split at h
          · rename_i hlok
            split at h
            · cases h
            · rename_i cf hst
              obtain ⟨pc2, lv2, st2, μ2⟩ := cf
              have hm1 := am_step_mono hst
              have hm2 := am_run_mono G n _ _ _ _ _ h
              have hm1a := hm1.1
              have hm1b := hm1.2
              have hm2a : am_n μ2 ≤ am_n μ' := hm2.1
              have hm2b : am_sl μ2 ≤ am_sl μ' := hm2.2
              have hf1 : am_fr d = d + 7 := rfl
              have hf2 : am_lo d = 80 * d + 200 := rfl
              exact am_ss hB ok.1 hXX hZ.1 hR hl hloc hd hlok hst hcs hsl ⟨by omega, by omega⟩ ⟨by omega, by omega⟩ (ih d k M pc2 lv2 st2 μ2 o μ' h hM p e R s m args below meth c n0 z0 mc ms hB hZ htab hs0 hsz (by omega) (by omega) hmc hms hRc hRs hRf hRl)
            · rename_i v μ2 hst
              cases h
              obtain ⟨rfl, -⟩ := am_step_ret hst
              obtain rfl : cells = mc := by omega
              obtain rfl : slots = ms := by omega
              exact am_ret hB hR hloc hd hlok hst
          · cases h
    · cases h
end AMZ
