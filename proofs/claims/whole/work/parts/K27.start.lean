/-! ===== the class: cut, work out, from a kept state ===== -/
section CRU
variable {d : Nat} {Q : Option Value ⊕ Nat → am_Mem → Prop} {X : Int → List Int → Prop} {W : Int → Nat} {s q e T N0 K C1 : Nat} {rs : List Rul} {lev : List Int → Nat} {F G Fn Tf : Nat} {S0 : List Atm} {μ : am_Mem} {m l : PM} {st ch : List (List Cd)} {n r1 r3 L1 L3 : Nat}
/-- the roles are such terms too -/
theorem rl_tm (hgo : GoS rs) (hB : ClB X W s rs q m T N0) {B : List Atm} (hE : Evb rs B) {r : Nat} (hr : r < (rlS rs).length) : TmC X q m N0 ((rlS rs).getD r []) := by
  obtain ⟨⟨b1, b2, b3, b4⟩, b5, b6, b7, ⟨b8, b9⟩, b10, b11, b12⟩ := id hB
  obtain ⟨u, _, _, cu⟩ := b9 r hr
  have hm : (rlS rs).getD r [] ∈ rlS rs := gD_in hr
  rcases rlS_m rs [] hm with h | ⟨ru, hru, h1, h2⟩
  · exact absurd h List.not_mem_nil
  · have h48 := rl_48 hgo hE hr
    generalize (rlS rs).getD r [] = p at *
    have hru2 : ru.1.2.length = 1 := by
      obtain ⟨k, hk, ek⟩ := (mem_gD rs ruD ru).mp hru
      have hb := (chF_ok hgo.2.2.2.2).1 k hk
      have z := (role_ok hb.1 hb.2.1 (by rw [ek]; exact h1)).1
      rw [ek] at z
      exact z
    have hp : p ∈ ru.1.2 := by
      rw [← h2]
      exact gD_in (by omega)
    exact ⟨Cg_gd cu (hgo.2.2.2.1 ru hru p hp), h48, fun w hw => nm_rl b1 b7 ⟨ru, hru, p, hp, hw⟩⟩
theorem wrn_s {s q n c : Nat} {j : Int} (hs : s = 22 ∨ s = 42) (hq : q = 85 ∨ 185 ≤ q) (hn : 186 ≤ n) (z : (s ≤ c ∧ c ≤ s + 19) ∨ c = 80 ∨ c = 81 ∨ (c = 70 ∧ j = 4) ∨ ((c = 98 ∨ c = 103) ∧ j = 0)) : c < n ∧ ¬ WRn q c j := by omega
/-- working out, from where K terms stand -/
theorem kl_run (hS : ShX s μ q e) (hs : s = 22 ∨ s = 42) (hgo : GoS rs) (hB : ClB X W s rs q m K N0) (hN : N0 ≤ K) (hx : FxC X W s rs lev F G N0 m q K Fn S0 Tf) (hTf : Tf ≤ K) (hKb : K ≤ C1 + 44 * (S0.length + st.length)) (hb : C1 ≤ 13192) (k1 : am_kd μ r1 = (2, L1)) (k3 : am_kd μ r3 = (2, L3)) (b1 : L1 ≤ 1000) (b3 : L3 ≤ 1000) (hr1 : 94 ≤ r1 ∧ r1 < 185) (hr3 : 94 ≤ r3 ∧ r3 < 185) (hnd : st.Nodup) (h60 : st.length ≤ 60) (hL1 : st.length ≤ L1) (hrow : RwC X q m K r1 0 st) (hn : n ≤ (rlS rs).length) (hn3 : n ≤ L3) (hcn : n ≤ ch.length) (hch : RwC X q m K r3 0 (ch.take n)) (ht : ∀ t, t ∈ st → TmC X q m N0 t) (hc : ∀ r, r < n → TmC X q m N0 ((rlS rs).getD r []) ∧ TmC X q m N0 (ch.getD r []))
    (hok : ∀ (μ' : am_Mem) (m' l' : PM) (q' T' : Nat) (S : List Atm), EvG rs (baS st ++ baM (rlS rs) ch n) S → Gx μ q e μ' q' e → ShX s μ' q' e → ClB X W s rs q' m' T' N0 → FxC X W s rs lev F G N0 m' q' T' S.length S0 Tf → CwW X W s rs m' q' T' S → (∀ a, a ∈ S → ∀ p, p ∈ a.2 → tlC p ≤ 48 ∧ NeC p) → (∀ a, a ∈ S → ∀ p, p ∈ a.2 → TmC X q' m' N0 p) → K ≤ T' → (∀ t cs, t < K → Cg X q m t cs → Cg X q' m' t cs) → (∀ c j, c < am_n μ → ¬ WRn q c j → m' c j = m c j) → (∀ c j, c < am_n μ → ¬ (c = 70 ∧ j = 16) → l' c j = l c j) → l' 70 16 = (smR S rs : Int) → Q (.inl none) (sA μ' m' l'))
    (hthr : ∀ (μ' : am_Mem) (m' l' : PM) (q' T' Fn' : Nat), ¬ Evb rs (baS st ++ baM (rlS rs) ch n) → Gx μ q e μ' q' e → ShX s μ' q' e → ClB X W s rs q' m' T' N0 → FxC X W s rs lev F G N0 m' q' T' Fn' S0 Tf → K ≤ T' → (∀ t cs, t < K → Cg X q m t cs → Cg X q' m' t cs) → (∀ c j, c < am_n μ → ¬ WRn q c j → m' c j = m c j) → (∀ c j, c < am_n μ → ¬ (c = 70 ∧ j = 16) → l' c j = l c j) → Q (.inr 3) (sA (am_nX μ') m' l')) :
    Wp (d + 14) 45 (0, [some (.ref 70), some (.ref r1), some (.int (zI (st.length : Int))), some (.ref r3), some (.int (zI (n : Int))), none, none], [], sA μ m l) Q := by
  obtain ⟨_, _, _, _, x7⟩ := id hS
  have hsq := hS.1.2.2.1
  obtain ⟨⟨c1, c2, c3, c4⟩, c5, c6, c7, ⟨c8, c9⟩, c10, c11, c12⟩ := id hB
  have hbase : ∀ a, a ∈ baS st ++ baM (rlS rs) ch n → ∀ p, p ∈ a.2 → TmC X q m N0 p := ba_tm ht hc
  refine k_workOut (d := d) (X := X) (ch := ch) (n := n) (C1 := C1) (L := rlS rs) (st := st) (r1 := r1) (r3 := r3) (Q := Q) hS.1 hs hgo hx k1 k3 b1 b3 hr1 hr3 hnd h60 hL1 hrow (rlS_ok rs).1 (rlS_ok rs).2 (RwC_st hN (fun _ _ _ => rfl) (fun _ _ _ h => h) c9) hn hn3 hcn hch (fun a ha p hp => ⟨(hbase a ha p hp).2.1, (hbase a ha p hp).1.2.2⟩) hKb (by omega) (fun μ3 m3 l3 q3 T3 L' hE hK3 hT3 hW3 hx3 hne3 hl3 => ?_) (fun μ3 m3 l3 q3 T3 Fn3 hno hK3 hT3 hx3 => ?_)
  · obtain ⟨gw, fr3, cg3⟩ := hK3
    obtain ⟨G3, S3⟩ := Gx_of hS gw
    have o3 : ∀ c j, c < am_n μ → ¬ WRn q c j → m3 c j = m c j := fun c j hc z => (fr3 c j hc).1 z
    have hB3 : ClB X W s rs q3 m3 T3 N0 := ClB_st (fun c j z => o3 c j (wrn_s hs hsq x7 z).1 (wrn_s hs hsq x7 z).2) (fun t cs ht => cg3 t cs (Nat.lt_of_lt_of_le ht hN)) hx3.2.1 hB
    exact hok μ3 m3 l3 q3 T3 _ hE G3 S3 hB3 hx3 hW3 hne3 (ev_tm hgo hB3.1.1 hB3.2.2.2.1 hE hW3.2.2.2.2.2.2 hne3 (fun a ha p hp => NmB_st (fun t cs ht => cg3 t cs (Nat.lt_of_lt_of_le ht hN)) (hbase a ha p hp).2.2)) hT3 cg3 o3 (fun c j hc z => (fr3 c j hc).2 z) hl3
  · obtain ⟨gw, fr3, cg3⟩ := hK3
    obtain ⟨G3, S3⟩ := Gx_of hS gw
    have o3 : ∀ c j, c < am_n μ → ¬ WRn q c j → m3 c j = m c j := fun c j hc z => (fr3 c j hc).1 z
    exact hthr μ3 m3 l3 q3 T3 Fn3 hno G3 S3 (ClB_st (fun c j z => o3 c j (wrn_s hs hsq x7 z).1 (wrn_s hs hsq x7 z).2) (fun t cs ht => cg3 t cs (Nat.lt_of_lt_of_le ht hN)) hx3.2.1 hB) hx3 hT3 cg3 o3 (fun c j hc z => (fr3 c j hc).2 z)
/-- what beginning or playing may write -/
abbrev WSt (q c : Nat) (j : Int) : Prop := WRn q c j ∨ WBc q c j
theorem wst_1 {q c : Nat} {j : Int} (z : ¬ WSt q c j) : ¬ WRn q c j ∧ ¬ (c = q + 7 ∨ (c = 84 ∧ j = 9)) ∧ ¬ WBc q c j := by omega
theorem wst_2 {q q3 n c : Nat} {j : Int} (h : q3 = q ∨ (q = 85 ∧ n ≤ q3)) (hc : c < n) (z : ¬ WSt q c j) : ¬ WBc q3 c j := by omega
theorem wcu_s {s q c : Nat} {j : Int} (hs : s = 22 ∨ s = 42) (hq : q = 85 ∨ 185 ≤ q) (z : (s ≤ c ∧ c ≤ s + 19) ∨ c = 80 ∨ c = 81 ∨ (c = 70 ∧ (j = 4 ∨ j = 15 ∨ (12 ≤ j ∧ j ≤ 14))) ∨ c = 98 ∨ c = 103 ∨ (72 ≤ c ∧ c ≤ 78) ∨ (c = 71 ∧ j = 7)) : ¬ (c = q + 7 ∨ (c = 84 ∧ j = 9)) := by omega
/-- what is known of the initial state -/
theorem s0_of {S : List Atm} (hgo : GoS rs) (hE : EvG rs (baA 0 [] (rlS rs) []) S) (hc : cntA S (wdC.getD 1 []) ≤ 60) (hs : SrT st) (hm : ∀ t, t ∈ st ↔ ((wdC.getD 1 [], [t]) : Atm) ∈ S) : ok0 rs (rlS rs) ∧ st = s0O rs (rlS rs) := by
  refine ⟨⟨⟨S, hE⟩, ?_⟩, lsO_eq hs (fun t => (hm t).trans (Ev_hld hgo hE _).symm)⟩
  rw [Ev_cn hgo hE]
  exact hc
/-- from pc 11 of start -/
theorem kl_start11 {b : Nat} (hS : ShX s μ q e) (hs : s = 22 ∨ s = 42) (hgo : GoS rs) (hB : ClB X W s rs q m T N0) (hNf : N0 ≤ Tf) (hK : K ≤ T) (e15 : m 70 15 = (K : Int)) (hx : FxC X W s rs lev F G N0 m q T Fn S0 Tf) (hTf : Tf ≤ K) (hKb : K ≤ Tf + b) (hb : b ≤ 12000)
    (hok : ∀ (μ' : am_Mem) (m' l' : PM) (q' T' Fn' : Nat), ok0 rs (rlS rs) → Gx μ q e μ' q' e → ShX s μ' q' e → ClB X W s rs q' m' T' N0 → FxC X W s rs lev F G N0 m' q' T' Fn' S0 Tf → T' ≤ Tf + 11 * (s0O rs (rlS rs)).length → m' 70 15 = (T' : Int) → m' 16 12 = ((s0O rs (rlS rs)).length : Int) → m' 16 14 = 0 → StC X q' m' N0 T' (s0O rs (rlS rs)) → (∀ t cs, t < Tf → Cg X q m t cs → Cg X q' m' t cs) → (∀ c j, c < am_n μ → ¬ WSt q c j → m' c j = m c j) → (∀ c j, c < am_n μ → ¬ (c = 70 ∧ j = 16) → l' c j = l c j) → Q (.inl (some (.int (zI ((s0O rs (rlS rs)).length : Int))))) (sA μ' m' l'))
    (hthr : ∀ (μ' : am_Mem) (m' l' : PM) (q' T' Fn' : Nat), ¬ ok0 rs (rlS rs) → Gx μ q e μ' q' e → ShX s μ' q' e → ClB X W s rs q' m' T' N0 → FxC X W s rs lev F G N0 m' q' T' Fn' S0 Tf → K ≤ T' → (∀ t cs, t < K → Cg X q m t cs → Cg X q' m' t cs) → (∀ c j, c < am_n μ → ¬ (WRn q c j ∨ c = q + 7 ∨ (c = 84 ∧ j = 9)) → m' c j = m c j) → (∀ c j, c < am_n μ → ¬ (c = 70 ∧ j = 16) → l' c j = l c j) → Q (.inr 3) (sA (am_nX μ') m' l')) :
    Wp (d + 16) 125 (11, [some (.ref 16)], [], sA μ m l) Q := by
  obtain ⟨⟨s1, s2, s3, s4, s5, s6⟩, ⟨x1, x2⟩, _, _, x7⟩ := id hS
  obtain ⟨⟨c1, c2, c3, c4⟩, c5, c6, c7, ⟨c8, c9⟩, c10, c11, c12⟩ := id hB
  have hx8 := hx.2.2.2.2.2.1.2
  refine K125_11 s1 s2 (TQ_q s3) hs s5 x1 x2 (hE_of hS) ?_
  rw [e15]
  refine ⟨_, noX, k_tcut (d := d + 15) s1 s2 (TQ_q s3) c6.1 hK, fun μ' hp => ?_, fun _ _ z => z.elim⟩
  obtain ⟨m2, e2, ci2, f2⟩ := hp
  rw [e2]
  have ct2 : CtT X q (tN q) (tS q) m2 K := CtT_cg (P := 4 * tN q) hK c6 ci2 (fun c j z => f2 c j (by omega))
  have cg2 : ∀ t cs, Cg X q m t cs → Cg X q m2 t cs := fun t cs h => Cg_q (fun c j hc => f2 c j (by omega)) h
  have hB2 : ClB X W s rs q m2 K N0 := ClB_st (fun c j z => f2 c j (wcu_s hs s3 (by omega))) (fun t cs _ h => cg2 t cs h) ct2 hB
  have hx2 : FxC X W s rs lev F G N0 m2 q K Fn S0 Tf := FxC_o hS.1 hs hx (fun c j z => f2 c j (wcu_s hs s3 (by omega))) (fun t cs _ h => cg2 t cs h) hTf ct2
  refine K125_28 s1 s2 (TQ_q s3) hs s5 x1 x2 (hE_of hS) ⟨fun μ' => Wp (d + 16) 125 (48, [some (.ref 16)], [], μ') Q, fun x μ' => Q (.inr x) μ', ?_, fun _ h => h, fun _ _ h => h⟩
  refine kl_run (d := d + 1) (C1 := N0 + b) (st := []) (ch := []) (n := 0) (r1 := 94) (r3 := 100) (Q := pV _ _) hS hs hgo hB2 (Nat.le_trans hNf hTf) hx2 hTf (by omega) (by omega) (cK_94 s1) (cK_100 s1) (by decide) (by decide) (by decide) (by decide) List.nodup_nil (by decide) (by decide) (fun i hi => absurd hi (Nat.not_lt_zero _)) (Nat.zero_le _) (by decide) (by decide) (fun i hi => absurd hi (Nat.not_lt_zero _)) (fun t ht => absurd ht List.not_mem_nil) (fun r hr => absurd hr (Nat.not_lt_zero _)) (fun μ3 m3 l3 q3 T3 S hE G3 S3 hB3 hx3 hW3 hne3 tm3 hT3 cg3 f3 fl3 hl3 => ?_) (fun μ3 m3 l3 q3 T3 Fn3 hno G3 S3 hB3 hx3 hT3 cg3 f3 fl3 => ?_)
  · show Wp (d + 16) 125 (48, [some (.ref 16)], [], sA μ3 m3 l3) Q
    obtain ⟨⟨r1, r2, r3, r4, r5, r6⟩, ⟨y1, y2⟩, _, _, y7⟩ := id S3
    have hE0 : EvG rs (baA 0 [] (rlS rs) []) S := hE
    have hx1 : X 1 (wdC.getD 1 []) := hB3.1.1.2.2.1.2 1 (by decide)
    have hw1 : W 1 = 1 := by
      rw [hB3.1.2.2.2 1 _ hx1, wdt_own hgo (w := wdC.getD 1 []) (by decide +kernel)]
      decide +kernel
    have hcg3 : ∀ t cs, t < K → Cg X q m t cs → Cg X q3 m3 t cs := fun t cs ht h => cg3 t cs ht (cg2 t cs h)
    refine K125_48 r1 r2 (TQ_q r3) hs r5 y1 y2 (hE_of S3) ⟨fun μ' => Wp (d + 16) 125 (53, [some (.ref 16)], [], μ') Q, fun x μ' => Q (.inr x) μ', ?_, fun _ h => h, fun _ _ h => h⟩
    refine k_become (d := d) (Q := pV _ _) (x := 1) S3 hs hB3 hNf hx3 hW3 hE.2.2.2.1 tm3 hx1 hw1 (fun m4 T4 st4 hc4 hB4 hx4 hT4 e415 e412 e414 hst4 hm4 cg4 f4 => ?_) (fun hgt => ?_)
    · show Wp (d + 16) 125 (53, [some (.ref 16)], [], sA μ3 m4 l3) Q
      obtain ⟨ok, est⟩ := s0_of hgo hE0 hc4 hst4.1 hm4
      refine K125_53 r1 r2 (TQ_q r3) hs r5 y1 y2 (hE_of S3) ?_
      rw [e412, est]
      rw [est] at hT4 e412 hst4
      exact hok μ3 m4 l3 q3 T4 _ ok G3 S3 hB4 hx4 hT4 e415 e412 e414 hst4 (fun t cs ht h => cg4 t cs ht (hcg3 t cs (Nat.lt_of_lt_of_le ht hTf) h)) (fun c j hc z => (f4 c j (wst_2 G3.2.2.2.1 hc z)).trans ((f3 c j hc (wst_1 z).1).trans (f2 c j (wst_1 z).2.1))) fl3
    · show Q (.inr 3) (sA (am_nX μ3) m3 l3)
      refine hthr μ3 m3 l3 q3 T3 _ (fun h => ?_) G3 S3 hB3 hx3 hT3 hcg3 (fun c j hc z => (f3 c j hc (fun y => z (Or.inl y))).trans (f2 c j (fun y => z (Or.inr y)))) fl3
      have h2 := h.2
      rw [Ev_cn hgo hE0] at h2
      exact absurd h2 (Nat.not_le_of_lt hgt)
  · show Q (.inr 3) (sA (am_nX μ3) m3 l3)
    exact hthr μ3 m3 l3 q3 T3 Fn3 (fun h => hno h.1) G3 S3 hB3 hx3 hT3 (fun t cs ht h => cg3 t cs ht (cg2 t cs h)) (fun c j hc z => (f3 c j hc (fun y => z (Or.inl y))).trans (f2 c j (fun y => z (Or.inr y)))) fl3
end CRU
