/-! ===== the class's play, from the known state on ===== -/
section CPY
variable {d : Nat} {Q : Option Value ⊕ Nat → am_Mem → Prop} {X : Int → List Int → Prop} {W : Int → Nat} {s q e T N0 K : Nat} {rs : List Rul} {lev : List Int → Nat} {F G Fn Tf : Nat} {S0 : List Atm} {μ : am_Mem} {m l : PM} {st : List (List Cd)}
theorem ns_of {S : List Atm} {ch st' : List (List Cd)} (hgo : GoS rs) (hE : EvG rs (baA 1 st (rlS rs) ch) S) (hc : cntA S (wdC.getD 3 []) ≤ 60) (hs : SrT st') (hm : ∀ t, t ∈ st' ↔ ((wdC.getD 3 [], [t]) : Atm) ∈ S) : okN rs (rlS rs) st ch ∧ st' = nsO rs (rlS rs) st ch := by
  refine ⟨⟨⟨S, hE⟩, ?_⟩, lsO_eq hs (fun t => (hm t).trans (Ev_hld hgo hE _).symm)⟩
  rw [Ev_cn hgo hE]
  exact hc
abbrev WPy (q c : Nat) (j : Int) : Prop := WSt q c j ∨ c = 100
theorem wpy_1 {q c : Nat} {j : Int} (z : ¬ WPy q c j) : ¬ WRn q c j ∧ ¬ (c = q + 7 ∨ (c = 84 ∧ j = 9)) ∧ ¬ c = 100 ∧ ¬ WSt q c j := by omega
theorem wpy_2 {q c : Nat} {j : Int} (z : ¬ (WRn q c j ∨ c = q + 7 ∨ (c = 84 ∧ j = 9) ∨ c = 100)) : ¬ WRn q c j ∧ ¬ (c = q + 7 ∨ (c = 84 ∧ j = 9)) ∧ ¬ c = 100 := by omega
theorem n100_s {s q c : Nat} {j : Int} (hs : s = 22 ∨ s = 42) (hq : q = 85 ∨ 185 ≤ q) (z : (s ≤ c ∧ c ≤ s + 19) ∨ c = 80 ∨ c = 81 ∨ (c = 70 ∧ (j = 4 ∨ j = 15 ∨ (12 ≤ j ∧ j ≤ 14))) ∨ c = 98 ∨ c = 103 ∨ (72 ≤ c ∧ c ≤ 78) ∨ (c = 71 ∧ j = 7) ∨ c = 94 ∨ (c = 16 ∧ (j = 12 ∨ j = 14)) ∨ (q ≤ c ∧ c ≤ q + 7) ∨ c = 84) : ¬ c = 100 := by omega
theorem kl_play32 {b j : Nat} (hS : ShX s μ q e) (hs : s = 22 ∨ s = 42) (hgo : GoS rs) (hB : ClB X W s rs q m T N0) (hNf : N0 ≤ Tf) (hK : K ≤ T) (e15 : m 70 15 = (K : Int)) (hx : FxC X W s rs lev F G N0 m q T Fn S0 Tf) (hTf : Tf ≤ K) (hKb : K ≤ Tf + b) (hb : b ≤ 12000) (hst : StC X q m N0 K st) (e12 : m 16 12 = (st.length : Int)) (hsn : SnI X rs q m 96 N0 K st) (hj : j ≤ 2147483647) (h0 : ¬ (rlS rs).length = 0)
    (hix : ¬ j < jmN (rlS rs).length (mvO rs (rlS rs) st) → Q (.inr 2) (sA (am_nX μ) m l))
    (hok : ∀ (μ' : am_Mem) (m' l' : PM) (q' T' Fn' : Nat), j < jmN (rlS rs).length (mvO rs (rlS rs) st) → okN rs (rlS rs) st (chO rs (rlS rs) st j) → Gx μ q e μ' q' e → ShX s μ' q' e → ClB X W s rs q' m' T' N0 → FxC X W s rs lev F G N0 m' q' T' Fn' S0 Tf → T' ≤ Tf + 11 * (nsO rs (rlS rs) st (chO rs (rlS rs) st j)).length → m' 70 15 = (T' : Int) → m' 16 12 = ((nsO rs (rlS rs) st (chO rs (rlS rs) st j)).length : Int) → m' 16 14 = 0 → StC X q' m' N0 T' (nsO rs (rlS rs) st (chO rs (rlS rs) st j)) → (∀ t cs, t < Tf → Cg X q m t cs → Cg X q' m' t cs) → (∀ c i, c < am_n μ → ¬ WPy q c i → m' c i = m c i) → (∀ c i, c < am_n μ → ¬ (c = 70 ∧ i = 16) → l' c i = l c i) → Q (.inl (some (.int (zI ((nsO rs (rlS rs) st (chO rs (rlS rs) st j)).length : Int))))) (sA μ' m' l'))
    (hthr : ∀ (μ' : am_Mem) (m' l' : PM) (q' T' Fn' : Nat), j < jmN (rlS rs).length (mvO rs (rlS rs) st) → ¬ okN rs (rlS rs) st (chO rs (rlS rs) st j) → Gx μ q e μ' q' e → ShX s μ' q' e → ClB X W s rs q' m' T' N0 → FxC X W s rs lev F G N0 m' q' T' Fn' S0 Tf → K ≤ T' → (∀ t cs, t < K → Cg X q m t cs → Cg X q' m' t cs) → (∀ c i, c < am_n μ → ¬ (WRn q c i ∨ c = q + 7 ∨ (c = 84 ∧ i = 9) ∨ c = 100) → m' c i = m c i) → (∀ c i, c < am_n μ → ¬ (c = 70 ∧ i = 16) → l' c i = l c i) → Q (.inr 3) (sA (am_nX μ') m' l')) :
    Wp (d + 16) 133 (32, [some (.ref 16), some (.int (zI (j : Int)))], [], sA μ m l) Q := by
  obtain ⟨⟨s1, s2, s3, s4, s5, s6⟩, ⟨x1, x2⟩, _, _, x7⟩ := id hS
  obtain ⟨⟨c1, c2, c3, c4⟩, c5, c6, c7, ⟨c8, c9⟩, c10, c11, c12⟩ := id hB
  have hx8 := hx.2.2.2.2.2.1.2
  obtain ⟨n1, n2, n3, n4, n5⟩ := id hsn
  obtain ⟨t1, t2, t3, t4⟩ := id hst
  have hn4 := (rlS_ok rs).2
  have hjm : jmN (rlS rs).length (mvO rs (rlS rs) st) ≤ 1000000000000 := jmN_le hn4 (fun r hr => by
    have := pfs_s (mv := mvO rs (rlS rs) st) hr
    have := n4.2.1
    omega)
  refine K133_32 s1 s2 (TQ_q s3) hs s5 ⟨⟨by omega, by omega⟩, fun x μ' => Wp (d + 16) 133 (41, [some (.ref 16), some (.int (zI (j : Int)))], [.long x, .long (zL (j : Int))], μ') Q, noX, ?_, fun _ _ h => h, fun _ _ z => z.elim⟩
  refine k_joint (d := d + 14) (Q := pL _ noX) (v := 96) s1 (Or.inl rfl) n2 hn4 n4 ?_
  show Wp (d + 16) 133 (41, [some (.ref 16), some (.int (zI (j : Int)))], [.long (zL (jmN (rlS rs).length (mvO rs (rlS rs) st) : Int)), .long (zL (j : Int))], sA μ m l) Q
  refine K133_41 s1 s2 (TQ_q s3) hs s5 ⟨⟨by omega, by omega⟩, ⟨by omega, by omega⟩, fun hlt => ?_, fun hge => hix (by omega)⟩
  have hjlt : j < jmN (rlS rs).length (mvO rs (rlS rs) st) := by omega
  have hpos := jmN_pos (Nat.lt_of_le_of_lt (Nat.zero_le _) hjlt)
  refine ⟨fun μ' => Wp (d + 16) 133 (63, [some (.ref 16), some (.int (zI (j : Int)))], [], μ') Q, noX, ?_, fun _ h => h, fun _ _ z => z.elim⟩
  refine k_choose (d := d + 14) (Q := pV _ noX) (v := 96) s1 (Or.inl rfl) s3 n2 hn4 n4 hpos hj (fun m1 rw1 f1 => ?_)
  show Wp (d + 16) 133 (63, [some (.ref 16), some (.int (zI (j : Int)))], [], sA μ m1 l) Q
  have f1' : ∀ c i, ¬ c = 100 → m1 c i = m c i := f1
  have cg1 : ∀ t cs, Cg X q m t cs → Cg X q m1 t cs := fun t cs h => Cg_q (fun c j hc => f1' c j (by omega)) h
  have ct1 : CtT X q (tN q) (tS q) m1 T := CtT_f6 (fun c j z => f1' c j (by omega)) c6
  refine K133_63 s1 s2 (TQ_q s3) hs s5 ?_
  rw [f1' 70 15 (by decide), e15]
  refine ⟨_, noX, k_tcut (d := d + 15) s1 s2 (TQ_q s3) ct1.1 hK, fun μ' hp => ?_, fun _ _ z => z.elim⟩
  obtain ⟨m2, e2, ci2, f2⟩ := hp
  rw [e2]
  have ct2 : CtT X q (tN q) (tS q) m2 K := CtT_cg (P := 4 * tN q) hK ct1 ci2 (fun c j z => f2 c j (by omega))
  have cg2 : ∀ t cs, Cg X q m t cs → Cg X q m2 t cs := fun t cs h => Cg_q (fun c j hc => f2 c j (by omega)) (cg1 t cs h)
  have f2m : ∀ c i, ¬ (c = q + 7 ∨ (c = 84 ∧ i = 9)) → ¬ c = 100 → m2 c i = m c i := fun c i z1 z2 => (f2 c i z1).trans (f1' c i z2)
  have hB2 : ClB X W s rs q m2 K N0 := ClB_st (fun c j z => f2m c j (wcu_s hs s3 (by omega)) (n100_s (j := j) hs s3 (by omega))) (fun t cs _ h => cg2 t cs h) ct2 hB
  have hx2 : FxC X W s rs lev F G N0 m2 q K Fn S0 Tf := FxC_o hS.1 hs hx (fun c j z => f2m c j (wcu_s hs s3 (by omega)) (n100_s (j := j) hs s3 (by omega))) (fun t cs _ h => cg2 t cs h) hTf ct2
  have hlc : (chO rs (rlS rs) st j).length = (rlS rs).length := by
    unfold chO
    rw [List.length_map, List.length_range]
  have hch : ∀ r, r < (rlS rs).length → (chO rs (rlS rs) st j).getD r [] ∈ mvO rs (rlS rs) st r := fun r hr => by
    rw [chO_g hr]
    exact gD_in (chI_lt hpos j r hr)
  have rwc : RwC X q m2 K 100 0 ((chO rs (rlS rs) st j).take (rlS rs).length) := fun i hi => by
    rw [← hlc, List.take_length] at hi ⊢
    rw [hlc] at hi
    obtain ⟨u, u1, u2, u3⟩ := rw1 i hi
    refine ⟨u, ?_, u2, ?_⟩
    · rw [Int.zero_add, f2 100 _ (by omega)]
      exact u1
    · rw [chO_g hi]
      exact cg2 u _ u3
  refine K133_80 s1 s2 (TQ_q s3) hs s5 ?_
  rw [f2m 16 12 (by omega) (by decide), e12, f2m 70 4 (by omega) (by decide), c8]
  refine ⟨fun μ' => Wp (d + 16) 133 (109, [some (.ref 16), some (.int (zI (j : Int)))], [], μ') Q, fun x μ' => Q (.inr x) μ', ?_, fun _ h => h, fun _ _ h => h⟩
  refine kl_run (d := d + 1) (C1 := N0 + b) (st := st) (ch := chO rs (rlS rs) st j) (n := (rlS rs).length) (r1 := 94) (r3 := 100) (Q := pV _ _) hS hs hgo hB2 (Nat.le_trans hNf hTf) hx2 hTf (by omega) (by omega) (cK_94 s1) (cK_100 s1) (by decide) (by decide) (by decide) (by decide) (SrT_nd t1) t2 t2 (RwC_st (Nat.le_refl _) (fun j _ _ => f2m _ _ (by omega) (by decide)) (fun t cs _ h => cg2 t cs h) t4) (Nat.le_refl _) hn4 (by rw [hlc]; exact Nat.le_refl _) rwc (fun t ht => TmC_st (fun t cs _ h => cg2 t cs h) (t3 t ht)) (fun r hr => ⟨rl_tm hgo hB2 n1 hr, TmC_st (fun t cs _ h => cg2 t cs h) (n5 r hr _ (hch r hr))⟩) (fun μ3 m3 l3 q3 T3 S hE G3 S3 hB3 hx3 hW3 hne3 tm3 hT3 cg3 f3 fl3 hl3 => ?_) (fun μ3 m3 l3 q3 T3 Fn3 hno G3 S3 hB3 hx3 hT3 cg3 f3 fl3 => ?_)
  · show Wp (d + 16) 133 (109, [some (.ref 16), some (.int (zI (j : Int)))], [], sA μ3 m3 l3) Q
    obtain ⟨⟨r1, r2, r3, r4, r5, r6⟩, ⟨y1, y2⟩, _, _, y7⟩ := id S3
    have hE0 : EvG rs (baA 1 st (rlS rs) (chO rs (rlS rs) st j)) S := hE
    have hx1 : X 3 (wdC.getD 3 []) := hB3.1.1.2.2.1.2 3 (by decide)
    have hw1 : W 3 = 1 := by
      rw [hB3.1.2.2.2 3 _ hx1, wdt_own hgo (w := wdC.getD 3 []) (by decide +kernel)]
      decide +kernel
    have hcg3 : ∀ t cs, t < K → Cg X q m t cs → Cg X q3 m3 t cs := fun t cs ht h => cg3 t cs ht (cg2 t cs h)
    refine K133_109 r1 r2 (TQ_q r3) hs r5 ⟨fun μ' => Wp (d + 16) 133 (114, [some (.ref 16), some (.int (zI (j : Int)))], [], μ') Q, fun x μ' => Q (.inr x) μ', ?_, fun _ h => h, fun _ _ h => h⟩
    refine k_become (d := d) (Q := pV _ _) (x := 3) S3 hs hB3 hNf hx3 hW3 hE.2.2.2.1 tm3 hx1 hw1 (fun m4 T4 st4 hc4 hB4 hx4 hT4 e415 e412 e414 hst4 hm4 cg4 f4 => ?_) (fun hgt => ?_)
    · show Wp (d + 16) 133 (114, [some (.ref 16), some (.int (zI (j : Int)))], [], sA μ3 m4 l3) Q
      obtain ⟨ok, est⟩ := ns_of hgo hE0 hc4 hst4.1 hm4
      refine K133_114 r1 r2 (TQ_q r3) hs r5 ?_
      rw [e412, est]
      rw [est] at hT4 e412 hst4
      exact hok μ3 m4 l3 q3 T4 _ hjlt ok G3 S3 hB4 hx4 hT4 e415 e412 e414 hst4 (fun t cs ht h => cg4 t cs ht (hcg3 t cs (Nat.lt_of_lt_of_le ht hTf) h)) (fun c i hc z => (f4 c i (wst_2 G3.2.2.2.1 hc (wpy_1 z).2.2.2)).trans ((f3 c i hc (wpy_1 z).1).trans (f2m c i (wpy_1 z).2.1 (wpy_1 z).2.2.1))) fl3
    · show Q (.inr 3) (sA (am_nX μ3) m3 l3)
      refine hthr μ3 m3 l3 q3 T3 _ hjlt (fun h => ?_) G3 S3 hB3 hx3 hT3 hcg3 (fun c i hc z => (f3 c i hc (wpy_2 z).1).trans (f2m c i (wpy_2 z).2.1 (wpy_2 z).2.2)) fl3
      have h2 := h.2
      rw [Ev_cn hgo hE0] at h2
      exact absurd h2 (Nat.not_le_of_lt hgt)
  · show Q (.inr 3) (sA (am_nX μ3) m3 l3)
    exact hthr μ3 m3 l3 q3 T3 Fn3 hjlt (fun h => hno h.1) G3 S3 hB3 hx3 hT3 (fun t cs ht h => cg3 t cs ht (cg2 t cs h)) (fun c i hc z => (f3 c i hc (wpy_2 z).1).trans (f2m c i (wpy_2 z).2.1 (wpy_2 z).2.2)) fl3
end CPY
