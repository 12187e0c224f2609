/-! ===== the class's expand: one joint move, walked ===== -/
section CET
variable {d : Nat} {Q : Option Value ⊕ Nat → am_Mem → Prop} {X : Int → List Int → Prop} {W : Int → Nat} {s q e N0 M : Nat} {rs : List Rul} {lev : List Int → Nat} {F G Fn Tf : Nat} {S0 : List Atm} {μ : am_Mem} {m l : PM} {st A : List (List Cd)} {As sts : List (List (List Cd))}
theorem kl_turn {n j tot : Nat} (hS : ShX s μ q e) (hs : s = 22 ∨ s = 42) (hgo : GoS rs) (hB : ClB X W s rs q m M N0) (hNf : N0 ≤ Tf) (hTf : Tf ≤ M) (hMb : M ≤ Tf + 12140 + 11 * A.length) (hx : FxC X W s rs lev F G N0 m q M Fn S0 Tf) (hsn : SnI X rs q m 101 N0 M st) (hrow : RwC X q m M 111 0 A.reverse) (htm : ∀ p, p ∈ A → TmC X q m N0 p) (hA60 : A.length ≤ 60) (hnd : A.Nodup) (hmem : ∀ t, t ∈ A ↔ t ∈ st) (hSt : StI X m e As) (hCo : CoA X As sts) (e1 : l 16 18 = (tot : Int)) (ht : tot ≤ 30000000) (hn : n < 300) (hj : j < jmO rs (rlS rs) st) (h40 : jmO rs (rlS rs) st ≤ 40) (e115 : m 115 (n : Int) = (jmO rs (rlS rs) st : Int))
    (hok : ∀ (μ' : am_Mem) (m' l' : PM) (q' e' : Nat) (As' : List (List (List Cd))) (Fn' : Nat), okJ rs (rlS rs) st j sts tot → Gx μ q e μ' q' e' → ShX s μ' q' e' → ClB X W s rs q' m' M N0 → FxC X W s rs lev F G N0 m' q' M Fn' S0 Tf → StI X m' e' As' → CoA X As' (adS sts (nsO rs (rlS rs) st (chO rs (rlS rs) st j))) → m' 106 1 = (As'.length : Int) → m' 113 ((ixS (nsO rs (rlS rs) st (chO rs (rlS rs) st j)) sts : Nat) : Int) = (((nsO rs (rlS rs) st (chO rs (rlS rs) st j))).length : Int) → (∀ i, ¬ i = ((ixS (nsO rs (rlS rs) st (chO rs (rlS rs) st j)) sts : Nat) : Int) → m' 113 i = m 113 i) → m' 116 (40 * (n : Int) + (j : Int)) = ((ixS (nsO rs (rlS rs) st (chO rs (rlS rs) st j)) sts : Nat) : Int) → (∀ i, ¬ i = 40 * (n : Int) + (j : Int) → m' 116 i = m 116 i) → (∀ p, p ∈ (nsO rs (rlS rs) st (chO rs (rlS rs) st j)) → TmC X q' m' N0 p) → l' 16 18 = ((tot + wkO rs (baA 1 st (rlS rs) (chO rs (rlS rs) st j)) : Nat) : Int) → (∀ t cs, t < M → Cg X q m t cs → Cg X q' m' t cs) → (∀ c i, c < am_n μ → ¬ WJt q e n c i → m' c i = m c i) → (∀ c i, c < am_n μ → ¬ ((c = 70 ∧ i = 16) ∨ (c = 16 ∧ i = 18)) → l' c i = l c i) → Wp (d + 16) 138 (140, [some (.ref 16), some (.int (zI (n : Int))), some (.ref 84), some (.ref 111), some (.int (zI (A.length : Int))), some (.int (zI (M : Int))), some (.int (zI ((j : Int) + 1)))], [], sA μ' m' l') Q)
    (hthr : ∀ (μ' : am_Mem) (m' l' : PM) (q' e' T' Fn' : Nat), ¬ okJ rs (rlS rs) st j sts tot → Gx μ q e μ' q' e' → ShX s μ' q' e' → ClB X W s rs q' m' T' N0 → FxC X W s rs lev F G N0 m' q' T' Fn' S0 Tf → M ≤ T' → m' 109 0 = 0 → (∀ i, 0 ≤ m' e' i ∧ m' e' i ≤ 32767) → (∀ t cs, t < M → Cg X q m t cs → Cg X q' m' t cs) → (∀ c i, c < am_n μ → ¬ WJt q e n c i → m' c i = m c i) → (∀ c i, c < am_n μ → ¬ ((c = 70 ∧ i = 16) ∨ (c = 16 ∧ i = 18)) → l' c i = l c i) → Q (.inr 3) (sA (am_nX μ') m' l')) :
    Wp (d + 16) 138 (140, [some (.ref 16), some (.int (zI (n : Int))), some (.ref 84), some (.ref 111), some (.int (zI (A.length : Int))), some (.int (zI (M : Int))), some (.int (zI (j : Int)))], [], sA μ m l) Q := by
  obtain ⟨⟨s1, s2, s3, s4, s5, s6⟩, ⟨x1, x2⟩, ⟨x3, x4, x5⟩, _, x7⟩ := id hS
  obtain ⟨⟨c1, c2, c3, c4⟩, c5, c6, c7, ⟨c8, c9⟩, c10, c11, c12⟩ := id hB
  have hx8 := hx.2.2.2.2.2.1.2
  obtain ⟨n1, n2, n3, n4, n5⟩ := id hsn
  have hn4 := (rlS_ok rs).2
  have h60 := (KV_n c1).2.1
  have hN : N0 ≤ M := Nat.le_trans hNf hTf
  have nov : ¬ ovO rs (rlS rs) st := fun h => by
    have : jmO rs (rlS rs) st = 0 := by
      unfold jmO
      exact if_pos h
    omega
  have ejm : jmO rs (rlS rs) st = jmN (rlS rs).length (mvO rs (rlS rs) st) := by
    unfold jmO
    exact if_neg nov
  have hjlt : j < jmN (rlS rs).length (mvO rs (rlS rs) st) := by omega
  have hpos := jmN_pos (Nat.lt_of_le_of_lt (Nat.zero_le _) hjlt)
  have hj40 : j < 40 := by omega
  refine K138_140 s1 s2 (TQ_q s3) hs s5 x1 x2 (hE_of hS) ⟨⟨by omega, by omega⟩, ⟨by omega, by omega⟩, by rw [e115]; exact ⟨by omega, by omega⟩, fun z => absurd z (by rw [e115]; omega), fun _ => ⟨fun μ' => Wp (d + 16) 138 (163, [some (.ref 16), some (.int (zI (n : Int))), some (.ref 84), some (.ref 111), some (.int (zI (A.length : Int))), some (.int (zI (M : Int))), some (.int (zI (j : Int)))], [], μ') Q, noX, ?_, fun _ h => h, fun _ _ z => z.elim⟩⟩
  refine k_choose (d := d + 14) (Q := pV _ noX) (v := 101) s1 (Or.inr rfl) s3 n2 hn4 n4 hpos (by omega) (fun m1 rw1 f1 => ?_)
  show Wp (d + 16) 138 (163, [some (.ref 16), some (.int (zI (n : Int))), some (.ref 84), some (.ref 111), some (.int (zI (A.length : Int))), some (.int (zI (M : Int))), some (.int (zI (j : Int)))], [], sA μ m1 l) Q
  have f1' : ∀ c i, ¬ c = 105 → m1 c i = m c i := f1
  have cg1 : ∀ t cs, Cg X q m t cs → Cg X q m1 t cs := fun t cs h => Cg_q (fun c i hc => f1' c i (n105_s (j := i) hs s3 (by omega))) h
  have ct1 : CtT X q (tN q) (tS q) m1 M := CtT_f6 (fun c i z => f1' c i (n105_s (j := i) hs s3 (by omega))) c6
  have hB1 : ClB X W s rs q m1 M N0 := ClB_st (fun c i z => f1' c i (n105_s (j := i) hs s3 (by omega))) (fun t cs _ h => cg1 t cs h) ct1 hB
  have hx1 : FxC X W s rs lev F G N0 m1 q M Fn S0 Tf := FxC_o hS.1 hs hx (fun c i z => f1' c i (n105_s (j := i) hs s3 (by omega))) (fun t cs _ h => cg1 t cs h) hTf ct1
  have hlc : (chO rs (rlS rs) st j).length = (rlS rs).length := by
    unfold chO
    rw [List.length_map, List.length_range]
  have hch : ∀ r, r < (rlS rs).length → (chO rs (rlS rs) st j).getD r [] ∈ mvO rs (rlS rs) st r := fun r hr => by
    rw [chO_g hr]
    exact gD_in (chI_lt hpos j r hr)
  have rwc : RwC X q m1 M 105 0 ((chO rs (rlS rs) st j).take (rlS rs).length) := fun i hi => by
    rw [← hlc, List.take_length] at hi ⊢
    rw [hlc] at hi
    obtain ⟨u, u1, u2, u3⟩ := rw1 i hi
    refine ⟨u, ?_, u2, ?_⟩
    · rw [Int.zero_add]
      exact u1
    · rw [chO_g hi]
      exact cg1 u _ u3
  have memst : ∀ t, t ∈ A.reverse ↔ t ∈ st := fun t => List.mem_reverse.trans (hmem t)
  have hrl : A.reverse.length = A.length := List.length_reverse
  have hSt1 : StI X m1 e As := StI_o (fun c i h => f1' c i (n105_e x3 h)) hSt
  refine K138_163 s1 s2 (TQ_q s3) hs s5 x1 x2 (hE_of hS) ?_
  rw [f1' 70 4 (by decide), c8]
  refine ⟨fun μ' => Wp (d + 16) 138 (187, [some (.ref 16), some (.int (zI (n : Int))), some (.ref 84), some (.ref 111), some (.int (zI (A.length : Int))), some (.int (zI (M : Int))), some (.int (zI (j : Int)))], [], μ') Q, fun x μ' => Q (.inr x) μ', ?_, fun _ h => h, fun _ _ h => h⟩
  rw [← hrl]
  refine kl_run (d := d + 1) (C1 := N0 + 12140) (st := A.reverse) (ch := chO rs (rlS rs) st j) (n := (rlS rs).length) (r1 := 111) (r3 := 105) (Q := pV _ _) hS hs hgo hB1 hN hx1 hTf (by omega) (by omega) (cK_111 s1) (cK_105 s1) (by decide) (by decide) (by decide) (by decide) (List.pairwise_reverse.mpr (List.Pairwise.imp (fun h e => h e.symm) hnd)) (by omega) (by omega) (RwC_st (Nat.le_refl _) (fun i _ _ => f1' _ _ (by decide)) (fun t cs _ h => cg1 t cs h) hrow) (Nat.le_refl _) hn4 (by rw [hlc]; exact Nat.le_refl _) rwc (fun t ht => TmC_st (fun t cs _ h => cg1 t cs h) (htm t (List.mem_reverse.mp ht))) (fun r hr => ⟨rl_tm hgo hB1 n1 hr, TmC_st (fun t cs _ h => cg1 t cs h) (n5 r hr _ (hch r hr))⟩) (fun μ3 m3 l3 q3 T3 S hE G3 S3 hB3 hx3 hW3 hne3 tm3 hT3 cg3 f3 fl3 hl3 => ?_) (fun μ3 m3 l3 q3 T3 Fn3 hno G3 S3 hB3 hx3 hT3 cg3 f3 fl3 => ?_)
  · show Wp (d + 16) 138 (187, [some (.ref 16), some (.int (zI (n : Int))), some (.ref 84), some (.ref 111), some (.int (zI (A.reverse.length : Int))), some (.int (zI (M : Int))), some (.int (zI (j : Int)))], [], sA μ3 m3 l3) Q
    rw [hrl]
    obtain ⟨⟨r1, r2, r3, r4, r5, r6⟩, ⟨y1, y2⟩, ⟨y3, y4, y5⟩, _, y7⟩ := id S3
    have hq3 : q3 = q ∨ (q = 85 ∧ am_n μ ≤ q3) := G3.2.2.2.1
    have hE0 : EvG rs (baA 1 st (rlS rs) (chO rs (rlS rs) st j)) S := by
      rw [← ba_1]
      exact EvG_mem (bS_mem memst _) hE
    have hwk : wkO rs (baA 1 st (rlS rs) (chO rs (rlS rs) st j)) = smR S rs := Ev_wk hgo hE0
    have hsm := smR_b rs hE0.2.2.2.2.2.2
    have el3 : l3 16 18 = (tot : Int) := (fl3 16 18 (by omega) (by decide)).trans e1
    have f31 : ∀ c i, c < am_n μ → ¬ WRn q c i → ¬ c = 105 → m3 c i = m c i := fun c i hc z1 z2 => (f3 c i hc z1).trans (f1' c i z2)
    have cgm : ∀ t cs, t < M → Cg X q m t cs → Cg X q3 m3 t cs := fun t cs ht h => cg3 t cs ht (cg1 t cs h)
    have hSt3 : StI X m3 e As := StI_o (fun c i h => f3 c i (wrn_e x3 x4 x5 s3 x7 h).1 (wrn_e x3 x4 x5 s3 x7 h).2) hSt1
    refine K138_187 r1 r2 (TQ_q r3) hs r5 y1 y2 (hE_of S3) ⟨fun μ' => Wp (d + 16) 138 (191, [some (.ref 16), some (.int (zI (n : Int))), some (.ref 84), some (.ref 111), some (.int (zI (A.length : Int))), some (.int (zI (M : Int))), some (.int (zI (j : Int)))], [], μ') Q, fun x μ' => Q (.inr x) μ', ?_, fun _ h => h, fun _ _ h => h⟩
    refine k_addWork (w := tot) (k := smR S rs) r1 el3 hl3 ht (by omega) (fun hle => ?_) (fun hgt => ?_)
    · show Wp (d + 16) 138 (191, [some (.ref 16), some (.int (zI (n : Int))), some (.ref 84), some (.ref 111), some (.int (zI (A.length : Int))), some (.int (zI (M : Int))), some (.int (zI (j : Int)))], [], sA μ3 m3 (up l3 16 18 ((tot + smR S rs : Nat) : Int))) Q
      have hx3' : X 3 (wdC.getD 3 []) := hB3.1.1.2.2.1.2 3 (by decide)
      have hw3 : W 3 = 1 := by
        rw [hB3.1.2.2.2 3 _ hx3', wdt_own hgo (w := wdC.getD 3 []) (by decide +kernel)]
        decide +kernel
      obtain ⟨ns, hns, hnm⟩ := nl_ex (w := wdC.getD 3 []) (S := S) (fun a ha p hp => (tm3 a ha p hp).1)
      have est : ns = nsO rs (rlS rs) st (chO rs (rlS rs) st j) := lsO_eq hns (fun t => (hnm t).trans (Ev_hld hgo hE0 _).symm)
      subst est
      have hcn : cnO rs (baA 1 st (rlS rs) (chO rs (rlS rs) st j)) (wdC.getD 3 []) = cntA S (wdC.getD 3 []) := Ev_cn hgo hE0 _
      refine K138_191 r1 r2 (TQ_q r3) hs r5 y1 y2 (hE_of S3) ⟨fun x μ' => Wp (d + 16) 138 (210, [some (.ref 16), some (.int (zI (n : Int))), some (.ref 84), some (.ref 111), some (.int (zI (A.length : Int))), some (.int (zI (M : Int))), some (.int (zI (j : Int)))], [.int x, .int (zI ((40 * (n : Int)) + (j : Int))), .ref 116], μ') Q, fun x μ' => Q (.inr x) μ', ?_, fun _ _ h => h, fun _ _ h => h⟩
      refine kl_enter (d := d) (Q := pI _ _) (x := 3) (w := wdC.getD 3 []) S3 hs hB3 hW3 hE.2.2.2.1 tm3 hx3' hw3 hns hnm hSt3 hCo (fun μ5 m5 l5 e5 As5 hc hmm G5 S5 t5 co5 e106 e113 o113 f5 fl5 => ?_) (fun μ5 m5 l5 e5 hbad G5 S5 z109 rg5 f5 fl5 => ?_)
      · show Wp (d + 16) 138 (210, [some (.ref 16), some (.int (zI (n : Int))), some (.ref 84), some (.ref 111), some (.int (zI (A.length : Int))), some (.int (zI (M : Int))), some (.int (zI (j : Int)))], [.int (zI ((ixS (nsO rs (rlS rs) st (chO rs (rlS rs) st j)) sts : Nat) : Int)), .int (zI ((40 * (n : Int)) + (j : Int))), .ref 116], sA μ5 m5 l5) Q
        obtain ⟨⟨u1, u2, u3, u4, u5, u6⟩, ⟨v1, v2⟩, ⟨v3, v4, v5⟩, v6, v7⟩ := id S5
        refine K138_210 u1 u2 (TQ_q u3) hs u5 v1 v2 (hE_of S5) ⟨⟨by omega, by omega⟩, fun m6 em6 => ?_⟩
        have f6 : ∀ c i, ¬ (c = 116 ∧ i = 40 * (n : Int) + (j : Int)) → m6 c i = m5 c i := fun c i z => by rw [em6, up_o z]
        have f6' : ∀ c i, ¬ c = 116 → m6 c i = m5 c i := fun c i z => f6 c i (fun y => z y.1)
        have q36 : ∀ c i, (q3 ≤ c ∧ c ≤ q3 + 7) ∨ (c = 84 ∧ i = 9) → m6 c i = m3 c i := fun c i z => (f6' c i (wen_q v6 y3 y4 r4.2 z).2.2).trans (f5 c i (wen_q v6 y3 y4 r4.2 z).1 (wen_q v6 y3 y4 r4.2 z).2.1)
        have ct6 : CtT X q3 (tN q3) (tS q3) m6 T3 := CtT_f6 (fun c i z => q36 c i (by omega)) hB3.2.2.1
        refine ⟨_, noX, k_tcut (d := d + 15) (l := l5) u1 u2 (TQ_q u3) ct6.1 hT3, fun μ' hp => ?_, fun _ _ z => z.elim⟩
        obtain ⟨m7, e7, ci7, f7⟩ := hp
        rw [e7]
        have f73 : ∀ c i, c < am_n μ3 → ¬ WEn e c i → ¬ c = 116 → ¬ (c = q3 + 7 ∨ (c = 84 ∧ i = 9)) → m7 c i = m3 c i := fun c i hc z1 z2 z3 => (f7 c i z3).trans ((f6' c i z2).trans (f5 c i hc z1))
        have cg7 : ∀ t cs, Cg X q3 m3 t cs → Cg X q3 m7 t cs := fun t cs h => Cg_q (fun c i hc => (f7 c i (by omega)).trans (q36 c i (by omega))) h
        have ct7 : CtT X q3 (tN q3) (tS q3) m7 M := CtT_cg (P := 4 * tN q3) hT3 ct6 ci7 (fun c i z => f7 c i (by omega))
        have hB7 : ClB X W s rs q3 m7 M N0 := ClB_st (fun c i z => by
          obtain ⟨w1, w2, w3, w4⟩ := wen_s (c := c) (j := i) hs r3 y3 y7 (by omega)
          exact f73 c i w1 w2 w3 w4) (fun t cs _ h => cg7 t cs h) ct7 hB3
        have hx7 : FxC X W s rs lev F G N0 m7 q3 M S.length S0 Tf := FxC_o S3.1 hs hx3 (fun c i z => by
          obtain ⟨w1, w2, w3, w4⟩ := wen_s (c := c) (j := i) hs r3 y3 y7 (by omega)
          exact f73 c i w1 w2 w3 w4) (fun t cs _ h => cg7 t cs h) hTf ct7
        have f75 : ∀ c i, (c = 107 ∧ i = 3) ∨ c = 109 ∨ c = 110 ∨ c = e5 ∨ c = 113 ∨ c = 106 → m7 c i = m5 c i := fun c i z => (f7 c i (wtc_e u3 v3 v4 (by omega))).trans (f6' c i (w116_e v3 z))
        have t7 : StI X m7 e5 As5 := StI_o (fun c i z => f75 c i (by omega)) t5
        have frm7 : ∀ c i, c < am_n μ → ¬ WJt q e n c i → m7 c i = m c i := fun c i hc z => (f7 c i (wjt_2 hq3 hc z)).trans ((f6 c i (wjt_3 hj40 (wjt_1 z).2.2.2)).trans ((f5 c i (Nat.lt_of_lt_of_le hc G3.1) (wjt_1 z).2.2.1).trans (f31 c i hc (wjt_1 z).2.1 (wjt_1 z).1)))
        have f71 : ∀ i, m7 116 i = m6 116 i := fun i => f7 116 i (wtc_e u3 v3 v4 (by omega))
        refine K138_217 u1 u2 (TQ_q u3) hs u5 v1 v2 (hE_of S5) ?_
        refine hok μ5 m7 l5 q3 e5 As5 S.length ⟨⟨⟨S, hE0⟩, ?_⟩, ?_, hmm⟩ (Gx_t hS G3 G5) S5 hB7 hx7 t7 co5 ((f75 106 1 (by omega)).trans e106) ((f75 113 _ (by omega)).trans e113) (fun i hi => (f75 113 i (by omega)).trans ((o113 i hi).trans (f31 113 i (wrn_3 (j := i) s3 x7 (by omega)).1 (wrn_3 (j := i) s3 x7 (by omega)).2.1 (wrn_3 (j := i) s3 x7 (by omega)).2.2))) ?_ (fun i hi => (f71 i).trans ((f6 116 i (fun y => hi y.2)).trans ((f5 116 i (wen_3 (j := i) y3 y7 rfl).1 (wen_3 (j := i) y3 y7 rfl).2).trans (f31 116 i (wrn_3 (j := i) s3 x7 (by omega)).1 (wrn_3 (j := i) s3 x7 (by omega)).2.1 (wrn_3 (j := i) s3 x7 (by omega)).2.2)))) ?_ ?_ (fun t cs ht h => cg7 t cs (cgm t cs ht h)) frm7 (fun c i hc z => (fl5 c i (Nat.lt_of_lt_of_le hc G3.1)).trans ((up_o (fun y => z (Or.inr y))).trans (fl3 c i hc (fun y => z (Or.inl y)))))
        · rw [Ev_cn hgo hE0]
          exact hc
        · rw [hwk]
          exact hle
        · rw [f71, em6, up_s]
        · exact fun p hp => TmC_st (fun t cs _ h => cg7 t cs h) (tm3 _ ((hnm p).mp hp) p (List.mem_singleton.mpr rfl))
        · rw [hwk, fl5 16 18 (by omega), up_s]
      · show Q (.inr 3) (sA (am_nX μ5) m5 l5)
        obtain ⟨⟨u1, u2, u3, u4, u5, u6⟩, ⟨v1, v2⟩, ⟨v3, v4, v5⟩, v6, v7⟩ := id S5
        have q35 : ∀ c i, (q3 ≤ c ∧ c ≤ q3 + 7) ∨ (c = 84 ∧ i = 9) → m5 c i = m3 c i := fun c i z => f5 c i (wen_q v6 y3 y4 r4.2 z).1 (wen_q v6 y3 y4 r4.2 z).2.1
        have ct5 : CtT X q3 (tN q3) (tS q3) m5 T3 := CtT_f6 (fun c i z => q35 c i (by omega)) hB3.2.2.1
        have cg5 : ∀ t cs, Cg X q3 m3 t cs → Cg X q3 m5 t cs := fun t cs h => Cg_q (fun c i hc => q35 c i (by omega)) h
        have hB5 : ClB X W s rs q3 m5 T3 N0 := ClB_st (fun c i z => by
          obtain ⟨w1, w2, w3, w4⟩ := wen_s (c := c) (j := i) hs r3 y3 y7 (by omega)
          exact f5 c i w1 w2) (fun t cs _ h => cg5 t cs h) ct5 hB3
        have hx5 : FxC X W s rs lev F G N0 m5 q3 T3 S.length S0 Tf := FxC_o S3.1 hs hx3 (fun c i z => by
          obtain ⟨w1, w2, w3, w4⟩ := wen_s (c := c) (j := i) hs r3 y3 y7 (by omega)
          exact f5 c i w1 w2) (fun t cs _ h => cg5 t cs h) (Nat.le_trans hTf hT3) ct5
        refine hthr μ5 m5 l5 q3 e5 T3 S.length (fun h => ?_) (Gx_t hS G3 G5) S5 hB5 hx5 hT3 (z109.trans hSt3.2.2.1) rg5 (fun t cs ht h => cg5 t cs (cgm t cs ht h)) (fun c i hc z => (f5 c i (Nat.lt_of_lt_of_le hc G3.1) (wjt_1 z).2.2.1).trans (f31 c i hc (wjt_1 z).2.1 (wjt_1 z).1)) (fun c i hc z => (fl5 c i (Nat.lt_of_lt_of_le hc G3.1)).trans ((up_o (fun y => z (Or.inr y))).trans (fl3 c i hc (fun y => z (Or.inl y)))))
        have h1 := h.1.2
        rw [Ev_cn hgo hE0] at h1
        rcases hbad with y | ⟨w1, w2⟩
        · exact absurd h1 (Nat.not_le_of_lt y)
        · rcases h.2.2 with y | y
          · exact w1 y
          · omega
    · show Q (.inr 3) (sA (am_nX μ3) m3 (up l3 16 18 ((tot + smR S rs : Nat) : Int)))
      refine hthr μ3 m3 _ q3 e T3 S.length (fun h => ?_) G3 S3 hB3 hx3 hT3 hSt3.2.2.1 hSt3.2.2.2.1 cgm (fun c i hc z => f31 c i hc (wjt_1 z).2.1 (wjt_1 z).1) (fun c i hc z => (up_o (fun y => z (Or.inr y))).trans (fl3 c i hc (fun y => z (Or.inl y))))
      have h1 := h.2.1
      rw [hwk] at h1
      exact hgt h1
  · show Q (.inr 3) (sA (am_nX μ3) m3 l3)
    have hSt3 : StI X m3 e As := StI_o (fun c i h => f3 c i (wrn_e x3 x4 x5 s3 x7 h).1 (wrn_e x3 x4 x5 s3 x7 h).2) hSt1
    refine hthr μ3 m3 l3 q3 e T3 Fn3 (fun h => hno ((Evb_mem (bS_mem memst _)).mpr ?_)) G3 S3 hB3 hx3 hT3 hSt3.2.2.1 hSt3.2.2.2.1 (fun t cs ht h => cg3 t cs ht (cg1 t cs h)) (fun c i hc z => (f3 c i hc (wjt_1 z).2.1).trans (f1' c i (wjt_1 z).1)) (fun c i hc z => fl3 c i hc (fun y => z (Or.inl y)))
    rw [ba_1]
    exact h.1.1
end CET
