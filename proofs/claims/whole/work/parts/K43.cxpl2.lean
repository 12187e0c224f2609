/-! ===== the class's explore ===== -/
/-- where the class with a sheet stands -/
abbrev SIc (s q c : Nat) (j : Int) : Prop := (s ≤ c ∧ c ≤ s + 19) ∨ (c = 16 ∧ (j = 12 ∨ j = 14)) ∨ (c = 70 ∧ (j = 4 ∨ (12 ≤ j ∧ j ≤ 15))) ∨ (c = 71 ∧ j = 7) ∨ (72 ≤ c ∧ c ≤ 78) ∨ c = 80 ∨ c = 81 ∨ (c = 84 ∧ j = 9) ∨ c = 94 ∨ (96 ≤ c ∧ c ≤ 99) ∨ c = 103 ∨ (q ≤ c ∧ c ≤ q + 7)
theorem ClI_cg {X : Int → List Int → Prop} {W : Int → Nat} {s q e N0 : Nat} {rs : List Rul} {μ : am_Mem} {m m' : PM} {st : Option (List (List Cd))} (hS : ShX s μ q e) (hs : s = 22 ∨ s = 42) (k : ∀ c j, SIc s q c j → m' c j = m c j) (h : ClI X W s rs q m N0 st) : ClI X W s rs q m' N0 st := by
  obtain ⟨T, hB, h⟩ := h
  have cg : ∀ t cs, Cg X q m t cs → Cg X q m' t cs := fun t cs h => Cg_q (fun c i hc => k c i (by omega)) h
  have ct : CtT X q (tN q) (tS q) m' T := CtT_f6 (fun c i z => k c i (by omega)) hB.2.2.1
  have hB' : ClB X W s rs q m' T N0 := ClB_st (fun c i z => k c i (by omega)) (fun t cs _ h => cg t cs h) ct hB
  refine ⟨T, hB', ?_⟩
  rcases h with ⟨h1, h2, h3, h4, h5, h6, h7⟩ | ⟨lev, F, G, Fn, S0, Tf, K, h1, h2, h3, h4, h5, h6⟩ | ⟨h1, h2, h3, ⟨Fn, h4⟩, h5, h6⟩
  · exact Or.inl ⟨(k _ _ (by omega)).trans h1, h2, (k _ _ (by omega)).trans h3, FtI_o (fun c i z => k c i (by omega)) h4, ClS_cg (fun c i a b => k c i (by omega)) h5, h6, (k _ _ (by omega)).trans h7⟩
  · exact Or.inr (Or.inl ⟨lev, F, G, Fn, S0, Tf, K, FxC_o hS.1 hs h1 (fun c i z => k c i (by omega)) (fun t cs _ h => cg t cs h) h1.2.2.2.2.2.1.1 ct, h2, h3, h4, (k _ _ (by omega)).trans h5, CsB_st (Nat.le_trans h2 h3) (fun c i z => k c i (by omega)) (fun t cs _ h => cg t cs h) h6⟩)
  · exact Or.inr (Or.inr ⟨(k _ _ (by omega)).trans h1, h2, h3, ⟨Fn, FtI_o (fun c i z => k c i (by omega)) h4⟩, h5, (k _ _ (by omega)).trans h6⟩)
theorem wxa_1 {q e c : Nat} {j : Int} (z : ¬ WXa q e c j) : ¬ (c = q + 7 ∨ (c = 84 ∧ j = 9)) ∧ ¬ (c = 106 ∧ (j = 0 ∨ j = 1) ∨ c = 107 ∧ j = 3) ∧ ¬ WRn q c j ∧ ¬ WEn e c j := ⟨fun y => z (Or.inl (wcut_q (N := c + 1) (Or.inl rfl) (Nat.lt_succ_self c) y)), fun y => z (by
  rcases y with y | y
  · exact Or.inr (Or.inr (Or.inr (Or.inl (by rw [y.1]; decide))))
  · exact Or.inr (Or.inr (Or.inr (Or.inr (Or.inl y))))), fun y => z (Or.inl y), fun y => z (wen_a y)⟩
theorem wxa_2 {q0 e0 q e N c : Nat} {j : Int} (hq : q = q0 ∨ (q0 = 85 ∧ N ≤ q)) (he : e = e0 ∨ (e0 = 108 ∧ N ≤ e)) (hc : c < N) (z : ¬ WXa q0 e0 c j) : ¬ WXa q e c j := fun y => z (wxa_g hq he hc y)
theorem wc3_s {s q c : Nat} {j : Int} (hs : s = 22 ∨ s = 42) (hq : q = 85 ∨ 185 ≤ q) (z : (s ≤ c ∧ c ≤ s + 19) ∨ c = 80 ∨ c = 81 ∨ (c = 70 ∧ (j = 4 ∨ j = 15 ∨ (12 ≤ j ∧ j ≤ 14))) ∨ c = 98 ∨ c = 103 ∨ (72 ≤ c ∧ c ≤ 78) ∨ (c = 71 ∧ j = 7) ∨ c = 109 ∨ c = 94) : ¬ (c = q + 7 ∨ (c = 84 ∧ j = 9)) ∧ ¬ (c = 106 ∧ (j = 0 ∨ j = 1) ∨ c = 107 ∧ j = 3) := by omega
theorem wxa_k {q e N c : Nat} {j : Int} (hq : q = 85 ∨ 185 ≤ q) (he : e = 108 ∨ 185 < e) (hN : 186 ≤ N) (z : c = 94 ∨ (96 ≤ c ∧ c ≤ 99) ∨ (c = 16 ∧ (j = 12 ∨ j = 14 ∨ j = 17)) ∨ (c = 70 ∧ j = 15)) : c < N ∧ ¬ WXa q e c j := ⟨by omega, fun y => by rcases y with y | y | y | y | y | y | y | y <;> rcases z with z | z | z | z <;> omega⟩
theorem wrn_9 {q N c : Nat} {j : Int} (hq : q = 85 ∨ 185 ≤ q) (hN : 186 ≤ N) (z : c = 109 ∨ c = 106 ∨ (c = 70 ∧ j = 15)) : c < N ∧ ¬ WRn q c j := by
  rcases z with z | z | z <;> exact ⟨by omega, by omega⟩
theorem wrn_10 {q e N c : Nat} {j : Int} (hq : q = 85 ∨ 185 ≤ q) (he : e = 108 ∨ 185 < e) (hn : ¬ (q ≤ e ∧ e ≤ q + 7)) (heN : e < N) (z : c = e) : c < N ∧ ¬ WRn q c j := by omega
theorem wen_9 {e N c : Nat} {j : Int} (he : e = 108 ∨ 185 < e) (hN : 186 ≤ N) (z : (c = 106 ∧ j = 0) ∨ (c = 70 ∧ j = 15)) : c < N ∧ ¬ WEn e c j := by
  rcases z with z | z <;> exact ⟨by omega, by omega⟩
section CXM
variable {d : Nat} {Q : Option Value ⊕ Nat → am_Mem → Prop} {X : Int → List Int → Prop} {W : Int → Nat} {s q e T N0 K : Nat} {rs : List Rul} {lev : List Int → Nat} {F G Fn Tf : Nat} {S0 : List Atm} {μ : am_Mem} {m l : PM} {st : Option (List (List Cd))} {xp : Option (List (List (List Cd)) × List (List Nat))}
theorem kl_expl23 (hS : ShX s μ q e) (hs : s = 22 ∨ s = 42) (hgo : GoS rs) (hB : ClB X W s rs q m T N0) (hNf : N0 ≤ Tf) (hK : K ≤ T) (e15 : m 70 15 = (K : Int)) (hx : FxC X W s rs lev F G N0 m q T Fn S0 Tf) (hTf : Tf ≤ K) (hKb : K ≤ Tf + 11660) (hz : m 109 0 = 0) (hrg : ∀ j, 0 ≤ m e j ∧ m e j ≤ 32767)
    (hok : ∀ (μ' : am_Mem) (m' l' : PM) (q' e' T' : Nat) (sts : List (List (List Cd))) (nx : List (List Nat)) (Fn' : Nat), xO rs (rlS rs) = some (sts, nx) → Gx μ q e μ' q' e' → ShX s μ' q' e' → ClB X W s rs q' m' T' N0 → FxC X W s rs lev F G N0 m' q' T' Fn' S0 Tf → K ≤ T' → m' 109 0 = 0 → (∀ i, 0 ≤ m' e' i ∧ m' e' i ≤ 32767) → XkC rs m' sts nx → (∀ t cs, t < K → Cg X q m t cs → Cg X q' m' t cs) → (∀ c i, c < am_n μ → ¬ WXa q e c i → ¬ (c = 16 ∧ i = 17) → m' c i = m c i) → (∀ c i, c < am_n μ → ¬ WlX c i → l' c i = l c i) → Q (.inl (some (.int (zI (sts.length : Int))))) (sA μ' m' l'))
    (hthr : ∀ (μ' : am_Mem) (m' l' : PM) (q' e' T' Fn' : Nat), xO rs (rlS rs) = none → Gx μ q e μ' q' e' → ShX s μ' q' e' → ClB X W s rs q' m' T' N0 → FxC X W s rs lev F G N0 m' q' T' Fn' S0 Tf → K ≤ T' → m' 109 0 = 0 → (∀ i, 0 ≤ m' e' i ∧ m' e' i ≤ 32767) → (∀ t cs, t < K → Cg X q m t cs → Cg X q' m' t cs) → (∀ c i, c < am_n μ → ¬ WXa q e c i → m' c i = m c i) → (∀ c i, c < am_n μ → ¬ WlX c i → l' c i = l c i) → Q (.inr 3) (sA (am_nX μ') m' l')) :
    Wp (d + 17) 135 (23, [some (.ref 16), none], [], sA μ m l) Q := by
  obtain ⟨⟨s1, s2, s3, s4, s5, s6⟩, ⟨x1, x2⟩, ⟨x3, x4, x5⟩, x6, x7⟩ := id hS
  obtain ⟨⟨c1, c2, c3, c4⟩, c5, c6, c7, ⟨c8, c9⟩, c10, c11, c12⟩ := id hB
  have hx8 := hx.2.2.2.2.2.1.2
  have h60 := (KV_n c1).2.1
  have hN : N0 ≤ K := Nat.le_trans hNf hTf
  refine K135_23 s1 s2 (TQ_q s3) hs s5 x1 x2 (hE_of hS) ?_
  rw [e15]
  refine ⟨_, noX, k_tcut (d := d + 16) s1 s2 (TQ_q s3) c6.1 hK, fun μ' hp => ?_, fun _ _ z => z.elim⟩
  obtain ⟨m2, e2, ci2, f2⟩ := hp
  rw [e2]
  have ct2 : CtT X q (tN q) (tS q) m2 K := CtT_cg (P := 4 * tN q) hK c6 ci2 (fun c j z => f2 c j (by omega))
  have cg2 : ∀ t cs, Cg X q m t cs → Cg X q m2 t cs := fun t cs h => Cg_q (fun c j hc => f2 c j (by omega)) h
  have hB2 : ClB X W s rs q m2 K N0 := ClB_st (fun c j z => f2 c j (wcu_s hs s3 (by omega))) (fun t cs _ h => cg2 t cs h) ct2 hB
  have hx2 : FxC X W s rs lev F G N0 m2 q K Fn S0 Tf := FxC_o hS.1 hs hx (fun c j z => f2 c j (wcu_s hs s3 (by omega))) (fun t cs _ h => cg2 t cs h) hTf ct2
  refine K135_40 s1 s2 (TQ_q s3) hs s5 x1 x2 (hE_of hS) ?_
  rw [f2 70 4 (wcu_s hs s3 (by omega)), c8]
  refine ⟨fun μ' => Wp (d + 17) 135 (54, [some (.ref 16), none], [], μ') Q, noX, ?_, fun _ h => h, fun _ _ z => z.elim⟩
  refine k_clearSt (d := d + 16) (Q := pV _ noX) (X := X) (e := e) (k := (rlS rs).length) s1 ((f2 109 0 (wc3_s (s := s) hs s3 (by omega)).1).trans hz) (fun j => by rw [f2 e j (by omega)]; exact hrg j) x3 (fun m3 e30 e31 t3 f3 => ?_)
  show Wp (d + 17) 135 (54, [some (.ref 16), none], [], sA μ m3 l) Q
  have f3m : ∀ c j, ¬ (c = q + 7 ∨ (c = 84 ∧ j = 9)) → ¬ (c = 106 ∧ (j = 0 ∨ j = 1) ∨ c = 107 ∧ j = 3) → m3 c j = m c j := fun c j z1 z2 => (f3 c j z2).trans (f2 c j z1)
  have cg3 : ∀ t cs, Cg X q m2 t cs → Cg X q m3 t cs := fun t cs h => Cg_q (fun c j hc => f3 c j (by omega)) h
  have ct3 : CtT X q (tN q) (tS q) m3 K := CtT_f6 (fun c j z => f3 c j (by omega)) ct2
  have hB3 : ClB X W s rs q m3 K N0 := ClB_st (fun c j z => f3 c j (wc3_s (s := s) (q := q) hs s3 (by omega)).2) (fun t cs _ h => cg3 t cs h) ct3 hB2
  have hx3 : FxC X W s rs lev F G N0 m3 q K Fn S0 Tf := FxC_o hS.1 hs hx2 (fun c j z => f3 c j (wc3_s (s := s) (q := q) hs s3 (by omega)).2) (fun t cs _ h => cg3 t cs h) hTf ct3
  refine K135_54 s1 s2 (TQ_q s3) hs s5 x1 x2 (hE_of hS) ⟨fun μ' => Wp (d + 17) 135 (79, [some (.ref 16), none], [], μ') Q, fun x μ' => Q (.inr x) μ', ?_, fun _ h => h, fun _ _ h => h⟩
  refine kl_run (d := d + 2) (C1 := N0 + 11660) (st := []) (ch := []) (n := 0) (r1 := 94) (r3 := 105) (Q := pV _ _) hS hs hgo hB3 hN hx3 hTf (by omega) (by omega) (cK_94 s1) (cK_105 s1) (by decide) (by decide) (by decide) (by decide) List.nodup_nil (by decide) (by decide) (fun i hi => absurd hi (Nat.not_lt_zero _)) (Nat.zero_le _) (by decide) (by decide) (fun i hi => absurd hi (Nat.not_lt_zero _)) (fun t ht => absurd ht List.not_mem_nil) (fun r hr => absurd hr (Nat.not_lt_zero _)) (fun μ4 m4 l4 q4 T4 S hE G4 S4 hB4 hx4 hW4 hne4 tm4 hT4 cg4 f4 fl4 hl4 => ?_) (fun μ4 m4 l4 q4 T4 Fn4 hno G4 S4 hB4 hx4 hT4 cg4 f4 fl4 => ?_)
  · show Wp (d + 17) 135 (79, [some (.ref 16), none], [], sA μ4 m4 l4) Q
    obtain ⟨⟨r1, r2, r3, r4, r5, r6⟩, ⟨y1, y2⟩, ⟨y3, y4, y5⟩, y6, y7⟩ := id S4
    have hq4 : q4 = q ∨ (q = 85 ∧ am_n μ ≤ q4) := G4.2.2.2.1
    have hE0 : EvG rs (baA 0 [] (rlS rs) []) S := hE
    have hwk : wkO rs (baA 0 [] (rlS rs) []) = smR S rs := Ev_wk hgo hE0
    have hsm := smR_b rs hE0.2.2.2.2.2.2
    have el4 : l4 16 18 = ((0 : Nat) : Int) := (fl4 16 18 (by omega) (by decide)).trans (up_s _ _ _ _)
    have cgm : ∀ t cs, t < K → Cg X q m t cs → Cg X q4 m4 t cs := fun t cs ht h => cg4 t cs ht (cg3 t cs (cg2 t cs h))
    have f4m : ∀ c j, c < am_n μ → ¬ WXa q e c j → m4 c j = m c j := fun c j hc z => (f4 c j hc (wxa_1 z).2.2.1).trans (f3m c j (wxa_1 z).1 (wxa_1 z).2.1)
    have t4 : StI X m4 e [] := StI_o (fun c i h => f4 c i (wrn_e x3 x4 x5 s3 x7 h).1 (wrn_e x3 x4 x5 s3 x7 h).2) t3
    refine K135_79 r1 r2 (TQ_q r3) hs r5 y1 y2 (hE_of S4) ⟨fun μ' => Wp (d + 17) 135 (83, [some (.ref 16), none], [], μ') Q, fun x μ' => Q (.inr x) μ', ?_, fun _ h => h, fun _ _ h => h⟩
    refine k_addWork (w := 0) (k := smR S rs) r1 el4 hl4 (by decide) (by omega) (fun hle => ?_) (fun hgt => absurd (by omega) hgt)
    show Wp (d + 17) 135 (83, [some (.ref 16), none], [], sA μ4 m4 (up l4 16 18 ((0 + smR S rs : Nat) : Int))) Q
    have hx1' : X 1 (wdC.getD 1 []) := hB4.1.1.2.2.1.2 1 (by decide)
    have hw1 : W 1 = 1 := by
      rw [hB4.1.2.2.2 1 _ hx1', wdt_own hgo (w := wdC.getD 1 []) (by decide +kernel)]
      decide +kernel
    obtain ⟨ns, hns, hnm⟩ := nl_ex (w := wdC.getD 1 []) (S := S) (fun a ha p hp => (tm4 a ha p hp).1)
    have hCo0 : CoA X [] [] := ⟨rfl, fun i hi => absurd hi (Nat.not_lt_zero _)⟩
    refine K135_83 r1 r2 (TQ_q r3) hs r5 y1 y2 (hE_of S4) ⟨fun x μ' => Wp (d + 17) 135 (88, [some (.ref 16), none], [.int x], μ') Q, fun x μ' => Q (.inr x) μ', ?_, fun _ _ h => h, fun _ _ h => h⟩
    refine kl_enter (d := d + 1) (Q := pI _ _) (x := 1) (w := wdC.getD 1 []) S4 hs hB4 hW4 hE.2.2.2.1 tm4 hx1' hw1 hns hnm t4 hCo0 (fun μ5 m5 l5 e5 As5 hc hmm G5 S5 t5 co5 e106 e113 o113 f5 fl5 => ?_) (fun μ5 m5 l5 e5 hbad G5 S5 z109 rg5 f5 fl5 => ?_)
    · show Wp (d + 17) 135 (88, [some (.ref 16), none], [.int (zI ((ixS ns [] : Nat) : Int))], sA μ5 m5 l5) Q
      obtain ⟨⟨u1, u2, u3, u4, u5, u6⟩, ⟨v1, v2⟩, ⟨v3, v4, v5⟩, v6, v7⟩ := id S5
      obtain ⟨ok, est⟩ := s0_of hgo hE0 hc hns hnm
      have ea : adS [] ns = [ns] := if_neg List.not_mem_nil
      rw [ea] at co5
      have q45 : ∀ c i, (q4 ≤ c ∧ c ≤ q4 + 7) ∨ (c = 84 ∧ i = 9) → m5 c i = m4 c i := fun c i z => f5 c i (wen_q v6 y3 y4 r4.2 z).1 (wen_q v6 y3 y4 r4.2 z).2.1
      have ct5 : CtT X q4 (tN q4) (tS q4) m5 T4 := CtT_f6 (fun c i z => q45 c i (by omega)) hB4.2.2.1
      have cg5 : ∀ t cs, Cg X q4 m4 t cs → Cg X q4 m5 t cs := fun t cs h => Cg_q (fun c i hc => q45 c i (by omega)) h
      have hB5 : ClB X W s rs q4 m5 T4 N0 := ClB_st (fun c i z => by
        obtain ⟨w1, w2, w3, w4⟩ := wen_s (c := c) (j := i) hs r3 y3 y7 (by omega)
        exact f5 c i w1 w2) (fun t cs _ h => cg5 t cs h) ct5 hB4
      have hx5 : FxC X W s rs lev F G N0 m5 q4 T4 S.length S0 Tf := FxC_o S4.1 hs hx4 (fun c i z => by
        obtain ⟨w1, w2, w3, w4⟩ := wen_s (c := c) (j := i) hs r3 y3 y7 (by omega)
        exact f5 c i w1 w2) (fun t cs _ h => cg5 t cs h) (Nat.le_trans hTf hT4) ct5
      have f5m : ∀ c i, c < am_n μ → ¬ WXa q e c i → m5 c i = m c i := fun c i hc z => (f5 c i (Nat.lt_of_lt_of_le hc G4.1) (wxa_1 z).2.2.2).trans (f4m c i hc z)
      have fl5m : ∀ c i, c < am_n μ → ¬ WlX c i → l5 c i = l c i := fun c i hc z => (fl5 c i (Nat.lt_of_lt_of_le hc G4.1)).trans ((up_o (fun y => z (Or.inr y))).trans ((fl4 c i hc (fun y => z (Or.inl y))).trans (up_o (fun y => z (Or.inr y)))))
      have G45 : Gx μ q e μ5 q4 e5 := Gx_t hS G4 G5
      have cg5m : ∀ t cs, t < K → Cg X q m t cs → Cg X q4 m5 t cs := fun t cs ht h => cg5 t cs (cgm t cs ht h)
      have e015 : m5 70 15 = (K : Int) := (f5m 70 15 (wxa_k (j := 15) s3 x3 x7 (by omega)).1 (wxa_k (j := 15) s3 x3 x7 (by omega)).2).trans e15
      have e0106 : m5 106 0 = ((rlS rs).length : Int) := (f5 106 0 (wen_9 (j := 0) y3 y7 (by omega)).1 (wen_9 (j := 0) y3 y7 (by omega)).2).trans ((f4 106 0 (wrn_9 (j := 0) s3 x7 (by omega)).1 (wrn_9 (j := 0) s3 x7 (by omega)).2).trans e30)
      have ei : ixS ns [] = 0 := rfl
      rw [ei] at e113
      refine K135_88 u1 u2 (TQ_q u3) hs u5 v1 v2 (hE_of S5) ?_
      refine kl_xloop (d := d) (Q := Q) (K := K) (res := xO rs (rlS rs)) (μ0 := μ5) (m0 := m5) (l0 := l5) (q0 := q4) (e0 := e5) S5 hs hgo hNf hTf hKb (fun μ6 m6 l6 q6 e6 T6 sts nx Fn6 hres G6 S6 hB6 hx6 hT6 z6 rg6 hk6 cg6 f6 fl6 => ?_) (fun μ6 m6 l6 q6 e6 T6 Fn6 hres G6 S6 hB6 hx6 hT6 z6 rg6 cg6 f6 fl6 => ?_) 300 0 μ5 m5 l5 q4 e5 T4 As5 [ns] (0 + smR S rs) [] S.length rfl rfl (Nat.zero_le _) Gx_r S5 hB5 hx5 hT4 e015 t5 co5 e106 e0106 (fun i hi => ?_) (fun x hx p hp => ?_) (fun i hi => absurd hi (Nat.not_lt_zero _)) ((fl5 16 18 (by omega)).trans (up_s _ _ _ _)) hle ?_ (fun t cs _ h => h) (fun _ _ _ _ => rfl) (fun _ _ _ _ => rfl)
      · exact hok μ6 m6 l6 q6 e6 T6 sts nx Fn6 hres (Gx_t hS G45 G6) S6 hB6 hx6 hT6 z6 rg6 hk6 (fun t cs ht h => cg6 t cs ht (cg5m t cs ht h)) (fun c i hc z1 z2 => (f6 c i (Nat.lt_of_lt_of_le hc G45.1) (wxa_2 G45.2.2.2.1 G45.2.2.2.2.1 hc z1) z2).trans (f5m c i hc z1)) (fun c i hc z => (fl6 c i (Nat.lt_of_lt_of_le hc G45.1) z).trans (fl5m c i hc z))
      · exact hthr μ6 m6 l6 q6 e6 T6 Fn6 hres (Gx_t hS G45 G6) S6 hB6 hx6 hT6 z6 rg6 (fun t cs ht h => cg6 t cs ht (cg5m t cs ht h)) (fun c i hc z1 => (f6 c i (Nat.lt_of_lt_of_le hc G45.1) (wxa_2 G45.2.2.2.1 G45.2.2.2.2.1 hc z1)).trans (f5m c i hc z1)) (fun c i hc z => (fl6 c i (Nat.lt_of_lt_of_le hc G45.1) z).trans (fl5m c i hc z))
      · have hi0 : i = 0 := by
          rw [List.length_singleton] at hi
          omega
        rw [hi0]
        exact e113
      · rw [List.mem_singleton.mp hx] at hp
        exact TmC_st (fun t cs _ h => cg5 t cs h) (tm4 _ ((hnm p).mp hp) p (List.mem_singleton.mpr rfl))
      · rw [est, Nat.zero_add, ← hwk]
        exact (if_pos ok).symm
    · show Q (.inr 3) (sA (am_nX μ5) m5 l5)
      obtain ⟨⟨u1, u2, u3, u4, u5, u6⟩, ⟨v1, v2⟩, ⟨v3, v4, v5⟩, v6, v7⟩ := id S5
      have q45 : ∀ c i, (q4 ≤ c ∧ c ≤ q4 + 7) ∨ (c = 84 ∧ i = 9) → m5 c i = m4 c i := fun c i z => f5 c i (wen_q v6 y3 y4 r4.2 z).1 (wen_q v6 y3 y4 r4.2 z).2.1
      have ct5 : CtT X q4 (tN q4) (tS q4) m5 T4 := CtT_f6 (fun c i z => q45 c i (by omega)) hB4.2.2.1
      have cg5 : ∀ t cs, Cg X q4 m4 t cs → Cg X q4 m5 t cs := fun t cs h => Cg_q (fun c i hc => q45 c i (by omega)) h
      have hB5 : ClB X W s rs q4 m5 T4 N0 := ClB_st (fun c i z => by
        obtain ⟨w1, w2, w3, w4⟩ := wen_s (c := c) (j := i) hs r3 y3 y7 (by omega)
        exact f5 c i w1 w2) (fun t cs _ h => cg5 t cs h) ct5 hB4
      have hx5 : FxC X W s rs lev F G N0 m5 q4 T4 S.length S0 Tf := FxC_o S4.1 hs hx4 (fun c i z => by
        obtain ⟨w1, w2, w3, w4⟩ := wen_s (c := c) (j := i) hs r3 y3 y7 (by omega)
        exact f5 c i w1 w2) (fun t cs _ h => cg5 t cs h) (Nat.le_trans hTf hT4) ct5
      have f5m : ∀ c i, c < am_n μ → ¬ WXa q e c i → m5 c i = m c i := fun c i hc z => (f5 c i (Nat.lt_of_lt_of_le hc G4.1) (wxa_1 z).2.2.2).trans (f4m c i hc z)
      have fl5m : ∀ c i, c < am_n μ → ¬ WlX c i → l5 c i = l c i := fun c i hc z => (fl5 c i (Nat.lt_of_lt_of_le hc G4.1)).trans ((up_o (fun y => z (Or.inr y))).trans ((fl4 c i hc (fun y => z (Or.inl y))).trans (up_o (fun y => z (Or.inr y)))))
      refine hthr μ5 m5 l5 q4 e5 T4 S.length (if_neg (fun h => ?_)) (Gx_t hS G4 G5) S5 hB5 hx5 hT4 (z109.trans t4.2.2.1) rg5 (fun t cs ht h => cg5 t cs (cgm t cs ht h)) f5m fl5m
      have h2 := h.2
      rw [Ev_cn hgo hE0] at h2
      rcases hbad with y | ⟨_, y⟩
      · exact absurd h2 (Nat.not_le_of_lt y)
      · exact absurd y (by decide)
  · show Q (.inr 3) (sA (am_nX μ4) m4 l4)
    have t4 : StI X m4 e [] := StI_o (fun c i h => f4 c i (wrn_e x3 x4 x5 s3 x7 h).1 (wrn_e x3 x4 x5 s3 x7 h).2) t3
    exact hthr μ4 m4 l4 q4 e T4 Fn4 (if_neg (fun h => hno h.1)) G4 S4 hB4 hx4 hT4 t4.2.2.1 t4.2.2.2.1 (fun t cs ht h => cg4 t cs ht (cg3 t cs (cg2 t cs h))) (fun c j hc z => (f4 c j hc (wxa_1 z).2.2.1).trans (f3m c j (wxa_1 z).1 (wxa_1 z).2.1)) (fun c i hc z => (fl4 c i hc (fun y => z (Or.inl y))).trans (up_o (fun y => z (Or.inr y))))
/-- what exploring writes, in all -/
abbrev WCx (q e c : Nat) (j : Int) : Prop := (c = 16 ∧ j = 17) ∨ (70 ≤ c ∧ c ≤ 124 ∧ ¬ c = 94 ∧ ¬ (96 ≤ c ∧ c ≤ 99)) ∨ (q ≤ c ∧ c ≤ q + 7) ∨ c = e
theorem wrn_c {q c : Nat} {j : Int} (y : WRn q c j) : (70 ≤ c ∧ c ≤ 93) ∨ (q ≤ c ∧ c ≤ q + 7) := by
  rcases y with ((y | y | y | y | y) | y | y) | y | y <;> omega
theorem wrn_cx {q e c : Nat} {j : Int} (y : WRn q c j) : WCx q e c j := by
  rcases wrn_c y with w | w
  · exact Or.inr (Or.inl ⟨w.1, by omega, by omega, by omega⟩)
  · exact Or.inr (Or.inr (Or.inl w))
theorem wcx_1 {q e c : Nat} {j : Int} (z : ¬ WCx q e c j) : ¬ WXa q e c j ∧ ¬ (c = 16 ∧ j = 17) ∧ ¬ WFz q c j := by
  refine ⟨fun y => z ?_, fun y => z (Or.inl y), fun y => z ?_⟩
  · rcases y with y | y | y | y | y | y | y | y
    · exact wrn_cx y
    · exact Or.inr (Or.inl ⟨by omega, by omega, by omega, by omega⟩)
    · exact Or.inr (Or.inl ⟨by omega, by omega, by omega, by omega⟩)
    · exact Or.inr (Or.inl ⟨by omega, by omega, by omega, by omega⟩)
    · exact Or.inr (Or.inl ⟨by omega, by omega, by omega, by omega⟩)
    · exact Or.inr (Or.inl ⟨by omega, by omega, by omega, by omega⟩)
    · exact Or.inr (Or.inl ⟨by omega, by omega, by omega, by omega⟩)
    · exact Or.inr (Or.inr (Or.inr y))
  · rcases y with y | y
    · exact wrn_cx y
    · exact Or.inr (Or.inl ⟨by omega, by omega, by omega, by omega⟩)
theorem wcx_2 {q0 e0 q e N c : Nat} {j : Int} (hq : q = q0 ∨ (q0 = 85 ∧ N ≤ q)) (he : e = e0 ∨ (e0 = 108 ∧ N ≤ e)) (hc : c < N) (z : ¬ WCx q0 e0 c j) : ¬ WCx q e c j := by omega
theorem wfz_e {q e N c : Nat} {j : Int} (hq : q = 85 ∨ 185 ≤ q) (he : e = 108 ∨ 185 < e) (hn : ¬ (q ≤ e ∧ e ≤ q + 7)) (heN : e < N) (hN : 186 ≤ N) (z : c = e ∨ c = 109 ∨ (c = 16 ∧ (j = 12 ∨ j = 14 ∨ j = 17)) ∨ c = 94 ∨ (96 ≤ c ∧ c ≤ 99)) : c < N ∧ ¬ WFz q c j := by
  rcases z with z | z | z | z | z <;> exact ⟨by omega, fun y => by rcases y with y | y <;> omega⟩
theorem sic_u {s q c : Nat} {j : Int} (hs : s = 22 ∨ s = 42) (hq : q = 85 ∨ 185 ≤ q) (z : SIc s q c j) : ¬ (c = 16 ∧ j = 17) := by omega
theorem kl_explore (hS : ShX s μ q e) (hs : s = 22 ∨ s = 42) (hgo : GoS rs) (hI : ClI X W s rs q m N0 st) (hX : XpC rs m xp) (h6 : m 16 6 = 1) (hz : m 109 0 = 0) (hrg : ∀ j, 0 ≤ m e j ∧ m e j ≤ 32767)
    (hkn : ∀ sts nx, xp = some (sts, nx) → Q (.inl (some (.int (zI (sts.length : Int))))) (sA μ m l))
    (hbd : xp = none → xO rs (rlS rs) = none → Q (.inr 3) (sA (am_nX μ) m l))
    (hok : ∀ (μ' : am_Mem) (m' l' : PM) (q' e' : Nat) (sts : List (List (List Cd))) (nx : List (List Nat)), xp = none → xO rs (rlS rs) = some (sts, nx) → Gx μ q e μ' q' e' → ShX s μ' q' e' → ClI X W s rs q' m' N0 st → XkC rs m' sts nx → m' 109 0 = 0 → (∀ i, 0 ≤ m' e' i ∧ m' e' i ≤ 32767) → (∀ c i, c < am_n μ → ¬ WCx q e c i → m' c i = m c i) → (∀ c i, c < am_n μ → ¬ WlX c i → l' c i = l c i) → Q (.inl (some (.int (zI (sts.length : Int))))) (sA μ' m' l'))
    (hthr : ∀ (μ' : am_Mem) (m' l' : PM) (q' e' : Nat), xp = none → xO rs (rlS rs) = none → Gx μ q e μ' q' e' → ShX s μ' q' e' → ClI X W s rs q' m' N0 st → m' 16 17 = 2 → m' 109 0 = 0 → (∀ i, 0 ≤ m' e' i ∧ m' e' i ≤ 32767) → (∀ c i, c < am_n μ → ¬ WCx q e c i → m' c i = m c i) → (∀ c i, c < am_n μ → ¬ WlX c i → l' c i = l c i) → Q (.inr 3) (sA (am_nX μ') m' l')) :
    Wp (d + 17) 135 (0, [some (.ref 16), none], [], sA μ m l) Q := by
  obtain ⟨⟨s1, s2, s3, s4, s5, s6⟩, ⟨x1, x2⟩, ⟨x3, x4, x5⟩, x6, x7⟩ := id hS
  refine K135_0 s1 s2 (TQ_q s3) hs s5 x1 x2 (hE_of hS) ⟨fun μ' => Wp (d + 17) 135 (4, [some (.ref 16), none], [], μ') Q, noX, K124_0 s1 ⟨by rw [h6]; exact iR_1, fun _ => ?_, fun z => absurd (fun y => absurd (h6.symm.trans y) (by decide)) z⟩, fun _ h => h, fun _ _ z => z.elim⟩
  show Wp (d + 17) 135 (4, [some (.ref 16), none], [], sA μ m l) Q
  cases xp with
  | some p =>
    have hX' : XkC rs m p.1 p.2 := hX
    have e17 := hX'.1
    refine K135_4 s1 s2 (TQ_q s3) hs s5 x1 x2 (hE_of hS) ⟨by rw [e17]; exact iR_1, fun _ => ⟨fun _ => ?_, fun z => absurd (fun y => absurd (e17.symm.trans y) (by decide)) z⟩, fun z => absurd (fun y => absurd (e17.symm.trans y) (by decide)) z⟩
    rw [hX'.2.1.1.2.1]
    exact hkn p.1 p.2 rfl
  | none =>
    have hX' : m 16 17 = 0 ∨ (m 16 17 = 2 ∧ xO rs (rlS rs) = none) := hX
    rcases hX' with e17 | ⟨e17, hxn⟩
    · refine K135_4 s1 s2 (TQ_q s3) hs s5 x1 x2 (hE_of hS) ⟨by rw [e17]; exact iR_0, fun z => absurd e17 z, fun _ m1 e1 => ⟨fun μ' => Wp (d + 17) 135 (23, [some (.ref 16), none], [], μ') Q, fun x μ' => Q (.inr x) μ', ?_, fun _ h => h, fun _ _ h => h⟩⟩
      have f1 : ∀ c i, ¬ (c = 16 ∧ i = 17) → m1 c i = m c i := fun c i z => by rw [e1, up_o z]
      have e117 : m1 16 17 = 2 := by rw [e1, up_s]
      have hI1 : ClI X W s rs q m1 N0 st := ClI_cg hS hs (fun c i z => f1 c i (sic_u hs s3 z)) hI
      have hz1 : m1 109 0 = 0 := (f1 109 0 (by omega)).trans hz
      have hrg1 : ∀ j, 0 ≤ m1 e j ∧ m1 e j ≤ 32767 := fun j => by rw [f1 e j (by omega)]; exact hrg j
      -- from the fixed model on
      have core : ∀ (μ2 : am_Mem) (m2 l2 : PM) (q2 T : Nat) (lev : List Int → Nat) (F G Fn Tf K : Nat) (S0 : List Atm), Gx μ q e μ2 q2 e → ShX s μ2 q2 e → ClB X W s rs q2 m2 T N0 → FxC X W s rs lev F G N0 m2 q2 T Fn S0 Tf → N0 ≤ Tf → Tf ≤ K → K ≤ T → m2 70 15 = (K : Int) → CsB X rs q2 m2 N0 Tf K st → m2 16 17 = 2 → m2 109 0 = 0 → (∀ j, 0 ≤ m2 e j ∧ m2 e j ≤ 32767) → (∀ c i, c < am_n μ → ¬ WCx q e c i → m2 c i = m c i) → (∀ c i, c < am_n μ → ¬ WlX c i → l2 c i = l c i) → Wp (d + 17) 135 (23, [some (.ref 16), none], [], sA μ2 m2 l2) Q := by
        intro μ2 m2 l2 q2 T lev F G Fn Tf K S0 G2 S2 hB2 hx2 hNf hTf hK e15 hst e217 hz2 hrg2 f2 fl2
        have r3 := S2.1.2.2.1
        have y3 := S2.2.2.1.1
        have y7 := S2.2.2.2.2
        refine kl_expl23 (d := d) (Q := Q) S2 hs hgo hB2 hNf hK e15 hx2 hTf (CsB_b hst) hz2 hrg2 (fun μ3 m3 l3 q3 e3 T3 sts nx Fn3 hxo G3 S3 hB3 hx3 hT3 z3 rg3 hk3 cg3 f3 fl3 => ?_) (fun μ3 m3 l3 q3 e3 T3 Fn3 hxo G3 S3 hB3 hx3 hT3 z3 rg3 cg3 f3 fl3 => ?_)
        · have w : ∀ c i, c = 94 ∨ (96 ≤ c ∧ c ≤ 99) ∨ (c = 16 ∧ (i = 12 ∨ i = 14)) ∨ (c = 70 ∧ i = 15) → m3 c i = m2 c i := fun c i z => f3 c i (wxa_k (j := i) r3 y3 y7 (by omega)).1 (wxa_k (j := i) r3 y3 y7 (by omega)).2 (by omega)
          exact hok μ3 m3 l3 q3 e3 sts nx rfl hxo (Gx_t hS G2 G3) S3 ⟨T3, hB3, Or.inr (Or.inl ⟨lev, F, G, Fn3, S0, Tf, K, hx3, hNf, hTf, hT3, (w 70 15 (by omega)).trans e15, CsB_st (Nat.le_trans hNf hTf) (fun c j z => w c j (by omega)) cg3 hst⟩)⟩ hk3 z3 rg3 (fun c i hc z => (f3 c i (Nat.lt_of_lt_of_le hc G2.1) (wcx_1 (wcx_2 G2.2.2.2.1 (Or.inl rfl) hc z)).1 (wcx_1 z).2.1).trans (f2 c i hc z)) (fun c i hc z => (fl3 c i (Nat.lt_of_lt_of_le hc G2.1) z).trans (fl2 c i hc z))
        · have w : ∀ c i, c = 94 ∨ (96 ≤ c ∧ c ≤ 99) ∨ (c = 16 ∧ (i = 12 ∨ i = 14 ∨ i = 17)) ∨ (c = 70 ∧ i = 15) → m3 c i = m2 c i := fun c i z => f3 c i (wxa_k (j := i) r3 y3 y7 z).1 (wxa_k (j := i) r3 y3 y7 z).2
          exact hthr μ3 m3 l3 q3 e3 rfl hxo (Gx_t hS G2 G3) S3 ⟨T3, hB3, Or.inr (Or.inl ⟨lev, F, G, Fn3, S0, Tf, K, hx3, hNf, hTf, hT3, (w 70 15 (by omega)).trans e15, CsB_st (Nat.le_trans hNf hTf) (fun c j z => w c j (by omega)) cg3 hst⟩)⟩ ((w 16 17 (by omega)).trans e217) z3 rg3 (fun c i hc z => (f3 c i (Nat.lt_of_lt_of_le hc G2.1) (wcx_1 (wcx_2 G2.2.2.2.1 (Or.inl rfl) hc z)).1).trans (f2 c i hc z)) (fun c i hc z => (fl3 c i (Nat.lt_of_lt_of_le hc G2.1) z).trans (fl2 c i hc z))
      obtain ⟨T, hB, hA | hF | hC⟩ := hI1
      · obtain ⟨e12, eT, e15, hF0, hCl, est, e1612⟩ := hA
        rw [eT] at hB
        refine kl_fix0 (d := d + 2) (Q := pV _ _) hS hs hgo hB e12 hF0 hCl (fun μ2 m2 l2 q2 T2 Fn lev F G S0 G2 S2 hB2 hx2 hT2 e15' cg2 f2 fl2 => ?_) (fun μ2 m2 l2 q2 T2 Fn hno G2 S2 hB2 hNT2 hF2 h12 f2 fl2 => ?_)
        · show Wp (d + 17) 135 (23, [some (.ref 16), none], [], sA μ2 m2 l2) Q
          have w : ∀ c i, c = e ∨ c = 109 ∨ (c = 16 ∧ (i = 12 ∨ i = 14 ∨ i = 17)) ∨ c = 94 ∨ (96 ≤ c ∧ c ≤ 99) → m2 c i = m1 c i := fun c i z => f2 c i (wfz_e (j := i) s3 x3 x4 x5 x7 z).1 (wfz_e (j := i) s3 x3 x4 x5 x7 z).2
          exact core μ2 m2 l2 q2 T2 lev F G Fn T2 T2 S0 G2 S2 hB2 hx2 hT2 (Nat.le_refl _) (Nat.le_refl _) e15' (by rw [est]; exact ⟨(w 16 12 (by omega)).trans e1612, by omega⟩) ((w 16 17 (by omega)).trans e117) ((w 109 0 (by omega)).trans hz1) (fun j => by rw [w e j (by omega)]; exact hrg1 j) (fun c i hc z => (f2 c i hc (wcx_1 z).2.2).trans (f1 c i (wcx_1 z).2.1)) (fun c i hc z => fl2 c i hc)
        · show Q (.inr 3) (sA (am_nX μ2) m2 l2)
          have w : ∀ c i, c = e ∨ c = 109 ∨ (c = 16 ∧ (i = 12 ∨ i = 14 ∨ i = 17)) ∨ c = 94 ∨ (96 ≤ c ∧ c ≤ 99) → m2 c i = m1 c i := fun c i z => f2 c i (wfz_e (j := i) s3 x3 x4 x5 x7 z).1 (wfz_e (j := i) s3 x3 x4 x5 x7 z).2
          exact hthr μ2 m2 l2 q2 e rfl (if_neg (fun h => hno _ (BsP_0 _ _ _ _) h.1)) G2 S2 ⟨T2, hB2, Or.inr (Or.inr ⟨h12, hNT2, hno, ⟨Fn, hF2⟩, est, (w 16 12 (by omega)).trans e1612⟩)⟩ ((w 16 17 (by omega)).trans e117) ((w 109 0 (by omega)).trans hz1) (fun j => by rw [w e j (by omega)]; exact hrg1 j) (fun c i hc z => (f2 c i hc (wcx_1 z).2.2).trans (f1 c i (wcx_1 z).2.1)) (fun c i hc z => fl2 c i hc)
      · obtain ⟨lev, F, G, Fn, S0, Tf, K, hx, hNf, hTf, hK, e15, hst⟩ := hF
        have e12 : m1 70 12 = 1 := hx.2.2.2.2.2.2.2.2.2.1
        refine k_fix1 (d := d + 2) (Q := pV _ _) hs hS.1 (Or.inl e12) (fun _ => ?_) (fun z => absurd (e12.symm.trans z) (by decide))
        show Wp (d + 17) 135 (23, [some (.ref 16), none], [], sA μ m1 l) Q
        exact core μ m1 l q T lev F G Fn Tf K S0 Gx_r hS hB hx hNf hTf hK e15 hst e117 hz1 hrg1 (fun c i hc z => f1 c i (wcx_1 z).2.1) (fun _ _ _ _ => rfl)
      · obtain ⟨e12, hNT, hno, hF1, est, e1612⟩ := hC
        refine k_fix1 (d := d + 2) (Q := pV _ _) hs hS.1 (Or.inr e12) (fun z => absurd (e12.symm.trans z) (by decide)) (fun _ => ?_)
        show Q (.inr 3) (sA (am_nX μ) m1 l)
        exact hthr μ m1 l q e rfl (if_neg (fun h => hno _ (BsP_0 _ _ _ _) h.1)) Gx_r hS ⟨T, hB, Or.inr (Or.inr ⟨e12, hNT, hno, hF1, est, e1612⟩)⟩ e117 hz1 hrg1 (fun c i hc z => f1 c i (wcx_1 z).2.1) (fun _ _ _ _ => rfl)
    · refine K135_4 s1 s2 (TQ_q s3) hs s5 x1 x2 (hE_of hS) ⟨by rw [e17]; exact ⟨by decide, by decide⟩, fun _ => ⟨fun z => absurd e17 z, fun _ => hbd rfl hxn⟩, fun z => absurd (fun y => absurd (e17.symm.trans y) (by decide)) z⟩
end CXM
