/-! ===== the class's expand, whole ===== -/
theorem ClB_v {X : Int → List Int → Prop} {W : Int → Nat} {s q q' T T' N0 : Nat} {rs : List Rul} {m m' : PM} (k0 : ∀ c j, (s ≤ c ∧ c ≤ s + 19) ∨ c = 80 ∨ c = 81 ∨ (c = 70 ∧ j = 4) ∨ (c = 98 ∧ j = 0) → m' c j = m c j) (h3 : m' 103 0 = 0) (cg : ∀ t cs, t < N0 → Cg X q m t cs → Cg X q' m' t cs) (hC : CtT X q' (tN q') (tS q') m' T') (h : ClB X W s rs q m T N0) : ClB X W s rs q' m' T' N0 := by
  obtain ⟨⟨h1, h2, h3', h4⟩, h5, h6, h7, ⟨h8, h9⟩, h10, h11, h12⟩ := h
  exact ⟨⟨KV_cg (fun c j z => k0 c j (by omega)) h1, fun x w hx => by rw [k0 _ _ (by omega), k0 _ _ (by omega)]; exact h2 x w hx, h3', h4⟩, NmS_cg (fun c j z => k0 c j (by omega)) h5, hC, GrI_st (fun c j z => k0 c j (by omega)) cg h7, ⟨by rw [k0 _ _ (by omega)]; exact h8, RwC_st (Nat.le_refl _) (fun j _ _ => k0 _ _ (by omega)) cg h9⟩, h10, by rw [k0 _ _ (by omega)]; exact h11, h3⟩
/-- what expanding state n writes: ahead of its joint moves, and in all -/
abbrev WXf (q n c : Nat) (j : Int) : Prop := WEx q c j ∨ (101 ≤ c ∧ c ≤ 104) ∨ (114 ≤ c ∧ c ≤ 120 ∧ ¬ c = 116 ∧ j = (n : Int))
abbrev WXe (q e n c : Nat) (j : Int) : Prop := WXf q n c j ∨ WJt q e n c j
theorem wgt_1 {c : Nat} {j : Int} (y : WGt 101 c j) : 101 ≤ c ∧ c ≤ 104 := by omega
theorem wxf_1 {q n c : Nat} {j : Int} (z : ¬ WXf q n c j) : ¬ WEx q c j ∧ ¬ WGt 101 c j ∧ ¬ (114 ≤ c ∧ c ≤ 120 ∧ ¬ c = 116 ∧ j = (n : Int)) := ⟨fun y => z (Or.inl y), fun y => z (Or.inr (Or.inl (wgt_1 y))), fun y => z (Or.inr (Or.inr y))⟩
theorem wlk_1 {n c : Nat} {j : Int} (z : ¬ (114 ≤ c ∧ c ≤ 120 ∧ ¬ c = 116 ∧ j = (n : Int))) : ¬ WLok n c j := by
  unfold WLok
  omega
theorem wxf_2 {q n c : Nat} {j : Int} (z : ¬ WXf q n c j) : ¬ (WGt 101 c j ∨ WLok n c j) := fun y => y.elim (wxf_1 z).2.1 (wlk_1 (wxf_1 z).2.2)
theorem wq_in {q0 q N c : Nat} (hq : q = q0 ∨ (q0 = 85 ∧ N ≤ q)) (hc : c < N) (y : q ≤ c ∧ c ≤ q + 7) : q0 ≤ c ∧ c ≤ q0 + 7 := by omega
theorem wxf_k {q q1 n N c : Nat} {j : Int} (h : q1 = q ∨ (q = 85 ∧ N ≤ q1)) (hc : c < N) (z : ¬ WXf q n c j) : ¬ WKp q1 102 c j := fun y => by
  rcases y with y | y | y | y
  · exact z (Or.inr (Or.inl (by rw [y]; decide)))
  · exact z (Or.inl (Or.inr (Or.inr (Or.inl y))))
  · exact z (Or.inl (Or.inr (Or.inr (Or.inr (Or.inl (wq_in h hc y))))))
  · exact z (Or.inl (Or.inr (Or.inr (Or.inr (Or.inr y)))))
theorem wxe_j {q q1 e n N c : Nat} {j : Int} (h : q1 = q ∨ (q = 85 ∧ N ≤ q1)) (hc : c < N) (z : ¬ WXe q e n c j) : ¬ WXf q n c j ∧ ¬ WJt q1 e n c j := ⟨fun y => z (Or.inl y), wjt_t h (Or.inl rfl) hc (fun w => z (Or.inr w))⟩
theorem wxf_e {q e n N c : Nat} {j : Int} (hq : q = 85 ∨ 185 ≤ q) (he : e = 108 ∨ 185 < e) (hn : ¬ (q ≤ e ∧ e ≤ q + 7)) (heN : e < N) (hN : 186 ≤ N) (z : (c = 107 ∧ j = 3) ∨ c = 109 ∨ c = 110 ∨ c = e ∨ c = 113 ∨ c = 106) : c < N ∧ ¬ WXf q n c j := ⟨by omega, fun y => by
  rcases y with (y | y) | y | y
  · rcases z with z | z | z | z | z | z <;> omega
  · rcases z with z | z | z | z | z | z <;> omega
  · omega
  · omega⟩
theorem wex_a {q N c : Nat} {j : Int} (hq : q = 85 ∨ 185 ≤ q) (hN : 186 ≤ N) (z : c = 106 ∨ c = 109) : c < N ∧ ¬ WEx q c j := ⟨by omega, fun y => by rcases y with y | y <;> omega⟩
theorem wex_b {q e N c : Nat} {j : Int} (hq : q = 85 ∨ 185 ≤ q) (he : e = 108 ∨ 185 < e) (hn : ¬ (q ≤ e ∧ e ≤ q + 7)) (heN : e < N) (z : c = e) : c < N ∧ ¬ WEx q c j := ⟨by omega, fun y => by rcases y with y | y <;> omega⟩
theorem wgl_s {s q n c : Nat} {j : Int} (hs : s = 22 ∨ s = 42) (hq : q = 85 ∨ 185 ≤ q) (z : (s ≤ c ∧ c ≤ s + 19) ∨ c = 80 ∨ c = 81 ∨ (c = 70 ∧ (j = 4 ∨ j = 15 ∨ (12 ≤ j ∧ j ≤ 14))) ∨ c = 98 ∨ (72 ≤ c ∧ c ≤ 78) ∨ (c = 71 ∧ j = 7) ∨ (q ≤ c ∧ c ≤ q + 7) ∨ c = 84 ∨ c = 111) : ¬ (WGt 101 c j ∨ WLok n c j) := by
  have w : c < 101 ∨ c = 111 ∨ 185 ≤ c := by omega
  clear z
  have h1 : ¬ WGt 101 c j := fun y => by have := wgt_1 y; omega
  have h2 : ¬ (114 ≤ c ∧ c ≤ 120 ∧ ¬ c = 116 ∧ j = (n : Int)) := by omega
  exact fun y => y.elim h1 (wlk_1 h2)
theorem wkp_b {q c : Nat} {j : Int} (hq : q = 85 ∨ 185 ≤ q) (z : c = 111 ∨ (114 ≤ c ∧ c ≤ 120)) : ¬ WKp q 102 c j := fun y => by rcases y with y | y | y | y <;> omega
theorem wjt_b {q e n N c : Nat} {j : Int} (hq : q = 85 ∨ 185 ≤ q) (he : e = 108 ∨ 185 < e) (hN : 186 ≤ N) (z : 114 ≤ c ∧ c ≤ 120 ∧ ¬ c = 116) : c < N ∧ ¬ WJt q e n c j := ⟨by omega, fun y => by rcases y with y | y | y | y <;> omega⟩
section CEV
variable {d : Nat} {Q : Option Value ⊕ Nat → am_Mem → Prop} {X : Int → List Int → Prop} {W : Int → Nat} {s q e T N0 K n tot : Nat} {rs : List Rul} {lev : List Int → Nat} {F G Fn Tf : Nat} {S0 : List Atm} {μ : am_Mem} {m l : PM} {st A : List (List Cd)} {As sts : List (List (List Cd))}
theorem kl_expand (hS : ShX s μ q e) (hs : s = 22 ∨ s = 42) (hgo : GoS rs) (hB : ClB X W s rs q m T N0) (hNf : N0 ≤ Tf) (hK : K ≤ T) (e15 : m 70 15 = (K : Int)) (hx : FxC X W s rs lev F G N0 m q T Fn S0 Tf) (hTf : Tf ≤ K) (hKb : K ≤ Tf + 11660) (hn : n < sts.length) (est : sts.getD n [] = st) (eA : As.getD n [] = A) (hSt : StI X m e As) (hCo : CoA X As sts) (e106 : m 106 1 = (As.length : Int)) (ek : m 106 0 = ((rlS rs).length : Int)) (hsz : SzC m sts) (hTm : TmA X q m N0 sts) (e1 : l 16 18 = (tot : Int)) (ht : tot ≤ 30000000)
    (hok : ∀ (μ' : am_Mem) (m' l' : PM) (q' e' T' : Nat) (As' sts' : List (List (List Cd))) (tot' : Nat) (ns : List Nat) (Fn' : Nat), okS rs (rlS rs) st tot → xJ rs (rlS rs) st (jmO rs (rlS rs) st) 0 sts (tot + wkO rs (baA 0 st (rlS rs) [])) [] = some (sts', tot', ns) → Gx μ q e μ' q' e' → ShX s μ' q' e' → ClB X W s rs q' m' T' N0 → FxC X W s rs lev F G N0 m' q' T' Fn' S0 Tf → K ≤ T' → StI X m' e' As' → CoA X As' sts' → m' 106 1 = (As'.length : Int) → SzC m' sts' → TmA X q' m' N0 sts' → RoX rs m' n st ns → (∀ y, y ∈ ns → y < sts'.length) → (∃ L, sts' = sts ++ L) → l' 16 18 = (tot' : Int) → tot' ≤ 30000000 → (∀ t cs, t < K → Cg X q m t cs → Cg X q' m' t cs) → (∀ c i, c < am_n μ → ¬ WXe q e n c i → m' c i = m c i) → (∀ c i, c < am_n μ → ¬ WlX c i → l' c i = l c i) → Q (.inl none) (sA μ' m' l'))
    (hthr : ∀ (μ' : am_Mem) (m' l' : PM) (q' e' T' Fn' : Nat), (okS rs (rlS rs) st tot → xJ rs (rlS rs) st (jmO rs (rlS rs) st) 0 sts (tot + wkO rs (baA 0 st (rlS rs) [])) [] = none) → Gx μ q e μ' q' e' → ShX s μ' q' e' → ClB X W s rs q' m' T' N0 → FxC X W s rs lev F G N0 m' q' T' Fn' S0 Tf → K ≤ T' → m' 109 0 = 0 → (∀ i, 0 ≤ m' e' i ∧ m' e' i ≤ 32767) → (∀ t cs, t < K → Cg X q m t cs → Cg X q' m' t cs) → (∀ c i, c < am_n μ → ¬ WXe q e n c i → m' c i = m c i) → (∀ c i, c < am_n μ → ¬ WlX c i → l' c i = l c i) → Q (.inr 3) (sA (am_nX μ') m' l')) :
    Wp (d + 16) 138 (0, [some (.ref 16), some (.int (zI (n : Int))), none, none, none, none, none], [], sA μ m l) Q := by
  obtain ⟨⟨s1, s2, s3, s4, s5, s6⟩, ⟨x1, x2⟩, ⟨x3, x4, x5⟩, x6, x7⟩ := id hS
  obtain ⟨hAl, hCo2⟩ := id hCo
  have hCn := hCo2 n (by omega)
  have hSn := hSt.2.2.2.2.1 n (by omega)
  rw [eA] at hCn hSn
  rw [est] at hCn
  obtain ⟨hA1, hA2, hA3, hA4⟩ := hCn
  obtain ⟨t1, t2⟩ := hSn
  have h300 := hSt.2.1
  have hn3 : n < 300 := by omega
  have hN : N0 ≤ K := Nat.le_trans hNf hTf
  have hn4 := (rlS_ok rs).2
  have hnd : A.Nodup := List.Pairwise.imp (fun {a b} z e => by rw [e] at z; exact orH_irr _ z) hA1
  have hmst : st ∈ sts := by
    rw [← est]
    exact gD_in hn
  have htm : ∀ p, p ∈ A → TmC X q m N0 p := fun p hp => hTm st hmst p ((hA3 p).mp hp)
  refine kl_exp0 (d := d) (Q := Q) hS hs hgo hB hNf hK e15 hx hTf (by omega) hn3 t1 hSt.2.2.2.1 t2.1 htm hnd hA3 (fun μ1 m1 l1 q1 T2 T1 S hE G1 S1 hB1 hx1 hW1 hne1 tm1 hKT2 hT2 hT21 rw1 cg1 f1 fl1 hl1 => ?_) (fun μ1 m1 l1 q1 T1 Fn1 hno G1 S1 hB1 hx1 hT1 cg1 f1 fl1 => ?_)
  · obtain ⟨⟨r1, r2, r3, r4, r5, r6⟩, ⟨y1, y2⟩, ⟨y3, y4, y5⟩, y6, y7⟩ := id S1
    have hq1 : q1 = q ∨ (q = 85 ∧ am_n μ ≤ q1) := G1.2.2.2.1
    have hwk : wkO rs (baA 0 st (rlS rs) []) = smR S rs := Ev_wk hgo hE
    have el1 : l1 16 18 = (tot : Int) := (fl1 16 18 (by omega) (by decide)).trans e1
    have ek1 : m1 106 0 = ((rlS rs).length : Int) := (f1 106 0 (wex_a (j := 0) s3 x7 (by omega)).1 (wex_a (j := 0) s3 x7 (by omega)).2).trans ek
    have rg1 : ∀ i, m1 e i = m e i := fun i => f1 e i (wex_b (j := i) s3 x3 x4 x5 rfl).1 (wex_b (j := i) s3 x3 x4 x5 rfl).2
    have z91 : m1 109 0 = 0 := (f1 109 0 (wex_a (j := 0) s3 x7 (by omega)).1 (wex_a (j := 0) s3 x7 (by omega)).2).trans hSt.2.2.1
    refine kl_exp68 (d := d) (Q := Q) (w := tot) S1 hs hgo hB1 (Nat.le_trans hN (Nat.le_trans hKT2 hT21)) hW1 hE hne1 tm1 el1 ht hl1 hn3 ek1 (fun m2 hle hjm hsn2 lk2 f2 => ?_) (fun m2 hbad h103 f2 => ?_)
    · have h40 : jmO rs (rlS rs) st ≤ 40 := by
        unfold jmO
        by_cases y : ovO rs (rlS rs) st
        · rw [if_pos y]
          exact Nat.zero_le _
        · rw [if_neg y]
          exact hjm y
      have e115 : m2 115 (n : Int) = (jmO rs (rlS rs) st : Int) := by
        unfold jmO
        by_cases y : ovO rs (rlS rs) st
        · rw [if_pos y]
          exact lk2.2.1 y
        · rw [if_neg y]
          exact (lk2.2.2.1 y).1
      have h103 : m2 103 0 = 0 := hsn2.2.2.2.1.1 0 (Nat.zero_le _)
      have cg2 : ∀ t cs, Cg X q1 m1 t cs → Cg X q1 m2 t cs := fun t cs h => Cg_q (fun c i hc => f2 c i (wgl_s (q := q1) hs r3 (by omega))) h
      have ct2 : CtT X q1 (tN q1) (tS q1) m2 T1 := CtT_f6 (fun c i z => f2 c i (wgl_s (q := q1) hs r3 (by omega))) hB1.2.2.1
      have hB2 : ClB X W s rs q1 m2 T1 N0 := ClB_v (fun c i z => f2 c i (wgl_s (q := q1) hs r3 (by omega))) h103 (fun t cs _ h => cg2 t cs h) ct2 hB1
      have hx2 : FxC X W s rs lev F G N0 m2 q1 T1 S.length S0 Tf := FxC_o S1.1 hs hx1 (fun c i z => f2 c i (wgl_s (q := q1) hs r3 (by omega))) (fun t cs _ h => cg2 t cs h) (Nat.le_trans hTf (Nat.le_trans hKT2 hT21)) ct2
      refine kl_exp95 (d := d) (Q := Q) (M := T2) (T := T1) S1 hs hB2 (Nat.le_trans hN hKT2) hT21 hx2 (Nat.le_trans hTf hKT2) hn3 hsn2 e115 h40 (fun m3 T3 hB3 hx3 hT3 hT3' hsn3 cg3 f3 => ?_)
      have f3m : ∀ c i, c < am_n μ → ¬ WXf q n c i → m3 c i = m c i := fun c i hc z => (f3 c i (wxf_k hq1 hc z)).trans ((f2 c i (wxf_2 z)).trans (f1 c i hc (wxf_1 z).1))
      have o3 : ∀ c i, (c = 107 ∧ i = 3) ∨ c = 109 ∨ c = 110 ∨ c = e ∨ c = 113 ∨ c = 106 → m3 c i = m c i := fun c i z => f3m c i (wxf_e (n := n) (j := i) s3 x3 x4 x5 x7 z).1 (wxf_e (j := i) s3 x3 x4 x5 x7 z).2
      have cg3m : ∀ t cs, t < K → Cg X q m t cs → Cg X q1 m3 t cs := fun t cs ht h => cg3 t cs (Nat.lt_of_lt_of_le ht hKT2) (cg2 t cs (cg1 t cs ht h))
      have tr : ∀ p, TmC X q m N0 p → TmC X q1 m3 N0 p := fun p h => TmC_st (fun t cs ht h => cg3m t cs (Nat.lt_of_lt_of_le ht hN) h) h
      have e3115 : m3 115 (n : Int) = (jmO rs (rlS rs) st : Int) := (f3 115 _ (wkp_b r3 (by omega))).trans e115
      refine kl_loop (d := d) (Q := Q) (M := T3) (A := A) (st := st) (μ0 := μ1) (m0 := m3) (l0 := up l1 16 18 ((tot + smR S rs : Nat) : Int)) (q0 := q1) (e0 := e) (sts0 := sts) (n := n) (res := xJ rs (rlS rs) st (jmO rs (rlS rs) st) 0 sts (tot + wkO rs (baA 0 st (rlS rs) [])) []) S1 hs hgo hNf (Nat.le_trans hTf (Nat.le_trans hKT2 hT3)) (by omega) t2.1 hnd hA3 hn3 h40 (fun μ5 m5 l5 q5 e5 As5 sts5 tot5 ns Fn5 hres G5 S5 hB5 hx5 t5 co5 e1065 hsz5 hTm5 hnl hnb hnx hpre el5 ht5 cg5 f5 fl5 => ?_) (fun μ5 m5 l5 q5 e5 T5 Fn5 hres G5 S5 hB5 hx5 hT5 z95 rg5 cg5 f5 fl5 => ?_) (jmO rs (rlS rs) st) 0 μ1 m3 (up l1 16 18 ((tot + smR S rs : Nat) : Int)) q1 e As sts (tot + smR S rs) [] S.length (Nat.zero_add _) rfl Gx_r S1 hB3 hx3 hsn3 (RwC_st hT3 (fun i _ _ => (f3 111 _ (wkp_b r3 (by omega))).trans (f2 111 _ (wgl_s (q := q1) hs r3 (by omega)))) (fun t cs ht h => cg3 t cs ht (cg2 t cs h)) rw1) (fun p hp => tr p (htm p hp)) (StI_o (fun c i z => o3 c i (by omega)) hSt) hCo ((o3 106 1 (by omega)).trans e106) (fun i hi => (o3 113 _ (by omega)).trans (hsz i hi)) (fun x hx p hp => tr p (hTm x hx p hp)) (up_s _ _ _ _) hle e3115 (fun i hi => absurd hi (Nat.not_lt_zero _)) (fun y hy => absurd hy List.not_mem_nil) ⟨[], (List.append_nil _).symm⟩ (by rw [hwk]) (fun t cs _ h => h) (fun _ _ _ _ => rfl) (fun _ _ _ _ => rfl)
      · -- all went well
        have k5 : ∀ c i, 114 ≤ c ∧ c ≤ 120 ∧ ¬ c = 116 → m5 c i = m2 c i := fun c i z => (f5 c i (wjt_b (n := n) (j := i) r3 y3 y7 z).1 (wjt_b (j := i) r3 y3 y7 z).2).trans (f3 c i (wkp_b r3 (by omega)))
        have hnl40 : ns.length ≤ 40 := by omega
        refine hok μ5 m5 l5 q5 e5 T3 As5 sts5 tot5 ns Fn5 ⟨⟨S, hE⟩, by rw [hwk]; exact hle, h40⟩ hres (Gx_t hS G1 G5) S5 hB5 hx5 (Nat.le_trans hKT2 hT3) t5 co5 e1065 hsz5 hTm5 ⟨(k5 114 _ (by omega)).trans lk2.1, ⟨(k5 115 _ (by omega)).trans (e115.trans (by rw [hnl])), hnl40, hnl⟩, hnx, fun hk2 => ?_⟩ hnb hpre el5 ht5 (fun t cs ht h => cg5 t cs (Nat.lt_of_lt_of_le ht (Nat.le_trans hKT2 hT3)) (cg3m t cs ht h)) (fun c i hc z => (f5 c i (Nat.lt_of_lt_of_le hc G1.1) (wxe_j hq1 hc z).2).trans (f3m c i hc (wxe_j hq1 hc z).1)) (fun c i hc z => (fl5 c i (Nat.lt_of_lt_of_le hc G1.1) z).trans ((up_o (fun y => z (Or.inr y))).trans (fl1 c i hc (fun y => z (Or.inl y)))))
        obtain ⟨b1, b2, b3, b4⟩ := lk2.2.2.2 hk2
        have bd : ∀ r, r < 2 → (mvO rs (rlS rs) st r).length ≤ 1000 := fun r hr => by
          have a1 := pfs_s (mv := mvO rs (rlS rs) st) (show r < (rlS rs).length by omega)
          have a2 := hsn2.2.2.2.1.2.1
          omega
        have em : ∀ r, r < 2 → mnX rs (rlS rs) st r = (mvO rs (rlS rs) st r).length := fun r hr => if_pos (by omega)
        have eg : ∀ r, r < 2 → glX rs (rlS rs) st r = glO rs (rlS rs) st r := fun r hr => if_pos (by omega)
        rw [em 0 (by decide), em 1 (by decide), eg 0 (by decide), eg 1 (by decide)]
        exact ⟨⟨(k5 117 _ (by omega)).trans b1, bd 0 (by decide)⟩, ⟨(k5 118 _ (by omega)).trans b2, bd 1 (by decide)⟩, ⟨(k5 119 _ (by omega)).trans b3, glO_R _ _ _ _⟩, (k5 120 _ (by omega)).trans b4, glO_R _ _ _ _⟩
      · exact hthr μ5 m5 l5 q5 e5 T5 Fn5 (fun _ => hres) (Gx_t hS G1 G5) S5 hB5 hx5 (Nat.le_trans (Nat.le_trans hKT2 hT3) hT5) z95 rg5 (fun t cs ht h => cg5 t cs (Nat.lt_of_lt_of_le ht (Nat.le_trans hKT2 hT3)) (cg3m t cs ht h)) (fun c i hc z => (f5 c i (Nat.lt_of_lt_of_le hc G1.1) (wxe_j hq1 hc z).2).trans (f3m c i hc (wxe_j hq1 hc z).1)) (fun c i hc z => (fl5 c i (Nat.lt_of_lt_of_le hc G1.1) z).trans ((up_o (fun y => z (Or.inr y))).trans (fl1 c i hc (fun y => z (Or.inl y)))))
    · have cg2 : ∀ t cs, Cg X q1 m1 t cs → Cg X q1 m2 t cs := fun t cs h => Cg_q (fun c i hc => f2 c i (wgl_s (q := q1) hs r3 (by omega))) h
      have ct2 : CtT X q1 (tN q1) (tS q1) m2 T1 := CtT_f6 (fun c i z => f2 c i (wgl_s (q := q1) hs r3 (by omega))) hB1.2.2.1
      have hB2 : ClB X W s rs q1 m2 T1 N0 := ClB_v (fun c i z => f2 c i (wgl_s (q := q1) hs r3 (by omega))) h103 (fun t cs _ h => cg2 t cs h) ct2 hB1
      have hx2 : FxC X W s rs lev F G N0 m2 q1 T1 S.length S0 Tf := FxC_o S1.1 hs hx1 (fun c i z => f2 c i (wgl_s (q := q1) hs r3 (by omega))) (fun t cs _ h => cg2 t cs h) (Nat.le_trans hTf (Nat.le_trans hKT2 hT21)) ct2
      have k2 : ∀ c i, c = 109 ∨ c = e → m2 c i = m1 c i := fun c i z => f2 c i (fun y => y.elim (fun w => by omega) (wlk_1 (by omega)))
      refine hthr μ1 m2 _ q1 e T1 S.length (fun h => ?_) G1 S1 hB2 hx2 (Nat.le_trans hKT2 hT21) ((k2 109 0 (Or.inl rfl)).trans z91) (fun i => by rw [k2 e i (Or.inr rfl), rg1]; exact hSt.2.2.2.1 i) (fun t cs ht h => cg2 t cs (cg1 t cs ht h)) (fun c i hc z => (f2 c i (wxf_2 (wxe_j (Or.inl rfl) hc z).1)).trans (f1 c i hc (wxf_1 (wxe_j (Or.inl rfl) hc z).1).1)) (fun c i hc z => (up_o (fun y => z (Or.inr y))).trans (fl1 c i hc (fun y => z (Or.inl y))))
      obtain ⟨h1, h2, h3⟩ := h
      rw [hwk] at h2
      rcases hbad with y | ⟨y1', y2'⟩
      · exact absurd h2 y
      · unfold jmO at h3
        rw [if_neg y1'] at h3
        omega
  · have rg1 : ∀ i, m1 e i = m e i := fun i => f1 e i (wex_b (j := i) s3 x3 x4 x5 rfl).1 (wex_b (j := i) s3 x3 x4 x5 rfl).2
    have z91 : m1 109 0 = 0 := (f1 109 0 (wex_a (j := 0) s3 x7 (by omega)).1 (wex_a (j := 0) s3 x7 (by omega)).2).trans hSt.2.2.1
    exact hthr μ1 m1 l1 q1 e T1 Fn1 (fun h => absurd h.1 hno) G1 S1 hB1 hx1 hT1 z91 (fun i => by rw [rg1]; exact hSt.2.2.2.1 i) cg1 (fun c i hc z => f1 c i hc (wxf_1 (wxe_j (Or.inl rfl) hc z).1).1) (fun c i hc z => fl1 c i hc (fun y => z (Or.inl y)))
end CEV
