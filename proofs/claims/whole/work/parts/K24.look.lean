/-! ===== the class's look ===== -/
theorem FtI_o {W : Int → Nat} {m m' : PM} {F : Nat} (k : ∀ c j, (72 ≤ c ∧ c ≤ 78) ∨ (c = 71 ∧ j = 7) → m' c j = m c j) (h : FtI W m F) : FtI W m' F := by
  have e2 : m' 72 = m 72 := funext fun j => k _ _ (by omega)
  have e3 : m' 73 = m 73 := funext fun j => k _ _ (by omega)
  have e4 : m' 74 = m 74 := funext fun j => k _ _ (by omega)
  have e5 : m' 75 = m 75 := funext fun j => k _ _ (by omega)
  have e6 : m' 76 = m 76 := funext fun j => k _ _ (by omega)
  have e7 : m' 77 = m 77 := funext fun j => k _ _ (by omega)
  have e8 : m' 78 = m 78 := funext fun j => k _ _ (by omega)
  have e1 : m' 71 7 = m 71 7 := k _ _ (by omega)
  unfold FtI
  rw [e1, e2, e3, e4, e5, e6, e7, e8]
  exact h
section CLL
variable {d : Nat} {Q : Option Value ⊕ Nat → am_Mem → Prop} {X : Int → List Int → Prop} {W : Int → Nat} {s q e T N0 K b : Nat} {rs : List Rul} {lev : List Int → Nat} {F G Fn Tf : Nat} {S0 : List Atm} {μ : am_Mem} {m l : PM} {st : List (List Cd)}
theorem FtS_o {m' : PM} {q' T1 : Nat} {S : List Atm} (k : ∀ c j, (c = 72 ∨ c = 73) → m' c j = m c j) (cg : ∀ t cs, t < T1 → Cg X q m t cs → Cg X q' m' t cs) (h : FtS X q W m T1 S) : FtS X q' W m' T1 S := fun i hi => by
  obtain ⟨h1, h2, h3, h4⟩ := h i hi
  refine ⟨by rw [k 72 _ (Or.inl rfl)]; exact h1, by rw [k 72 _ (Or.inl rfl)]; exact h2, h3, fun k' hk => ?_⟩
  obtain ⟨u, u1, u2, u3⟩ := h4 k' hk
  exact ⟨u, by rw [k 73 _ (Or.inr rfl)]; exact u1, u2, cg u _ u2 u3⟩
theorem FxC_o {m' : PM} {q' T' : Nat} (hS : ShW s μ q) (hs : s = 22 ∨ s = 42) (h : FxC X W s rs lev F G N0 m q T Fn S0 Tf) (k0 : ∀ c j, (s ≤ c ∧ c ≤ s + 19) ∨ c = 81 ∨ (c = 70 ∧ 12 ≤ j ∧ j ≤ 14) ∨ (72 ≤ c ∧ c ≤ 78) ∨ (c = 71 ∧ j = 7) → m' c j = m c j) (cg : ∀ t cs, t < Tf → Cg X q m t cs → Cg X q' m' t cs) (hT : Tf ≤ T') (hC : CtT X q' (tN q') (tS q') m' T') : FxC X W s rs lev F G N0 m' q' T' Fn S0 Tf := by
  obtain ⟨_, _, _, ⟨h6, h6'⟩, h7, _⟩ := id h
  exact FxC_st hS hs h (fun c j z => k0 c j (by omega)) cg hT hC (FtI_o (fun c j z => k0 c j (by omega)) h6) h6' (FtS_o (fun c j z => k0 c j (by omega)) cg h7)
/-- what looking may write -/
abbrev WLo (q c : Nat) (j : Int) : Prop := WRn q c j ∨ (96 ≤ c ∧ c ≤ 99) ∨ c = 93 ∨ (q ≤ c ∧ c ≤ q + 7) ∨ (c = 84 ∧ j = 9) ∨ (c = 16 ∧ j = 14) ∨ (c = 70 ∧ j = 15)
abbrev W63 (q c : Nat) (j : Int) : Prop := (c = 70 ∧ j = 15) ∨ (c = 16 ∧ j = 14) ∨ (96 ≤ c ∧ c ≤ 99) ∨ c = 93 ∨ (q ≤ c ∧ c ≤ q + 7) ∨ (c = 84 ∧ j = 9)
theorem w63_f {q c : Nat} {j : Int} (z : ¬ W63 q c j) : ¬ ((c = 70 ∧ j = 15) ∨ (c = 16 ∧ j = 14)) ∧ ¬ WKp q 97 c j ∧ ¬ WGt 96 c j := by omega
theorem wlo_2 {q c : Nat} {j : Int} (z : ¬ WLo q c j) : ¬ (WRn q c j ∨ (c = 16 ∧ j = 14) ∨ c = q + 7 ∨ (c = 84 ∧ j = 9)) := by omega
theorem wlo_3 {q q3 n c : Nat} {j : Int} (h : q3 = q ∨ (q = 85 ∧ n ≤ q3)) (hc : c < n) (z : ¬ WLo q c j) : ¬ W63 q3 c j := by omega
theorem w63_s {s q c : Nat} {j : Int} (hs : s = 22 ∨ s = 42) (hq : q = 85 ∨ 185 ≤ q) (z : (s ≤ c ∧ c ≤ s + 19) ∨ c = 81 ∨ c = 80 ∨ (c = 70 ∧ (j = 4 ∨ (12 ≤ j ∧ j ≤ 14))) ∨ (72 ≤ c ∧ c ≤ 78) ∨ (c = 71 ∧ j = 7) ∨ c = 103) : ¬ W63 q c j := by omega
theorem wlo_s {s q n c : Nat} {j : Int} (hs : s = 22 ∨ s = 42) (hq : q = 85 ∨ 185 ≤ q) (hn : 186 ≤ n) (z : (s ≤ c ∧ c ≤ s + 19) ∨ c = 80 ∨ c = 81 ∨ (c = 70 ∧ j = 4) ∨ ((c = 98 ∨ c = 103) ∧ j = 0)) : c < n ∧ ¬ (WRn q c j ∨ (c = 16 ∧ j = 14) ∨ c = q + 7 ∨ (c = 84 ∧ j = 9)) := by omega
theorem kl_look52 {S : List Atm} (hS : ShX s μ q e) (hs : s = 22 ∨ s = 42) (hgo : GoS rs) (hB : ClB X W s rs q m T N0) (hN : N0 ≤ K) (hK : K ≤ T) (e15 : m 70 15 = (K : Int)) (hx : FxC X W s rs lev F G N0 m q T Fn S0 Tf) (hTf : Tf ≤ K) (hW : CwW X W s rs m q T S) (hE : EvG rs (baA 0 st (rlS rs) []) S) (hne : ∀ a, a ∈ S → ∀ p, p ∈ a.2 → tlC p ≤ 48 ∧ NeC p) (htm : ∀ a, a ∈ S → ∀ p, p ∈ a.2 → TmC X q m N0 p)
    (hok : ∀ (m' : PM) (T' : Nat), ClB X W s rs q m' T' N0 → FxC X W s rs lev F G N0 m' q T' Fn S0 Tf → K ≤ T' → T' ≤ K + 11000 → m' 70 15 = (T' : Int) → m' 16 14 = 1 → SnI X rs q m' 96 N0 T' st → (∀ t cs, t < K → Cg X q m t cs → Cg X q m' t cs) → (∀ c j, ¬ W63 q c j → m' c j = m c j) → Q (.inl none) (sA μ m' l)) :
    Wp (d + 15) 130 (52, [some (.ref 16)], [], sA μ m l) Q := by
  obtain ⟨⟨s1, s2, s3, s4, s5, s6⟩, ⟨x1, x2⟩, _, _, x7⟩ := id hS
  obtain ⟨⟨b1, b2, b3, b4⟩, b5, b6, b7, ⟨b8, b9⟩, b10, b11, b12⟩ := id hB
  have hXP : XP X := b1.2.1
  refine K130_52 s1 s2 (TQ_q s3) hs s5 x1 x2 (hE_of hS) ⟨fun μ' => Wp (d + 15) 130 (63, [some (.ref 16)], [], μ') Q, noX, ?_, fun _ h => h, fun _ _ z => z.elim⟩
  refine k_gather (d := d + 9) (Q := pV _ noX) (X := X) (L := rlS rs) (v := 96) hS.1 hs (Or.inl rfl) hgo b4 hW hE.2.2.2.1 b5 b8 (rlS_ok rs).1 (RwC_st (Nat.le_trans hN hK) (fun _ _ _ => rfl) (fun _ _ _ h => h) b9) (rlS_ok rs).2 hne b11 (fun m4 e44 e43 vw4 pr4 f4 => ?_)
  show Wp (d + 15) 130 (63, [some (.ref 16)], [], sA μ m4 l) Q
  have cg4 : ∀ t cs, Cg X q m t cs → Cg X q m4 t cs := fun t cs h => Cg_q (fun c j hc => f4 c j (by omega)) h
  have tmv : ∀ r, r < (rlS rs).length → ∀ p, p ∈ mvO rs (rlS rs) st r → TmC X q m4 N0 p := fun r hr p hp => by
    rw [← mv_O hgo hE] at hp
    exact TmC_st (fun t cs _ h => cg4 t cs h) (htm _ (((pr4 r hr).2.1 p).mp hp) p (List.mem_cons_of_mem _ (List.mem_singleton.mpr rfl)))
  rw [mv_O hgo hE, gl_O hgo hE] at vw4
  generalize hmv : mvO rs (rlS rs) st = mv at vw4 tmv
  generalize hgl : glO rs (rlS rs) st = gl at vw4
  clear pr4
  obtain ⟨w1, w2, w3, w4⟩ := id vw4
  have hn4 := (rlS_ok rs).2
  have tal : ∀ p, p ∈ alM mv (rlS rs).length → TmC X q m4 N0 p := fun p hp => by
    obtain ⟨r, hr, h⟩ := alM_m hp
    exact tmv r hr p h
  refine K130_63 s1 s2 (TQ_q s3) hs s5 x1 x2 (hE_of hS) ⟨fun x μ' => Wp (d + 15) 130 (84, [some (.ref 16)], [.int x, .ref 97, .ref 84], μ') Q, noX, ?_, fun _ _ h => h, fun _ _ z => z.elim⟩
  refine K113_0 (v := 96) (Q := pI _ noX) s1 (Or.inl rfl) ⟨by rw [e44]; exact ⟨by omega, by omega⟩, ⟨fun _ => ⟨by rw [e44]; exact ⟨by omega, by omega⟩, trivial⟩, fun _ => trivial⟩, fun v1 ev1 => ?_⟩
  show Wp (d + 15) 130 (84, [some (.ref 16)], [.int (zI v1), .ref 97, .ref 84], sA μ m4 l) Q
  have ev : v1 = ((alM mv (rlS rs).length).length : Int) := by
    rw [e44] at ev1
    rw [alM_l]
    by_cases y : ((rlS rs).length : Int) = 0
    · rw [if_neg (fun h => h y)] at ev1
      rw [ev1, show (rlS rs).length = 0 by omega]
      rfl
    · rw [if_pos y] at ev1
      rw [ev1]
      exact w1 _ (Nat.le_refl _)
  rw [ev]
  have e415 : m4 70 15 = (K : Int) := (f4 _ _ (by decide)).trans e15
  have ct3 : CtT X q (tN q) (tS q) m4 T := CtT_f6 (fun c j z => f4 c j (by omega)) b6
  refine K130_84 s1 s2 (TQ_q s3) hs s5 x1 x2 (hE_of hS) ?_
  rw [e415]
  refine ⟨fun μ' => Wp (d + 15) 130 (94, [some (.ref 16)], [], μ') Q, noX, ?_, fun _ h => h, fun _ _ z => z.elim⟩
  have hl1000 : (alM mv (rlS rs).length).length ≤ 1000 := by rw [alM_l]; exact w2
  have hs11 := sum_11 (L := alM mv (rlS rs).length) (fun p hp => ⟨(tal p hp).1, (tal p hp).2.1⟩)
  refine k_keep (d := d + 11) (Q := pV _ noX) (X := X) (r1 := 97) (M := K) (T := T) (a := s + 1) s1 s2 (TQ_q s3) (by rcases hs with h | h <;> rw [h] <;> decide) s6 hXP (NmS_cg (fun c j z => f4 c j (by omega)) b5) ct3 hK (cK_97 s1) (by decide) (by decide) hl1000 (alM_r w3) (fun p hp => (tal p hp).1) (fun p hp w hw => ?_) (fun m5 T5 hKT5 hT53 hsum ct5 rw5 cg5 f5 => ?_)
  · obtain ⟨u, u1, u2⟩ := (tal p hp).2.2 w hw
    exact ⟨u, Nat.lt_of_lt_of_le u1 hN, u2⟩
  · show Wp (d + 15) 130 (94, [some (.ref 16)], [], sA μ m5 l) Q
    refine K130_94 s1 s2 (TQ_q s3) hs s5 x1 x2 (hE_of hS) (fun m6 e6 => ⟨fun _ => ?_, fun z => absurd (by decide) z⟩)
    rw [ct5.1.1] at e6
    have o6 : ∀ c j, ¬ ((c = 70 ∧ j = 15) ∨ (c = 16 ∧ j = 14)) → m6 c j = m5 c j := fun c j z => by rw [e6, up_o (fun y => z (Or.inr y)), up_o (fun y => z (Or.inl y))]
    have o63 : ∀ c j, ¬ W63 q c j → m6 c j = m c j := fun c j z => (o6 c j (w63_f z).1).trans ((f5 c j (w63_f z).2.1).trans (f4 c j (w63_f z).2.2))
    have cg6 : ∀ t cs, Cg X q m5 t cs → Cg X q m6 t cs := fun t cs h => Cg_q (fun c j hc => o6 c j (by omega)) h
    have cg46 : ∀ t cs, t < K → Cg X q m4 t cs → Cg X q m6 t cs := fun t cs ht h => cg6 t cs (cg5 t cs ht h)
    have cgm6 : ∀ t cs, t < K → Cg X q m t cs → Cg X q m6 t cs := fun t cs ht h => cg46 t cs ht (cg4 t cs h)
    have ct6 : CtT X q (tN q) (tS q) m6 T5 := CtT_f6 (fun c j z => o6 c j (by omega)) ct5
    have o69 : ∀ c j, (c = 98 ∨ c = 99 ∨ (c = 96 ∧ (j = 3 ∨ j = 4))) → m6 c j = m4 c j := fun c j z => (o6 c j (by omega)).trans (f5 c j (by omega))
    refine hok m6 T5 ?_ (FxC_o hS.1 hs hx (fun c j z => o63 c j (w63_s hs s3 (by
      rcases z with z | z | z | z | z
      · exact Or.inl z
      · exact Or.inr (Or.inl z)
      · exact Or.inr (Or.inr (Or.inr (Or.inl ⟨z.1, Or.inr z.2⟩)))
      · exact Or.inr (Or.inr (Or.inr (Or.inr (Or.inl z))))
      · exact Or.inr (Or.inr (Or.inr (Or.inr (Or.inr (Or.inl z)))))))) (fun t cs ht h => cgm6 t cs (Nat.lt_of_lt_of_le ht hTf) h) (Nat.le_trans hTf hKT5) ct6) hKT5 (by omega) (by rw [e6, up_c (by decide), up_s]) (by rw [e6, up_s]) ?_ cgm6 o63
    · have z98 : m6 98 0 = 0 := (o69 _ _ (Or.inl rfl)).trans (w1 0 (Nat.zero_le _))
      refine ClB_st (fun c j z => ?_) (fun t cs ht => cgm6 t cs (Nat.lt_of_lt_of_le ht hN)) ct6 hB
      by_cases y : c = 98 ∧ j = 0
      · rw [y.1, y.2, z98, b11]
      · refine o63 c j (w63_s hs s3 ?_)
        rcases z with z | z | z | z | z
        · exact Or.inl z
        · exact Or.inr (Or.inr (Or.inl z))
        · exact Or.inr (Or.inl z)
        · exact Or.inr (Or.inr (Or.inr (Or.inl ⟨z.1, Or.inl z.2⟩)))
        · rcases z with ⟨z | z, z2⟩
          · exact absurd ⟨z, z2⟩ y
          · exact Or.inr (Or.inr (Or.inr (Or.inr (Or.inr (Or.inr z)))))
    · refine ⟨⟨_, hE⟩, (o69 _ _ (Or.inr (Or.inr ⟨rfl, Or.inr rfl⟩))).trans e44, ?_, ?_, ?_⟩
      · rw [o69 _ _ (Or.inr (Or.inr ⟨rfl, Or.inl rfl⟩)), e43, wd_term]
        refine bP_cg ?_
        rw [← Ev_cn hgo hE]
      · rw [hmv, hgl]
        refine ⟨fun r hr => (o69 _ _ (Or.inl rfl)).trans (w1 r hr), w2, alM_b (RwC_st (Nat.le_refl _) (fun j _ _ => o6 _ _ (by omega)) (fun t cs _ h => cg6 t cs h) rw5), fun r hr => (o69 _ _ (Or.inr (Or.inl rfl))).trans (w4 r hr)⟩
      · rw [hmv]
        exact fun r hr p hp => TmC_st (fun t cs ht => cg46 t cs (Nat.lt_of_lt_of_le ht hN)) (tmv r hr p hp)
theorem kl_look0 (hS : ShX s μ q e) (hs : s = 22 ∨ s = 42) (hgo : GoS rs) (hB : ClB X W s rs q m T N0) (hN : N0 ≤ K) (hK : K ≤ T) (e15 : m 70 15 = (K : Int)) (hx : FxC X W s rs lev F G N0 m q T Fn S0 Tf) (hTf : Tf ≤ K) (hKb : K ≤ Tf + b) (hb : b ≤ 12000) (hst : StC X q m N0 K st) (e12 : m 16 12 = (st.length : Int)) (h0 : m 16 14 = 0)
    (hok : ∀ (μ' : am_Mem) (m' l' : PM) (q' T' Fn' : Nat), Gx μ q e μ' q' e → ShX s μ' q' e → ClB X W s rs q' m' T' N0 → FxC X W s rs lev F G N0 m' q' T' Fn' S0 Tf → K ≤ T' → T' ≤ K + 11000 → m' 70 15 = (T' : Int) → m' 16 14 = 1 → SnI X rs q' m' 96 N0 T' st → (∀ t cs, t < K → Cg X q m t cs → Cg X q' m' t cs) → (∀ c j, c < am_n μ → ¬ WLo q c j → m' c j = m c j) → (∀ c j, c < am_n μ → ¬ (c = 70 ∧ j = 16) → l' c j = l c j) → Q (.inl none) (sA μ' m' l'))
    (hthr : ∀ (μ' : am_Mem) (m' l' : PM) (q' T' Fn' : Nat), ¬ Evb rs (baA 0 st (rlS rs) []) → Gx μ q e μ' q' e → ShX s μ' q' e → ClB X W s rs q' m' T' N0 → FxC X W s rs lev F G N0 m' q' T' Fn' S0 Tf → K ≤ T' → m' 70 15 = (K : Int) → m' 16 14 = 2 → (∀ t cs, t < K → Cg X q m t cs → Cg X q' m' t cs) → (∀ c j, c < am_n μ → ¬ WLo q c j → m' c j = m c j) → (∀ c j, c < am_n μ → ¬ (c = 70 ∧ j = 16) → l' c j = l c j) → Q (.inr 3) (sA (am_nX μ') m' l')) :
    Wp (d + 15) 130 (0, [some (.ref 16)], [], sA μ m l) Q := by
  obtain ⟨⟨s1, s2, s3, s4, s5, s6⟩, ⟨x1, x2⟩, _, _, x7⟩ := id hS
  obtain ⟨⟨b1, b2, b3, b4⟩, b5, b6, b7, ⟨b8, b9⟩, b10, b11, b12⟩ := id hB
  have hXP : XP X := b1.2.1
  obtain ⟨t1, t2, t3, t4⟩ := id hst
  refine K130_0 s1 s2 (TQ_q s3) hs s5 x1 x2 (hE_of hS) ⟨by rw [h0]; exact iR_0, fun z => absurd h0 z, fun _ m1 e1 => ?_⟩
  have o1 : ∀ c j, ¬ (c = 16 ∧ j = 14) → m1 c j = m c j := fun c j z => by rw [e1, up_o z]
  have ct1 : CtT X q (tN q) (tS q) m1 T := CtT_f6 (fun c j z => o1 c j (by omega)) b6
  rw [e15]
  refine ⟨_, noX, k_tcut (d := d + 14) s1 s2 (TQ_q s3) ct1.1 hK, fun μ' hp => ?_, fun _ _ z => z.elim⟩
  obtain ⟨m2, e2, ci2, f2⟩ := hp
  rw [e2]
  have ct2 : CtT X q (tN q) (tS q) m2 K := CtT_cg (P := 4 * tN q) hK ct1 ci2 (fun c j z => f2 c j (by omega))
  have o2 : ∀ c j, ¬ ((c = 16 ∧ j = 14) ∨ c = q + 7 ∨ (c = 84 ∧ j = 9)) → m2 c j = m c j := fun c j z => (f2 c j (by omega)).trans (o1 c j (by omega))
  have cg2 : ∀ t cs, Cg X q m t cs → Cg X q m2 t cs := fun t cs h => Cg_q (fun c j hc => o2 c j (by omega)) h
  have s2' : m2 16 14 = 2 := by rw [f2 _ _ (by omega), e1, up_s]
  have hx2 : FxC X W s rs lev F G N0 m2 q K Fn S0 Tf := FxC_o hS.1 hs hx (fun c j z => o2 c j (by omega)) (fun t cs _ h => cg2 t cs h) hTf ct2
  refine K130_29 s1 s2 (TQ_q s3) hs s5 x1 x2 (hE_of hS) ?_
  rw [o2 16 12 (by omega), e12]
  refine ⟨fun μ' => Wp (d + 15) 130 (52, [some (.ref 16)], [], μ') Q, fun x μ' => Q (.inr x) μ', ?_, fun _ h => h, fun _ _ h => h⟩
  have hfx8 := hx.2.2.2.2.2.1.2
  have hbase : ∀ a, a ∈ baS st ++ baM (rlS rs) [] 0 → ∀ p, p ∈ a.2 → TmC X q m N0 p := ba_tm t3 (fun r hr => absurd hr (Nat.not_lt_zero _))
  refine k_workOut (d := d) (X := X) (ch := []) (n := 0) (C1 := N0 + b) (L := rlS rs) (st := st) (r1 := 94) (r3 := 100) (Q := pV _ _) hS.1 hs hgo hx2 (cK_94 s1) (cK_100 s1) (by decide) (by decide) (by decide) (by decide) (SrT_nd t1) t2 t2 (RwC_st (Nat.le_refl _) (fun j _ _ => o2 _ _ (by omega)) (fun t cs _ h => cg2 t cs h) t4) (rlS_ok rs).1 (rlS_ok rs).2 (RwC_st hN (fun j _ _ => o2 _ _ (by omega)) (fun t cs _ h => cg2 t cs h) b9) (Nat.zero_le _) (by decide) (by decide) (fun i hi => absurd hi (Nat.not_lt_zero _)) (fun a ha p hp => ⟨(hbase a ha p hp).2.1, (hbase a ha p hp).1.2.2⟩) (by omega) (by omega) (fun μ3 m3 l3 q3 T3 L' hE hK3 hT3 hW3 hx3 hne3 hl3 => ?_) (fun μ3 m3 l3 q3 T3 Fn3 hno hK3 hT3 hx3 => ?_)
  · -- it holds
    show Wp (d + 15) 130 (52, [some (.ref 16)], [], sA μ3 m3 l3) Q
    obtain ⟨gw, fr3, cg3⟩ := hK3
    obtain ⟨G3, S3⟩ := Gx_of hS gw
    have hq3 : q3 = q ∨ (q = 85 ∧ am_n μ ≤ q3) := G3.2.2.2.1
    have o3 : ∀ c j, c < am_n μ → ¬ (WRn q c j ∨ (c = 16 ∧ j = 14) ∨ c = q + 7 ∨ (c = 84 ∧ j = 9)) → m3 c j = m c j := fun c j hc z => ((fr3 c j hc).1 (fun y => z (Or.inl y))).trans (o2 c j (fun y => z (Or.inr y)))
    have cgm3 : ∀ t cs, t < K → Cg X q m t cs → Cg X q3 m3 t cs := fun t cs ht h => cg3 t cs ht (cg2 t cs h)
    have hE0 : EvG rs (baA 0 st (rlS rs) []) (S0 ++ L') := hE
    have hB3 : ClB X W s rs q3 m3 T3 N0 := ClB_st (fun c j z => o3 c j (wlo_s hs s3 x7 z).1 (wlo_s hs s3 x7 z).2) (fun t cs ht => cgm3 t cs (Nat.lt_of_lt_of_le ht hN)) hx3.2.1 hB
    have tm3 : ∀ a, a ∈ S0 ++ L' → ∀ p, p ∈ a.2 → TmC X q3 m3 N0 p := ev_tm hgo hB3.1.1 hB3.2.2.2.1 hE (hW3.2.2.2.2.2.2) hne3 (fun a ha p hp => NmB_st (fun t cs ht => cgm3 t cs (Nat.lt_of_lt_of_le ht hN)) (hbase a ha p hp).2.2)
    refine kl_look52 (d := d) S3 hs hgo hB3 hN hT3 ((o3 _ _ (by omega) (by omega)).trans e15) hx3 hTf hW3 hE0 hne3 tm3 (fun m6 T6 hB6 hx6 hK6 hb6 e615 e614 sn6 cg6 f6 => ?_)
    exact hok μ3 m6 l3 q3 T6 _ G3 S3 hB6 hx6 hK6 hb6 e615 e614 sn6 (fun t cs ht h => cg6 t cs ht (cgm3 t cs ht h)) (fun c j hc z => (f6 c j (wlo_3 hq3 hc z)).trans (o3 c j hc (wlo_2 z))) (fun c j hc z => (fr3 c j hc).2 z)
  · -- it is too great
    show Q (.inr 3) (sA (am_nX μ3) m3 l3)
    obtain ⟨gw, fr3, cg3⟩ := hK3
    obtain ⟨G3, S3⟩ := Gx_of hS gw
    have o3 : ∀ c j, c < am_n μ → ¬ (WRn q c j ∨ (c = 16 ∧ j = 14) ∨ c = q + 7 ∨ (c = 84 ∧ j = 9)) → m3 c j = m c j := fun c j hc z => ((fr3 c j hc).1 (fun y => z (Or.inl y))).trans (o2 c j (fun y => z (Or.inr y)))
    have cgm3 : ∀ t cs, t < K → Cg X q m t cs → Cg X q3 m3 t cs := fun t cs ht h => cg3 t cs ht (cg2 t cs h)
    refine hthr μ3 m3 l3 q3 T3 Fn3 (fun ⟨S', h⟩ => hno ⟨S', h⟩) G3 S3 (ClB_st (fun c j z => o3 c j (wlo_s hs s3 x7 z).1 (wlo_s hs s3 x7 z).2) (fun t cs ht => cgm3 t cs (Nat.lt_of_lt_of_le ht hN)) hx3.2.1 hB) hx3 hT3 ((o3 _ _ (by omega) (by omega)).trans e15) (((fr3 _ _ (by omega)).1 (by omega)).trans s2') cgm3 (fun c j hc z => o3 c j hc (wlo_2 z)) (fun c j hc z => (fr3 c j hc).2 z)
end CLL
