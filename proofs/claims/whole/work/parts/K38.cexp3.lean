/-! ===== the class's expand: the moves kept ===== -/
section CEZ
variable {d : Nat} {Q : Option Value ⊕ Nat → am_Mem → Prop} {X : Int → List Int → Prop} {W : Int → Nat} {s q e T N0 M : Nat} {rs : List Rul} {lev : List Int → Nat} {F G Fn Tf : Nat} {S0 : List Atm} {μ : am_Mem} {m l : PM} {st : List (List Cd)}
theorem wk2_s {s q c : Nat} {j : Int} (hs : s = 22 ∨ s = 42) (hq : q = 85 ∨ 185 ≤ q) (z : (s ≤ c ∧ c ≤ s + 19) ∨ c = 80 ∨ c = 81 ∨ (c = 70 ∧ (j = 4 ∨ (12 ≤ j ∧ j ≤ 14))) ∨ c = 98 ∨ c = 103 ∨ c = 104 ∨ c = 101 ∨ (72 ≤ c ∧ c ≤ 78) ∨ (c = 71 ∧ j = 7)) : ¬ WKp q 102 c j := by omega
theorem kl_exp95 {n : Nat} {x4 : Int} (hS : ShX s μ q e) (hs : s = 22 ∨ s = 42) (hB : ClB X W s rs q m T N0) (hN : N0 ≤ M) (hMT : M ≤ T) (hx : FxC X W s rs lev F G N0 m q T Fn S0 Tf) (hTf : Tf ≤ M) (hn : n < 300) (hsn : SnI X rs q m 101 N0 T st) (e115 : m 115 (n : Int) = (jmO rs (rlS rs) st : Int)) (h40 : jmO rs (rlS rs) st ≤ 40)
    (hok : ∀ (m' : PM) (T' : Nat), ClB X W s rs q m' T' N0 → FxC X W s rs lev F G N0 m' q T' Fn S0 Tf → M ≤ T' → T' ≤ M + 473 → (¬ jmO rs (rlS rs) st = 0 → SnI X rs q m' 101 N0 T' st) → (∀ t cs, t < M → Cg X q m t cs → Cg X q m' t cs) → (∀ c j, ¬ WKp q 102 c j → m' c j = m c j) → Wp (d + 16) 138 (140, [some (.ref 16), some (.int (zI (n : Int))), some (.ref 84), some (.ref 111), some (.int (zI x4)), some (.int (zI (T' : Int))), some (.int (zI 0))], [], sA μ m' l) Q) :
    Wp (d + 16) 138 (95, [some (.ref 16), some (.int (zI (n : Int))), some (.ref 84), some (.ref 111), some (.int (zI x4)), some (.int (zI (M : Int))), none], [], sA μ m l) Q := by
  obtain ⟨⟨s1, s2, s3, s4, s5, s6⟩, ⟨x1, x2⟩, _, h6', x7⟩ := id hS
  obtain ⟨⟨b1, b2, b3, b4⟩, b5, b6, b7, ⟨b8, b9⟩, b10, b11, b12⟩ := id hB
  obtain ⟨n1, n2, n3, n4, n5⟩ := id hsn
  have hn4 := (rlS_ok rs).2
  have ha : s + 1 = 23 ∨ s + 1 = 43 := by rcases hs with h | h <;> rw [h] <;> decide
  -- behind the keeping
  have fin : ∀ (m5 : PM) (T5 : Nat), M ≤ T5 → T5 ≤ M + 473 → CtT X q (tN q) (tS q) m5 T5 → (¬ jmO rs (rlS rs) st = 0 → RwC X q m5 T5 102 0 (alM (mvO rs (rlS rs) st) (rlS rs).length)) → (∀ t cs, t < M → Cg X q m t cs → Cg X q m5 t cs) → (∀ c j, ¬ WKp q 102 c j → m5 c j = m c j) → Wp (d + 16) 138 (131, [some (.ref 16), some (.int (zI (n : Int))), some (.ref 84), some (.ref 111), some (.int (zI x4)), some (.int (zI (M : Int))), none], [], sA μ m5 l) Q := by
    intro m5 T5 h1 h2 ct5 rw5 cg5 f5
    refine K138_131 s1 s2 (TQ_q s3) hs s5 x1 x2 (hE_of hS) ?_
    rw [ct5.1.1]
    refine hok m5 T5 (ClB_st (fun c j z => f5 c j (wk2_s hs s3 (by omega))) (fun t cs ht => cg5 t cs (Nat.lt_of_lt_of_le ht hN)) ct5 hB) (FxC_o hS.1 hs hx (fun c j z => f5 c j (wk2_s hs s3 (by omega))) (fun t cs ht => cg5 t cs (Nat.lt_of_lt_of_le ht hTf)) (Nat.le_trans hTf h1) ct5) h1 h2 (fun z => ?_) cg5 f5
    obtain ⟨w1, w2, w3, w4⟩ := n4
    exact ⟨n1, (f5 101 4 (wk2_s hs s3 (by omega))).trans n2, (f5 101 3 (wk2_s hs s3 (by omega))).trans n3, ⟨fun r hr => (f5 103 _ (wk2_s hs s3 (by omega))).trans (w1 r hr), w2, alM_b (rw5 z), fun r hr => (f5 104 _ (wk2_s hs s3 (by omega))).trans (w4 r hr)⟩, fun r hr p hp => TmC_st (fun t cs ht => cg5 t cs (Nat.lt_of_lt_of_le ht hN)) (n5 r hr p hp)⟩
  refine K138_95 s1 s2 (TQ_q s3) hs s5 x1 x2 (hE_of hS) ⟨⟨by omega, by omega⟩, by rw [e115]; exact ⟨by omega, by omega⟩, fun z => ?_, fun z => ?_⟩
  · rw [e115] at z
    refine ⟨fun μ' => Wp (d + 16) 138 (131, [some (.ref 16), some (.int (zI (n : Int))), some (.ref 84), some (.ref 111), some (.int (zI x4)), some (.int (zI (M : Int))), none], [], μ') Q, noX, ?_, fun _ h => h, fun _ _ z => z.elim⟩
    refine k_keep (d := d + 12) (Q := pV _ noX) (X := X) (r1 := 102) (M := M) (T := T) (L := []) (a := s + 1) s1 s2 (TQ_q s3) ha s6 b1.2.1 b5 b6 hMT (cK_102 s1) (by decide) (by decide) (by decide) (fun i hi => absurd hi (Nat.not_lt_zero _)) (fun p hp => absurd hp List.not_mem_nil) (fun p hp => absurd hp List.not_mem_nil) (fun m5 T5 h1 h2 hs5 ct5 rw5 cg5 f5 => ?_)
    have e0 : (([] : List (List Cd)).map nIn).sum = 0 := rfl
    rw [e0] at hs5
    exact fin m5 T5 h1 (by omega) ct5 (fun y => absurd (show jmO rs (rlS rs) st = 0 by omega) y) cg5 f5
  · rw [e115] at z
    have hj0 : 0 < jmO rs (rlS rs) st := by omega
    have nov : ¬ ovO rs (rlS rs) st := fun h => by
      have : jmO rs (rlS rs) st = 0 := by
        unfold jmO
        exact if_pos h
      omega
    have ejm : jmO rs (rlS rs) st = jmN (rlS rs).length (mvO rs (rlS rs) st) := by
      unfold jmO
      exact if_neg nov
    rw [ejm] at hj0 h40
    have h43 := pfs_43 hn4 hj0 h40
    have tal : ∀ p, p ∈ alM (mvO rs (rlS rs) st) (rlS rs).length → TmC X q m N0 p := fun p hp => by
      obtain ⟨r, hr, h⟩ := alM_m hp
      exact n5 r hr p h
    have hs11 := sum_11 (L := alM (mvO rs (rlS rs) st) (rlS rs).length) (fun p hp => ⟨(tal p hp).1, (tal p hp).2.1⟩)
    have hl := alM_l (mvO rs (rlS rs) st) (rlS rs).length
    refine ⟨fun x μ' => Wp (d + 16) 138 (122, [some (.ref 16), some (.int (zI (n : Int))), some (.ref 84), some (.ref 111), some (.int (zI x4)), some (.int (zI (M : Int))), none], [.int x, .ref 102, .ref 84], μ') Q, noX, ?_, fun _ _ h => h, fun _ _ z => z.elim⟩
    refine K113_0 (v := 101) (Q := pI _ noX) s1 (Or.inr rfl) ⟨by rw [n2]; exact ⟨by omega, by omega⟩, ⟨fun _ => ⟨by rw [n2]; exact ⟨by omega, by omega⟩, trivial⟩, fun _ => trivial⟩, fun v1 ev1 => ?_⟩
    show Wp (d + 16) 138 (122, [some (.ref 16), some (.int (zI (n : Int))), some (.ref 84), some (.ref 111), some (.int (zI x4)), some (.int (zI (M : Int))), none], [.int (zI v1), .ref 102, .ref 84], sA μ m l) Q
    have ev : v1 = ((alM (mvO rs (rlS rs) st) (rlS rs).length).length : Int) := by
      rw [n2] at ev1
      rw [hl]
      by_cases y : ((rlS rs).length : Int) = 0
      · rw [if_neg (fun h => h y)] at ev1
        rw [ev1, show (rlS rs).length = 0 by omega]
        rfl
      · rw [if_pos y] at ev1
        rw [ev1]
        exact n4.1 _ (Nat.le_refl _)
    rw [ev]
    refine K138_122 s1 s2 (TQ_q s3) hs s5 x1 x2 (hE_of hS) ⟨fun μ' => Wp (d + 16) 138 (131, [some (.ref 16), some (.int (zI (n : Int))), some (.ref 84), some (.ref 111), some (.int (zI x4)), some (.int (zI (M : Int))), none], [], μ') Q, noX, ?_, fun _ h => h, fun _ _ z => z.elim⟩
    refine k_keep (d := d + 12) (Q := pV _ noX) (X := X) (r1 := 102) (M := M) (T := T) (a := s + 1) s1 s2 (TQ_q s3) ha s6 b1.2.1 b5 b6 hMT (cK_102 s1) (by decide) (by decide) (by omega) (alM_r n4.2.2.1) (fun p hp => (tal p hp).1) (fun p hp w hw => ?_) (fun m5 T5 h1 h2 hs5 ct5 rw5 cg5 f5 => ?_)
    · obtain ⟨u, u1, u2⟩ := (tal p hp).2.2 w hw
      exact ⟨u, Nat.lt_of_lt_of_le u1 hN, u2⟩
    · exact fin m5 T5 h1 (by omega) ct5 (fun _ => rw5) cg5 f5
end CEZ
