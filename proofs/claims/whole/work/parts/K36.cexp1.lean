/-! ===== the class's expand: a state loaded and worked out ===== -/
theorem nIn_sm : ∀ A : List (List Cd), nIn A.flatten = (A.map nIn).sum := by
  intro A
  induction A with
  | nil => rfl
  | cons p A ih =>
    rw [List.flatten_cons, nIn_app, ih, List.map_cons, List.sum_cons]
section CEX
variable {d : Nat} {Q : Option Value ⊕ Nat → am_Mem → Prop} {X : Int → List Int → Prop} {W : Int → Nat} {s q e T N0 K : Nat} {rs : List Rul} {lev : List Int → Nat} {F G Fn Tf : Nat} {S0 : List Atm} {μ : am_Mem} {m l : PM} {st A : List (List Cd)}
theorem k_addWork {w k : Nat} (H : CS μ) (e1 : l 16 18 = (w : Int)) (e2 : l 70 16 = (k : Int)) (hw : w ≤ 30000000) (hk : k ≤ 30000000) (hok : w + k ≤ 30000000 → Q (.inl none) (sA μ m (up l 16 18 ((w + k : Nat) : Int)))) (hx : ¬ w + k ≤ 30000000 → Q (.inr 3) (sA (am_nX μ) m (up l 16 18 ((w + k : Nat) : Int)))) : Wp d 136 (0, [some (.ref 16)], [], sA μ m l) Q := by
  have e : l 16 18 + l 70 16 = ((w + k : Nat) : Int) := by rw [e1, e2]; omega
  refine K136_0 H ?_
  rw [e, up_s]
  refine ⟨⟨by omega, by omega⟩, fun z l1 el => ?_, fun z l1 el => ?_⟩
  · rw [el]
    exact hok (by omega)
  · rw [el]
    exact hx (by omega)
abbrev WEx (q c : Nat) (j : Int) : Prop := WRn q c j ∨ WLd q c j
theorem wex_1 {q c : Nat} {j : Int} (z : ¬ WEx q c j) : ¬ WLd q c j ∧ ¬ (c = q + 7 ∨ (c = 84 ∧ j = 9)) := by omega
theorem wex_2 {q q3 n c : Nat} {j : Int} (h : q3 = q ∨ (q = 85 ∧ n ≤ q3)) (hc : c < n) (z : ¬ WEx q c j) : ¬ WRn q3 c j := by omega
theorem wld_s {s q n c : Nat} {j : Int} (hs : s = 22 ∨ s = 42) (hq : q = 85 ∨ 185 ≤ q) (hn : 186 ≤ n) (z : (s ≤ c ∧ c ≤ s + 19) ∨ c = 80 ∨ c = 81 ∨ (c = 70 ∧ (j = 4 ∨ (12 ≤ j ∧ j ≤ 14))) ∨ c = 98 ∨ c = 103 ∨ (72 ≤ c ∧ c ≤ 78) ∨ (c = 71 ∧ j = 7)) : c < n ∧ ¬ WLd q c j := by omega
theorem kl_exp0 {n : Nat} (hS : ShX s μ q e) (hs : s = 22 ∨ s = 42) (hgo : GoS rs) (hB : ClB X W s rs q m T N0) (hNf : N0 ≤ Tf) (hK : K ≤ T) (e15 : m 70 15 = (K : Int)) (hx : FxC X W s rs lev F G N0 m q T Fn S0 Tf) (hTf : Tf ≤ K) (hKb : K ≤ Tf + 12000) (hn : n < 300) (hSt : St1 X m e n A) (hsh : ∀ j, 0 ≤ m e j ∧ m e j ≤ 32767) (hA : A.length ≤ 60) (htm : ∀ p, p ∈ A → TmC X q m N0 p) (hnd : A.Nodup) (hst : ∀ t, t ∈ A ↔ t ∈ st)
    (hok : ∀ (μ' : am_Mem) (m' l' : PM) (q' T2 T' : Nat) (S : List Atm), EvG rs (baA 0 st (rlS rs) []) S → Gx μ q e μ' q' e → ShX s μ' q' e → ClB X W s rs q' m' T' N0 → FxC X W s rs lev F G N0 m' q' T' S.length S0 Tf → CwW X W s rs m' q' T' S → (∀ a, a ∈ S → ∀ p, p ∈ a.2 → tlC p ≤ 48 ∧ NeC p) → (∀ a, a ∈ S → ∀ p, p ∈ a.2 → TmC X q' m' N0 p) → K ≤ T2 → T2 ≤ K + 11 * A.length → T2 ≤ T' → RwC X q' m' T2 111 0 A.reverse → (∀ t cs, t < K → Cg X q m t cs → Cg X q' m' t cs) → (∀ c j, c < am_n μ → ¬ WEx q c j → m' c j = m c j) → (∀ c j, c < am_n μ → ¬ (c = 70 ∧ j = 16) → l' c j = l c j) → l' 70 16 = (smR S rs : Int) → Wp (d + 16) 138 (68, [some (.ref 16), some (.int (zI (n : Int))), some (.ref 84), some (.ref 111), some (.int (zI (A.length : Int))), some (.int (zI (T2 : Int))), none], [], sA μ' m' l') Q)
    (hthr : ∀ (μ' : am_Mem) (m' l' : PM) (q' T' Fn' : Nat), ¬ Evb rs (baA 0 st (rlS rs) []) → Gx μ q e μ' q' e → ShX s μ' q' e → ClB X W s rs q' m' T' N0 → FxC X W s rs lev F G N0 m' q' T' Fn' S0 Tf → K ≤ T' → (∀ t cs, t < K → Cg X q m t cs → Cg X q' m' t cs) → (∀ c j, c < am_n μ → ¬ WEx q c j → m' c j = m c j) → (∀ c j, c < am_n μ → ¬ (c = 70 ∧ j = 16) → l' c j = l c j) → Q (.inr 3) (sA (am_nX μ') m' l')) :
    Wp (d + 16) 138 (0, [some (.ref 16), some (.int (zI (n : Int))), none, none, none, none, none], [], sA μ m l) Q := by
  obtain ⟨⟨s1, s2, s3, s4, s5, s6⟩, ⟨x1, x2⟩, ⟨x3, x4, _⟩, _, x7⟩ := id hS
  obtain ⟨⟨b1, b2, b3, b4⟩, b5, b6, b7, ⟨b8, b9⟩, b10, b11, b12⟩ := id hB
  have hx8 := hx.2.2.2.2.2.1.2
  have hS1000 : S0.length ≤ 1000 := by
    obtain ⟨_, _, _, ⟨h6, h6'⟩, _⟩ := hx
    have := h6.2.1
    omega
  have hX2 : ∀ x w, X x w → x < 1024 := b1.2.2.1.1
  refine K138_0 s1 s2 (TQ_q s3) hs s5 x1 x2 (hE_of hS) ?_
  rw [e15]
  refine ⟨_, noX, k_tcut (d := d + 15) s1 s2 (TQ_q s3) b6.1 hK, fun μ' hp => ?_, fun _ _ z => z.elim⟩
  obtain ⟨m2, e2, ci2, f2⟩ := hp
  rw [e2]
  have ct2 : CtT X q (tN q) (tS q) m2 K := CtT_cg (P := 4 * tN q) hK b6 ci2 (fun c j z => f2 c j (by omega))
  have cg2 : ∀ t cs, Cg X q m t cs → Cg X q m2 t cs := fun t cs h => Cg_q (fun c j hc => f2 c j (by omega)) h
  have hB2 : ClB X W s rs q m2 K N0 := ClB_st (fun c j z => f2 c j (wcu_s hs s3 (by omega))) (fun t cs _ h => cg2 t cs h) ct2 hB
  have hx2 : FxC X W s rs lev F G N0 m2 q K Fn S0 Tf := FxC_o hS.1 hs hx (fun c j z => f2 c j (wcu_s hs s3 (by omega))) (fun t cs _ h => cg2 t cs h) hTf ct2
  have hN : N0 ≤ K := Nat.le_trans hNf hTf
  have tm2 : ∀ p, p ∈ A → TmC X q m2 N0 p := fun p hp => TmC_st (fun t cs _ h => cg2 t cs h) (htm p hp)
  have hGd : GdL A := ⟨hA, fun p hp => ⟨(htm p hp).1, (GdC_48 (htm p hp).1 (htm p hp).2.1).2⟩⟩
  have fe : ∀ j, m2 e j = m e j := fun j => f2 e j (by omega)
  have hSt2 : St1 X m2 e n A := by
    obtain ⟨f, a1, a2, a3, a4, a5, a6⟩ := hSt
    exact ⟨f, by rw [f2 _ _ (by omega)]; exact a1, by rw [f2 _ _ (by omega)]; exact a2, a3, a4, CdR_cg (fun j _ _ => fe j) a5, by rw [f2 _ _ (by omega)]; exact a6⟩
  have hnl : ∀ x w, X x w → m2 (s + 4) (x + 1) - m2 (s + 4) x = (w.length : Int) := hB2.1.2.1
  refine K138_19 s1 s2 (TQ_q s3) hs s5 x1 x2 (hE_of hS) ⟨fun x μ' => Wp (d + 16) 138 (42, [some (.ref 16), some (.int (zI (n : Int))), some (.ref 84), some (.ref 111), none, none, none], [.int x], μ') Q, noX, ?_, fun _ _ h => h, fun _ _ z => z.elim⟩
  refine k_load (d := d + 12) (Q := pI _ noX) (X := X) (A := A) hS hs b1.2.1 hX2 hnl ct2 (by omega) hSt2 hGd (by omega) (fun j => by rw [fe]; exact hsh j) (fun p hp w hw => ?_) (fun μ3 m3 l3 q3 T3 gw hT3 hT3' ct3 rw3 f3 fl3 cg3 => ?_)
  · obtain ⟨u, u1, u2⟩ := (tm2 p hp).2.2 w hw
    exact ⟨u, Nat.lt_of_lt_of_le u1 hN, u2⟩
  · show Wp (d + 16) 138 (42, [some (.ref 16), some (.int (zI (n : Int))), some (.ref 84), some (.ref 111), none, none, none], [.int (zI (A.length : Int))], sA μ3 m3 l3) Q
    obtain ⟨G3, S3⟩ := Gx_of hS gw
    obtain ⟨⟨r1, r2, r3, r4, r5, r6⟩, ⟨y1, y2⟩, _, _, y7⟩ := id S3
    have hq3 : q3 = q ∨ (q = 85 ∧ am_n μ ≤ q3) := G3.2.2.2.1
    have hB3 : ClB X W s rs q3 m3 T3 N0 := ClB_st (fun c j z => f3 c j (wld_s (j := j) hs s3 x7 (by omega)).1 (wld_s (j := j) hs s3 x7 (by omega)).2) (fun t cs ht => cg3 t cs (Nat.lt_of_lt_of_le ht hN)) ct3 hB2
    have hx3 : FxC X W s rs lev F G N0 m3 q3 T3 Fn S0 Tf := FxC_o hS.1 hs hx2 (fun c j z => f3 c j (wld_s (j := j) hs s3 x7 (by omega)).1 (wld_s (j := j) hs s3 x7 (by omega)).2) (fun t cs ht => cg3 t cs (Nat.lt_of_lt_of_le ht hTf)) (Nat.le_trans hTf hT3) ct3
    have hsum := sum_11 (L := A) (fun p hp => ⟨(htm p hp).1, (htm p hp).2.1⟩)
    rw [← nIn_sm] at hsum
    have hrl : A.reverse.length = A.length := List.length_reverse
    have tm3 : ∀ p, p ∈ A.reverse → TmC X q3 m3 N0 p := fun p hp => TmC_st (fun t cs ht => cg3 t cs (Nat.lt_of_lt_of_le ht hN)) (tm2 p (List.mem_reverse.mp hp))
    refine K138_42 r1 r2 (TQ_q r3) hs r5 y1 y2 (hE_of S3) ?_
    rw [ct3.1.1]
    refine ⟨fun μ' => Wp (d + 16) 138 (68, [some (.ref 16), some (.int (zI (n : Int))), some (.ref 84), some (.ref 111), some (.int (zI (A.length : Int))), some (.int (zI (T3 : Int))), none], [], μ') Q, fun x μ' => Q (.inr x) μ', ?_, fun _ h => h, fun _ _ h => h⟩
    rw [← hrl]
    have memst : ∀ t, t ∈ A.reverse ↔ t ∈ st := fun t => List.mem_reverse.trans (hst t)
    refine kl_run (d := d + 1) (C1 := N0 + 12000) (st := A.reverse) (ch := []) (n := 0) (r1 := 111) (r3 := 105) (Q := pV _ _) S3 hs hgo hB3 (Nat.le_trans hN hT3) hx3 (Nat.le_trans hTf hT3) (by omega) (by omega) (cK_111 r1) (cK_105 r1) (by decide) (by decide) (by decide) (by decide) (List.pairwise_reverse.mpr (List.Pairwise.imp (fun h e => h e.symm) hnd)) (by omega) (by omega) rw3 (Nat.zero_le _) (by decide) (by decide) (fun i hi => absurd hi (Nat.not_lt_zero _)) tm3 (fun r hr => absurd hr (Nat.not_lt_zero _)) (fun μ4 m4 l4 q4 T4 S hE G4 S4 hB4 hx4 hW4 hne4 tm4 hT4 cg4 f4 fl4 hl4 => ?_) (fun μ4 m4 l4 q4 T4 Fn4 hno G4 S4 hB4 hx4 hT4 cg4 f4 fl4 => ?_)
    · show Wp (d + 16) 138 (68, [some (.ref 16), some (.int (zI (n : Int))), some (.ref 84), some (.ref 111), some (.int (zI (A.reverse.length : Int))), some (.int (zI (T3 : Int))), none], [], sA μ4 m4 l4) Q
      rw [hrl]
      refine hok μ4 m4 l4 q4 T3 T4 S (EvG_mem (bS_mem memst []) hE) (Gx_t hS G3 G4) S4 hB4 hx4 hW4 hne4 tm4 hT3 (by omega) hT4 (RwC_st (Nat.le_refl _) (fun j _ _ => f4 111 j (by omega) ?_) cg4 rw3) (fun t cs ht h => cg4 t cs (Nat.lt_of_lt_of_le ht hT3) (cg3 t cs ht (cg2 t cs h))) (fun c j hc z => (f4 c j (Nat.lt_of_lt_of_le hc G3.1) (wex_2 hq3 hc z)).trans ((f3 c j hc (wex_1 z).1).trans (f2 c j (wex_1 z).2))) (fun c j hc z => (fl4 c j (Nat.lt_of_lt_of_le hc G3.1) z).trans (fl3 c j hc)) hl4
      omega
    · show Q (.inr 3) (sA (am_nX μ4) m4 l4)
      refine hthr μ4 m4 l4 q4 T4 Fn4 (fun h => hno ((Evb_mem (bS_mem memst [])).mpr h)) (Gx_t hS G3 G4) S4 hB4 hx4 (Nat.le_trans hT3 hT4) (fun t cs ht h => cg4 t cs (Nat.lt_of_lt_of_le ht hT3) (cg3 t cs ht (cg2 t cs h))) (fun c j hc z => (f4 c j (Nat.lt_of_lt_of_le hc G3.1) (wex_2 hq3 hc z)).trans ((f3 c j hc (wex_1 z).1).trans (f2 c j (wex_1 z).2))) (fun c j hc z => (fl4 c j (Nat.lt_of_lt_of_le hc G3.1) z).trans (fl3 c j hc))
end CEX
