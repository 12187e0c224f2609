/-! ===== the class's play ===== -/
section CPL
variable {d : Nat} {Q : Option Value ⊕ Nat → am_Mem → Prop} {X : Int → List Int → Prop} {W : Int → Nat} {s q e N0 : Nat} {rs : List Rul} {μ : am_Mem} {m l : PM} {st : Option (List (List Cd))} {L : List (List Cd)}
theorem wrp_s {q n c : Nat} {j : Int} (hq : q = 85 ∨ 185 ≤ q) (hn : 186 ≤ n) (z : c = 94 ∨ (96 ≤ c ∧ c ≤ 99) ∨ (c = 16 ∧ (j = 12 ∨ j = 14)) ∨ (c = 70 ∧ j = 15)) : c < n ∧ ¬ (WRn q c j ∨ c = q + 7 ∨ (c = 84 ∧ j = 9) ∨ c = 100) := by omega
theorem kl_play {x : Int} (hS : ShX s μ q e) (hs : s = 22 ∨ s = 42) (hgo : GoS rs) (hI : ClI X W s rs q m N0 st) (hx : iR x)
    (h1 : st = none → Q (.inr 1) (sA (am_nX μ) m l))
    (h2 : ∀ (L : List (List Cd)) (μ' : am_Mem) (m' l' : PM) (q' : Nat), st = some L → (((rlS rs).length = 0 ∨ x < 0) ∨ (Evb rs (baA 0 L (rlS rs) []) ∧ (jmN (rlS rs).length (mvO rs (rlS rs) L) : Int) ≤ x)) → Gx μ q e μ' q' e → ShX s μ' q' e → ClI X W s rs q' m' N0 (some L) → (∀ c j, c < am_n μ → ¬ WCs q c j → m' c j = m c j) → (∀ c j, c < am_n μ → ¬ (c = 70 ∧ j = 16) → l' c j = l c j) → Q (.inr 2) (sA (am_nX μ') m' l'))
    (h3 : ∀ (L : List (List Cd)) (μ' : am_Mem) (m' l' : PM) (q' : Nat), st = some L → ¬ (rlS rs).length = 0 → 0 ≤ x → (¬ Evb rs (baA 0 L (rlS rs) []) ∨ (Evb rs (baA 0 L (rlS rs) []) ∧ x < (jmN (rlS rs).length (mvO rs (rlS rs) L) : Int) ∧ ¬ okN rs (rlS rs) L (chO rs (rlS rs) L x.toNat))) → Gx μ q e μ' q' e → ShX s μ' q' e → ClI X W s rs q' m' N0 (some L) → (∀ c j, c < am_n μ → ¬ WCs q c j → m' c j = m c j) → (∀ c j, c < am_n μ → ¬ (c = 70 ∧ j = 16) → l' c j = l c j) → Q (.inr 3) (sA (am_nX μ') m' l'))
    (hok : ∀ (L : List (List Cd)) (μ' : am_Mem) (m' l' : PM) (q' : Nat), st = some L → ¬ (rlS rs).length = 0 → 0 ≤ x → Evb rs (baA 0 L (rlS rs) []) → x < (jmN (rlS rs).length (mvO rs (rlS rs) L) : Int) → okN rs (rlS rs) L (chO rs (rlS rs) L x.toNat) → Gx μ q e μ' q' e → ShX s μ' q' e → ClI X W s rs q' m' N0 (some (nsO rs (rlS rs) L (chO rs (rlS rs) L x.toNat))) → (∀ c j, c < am_n μ → ¬ WCs q c j → m' c j = m c j) → (∀ c j, c < am_n μ → ¬ (c = 70 ∧ j = 16) → l' c j = l c j) → Q (.inl (some (.int (zI ((nsO rs (rlS rs) L (chO rs (rlS rs) L x.toNat)).length : Int))))) (sA μ' m' l')) :
    Wp (d + 16) 133 (0, [some (.ref 16), some (.int (zI x))], [], sA μ m l) Q := by
  obtain ⟨⟨s1, s2, s3, s4, s5, s6⟩, ⟨x1, x2⟩, _, _, x7⟩ := id hS
  obtain ⟨e12n, e12s, e4⟩ := ClI_12 hI
  have hn4 := (rlS_ok rs).2
  refine K133_0 s1 s2 (TQ_q s3) hs s5 ⟨fun μ' => Wp (d + 16) 133 (4, [some (.ref 16), some (.int (zI x))], [], μ') Q, fun x μ' => Q (.inr x) μ', k_needSt s1 (ClI_60 hI) (fun y => ?_) (fun y => ?_), fun _ h => h, fun _ _ h => h⟩
  · cases st with
    | none => exact h1 rfl
    | some L =>
      have := e12s L rfl
      omega
  · cases st with
    | none => exact absurd (e12n rfl) y
    | some L =>
      show Wp (d + 16) 133 (4, [some (.ref 16), some (.int (zI x))], [], sA μ m l) Q
      refine K133_4 s1 s2 (TQ_q s3) hs s5 ⟨hx, fun z => h2 L μ m l q rfl (Or.inl (Or.inr z)) Gx_r hS hI (fun _ _ _ _ => rfl) (fun _ _ _ _ => rfl), fun z => ⟨by rw [e4]; exact ⟨by omega, by omega⟩, fun z2 => ?_, fun z2 => h2 L μ m l q rfl (Or.inl (Or.inl ?_)) Gx_r hS hI (fun _ _ _ _ => rfl) (fun _ _ _ _ => rfl)⟩⟩
      · have h0 : ¬ (rlS rs).length = 0 := fun w => z2 (by rw [e4, w]; rfl)
        refine ⟨fun μ' => Wp (d + 16) 133 (32, [some (.ref 16), some (.int (zI x))], [], μ') Q, fun x μ' => Q (.inr x) μ', ?_, fun _ h => h, fun _ _ h => h⟩
        refine kl_look (d := d) (Q := pV _ _) hS hs hgo hI (fun μ1 m1 l1 q1 hE G1 S1 hK f1 fl1 => ?_) (fun μ1 m1 l1 q1 hE G1 S1 hI1 f1 fl1 => h3 L μ1 m1 l1 q1 rfl h0 (by omega) (Or.inl hE) G1 S1 hI1 f1 fl1)
        show Wp (d + 16) 133 (32, [some (.ref 16), some (.int (zI x))], [], sA μ1 m1 l1) Q
        have hKI := ClK_I hK
        obtain ⟨T, lev, F, G, Fn, S0, Tf, K, k1, k2, k3, k4, k5, k6, k7, k8, k9, k10, k11⟩ := hK
        have hx1 : -2147483648 ≤ x ∧ x ≤ 2147483647 := hx
        obtain ⟨j, rfl⟩ : ∃ j : Nat, x = (j : Int) := ⟨x.toNat, by omega⟩
        have hq1 : q1 = q ∨ (q = 85 ∧ am_n μ ≤ q1) := G1.2.2.2.1
        have hn1 := G1.1
        have h60 := k8.2.1
        refine kl_play32 (d := d) (b := 12000) S1 hs hgo k1 k3 k5 k6 k2 k4 (by omega) (Nat.le_refl _) k8 k7 k11 (by omega) h0 (fun hge => ?_) (fun μ2 m2 l2 q2 T2 Fn2 hlt ok G2 S2 hB2 hx2 hT2 e152 e122 e142 hst2 cg2 f2 fl2 => ?_) (fun μ2 m2 l2 q2 T2 Fn2 hlt ok G2 S2 hB2 hx2 hT2 cg2 f2 fl2 => ?_)
        · exact h2 L μ1 m1 l1 q1 rfl (Or.inr ⟨hE, by omega⟩) G1 S1 hKI f1 fl1
        · exact hok L μ2 m2 l2 q2 rfl h0 (by omega) hE (by omega) ok (Gx_t hS G1 G2) S2 ⟨T2, hB2, Or.inr (Or.inl ⟨lev, F, G, Fn2, S0, Tf, T2, hx2, k3, hx2.2.2.2.2.2.1.1, Nat.le_refl _, e152, e122, hst2, Or.inl ⟨e142, hT2⟩⟩)⟩ (fun c i hc z => (f2 c i (Nat.lt_of_lt_of_le hc hn1) (wcs_1 (n := 0) (wcs_2 hq1 hc z)).2.1).trans (f1 c i hc z)) (fun c i hc z => (fl2 c i (Nat.lt_of_lt_of_le hc hn1) z).trans (fl1 c i hc z))
        · have hr := fun c i z => f2 c i (wrp_s (n := am_n μ1) S1.1.2.2.1 S1.2.2.2.2 z).1 (wrp_s (n := am_n μ1) S1.1.2.2.1 S1.2.2.2.2 z).2
          exact h3 L μ2 m2 l2 q2 rfl h0 (by omega) (Or.inr ⟨hE, by omega, ok⟩) (Gx_t hS G1 G2) S2 ⟨T2, hB2, Or.inr (Or.inl ⟨lev, F, G, Fn2, S0, Tf, K, hx2, k3, k4, hT2, (hr 70 15 (by omega)).trans k6, CsB_st (Nat.le_trans k3 k4) (fun c i z => hr c i (by omega)) cg2 (st := some L) ⟨k7, k8, Or.inr (Or.inl ⟨k9, k10, k11⟩)⟩⟩)⟩ (fun c i hc z => (f2 c i (Nat.lt_of_lt_of_le hc hn1) (wcs_1 (n := 0) (wcs_2 hq1 hc z)).2.2.2.2.2).trans (f1 c i hc z)) (fun c i hc z => (fl2 c i (Nat.lt_of_lt_of_le hc hn1) z).trans (fl1 c i hc z))
      · have := Classical.byContradiction z2
        omega
end CPL
