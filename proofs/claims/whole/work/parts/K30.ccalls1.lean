/-! ===== the class's calls: look, moves, terminal, goal ===== -/
section CCA
variable {d : Nat} {Q : Option Value ⊕ Nat → am_Mem → Prop} {X : Int → List Int → Prop} {W : Int → Nat} {s q e N0 : Nat} {rs : List Rul} {μ : am_Mem} {m l : PM} {st : Option (List (List Cd))} {L : List (List Cd)}
theorem ClI_12 (h : ClI X W s rs q m N0 st) : (st = none → m 16 12 = -1) ∧ (∀ L, st = some L → m 16 12 = (L.length : Int)) ∧ m 70 4 = ((rlS rs).length : Int) := by
  obtain ⟨T, hB, h⟩ := h
  have h4 := hB.2.2.2.2.1.1
  rcases h with ⟨_, _, _, _, _, e, h⟩ | ⟨_, _, _, _, _, _, _, _, _, _, _, _, h⟩ | ⟨_, _, _, _, e, h⟩
  · exact ⟨fun _ => h, fun L y => absurd (e.symm.trans y) (by simp), h4⟩
  · cases st with
    | none => exact ⟨fun _ => h.1, fun L y => (nomatch y), h4⟩
    | some L0 => exact ⟨fun y => (nomatch y), fun L y => by rw [← Option.some.inj y]; exact h.1, h4⟩
  · exact ⟨fun _ => h, fun L y => absurd (e.symm.trans y) (by simp), h4⟩
/-- the class when its state is known -/
def ClK (X : Int → List Int → Prop) (W : Int → Nat) (s : Nat) (rs : List Rul) (q : Nat) (m : PM) (N0 : Nat) (L : List (List Cd)) : Prop := ∃ T lev F G Fn S0 Tf K, ClB X W s rs q m T N0 ∧ FxC X W s rs lev F G N0 m q T Fn S0 Tf ∧ N0 ≤ Tf ∧ Tf ≤ K ∧ K ≤ T ∧ m 70 15 = (K : Int) ∧ m 16 12 = (L.length : Int) ∧ StC X q m N0 K L ∧ m 16 14 = 1 ∧ K ≤ Tf + 11 * L.length + 11000 ∧ SnI X rs q m 96 N0 K L
theorem ClK_I (h : ClK X W s rs q m N0 L) : ClI X W s rs q m N0 (some L) := by
  obtain ⟨T, lev, F, G, Fn, S0, Tf, K, h1, h2, h3, h4, h5, h6, h7, h8, h9, h10, h11⟩ := h
  exact ⟨T, h1, Or.inr (Or.inl ⟨lev, F, G, Fn, S0, Tf, K, h2, h3, h4, h5, h6, h7, h8, Or.inr (Or.inl ⟨h9, h10, h11⟩)⟩)⟩
theorem kl_look (hS : ShX s μ q e) (hs : s = 22 ∨ s = 42) (hgo : GoS rs) (hI : ClI X W s rs q m N0 (some L))
    (hok : ∀ (μ' : am_Mem) (m' l' : PM) (q' : Nat), Evb rs (baA 0 L (rlS rs) []) → Gx μ q e μ' q' e → ShX s μ' q' e → ClK X W s rs q' m' N0 L → (∀ c j, c < am_n μ → ¬ WCs q c j → m' c j = m c j) → (∀ c j, c < am_n μ → ¬ (c = 70 ∧ j = 16) → l' c j = l c j) → Q (.inl none) (sA μ' m' l'))
    (hthr : ∀ (μ' : am_Mem) (m' l' : PM) (q' : Nat), ¬ Evb rs (baA 0 L (rlS rs) []) → Gx μ q e μ' q' e → ShX s μ' q' e → ClI X W s rs q' m' N0 (some L) → (∀ c j, c < am_n μ → ¬ WCs q c j → m' c j = m c j) → (∀ c j, c < am_n μ → ¬ (c = 70 ∧ j = 16) → l' c j = l c j) → Q (.inr 3) (sA (am_nX μ') m' l')) :
    Wp (d + 15) 130 (0, [some (.ref 16)], [], sA μ m l) Q := by
  obtain ⟨⟨s1, s2, s3, s4, s5, s6⟩, ⟨x1, x2⟩, _, _, x7⟩ := id hS
  have hI0 := hI
  obtain ⟨T, hB, ⟨_, _, _, _, _, y, _⟩ | hF | ⟨_, _, _, _, y, _⟩⟩ := hI
  · exact nomatch y
  · obtain ⟨lev, F, G, Fn, S0, Tf, K, hx, hNf, hTf, hK, e15, e12, hst, h3⟩ := hF
    rcases h3 with ⟨e14, hb⟩ | ⟨e14, hb, hsn⟩ | ⟨e14, hb, hno⟩
    · have h60 := hst.2.1
      refine kl_look0 (d := d) (b := 11 * L.length) hS hs hgo hB (Nat.le_trans hNf hTf) hK e15 hx hTf hb (by omega) hst e12 e14 (fun μ1 m1 l1 q1 T1 Fn1 G1 S1 hB1 hx1 hT1 hb1 e151 e141 sn1 cg1 f1 fl1 => ?_) (fun μ1 m1 l1 q1 T1 Fn1 hno G1 S1 hB1 hx1 hT1 e151 e141 cg1 f1 fl1 => ?_)
      · have r94 : ∀ j, m1 94 j = m 94 j := fun j => f1 94 j (by omega) (by omega)
        exact hok μ1 m1 l1 q1 sn1.1 G1 S1 ⟨T1, lev, F, G, Fn1, S0, Tf, T1, hB1, hx1, hNf, Nat.le_trans hTf hT1, Nat.le_refl _, e151, (f1 16 12 (by omega) (by omega)).trans e12, ⟨hst.1, hst.2.1, fun p hp => TmC_st (fun t cs ht => cg1 t cs (Nat.lt_of_lt_of_le ht (Nat.le_trans hNf hTf))) (hst.2.2.1 p hp), RwC_st hT1 (fun j _ _ => r94 j) cg1 hst.2.2.2⟩, e141, by omega, sn1⟩ (fun c j hc z => f1 c j hc (wcs_1 (n := 0) z).2.2.1) fl1
      · exact hthr μ1 m1 l1 q1 hno G1 S1 ⟨T1, hB1, Or.inr (Or.inl ⟨lev, F, G, Fn1, S0, Tf, K, hx1, hNf, hTf, hT1, e151, (f1 16 12 (by omega) (by omega)).trans e12, StC_st (Nat.le_trans hNf hTf) (fun j _ _ => f1 94 j (by omega) (by omega)) cg1 hst, Or.inr (Or.inr ⟨e141, hb, hno⟩)⟩)⟩ (fun c j hc z => f1 c j hc (wcs_1 (n := 0) z).2.2.1) fl1
    · refine K130_0 s1 s2 (TQ_q s3) hs s5 x1 x2 (hE_of hS) ⟨by rw [e14]; exact iR_1, fun _ => ⟨fun _ => ?_, fun z => absurd (fun y => absurd (e14.symm.trans y) (by decide)) z⟩, fun z => absurd (fun y => absurd (e14.symm.trans y) (by decide)) z⟩
      exact hok μ m l q hsn.1 Gx_r hS ⟨T, lev, F, G, Fn, S0, Tf, K, hB, hx, hNf, hTf, hK, e15, e12, hst, e14, hb, hsn⟩ (fun _ _ _ _ => rfl) (fun _ _ _ _ => rfl)
    · refine K130_0 s1 s2 (TQ_q s3) hs s5 x1 x2 (hE_of hS) ⟨by rw [e14]; exact ⟨by decide, by decide⟩, fun _ => ⟨fun z => absurd e14 z, fun _ => ?_⟩, fun z => absurd (fun y => absurd (e14.symm.trans y) (by decide)) z⟩
      exact hthr μ m l q hno Gx_r hS hI0 (fun _ _ _ _ => rfl) (fun _ _ _ _ => rfl)
  · exact nomatch y
theorem k_needSt (H : CS μ) (h : m 16 12 = -1 ∨ ∃ L : List (List Cd), m 16 12 = (L.length : Int) ∧ L.length ≤ 60) (h1 : m 16 12 = -1 → Q (.inr 1) (sA (am_nX μ) m l)) (hok : ¬ m 16 12 = -1 → Q (.inl none) (sA μ m l)) : Wp d 128 (0, [some (.ref 16)], [], sA μ m l) Q := by
  refine K128_0 H ⟨?_, fun z => hok z, fun z => h1 (Classical.byContradiction z)⟩
  rcases h with e | ⟨L, e, h60⟩
  · rw [e]; exact ⟨by decide, by decide⟩
  · rw [e]; exact ⟨by omega, by omega⟩
theorem ClI_60 (h : ClI X W s rs q m N0 st) : m 16 12 = -1 ∨ ∃ L : List (List Cd), m 16 12 = (L.length : Int) ∧ L.length ≤ 60 := by
  obtain ⟨T, hB, h⟩ := h
  rcases h with ⟨_, _, _, _, _, e, h⟩ | ⟨_, _, _, _, _, _, _, _, _, _, _, _, h⟩ | ⟨_, _, _, _, e, h⟩
  · exact Or.inl h
  · cases st with
    | none => exact Or.inl h.1
    | some L0 => exact Or.inr ⟨L0, h.1, h.2.1.2.1⟩
  · exact Or.inl h
theorem k_needRo {x : Int} (H : CS μ) (hx : iR x) (e4 : m 70 4 = ((rlS rs).length : Int)) (h2 : ¬ (0 ≤ x ∧ x < ((rlS rs).length : Int)) → Q (.inr 2) (sA (am_nX μ) m l)) (hok : (0 ≤ x ∧ x < ((rlS rs).length : Int)) → Q (.inl none) (sA μ m l)) : Wp d 129 (0, [some (.ref 16), some (.int (zI x))], [], sA μ m l) Q := by
  have hn4 := (rlS_ok rs).2
  refine K129_0 H ⟨hx, fun z => h2 (fun y => absurd y.1 (by omega)), fun z => ⟨by rw [e4]; exact ⟨by omega, by omega⟩, fun y => hok ?_, fun y => h2 (fun w => y ?_)⟩⟩
  · rw [e4] at y
    exact ⟨by omega, y⟩
  · rw [e4]
    exact w.2
theorem kl_moves {x : Int} (hS : ShX s μ q e) (hs : s = 22 ∨ s = 42) (hgo : GoS rs) (hI : ClI X W s rs q m N0 st) (hx : iR x)
    (h1 : st = none → Q (.inr 1) (sA (am_nX μ) m l))
    (h2 : ∀ L, st = some L → ¬ (0 ≤ x ∧ x < ((rlS rs).length : Int)) → Q (.inr 2) (sA (am_nX μ) m l))
    (hok : ∀ (L : List (List Cd)) (μ' : am_Mem) (m' l' : PM) (q' : Nat), st = some L → (0 ≤ x ∧ x < ((rlS rs).length : Int)) → Evb rs (baA 0 L (rlS rs) []) → Gx μ q e μ' q' e → ShX s μ' q' e → ClI X W s rs q' m' N0 (some L) → (∀ c j, c < am_n μ → ¬ WCs q c j → m' c j = m c j) → (∀ c j, c < am_n μ → ¬ (c = 70 ∧ j = 16) → l' c j = l c j) → Q (.inl (some (.int (zI ((mvO rs (rlS rs) L x.toNat).length : Int))))) (sA μ' m' l'))
    (hthr : ∀ (L : List (List Cd)) (μ' : am_Mem) (m' l' : PM) (q' : Nat), st = some L → (0 ≤ x ∧ x < ((rlS rs).length : Int)) → ¬ Evb rs (baA 0 L (rlS rs) []) → Gx μ q e μ' q' e → ShX s μ' q' e → ClI X W s rs q' m' N0 (some L) → (∀ c j, c < am_n μ → ¬ WCs q c j → m' c j = m c j) → (∀ c j, c < am_n μ → ¬ (c = 70 ∧ j = 16) → l' c j = l c j) → Q (.inr 3) (sA (am_nX μ') m' l')) :
    Wp (d + 16) 127 (0, [some (.ref 16), some (.int (zI x))], [], sA μ m l) Q := by
  obtain ⟨⟨s1, s2, s3, s4, s5, s6⟩, ⟨x1, x2⟩, _, _, x7⟩ := id hS
  obtain ⟨e12n, e12s, e4⟩ := ClI_12 hI
  refine K127_0 s1 s2 (TQ_q s3) hs s5 ⟨fun μ' => Wp (d + 16) 127 (4, [some (.ref 16), some (.int (zI x))], [], μ') Q, fun x μ' => Q (.inr x) μ', k_needSt s1 (ClI_60 hI) (fun y => ?_) (fun y => ?_), fun _ h => h, fun _ _ h => h⟩
  · cases st with
    | none => exact h1 rfl
    | some L =>
      have := e12s L rfl
      omega
  · cases st with
    | none => exact absurd (e12n rfl) y
    | some L =>
      show Wp (d + 16) 127 (4, [some (.ref 16), some (.int (zI x))], [], sA μ m l) Q
      refine K127_4 s1 s2 (TQ_q s3) hs s5 ⟨fun μ' => Wp (d + 16) 127 (9, [some (.ref 16), some (.int (zI x))], [], μ') Q, fun x μ' => Q (.inr x) μ', k_needRo s1 hx e4 (fun z => h2 L rfl z) (fun z => ?_), fun _ h => h, fun _ _ h => h⟩
      show Wp (d + 16) 127 (9, [some (.ref 16), some (.int (zI x))], [], sA μ m l) Q
      refine K127_9 s1 s2 (TQ_q s3) hs s5 ⟨fun μ' => Wp (d + 16) 127 (13, [some (.ref 16), some (.int (zI x))], [], μ') Q, fun x μ' => Q (.inr x) μ', ?_, fun _ h => h, fun _ _ h => h⟩
      refine kl_look (d := d) (Q := pV _ _) hS hs hgo hI (fun μ1 m1 l1 q1 hE G1 S1 hK f1 fl1 => ?_) (fun μ1 m1 l1 q1 hE G1 S1 hI1 f1 fl1 => hthr L μ1 m1 l1 q1 rfl z hE G1 S1 hI1 f1 fl1)
      show Wp (d + 16) 127 (13, [some (.ref 16), some (.int (zI x))], [], sA μ1 m1 l1) Q
      obtain ⟨⟨r1, r2, r3, r4, r5, r6⟩, ⟨y1, y2⟩, _, _, y7⟩ := id S1
      have hn4 := (rlS_ok rs).2
      refine K127_13 r1 r2 (TQ_q r3) hs r5 ⟨⟨by omega, by omega⟩, ⟨by omega, by omega⟩, fun v1 ev => ?_⟩
      have hsn : SnI X rs q1 m1 96 N0 _ L := hK.choose_spec.choose_spec.choose_spec.choose_spec.choose_spec.choose_spec.choose_spec.choose_spec.2.2.2.2.2.2.2.2.2.2
      obtain ⟨w1, w2, w3, w4⟩ := hsn.2.2.2.1
      obtain ⟨k, rfl⟩ : ∃ k : Nat, x = (k : Int) := ⟨x.toNat, by omega⟩
      have a0 : m1 98 (k : Int) = (pfs (mvO rs (rlS rs) L) k : Int) := w1 k (by omega)
      have a1 : m1 98 ((k : Int) + 1) = (pfs (mvO rs (rlS rs) L) (k + 1) : Int) := by
        have := w1 (k + 1) (by omega)
        rw [show ((k + 1 : Nat) : Int) = (k : Int) + 1 by omega] at this
        exact this
      have a2 : pfs (mvO rs (rlS rs) L) (k + 1) = pfs (mvO rs (rlS rs) L) k + (mvO rs (rlS rs) L k).length := rfl
      have ev' : v1 = ((mvO rs (rlS rs) L ((k : Int)).toNat).length : Int) := by
        rw [ev, a0, a1, Int.toNat_natCast]
        omega
      rw [ev']
      exact hok L μ1 m1 l1 q1 rfl z hE G1 S1 (ClK_I hK) f1 fl1
theorem kl_terminal (hS : ShX s μ q e) (hs : s = 22 ∨ s = 42) (hgo : GoS rs) (hI : ClI X W s rs q m N0 st)
    (h1 : st = none → Q (.inr 1) (sA (am_nX μ) m l))
    (hok : ∀ (L : List (List Cd)) (μ' : am_Mem) (m' l' : PM) (q' : Nat), st = some L → Evb rs (baA 0 L (rlS rs) []) → Gx μ q e μ' q' e → ShX s μ' q' e → ClI X W s rs q' m' N0 (some L) → (∀ c j, c < am_n μ → ¬ WCs q c j → m' c j = m c j) → (∀ c j, c < am_n μ → ¬ (c = 70 ∧ j = 16) → l' c j = l c j) → Q (.inl (some (.int (zI (bP (ovO rs (rlS rs) L)))))) (sA μ' m' l'))
    (hthr : ∀ (L : List (List Cd)) (μ' : am_Mem) (m' l' : PM) (q' : Nat), st = some L → ¬ Evb rs (baA 0 L (rlS rs) []) → Gx μ q e μ' q' e → ShX s μ' q' e → ClI X W s rs q' m' N0 (some L) → (∀ c j, c < am_n μ → ¬ WCs q c j → m' c j = m c j) → (∀ c j, c < am_n μ → ¬ (c = 70 ∧ j = 16) → l' c j = l c j) → Q (.inr 3) (sA (am_nX μ') m' l')) :
    Wp (d + 16) 131 (0, [some (.ref 16)], [], sA μ m l) Q := by
  obtain ⟨⟨s1, s2, s3, s4, s5, s6⟩, ⟨x1, x2⟩, _, _, x7⟩ := id hS
  obtain ⟨e12n, e12s, e4⟩ := ClI_12 hI
  refine K131_0 s1 s2 (TQ_q s3) hs s5 ⟨fun μ' => Wp (d + 16) 131 (4, [some (.ref 16)], [], μ') Q, fun x μ' => Q (.inr x) μ', k_needSt s1 (ClI_60 hI) (fun y => ?_) (fun y => ?_), fun _ h => h, fun _ _ h => h⟩
  · cases st with
    | none => exact h1 rfl
    | some L =>
      have := e12s L rfl
      omega
  · cases st with
    | none => exact absurd (e12n rfl) y
    | some L =>
      show Wp (d + 16) 131 (4, [some (.ref 16)], [], sA μ m l) Q
      refine K131_4 s1 s2 (TQ_q s3) hs s5 ⟨fun μ' => Wp (d + 16) 131 (8, [some (.ref 16)], [], μ') Q, fun x μ' => Q (.inr x) μ', ?_, fun _ h => h, fun _ _ h => h⟩
      refine kl_look (d := d) (Q := pV _ _) hS hs hgo hI (fun μ1 m1 l1 q1 hE G1 S1 hK f1 fl1 => ?_) (fun μ1 m1 l1 q1 hE G1 S1 hI1 f1 fl1 => hthr L μ1 m1 l1 q1 rfl hE G1 S1 hI1 f1 fl1)
      show Wp (d + 16) 131 (8, [some (.ref 16)], [], sA μ1 m1 l1) Q
      obtain ⟨⟨r1, r2, r3, r4, r5, r6⟩, ⟨y1, y2⟩, _, _, y7⟩ := id S1
      have hsn : SnI X rs q1 m1 96 N0 _ L := hK.choose_spec.choose_spec.choose_spec.choose_spec.choose_spec.choose_spec.choose_spec.choose_spec.2.2.2.2.2.2.2.2.2.2
      refine K131_8 r1 r2 (TQ_q r3) hs r5 ⟨by rw [hsn.2.2.1]; exact bP_b _, ?_⟩
      rw [hsn.2.2.1]
      exact hok L μ1 m1 l1 q1 rfl hE G1 S1 (ClK_I hK) f1 fl1
theorem kl_goal {x : Int} (hS : ShX s μ q e) (hs : s = 22 ∨ s = 42) (hgo : GoS rs) (hI : ClI X W s rs q m N0 st) (hx : iR x)
    (h1 : st = none → Q (.inr 1) (sA (am_nX μ) m l))
    (h2 : ∀ L, st = some L → ¬ (0 ≤ x ∧ x < ((rlS rs).length : Int)) → Q (.inr 2) (sA (am_nX μ) m l))
    (hok : ∀ (L : List (List Cd)) (μ' : am_Mem) (m' l' : PM) (q' : Nat), st = some L → (0 ≤ x ∧ x < ((rlS rs).length : Int)) → Evb rs (baA 0 L (rlS rs) []) → Gx μ q e μ' q' e → ShX s μ' q' e → ClI X W s rs q' m' N0 (some L) → (∀ c j, c < am_n μ → ¬ WCs q c j → m' c j = m c j) → (∀ c j, c < am_n μ → ¬ (c = 70 ∧ j = 16) → l' c j = l c j) → Q (.inl (some (.int (zI (glO rs (rlS rs) L x.toNat))))) (sA μ' m' l'))
    (hthr : ∀ (L : List (List Cd)) (μ' : am_Mem) (m' l' : PM) (q' : Nat), st = some L → (0 ≤ x ∧ x < ((rlS rs).length : Int)) → ¬ Evb rs (baA 0 L (rlS rs) []) → Gx μ q e μ' q' e → ShX s μ' q' e → ClI X W s rs q' m' N0 (some L) → (∀ c j, c < am_n μ → ¬ WCs q c j → m' c j = m c j) → (∀ c j, c < am_n μ → ¬ (c = 70 ∧ j = 16) → l' c j = l c j) → Q (.inr 3) (sA (am_nX μ') m' l')) :
    Wp (d + 16) 132 (0, [some (.ref 16), some (.int (zI x))], [], sA μ m l) Q := by
  obtain ⟨⟨s1, s2, s3, s4, s5, s6⟩, ⟨x1, x2⟩, _, _, x7⟩ := id hS
  obtain ⟨e12n, e12s, e4⟩ := ClI_12 hI
  refine K132_0 s1 s2 (TQ_q s3) hs s5 ⟨fun μ' => Wp (d + 16) 132 (4, [some (.ref 16), some (.int (zI x))], [], μ') Q, fun x μ' => Q (.inr x) μ', k_needSt s1 (ClI_60 hI) (fun y => ?_) (fun y => ?_), fun _ h => h, fun _ _ h => h⟩
  · cases st with
    | none => exact h1 rfl
    | some L =>
      have := e12s L rfl
      omega
  · cases st with
    | none => exact absurd (e12n rfl) y
    | some L =>
      show Wp (d + 16) 132 (4, [some (.ref 16), some (.int (zI x))], [], sA μ m l) Q
      refine K132_4 s1 s2 (TQ_q s3) hs s5 ⟨fun μ' => Wp (d + 16) 132 (9, [some (.ref 16), some (.int (zI x))], [], μ') Q, fun x μ' => Q (.inr x) μ', k_needRo s1 hx e4 (fun z => h2 L rfl z) (fun z => ?_), fun _ h => h, fun _ _ h => h⟩
      show Wp (d + 16) 132 (9, [some (.ref 16), some (.int (zI x))], [], sA μ m l) Q
      refine K132_9 s1 s2 (TQ_q s3) hs s5 ⟨fun μ' => Wp (d + 16) 132 (13, [some (.ref 16), some (.int (zI x))], [], μ') Q, fun x μ' => Q (.inr x) μ', ?_, fun _ h => h, fun _ _ h => h⟩
      refine kl_look (d := d) (Q := pV _ _) hS hs hgo hI (fun μ1 m1 l1 q1 hE G1 S1 hK f1 fl1 => ?_) (fun μ1 m1 l1 q1 hE G1 S1 hI1 f1 fl1 => hthr L μ1 m1 l1 q1 rfl z hE G1 S1 hI1 f1 fl1)
      show Wp (d + 16) 132 (13, [some (.ref 16), some (.int (zI x))], [], sA μ1 m1 l1) Q
      obtain ⟨⟨r1, r2, r3, r4, r5, r6⟩, ⟨y1, y2⟩, _, _, y7⟩ := id S1
      have hn4 := (rlS_ok rs).2
      have hsn : SnI X rs q1 m1 96 N0 _ L := hK.choose_spec.choose_spec.choose_spec.choose_spec.choose_spec.choose_spec.choose_spec.choose_spec.2.2.2.2.2.2.2.2.2.2
      obtain ⟨w1, w2, w3, w4⟩ := hsn.2.2.2.1
      have a0 : m1 99 x = glO rs (rlS rs) L x.toNat := by
        have := w4 x.toNat (by omega)
        rw [Int.toNat_of_nonneg z.1] at this
        exact this
      refine K132_13 r1 r2 (TQ_q r3) hs r5 ⟨⟨by omega, by omega⟩, ?_⟩
      rw [a0]
      exact hok L μ1 m1 l1 q1 rfl z hE G1 S1 (ClK_I hK) f1 fl1
end CCA
