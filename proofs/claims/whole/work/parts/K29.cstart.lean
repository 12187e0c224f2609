/-! ===== the class between calls; start ===== -/
/-- the state, and what stands behind K -/
def CsB (X : Int → List Int → Prop) (rs : List Rul) (q : Nat) (m : PM) (N0 Tf K : Nat) : Option (List (List Cd)) → Prop
  | none => m 16 12 = -1 ∧ K ≤ Tf + 11660
  | some L => m 16 12 = (L.length : Int) ∧ StC X q m N0 K L ∧ ((m 16 14 = 0 ∧ K ≤ Tf + 11 * L.length) ∨ (m 16 14 = 1 ∧ K ≤ Tf + 11 * L.length + 11000 ∧ SnI X rs q m 96 N0 K L) ∨ (m 16 14 = 2 ∧ K ≤ Tf + 11 * L.length ∧ ¬ Evb rs (baA 0 L (rlS rs) [])))
/-- the class with a sheet, between calls -/
def ClI (X : Int → List Int → Prop) (W : Int → Nat) (s : Nat) (rs : List Rul) (q : Nat) (m : PM) (N0 : Nat) (st : Option (List (List Cd))) : Prop := ∃ T, ClB X W s rs q m T N0 ∧ ((m 70 12 = 0 ∧ T = N0 ∧ m 70 15 = (N0 : Int) ∧ FtI W m 0 ∧ ClS s rs m ∧ st = none ∧ m 16 12 = -1) ∨ (∃ lev F G Fn S0 Tf K, FxC X W s rs lev F G N0 m q T Fn S0 Tf ∧ N0 ≤ Tf ∧ Tf ≤ K ∧ K ≤ T ∧ m 70 15 = (K : Int) ∧ CsB X rs q m N0 Tf K st) ∨ (m 70 12 = 2 ∧ N0 ≤ T ∧ (∀ B, BsP B → ¬ Evb rs B) ∧ (∃ Fn, FtI W m Fn) ∧ st = none ∧ m 16 12 = -1))
/-- what the calls about the state may write -/
abbrev WCs (q c : Nat) (j : Int) : Prop := (c = 16 ∧ (j = 12 ∨ j = 14)) ∨ (70 ≤ c ∧ c ≤ 105) ∨ (q ≤ c ∧ c ≤ q + 7)
theorem BsP_0 (L ch : List (List Cd)) (x : Int) (st : List (List Cd)) : BsP (baA x st L ch) := fun a ha => by
  unfold baA at ha
  rcases List.mem_append.mp ha with h | h
  · obtain ⟨t, _, e⟩ := bS_m h
    rw [e]
    exact Or.inl rfl
  · by_cases y : x = 0
    · rw [if_pos y] at h
      exact absurd h List.not_mem_nil
    · rw [if_neg y] at h
      obtain ⟨r, _, e⟩ := bM_m h
      rw [e]
      exact Or.inr rfl
section CBW
variable {d : Nat} {Q : Option Value ⊕ Nat → am_Mem → Prop} {X : Int → List Int → Prop} {W : Int → Nat} {s q q' e T N0 K Tf : Nat} {rs : List Rul} {μ : am_Mem} {m m' l : PM} {st : Option (List (List Cd))}
theorem CsB_b (h : CsB X rs q m N0 Tf K st) : K ≤ Tf + 11660 := by
  cases st with
  | none => exact h.2
  | some L =>
    obtain ⟨_, ⟨_, h60, _⟩, h | h | h⟩ := h
    · omega
    · omega
    · omega
theorem CsB_st (hN : N0 ≤ K) (k0 : ∀ c j, c = 94 ∨ (96 ≤ c ∧ c ≤ 99) ∨ (c = 16 ∧ (j = 12 ∨ j = 14)) → m' c j = m c j) (cg : ∀ t cs, t < K → Cg X q m t cs → Cg X q' m' t cs) (h : CsB X rs q m N0 Tf K st) : CsB X rs q' m' N0 Tf K st := by
  cases st with
  | none => exact ⟨(k0 _ _ (by omega)).trans h.1, h.2⟩
  | some L =>
    obtain ⟨h1, h2, h3⟩ := h
    refine ⟨(k0 _ _ (by omega)).trans h1, StC_st hN (fun j _ _ => k0 _ _ (by omega)) cg h2, ?_⟩
    rcases h3 with ⟨a, b⟩ | ⟨a, b, c⟩ | ⟨a, b, c⟩
    · exact Or.inl ⟨(k0 _ _ (by omega)).trans a, b⟩
    · exact Or.inr (Or.inl ⟨(k0 _ _ (by omega)).trans a, b, SnI_st hN (fun c j z => k0 c j (by omega)) cg c⟩)
    · exact Or.inr (Or.inr ⟨(k0 _ _ (by omega)).trans a, b, c⟩)
theorem wcs_1 {q n c : Nat} {j : Int} (z : ¬ WCs q c j) : ¬ WSt q c j ∧ ¬ WPy q c j ∧ ¬ WLo q c j ∧ ¬ WFz q c j ∧ ¬ (WRn q c j ∨ c = q + 7 ∨ (c = 84 ∧ j = 9)) ∧ ¬ (WRn q c j ∨ c = q + 7 ∨ (c = 84 ∧ j = 9) ∨ c = 100) := by omega
theorem wcs_2 {q q3 n c : Nat} {j : Int} (h : q3 = q ∨ (q = 85 ∧ n ≤ q3)) (hc : c < n) (z : ¬ WCs q c j) : ¬ WCs q3 c j := by omega
theorem wrk_s {q n c : Nat} {j : Int} (hq : q = 85 ∨ 185 ≤ q) (hn : 186 ≤ n) (z : c = 94 ∨ (96 ≤ c ∧ c ≤ 99) ∨ (c = 16 ∧ (j = 12 ∨ j = 14)) ∨ (c = 70 ∧ j = 15)) : c < n ∧ ¬ (WRn q c j ∨ c = q + 7 ∨ (c = 84 ∧ j = 9)) := by omega
theorem kl_start (hS : ShX s μ q e) (hs : s = 22 ∨ s = 42) (hgo : GoS rs) (hI : ClI X W s rs q m N0 st) (h6 : m 16 6 = 1)
    (hok : ∀ (μ' : am_Mem) (m' l' : PM) (q' : Nat), ok0 rs (rlS rs) → Gx μ q e μ' q' e → ShX s μ' q' e → ClI X W s rs q' m' N0 (some (s0O rs (rlS rs))) → (∀ c j, c < am_n μ → ¬ WCs q c j → m' c j = m c j) → (∀ c j, c < am_n μ → ¬ (c = 70 ∧ j = 16) → l' c j = l c j) → Q (.inl (some (.int (zI ((s0O rs (rlS rs)).length : Int))))) (sA μ' m' l'))
    (hthr : ∀ (μ' : am_Mem) (m' l' : PM) (q' : Nat), ¬ ok0 rs (rlS rs) → Gx μ q e μ' q' e → ShX s μ' q' e → ClI X W s rs q' m' N0 st → (∀ c j, c < am_n μ → ¬ WCs q c j → m' c j = m c j) → (∀ c j, c < am_n μ → ¬ (c = 70 ∧ j = 16) → l' c j = l c j) → Q (.inr 3) (sA (am_nX μ') m' l')) :
    Wp (d + 16) 125 (0, [some (.ref 16)], [], sA μ m l) Q := by
  obtain ⟨⟨s1, s2, s3, s4, s5, s6⟩, ⟨x1, x2⟩, _, _, x7⟩ := id hS
  refine K125_0 s1 s2 (TQ_q s3) hs s5 x1 x2 (hE_of hS) ⟨fun μ' => Wp (d + 16) 125 (4, [some (.ref 16)], [], μ') Q, noX, K124_0 s1 ⟨by rw [h6]; exact iR_1, fun _ => ?_, fun z => absurd (fun y => absurd (h6.symm.trans y) (by decide)) z⟩, fun _ h => h, fun _ _ z => z.elim⟩
  show Wp (d + 16) 125 (4, [some (.ref 16)], [], sA μ m l) Q
  refine K125_4 s1 s2 (TQ_q s3) hs s5 x1 x2 (hE_of hS) ⟨fun μ' => Wp (d + 16) 125 (11, [some (.ref 16)], [], μ') Q, fun x μ' => Q (.inr x) μ', ?_, fun _ h => h, fun _ _ h => h⟩
  obtain ⟨T, hB, hA | hF | hC⟩ := hI
  · -- nothing is fixed yet
    obtain ⟨e12, eT, e15, hF0, hCl, est, e1612⟩ := hA
    rw [eT] at hB
    refine kl_fix0 (d := d + 1) (Q := pV _ _) hS hs hgo hB e12 hF0 hCl (fun μ1 m1 l1 q1 T1 Fn lev F G S0 G1 S1 hB1 hx1 hT1 e15' cg1 f1 fl1 => ?_) (fun μ1 m1 l1 q1 T1 Fn hno G1 S1 hB1 hNT1 hF1 h12 f1 fl1 => ?_)
    · show Wp (d + 16) 125 (11, [some (.ref 16)], [], sA μ1 m1 l1) Q
      have hq1 : q1 = q ∨ (q = 85 ∧ am_n μ ≤ q1) := G1.2.2.2.1
      have e16 : m1 16 12 = -1 := (f1 16 12 (by omega) (by omega)).trans e1612
      refine kl_start11 (d := d) (b := 0) S1 hs hgo hB1 hT1 (Nat.le_refl _) e15' hx1 (Nat.le_refl _) (Nat.le_refl _) (by decide) (fun μ2 m2 l2 q2 T2 Fn2 ok G2 S2 hB2 hx2 hT2 e152 e122 e142 hst2 cg2 f2 fl2 => ?_) (fun μ2 m2 l2 q2 T2 Fn2 ok G2 S2 hB2 hx2 hT2 cg2 f2 fl2 => ?_)
      · exact hok μ2 m2 l2 q2 ok (Gx_t hS G1 G2) S2 ⟨T2, hB2, Or.inr (Or.inl ⟨lev, F, G, Fn2, S0, T1, T2, hx2, hT1, hx2.2.2.2.2.2.1.1, Nat.le_refl _, e152, e122, hst2, Or.inl ⟨e142, hT2⟩⟩)⟩ (fun c j hc z => (f2 c j (Nat.lt_of_lt_of_le hc G1.1) (wcs_1 (n := 0) (wcs_2 hq1 hc z)).1).trans (f1 c j hc (wcs_1 (n := 0) z).2.2.2.1)) (fun c j hc z => (fl2 c j (Nat.lt_of_lt_of_le hc G1.1) z).trans (fl1 c j hc))
      · have hr := fun c j z => f2 c j (wrk_s (n := am_n μ1) S1.1.2.2.1 S1.2.2.2.2 z).1 (wrk_s (n := am_n μ1) S1.1.2.2.1 S1.2.2.2.2 z).2
        exact hthr μ2 m2 l2 q2 ok (Gx_t hS G1 G2) S2 ⟨T2, hB2, Or.inr (Or.inl ⟨lev, F, G, Fn2, S0, T1, T1, hx2, hT1, Nat.le_refl _, hT2, (hr 70 15 (by omega)).trans e15', by rw [est]; exact ⟨(hr 16 12 (by omega)).trans e16, by omega⟩⟩)⟩ (fun c j hc z => (f2 c j (Nat.lt_of_lt_of_le hc G1.1) (wcs_1 (n := 0) (wcs_2 hq1 hc z)).2.2.2.2.1).trans (f1 c j hc (wcs_1 (n := 0) z).2.2.2.1)) (fun c j hc z => (fl2 c j (Nat.lt_of_lt_of_le hc G1.1) z).trans (fl1 c j hc))
    · show Q (.inr 3) (sA (am_nX μ1) m1 l1)
      have e16 : m1 16 12 = -1 := (f1 16 12 (by omega) (by omega)).trans e1612
      exact hthr μ1 m1 l1 q1 (fun h => hno _ (BsP_0 _ _ _ _) h.1) G1 S1 ⟨T1, hB1, Or.inr (Or.inr ⟨h12, hNT1, hno, ⟨Fn, hF1⟩, est, e16⟩)⟩ (fun c j hc z => f1 c j hc (wcs_1 (n := 0) z).2.2.2.1) (fun c j hc _ => fl1 c j hc)
  · -- the facts are fixed
    obtain ⟨lev, F, G, Fn, S0, Tf, K, hx, hNf, hTf, hK, e15, hst⟩ := hF
    have e12 : m 70 12 = 1 := hx.2.2.2.2.2.2.2.2.2.1
    refine k_fix1 (d := d + 1) (Q := pV _ _) hs hS.1 (Or.inl e12) (fun _ => ?_) (fun z => absurd (e12.symm.trans z) (by decide))
    show Wp (d + 16) 125 (11, [some (.ref 16)], [], sA μ m l) Q
    refine kl_start11 (d := d) (b := 11660) hS hs hgo hB hNf hK e15 hx hTf (CsB_b hst) (by decide) (fun μ2 m2 l2 q2 T2 Fn2 ok G2 S2 hB2 hx2 hT2 e152 e122 e142 hst2 cg2 f2 fl2 => ?_) (fun μ2 m2 l2 q2 T2 Fn2 ok G2 S2 hB2 hx2 hT2 cg2 f2 fl2 => ?_)
    · exact hok μ2 m2 l2 q2 ok G2 S2 ⟨T2, hB2, Or.inr (Or.inl ⟨lev, F, G, Fn2, S0, Tf, T2, hx2, hNf, hx2.2.2.2.2.2.1.1, Nat.le_refl _, e152, e122, hst2, Or.inl ⟨e142, hT2⟩⟩)⟩ (fun c j hc z => f2 c j hc (wcs_1 (n := 0) z).1) fl2
    · have hr := fun c j z => f2 c j (wrk_s (n := am_n μ) s3 x7 z).1 (wrk_s (n := am_n μ) s3 x7 z).2
      exact hthr μ2 m2 l2 q2 ok G2 S2 ⟨T2, hB2, Or.inr (Or.inl ⟨lev, F, G, Fn2, S0, Tf, K, hx2, hNf, hTf, hT2, (hr 70 15 (by omega)).trans e15, CsB_st (Nat.le_trans hNf hTf) (fun c j z => hr c j (by omega)) cg2 hst⟩)⟩ (fun c j hc z => f2 c j hc (wcs_1 (n := 0) z).2.2.2.2.1) fl2
  · -- it is too great for ever
    obtain ⟨e12, hNT, hno, hF1, est, e1612⟩ := hC
    refine k_fix1 (d := d + 1) (Q := pV _ _) hs hS.1 (Or.inr e12) (fun z => absurd (e12.symm.trans z) (by decide)) (fun _ => ?_)
    show Q (.inr 3) (sA (am_nX μ) m l)
    exact hthr μ m l q (fun h => hno _ (BsP_0 _ _ _ _) h.1) Gx_r hS ⟨T, hB, Or.inr (Or.inr ⟨e12, hNT, hno, hF1, est, e1612⟩)⟩ (fun _ _ _ _ => rfl) (fun _ _ _ _ => rfl)
end CBW
