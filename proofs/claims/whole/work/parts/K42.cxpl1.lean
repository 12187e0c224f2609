/-! ===== the class's explore: its loop ===== -/
theorem RoX_cg {rs : List Rul} {m m' : PM} {i : Nat} {st : List (List Cd)} {ns : List Nat} (k : ∀ c j, (114 ≤ c ∧ c ≤ 120 ∧ ¬ c = 116 ∧ j = (i : Int)) ∨ (c = 116 ∧ 40 * (i : Int) ≤ j ∧ j < 40 * (i : Int) + 40) → m' c j = m c j) (h : RoX rs m i st ns) : RoX rs m' i st ns := by
  obtain ⟨h1, ⟨h2, h3, h4⟩, h5, h6⟩ := h
  refine ⟨(k _ _ (by omega)).trans h1, ⟨(k _ _ (by omega)).trans h2, h3, h4⟩, fun j hj => (k _ _ (by omega)).trans (h5 j hj), fun y => ?_⟩
  obtain ⟨⟨a1, a2⟩, ⟨b1, b2⟩, ⟨c1, c2⟩, d1, d2⟩ := h6 y
  exact ⟨⟨(k _ _ (by omega)).trans a1, a2⟩, ⟨(k _ _ (by omega)).trans b1, b2⟩, ⟨(k _ _ (by omega)).trans c1, c2⟩, (k _ _ (by omega)).trans d1, d2⟩
/-- the class's table, out of its rows -/
theorem TbC_of {rs : List Rul} {m : PM} {sts : List (List (List Cd))} {nx : List (List Nat)} (e0 : m 106 0 = ((rlS rs).length : Int)) (e1 : m 106 1 = (sts.length : Int)) (h3 : sts.length ≤ 300) (h : ∀ i : Nat, i < sts.length → RoX rs m i (sts.getD i []) (nx.getD i []) ∧ ∀ y, y ∈ nx.getD i [] → y < sts.length) : TbC m (rlS rs).length sts.length (fun i => ovO rs (rlS rs) (sts.getD i [])) (fun i => glX rs (rlS rs) (sts.getD i [])) (fun i => mnX rs (rlS rs) (sts.getD i [])) nx := by
  refine ⟨⟨e0, e1, h3⟩, fun i hi => ?_⟩
  obtain ⟨⟨h1, ⟨h2, h3, h4⟩, h5, h6⟩, h7⟩ := h i hi
  exact ⟨h1, ⟨h2, h3⟩, h5, h7, h6⟩
/-- where the roles are not two, moves don't matter -/
theorem TbC_mn {m : PM} {k N : Nat} {ov : Nat → Prop} {g : Nat → Nat → Int} {mn mn' : Nat → Nat → Nat} {nx : List (List Nat)} (hk : ¬ k = 2) (h : TbC m k N ov g mn nx) : TbC m k N ov g mn' nx := by
  obtain ⟨h1, h2⟩ := h
  refine ⟨h1, fun i hi => ?_⟩
  obtain ⟨a1, a2, a3, a4, _⟩ := h2 i hi
  exact ⟨a1, a2, a3, a4, fun y => absurd y hk⟩
theorem xJd_o {rs : List Rul} {st : List (List Cd)} {ns : List Nat} {m : PM} {i : Nat} (h : RoX rs m i st ns) (ho : ovO rs (rlS rs) st) : ns = [] := by
  have e := h.2.1.2.2
  unfold jmO at e
  rw [if_pos ho] at e
  exact List.eq_nil_of_length_eq_zero e
theorem xJd_n {rs : List Rul} {st : List (List Cd)} {ns : List Nat} {m : PM} {i : Nat} (h2 : (rlS rs).length = 2) (h : RoX rs m i st ns) (ho : ¬ ovO rs (rlS rs) st) (m0 : ¬ mnX rs (rlS rs) st 0 = 0) (m1 : ¬ mnX rs (rlS rs) st 1 = 0) : ¬ ns = [] := fun z => by
  have e := h.2.1.2.2
  unfold jmO at e
  rw [if_neg ho, z] at e
  have em : ∀ r, r < 2 → mnX rs (rlS rs) st r = (mvO rs (rlS rs) st r).length := fun r hr => if_pos (by omega)
  rw [em 0 (by decide)] at m0
  rw [em 1 (by decide)] at m1
  have hp := (pfs_jm (mv := mvO rs (rlS rs) st) (n := (rlS rs).length) (fun r hr => by
    have hr2 : r = 0 ∨ r = 1 := by omega
    rcases hr2 with y | y
    · rw [y]; omega
    · rw [y]; omega)).1
  unfold jmN at e
  rw [if_neg (by omega)] at e
  have e' : (([] : List Nat)).length = 0 := rfl
  omega
/-- what exploring writes -/
abbrev WXa (q e c : Nat) (j : Int) : Prop := WRn q c j ∨ c = 111 ∨ c = 93 ∨ (101 ≤ c ∧ c ≤ 106) ∨ (c = 107 ∧ j = 3) ∨ (109 ≤ c ∧ c ≤ 124) ∨ c = 95 ∨ c = e
theorem wq_rn {q c : Nat} {j : Int} (y : q ≤ c ∧ c ≤ q + 7) : WRn q c j := Or.inl (Or.inl (Or.inr (Or.inr (Or.inr (Or.inl y)))))
theorem w84_rn {q c : Nat} {j : Int} (y : c = 84 ∧ j = 9) : WRn q c j := Or.inl (Or.inl (Or.inr (Or.inr (Or.inr (Or.inr y)))))
theorem wen_a {q e c : Nat} {j : Int} (y : WEn e c j) : WXa q e c j := by
  rcases y with y | (y | y | y | y) | y | y | y
  · exact Or.inr (Or.inr (Or.inr (Or.inr (Or.inr (Or.inr (Or.inl y))))))
  · exact Or.inr (Or.inr (Or.inr (Or.inr (Or.inr (Or.inl ⟨by omega, by omega⟩)))))
  · exact Or.inr (Or.inr (Or.inr (Or.inr (Or.inr (Or.inr (Or.inr y))))))
  · exact Or.inr (Or.inr (Or.inr (Or.inr (Or.inr (Or.inl ⟨by omega, by omega⟩)))))
  · exact Or.inr (Or.inr (Or.inr (Or.inr (Or.inr (Or.inl ⟨by omega, by omega⟩)))))
  · exact Or.inr (Or.inr (Or.inr (Or.inr (Or.inl y))))
  · exact Or.inr (Or.inr (Or.inr (Or.inr (Or.inr (Or.inl ⟨by omega, by omega⟩)))))
  · exact Or.inr (Or.inr (Or.inr (Or.inl ⟨by omega, by omega⟩)))
theorem wxe_a {q e n c : Nat} {j : Int} (y : WXe q e n c j) : WXa q e c j := by
  rcases y with ((y | y) | y | y) | y | y | y | y
  · exact Or.inl y
  · rcases y with y | y | y | y
    · exact Or.inr (Or.inl y)
    · exact Or.inr (Or.inr (Or.inl y))
    · exact Or.inl (wq_rn y)
    · exact Or.inl (w84_rn y)
  · exact Or.inr (Or.inr (Or.inr (Or.inl ⟨y.1, by omega⟩)))
  · exact Or.inr (Or.inr (Or.inr (Or.inr (Or.inr (Or.inl ⟨by omega, by omega⟩)))))
  · exact Or.inr (Or.inr (Or.inr (Or.inl ⟨by omega, by omega⟩)))
  · exact Or.inl y
  · exact wen_a y
  · exact Or.inr (Or.inr (Or.inr (Or.inr (Or.inr (Or.inl ⟨by omega, by omega⟩)))))
theorem wxa_g {q0 e0 q e N c : Nat} {j : Int} (hq : q = q0 ∨ (q0 = 85 ∧ N ≤ q)) (he : e = e0 ∨ (e0 = 108 ∧ N ≤ e)) (hc : c < N) (y : WXa q e c j) : WXa q0 e0 c j := by
  rcases y with y | y | y | y | y | y | y | y
  · exact Or.inl (wrn_q hq hc y)
  · exact Or.inr (Or.inl y)
  · exact Or.inr (Or.inr (Or.inl y))
  · exact Or.inr (Or.inr (Or.inr (Or.inl y)))
  · exact Or.inr (Or.inr (Or.inr (Or.inr (Or.inl y))))
  · exact Or.inr (Or.inr (Or.inr (Or.inr (Or.inr (Or.inl y)))))
  · exact Or.inr (Or.inr (Or.inr (Or.inr (Or.inr (Or.inr (Or.inl y))))))
  · exact Or.inr (Or.inr (Or.inr (Or.inr (Or.inr (Or.inr (Or.inr (by omega)))))))
theorem wxa_t {q0 e0 q e n N c : Nat} {j : Int} (hq : q = q0 ∨ (q0 = 85 ∧ N ≤ q)) (he : e = e0 ∨ (e0 = 108 ∧ N ≤ e)) (hc : c < N) (z : ¬ WXa q0 e0 c j) : ¬ WXe q e n c j := fun y => z (wxa_g hq he hc (wxe_a y))
theorem wxa_r {q e n i N c : Nat} {j : Int} (hq : q = 85 ∨ 185 ≤ q) (he : e = 108 ∨ 185 < e) (hN : 186 ≤ N) (hi : i < n) (z : (114 ≤ c ∧ c ≤ 120 ∧ ¬ c = 116 ∧ j = (i : Int)) ∨ (c = 116 ∧ 40 * (i : Int) ≤ j ∧ j < 40 * (i : Int) + 40)) : c < N ∧ ¬ WXe q e n c j := ⟨by omega, fun y => by rcases y with ((y | y) | y | y) | y | y | y | y <;> rcases z with z | z <;> omega⟩
theorem wxe_0 {q e n N c : Nat} {j : Int} (hq : q = 85 ∨ 185 ≤ q) (he : e = 108 ∨ 185 < e) (hN : 186 ≤ N) (z : (c = 106 ∧ j = 0) ∨ (c = 70 ∧ j = 15)) : c < N ∧ ¬ WXe q e n c j := ⟨by omega, fun y => by rcases y with ((y | y) | y | y) | y | y | y | y <;> rcases z with z | z <;> omega⟩
theorem wxa_j {q e c : Nat} {j : Int} (z : ¬ WXa q e c j) : ¬ ((121 ≤ c ∧ c ≤ 124) ∨ (c = 106 ∧ (j = 13 ∨ j = 14))) := fun y => by
  rcases y with y | y
  · exact z (Or.inr (Or.inr (Or.inr (Or.inr (Or.inr (Or.inl ⟨Nat.le_trans (by decide) y.1, y.2⟩))))))
  · exact z (Or.inr (Or.inr (Or.inr (Or.inl (by rw [y.1]; decide)))))
theorem njg_s {s q c : Nat} {j : Int} (hs : s = 22 ∨ s = 42) (hq : q = 85 ∨ 185 ≤ q) (z : (s ≤ c ∧ c ≤ s + 19) ∨ c = 80 ∨ c = 81 ∨ (c = 70 ∧ (j = 4 ∨ j = 15 ∨ (12 ≤ j ∧ j ≤ 14))) ∨ c = 98 ∨ c = 103 ∨ (72 ≤ c ∧ c ≤ 78) ∨ (c = 71 ∧ j = 7) ∨ (q ≤ c ∧ c ≤ q + 7) ∨ c = 84 ∨ (109 ≤ c ∧ c ≤ 120) ∨ (c = 106 ∧ (j = 0 ∨ j = 1))) : (¬ ((121 ≤ c ∧ c ≤ 124) ∨ (c = 106 ∧ (j = 13 ∨ j = 14)))) ∧ ¬ (c = 16 ∧ j = 17) := by
  have w : (22 ≤ c ∧ c ≤ 103) ∨ (109 ≤ c ∧ c ≤ 120) ∨ 185 ≤ c ∨ (c = 106 ∧ (j = 0 ∨ j = 1)) := by omega
  clear z
  exact ⟨by omega, by omega⟩
section CXL
variable {d : Nat} {Q : Option Value ⊕ Nat → am_Mem → Prop} {X : Int → List Int → Prop} {W : Int → Nat} {s q0 e0 N0 K : Nat} {rs : List Rul} {lev : List Int → Nat} {F G Tf : Nat} {S0 : List Atm} {μ0 : am_Mem} {m0 l0 : PM} {res : Option (List (List (List Cd)) × List (List Nat))}
theorem kl_xend {n : Nat} {μ : am_Mem} {m l : PM} {q e T Fn : Nat} {As sts : List (List (List Cd))} {nx : List (List Nat)} (hs : s = 22 ∨ s = 42) (hS : ShX s μ q e) (hB : ClB X W s rs q m T N0) (hTfT : Tf ≤ T) (hx : FxC X W s rs lev F G N0 m q T Fn S0 Tf) (hSt : StI X m e As) (e106 : m 106 1 = (sts.length : Int)) (ek : m 106 0 = ((rlS rs).length : Int)) (h3 : sts.length ≤ 300) (hsz : SzC m sts) (hR : ∀ i : Nat, i < sts.length → RoX rs m i (sts.getD i []) (nx.getD i []) ∧ ∀ y, y ∈ nx.getD i [] → y < sts.length)
    (hok : ∀ m' : PM, ClB X W s rs q m' T N0 → FxC X W s rs lev F G N0 m' q T Fn S0 Tf → m' 109 0 = 0 → (∀ i, 0 ≤ m' e i ∧ m' e i ≤ 32767) → XkC rs m' sts nx → (∀ t cs, Cg X q m t cs → Cg X q m' t cs) → (∀ c i, ¬ ((121 ≤ c ∧ c ≤ 124) ∨ (c = 106 ∧ (i = 13 ∨ i = 14))) → ¬ (c = 16 ∧ i = 17) → m' c i = m c i) → Q (.inl (some (.int (zI (sts.length : Int))))) (sA μ m' l)) :
    ∃ (P : am_Mem → Prop) (Y : Nat → am_Mem → Prop), Wp (d + 16) 76 (0, [some (.ref 106), none], [], sA μ m l) (pV P Y) ∧ (∀ μ', P μ' → Wp (d + 17) 135 (127, [some (.ref 16), some (.int (zI (n : Int)))], [], μ') Q) ∧ ∀ x μ', Y x μ' → Q (.inr x) μ' := by
  obtain ⟨⟨s1, s2, s3, s4, s5, s6⟩, ⟨x1, x2⟩, ⟨x3, x4, x5⟩, x6, x7⟩ := id hS
  refine ⟨fun μ' => Wp (d + 17) 135 (127, [some (.ref 16), some (.int (zI (n : Int)))], [], μ') Q, fun x μ' => Q (.inr x) μ', ?_, fun _ h => h, fun _ _ h => h⟩
  have hT := TbC_of ek e106 h3 hR
  have fin : ∀ m1 : PM, (∀ c j, ¬ ((121 ≤ c ∧ c ≤ 124) ∨ (c = 106 ∧ (j = 13 ∨ j = 14))) → m1 c j = m c j) → DfP (rlS rs).length sts.length (fun i => ovO rs (rlS rs) (sts.getD i [])) (fun i => glX rs (rlS rs) (sts.getD i [])) (fun i => mnX rs (rlS rs) (sts.getD i [])) nx (m1 106 13) (m1 106 14) → (m1 106 13 = 0 → VaP sts.length (fun i => ovO rs (rlS rs) (sts.getD i [])) (fun i => glX rs (rlS rs) (sts.getD i [])) (fun i => mnX rs (rlS rs) (sts.getD i [])) nx (fun b => m1 121 (b : Int)) ∧ ∀ i : Nat, i < sts.length → (0 ≤ m1 121 (i : Int) ∧ m1 121 (i : Int) ≤ 100) ∧ BsI (fun b => m1 121 (b : Int)) (m1 121 (i : Int)) (nx.getD i []) (m1 122 (i : Int))) → Wp (d + 17) 135 (127, [some (.ref 16), some (.int (zI (n : Int)))], [], sA μ m1 l) Q := by
    intro m1 f1 hD hV
    refine K135_127 s1 s2 (TQ_q s3) hs s5 x1 x2 (hE_of hS) (fun m2 e2 => ⟨fun _ => ?_, fun z => absurd (by decide) z⟩)
    have f2 : ∀ c i, ¬ (c = 16 ∧ i = 17) → m2 c i = m1 c i := fun c i z => by rw [e2, up_o z]
    have f2m : ∀ c i, ¬ ((121 ≤ c ∧ c ≤ 124) ∨ (c = 106 ∧ (i = 13 ∨ i = 14))) → ¬ (c = 16 ∧ i = 17) → m2 c i = m c i := fun c i z1 z2 => (f2 c i z2).trans (f1 c i z1)
    have g2 : ∀ c i, (s ≤ c ∧ c ≤ s + 19) ∨ c = 80 ∨ c = 81 ∨ (c = 70 ∧ (i = 4 ∨ i = 15 ∨ (12 ≤ i ∧ i ≤ 14))) ∨ c = 98 ∨ c = 103 ∨ (72 ≤ c ∧ c ≤ 78) ∨ (c = 71 ∧ i = 7) ∨ (q ≤ c ∧ c ≤ q + 7) ∨ c = 84 ∨ (109 ≤ c ∧ c ≤ 120) ∨ (c = 106 ∧ (i = 0 ∨ i = 1)) → m2 c i = m c i := fun c i z => f2m c i (njg_s hs s3 z).1 (njg_s hs s3 z).2
    have cg2 : ∀ t cs, Cg X q m t cs → Cg X q m2 t cs := fun t cs h => Cg_q (fun c i hc => g2 c i (by omega)) h
    have ct2 : CtT X q (tN q) (tS q) m2 T := CtT_f6 (fun c i z => g2 c i (by omega)) hB.2.2.1
    have eb : ∀ c i, c = 121 ∨ c = 122 ∨ (c = 106 ∧ (i = 13 ∨ i = 14)) → m2 c i = m1 c i := fun c i z => f2 c i (by omega)
    rw [show m1 106 1 = (sts.length : Int) from (f1 106 1 (by omega)).trans e106]
    refine hok m2 (ClB_st (fun c i z => g2 c i (by omega)) (fun t cs _ h => cg2 t cs h) ct2 hB) (FxC_o hS.1 hs hx (fun c i z => g2 c i (by omega)) (fun t cs _ h => cg2 t cs h) hTfT ct2) ((g2 109 0 (by omega)).trans hSt.2.2.1) (fun i => by rw [f2m e i (by omega) (by omega)]; exact hSt.2.2.2.1 i) ⟨by rw [e2, up_s], TbC_cg (fun c i z => g2 c i (by omega)) hT, fun i hi => (g2 113 _ (by omega)).trans (hsz i hi), by rw [eb 106 13 (by omega), eb 106 14 (by omega)]; exact hD, fun z => ?_⟩ cg2 f2m
    rw [eb 106 13 (by omega)] at z
    obtain ⟨v1, v2⟩ := hV z
    have ef : (fun b : Nat => m2 121 (b : Int)) = (fun b : Nat => m1 121 (b : Int)) := funext fun b => eb 121 _ (by omega)
    rw [ef]
    refine ⟨v1, fun i hi => ?_⟩
    rw [eb 121 _ (by omega), eb 122 _ (by omega)]
    exact v2 i hi
  have hk1000 : (rlS rs).length ≤ 1000 := by
    have := (rlS_ok rs).2
    omega
  by_cases hk : (rlS rs).length = 2
  · refine k_judge (d := d + 14) (Q := pV _ _) (ov := (fun i => ovO rs (rlS rs) (sts.getD i []))) (g := (fun i => glX rs (rlS rs) (sts.getD i []))) (mn := (fun i => mnX rs (rlS rs) (sts.getD i []))) (nx := nx) s1 hT (fun i hi ho => xJd_o (hR i hi).1 ho) (fun i hi ho a b => xJd_n hk (hR i hi).1 ho a b) hk1000 (fun m1 f1 hD hV => ?_)
    exact fin m1 f1 hD hV
  · refine k_judge (d := d + 14) (Q := pV _ _) (ov := (fun i => ovO rs (rlS rs) (sts.getD i []))) (g := (fun i => glX rs (rlS rs) (sts.getD i []))) (mn := fun _ _ => 0) (nx := nx) s1 (TbC_mn hk hT) (fun i hi ho => xJd_o (hR i hi).1 ho) (fun i hi ho a b => absurd rfl a) hk1000 (fun m1 f1 hD hV => ?_)
    have hD' : m1 106 13 = 1 ∧ m1 106 14 = -1 := by
      rcases hD with ⟨_, a, b⟩ | ⟨a, _⟩ | ⟨a, _⟩ | ⟨a, _⟩
      · exact ⟨a, b⟩
      · exact absurd a hk
      · exact absurd a hk
      · exact absurd a hk
    exact fin m1 f1 (Or.inl ⟨hk, hD'.1, hD'.2⟩) (fun z => absurd (hD'.1.symm.trans z) (by decide))
theorem kl_xloop (hS0 : ShX s μ0 q0 e0) (hs : s = 22 ∨ s = 42) (hgo : GoS rs) (hNf : N0 ≤ Tf) (hTf : Tf ≤ K) (hKb : K ≤ Tf + 11660)
    (hok : ∀ (μ' : am_Mem) (m' l' : PM) (q' e' T' : Nat) (sts : List (List (List Cd))) (nx : List (List Nat)) (Fn' : Nat), res = some (sts, nx) → Gx μ0 q0 e0 μ' q' e' → ShX s μ' q' e' → ClB X W s rs q' m' T' N0 → FxC X W s rs lev F G N0 m' q' T' Fn' S0 Tf → K ≤ T' → m' 109 0 = 0 → (∀ i, 0 ≤ m' e' i ∧ m' e' i ≤ 32767) → XkC rs m' sts nx → (∀ t cs, t < K → Cg X q0 m0 t cs → Cg X q' m' t cs) → (∀ c i, c < am_n μ0 → ¬ WXa q0 e0 c i → ¬ (c = 16 ∧ i = 17) → m' c i = m0 c i) → (∀ c i, c < am_n μ0 → ¬ WlX c i → l' c i = l0 c i) → Q (.inl (some (.int (zI (sts.length : Int))))) (sA μ' m' l'))
    (hthr : ∀ (μ' : am_Mem) (m' l' : PM) (q' e' T' Fn' : Nat), res = none → Gx μ0 q0 e0 μ' q' e' → ShX s μ' q' e' → ClB X W s rs q' m' T' N0 → FxC X W s rs lev F G N0 m' q' T' Fn' S0 Tf → K ≤ T' → m' 109 0 = 0 → (∀ i, 0 ≤ m' e' i ∧ m' e' i ≤ 32767) → (∀ t cs, t < K → Cg X q0 m0 t cs → Cg X q' m' t cs) → (∀ c i, c < am_n μ0 → ¬ WXa q0 e0 c i → m' c i = m0 c i) → (∀ c i, c < am_n μ0 → ¬ WlX c i → l' c i = l0 c i) → Q (.inr 3) (sA (am_nX μ') m' l')) :
    ∀ (f n : Nat) (μ : am_Mem) (m l : PM) (q e T : Nat) (As sts : List (List (List Cd))) (tot : Nat) (nx : List (List Nat)) (Fn : Nat), n + f = 300 → nx.length = n → n ≤ sts.length → Gx μ0 q0 e0 μ q e → ShX s μ q e → ClB X W s rs q m T N0 → FxC X W s rs lev F G N0 m q T Fn S0 Tf → K ≤ T → m 70 15 = (K : Int) → StI X m e As → CoA X As sts → m 106 1 = (As.length : Int) → m 106 0 = ((rlS rs).length : Int) → SzC m sts → TmA X q m N0 sts → (∀ i : Nat, i < n → RoX rs m i (sts.getD i []) (nx.getD i []) ∧ ∀ y, y ∈ nx.getD i [] → y < sts.length) → l 16 18 = (tot : Int) → tot ≤ 30000000 → xN rs (rlS rs) f n sts tot nx = res → (∀ t cs, t < K → Cg X q0 m0 t cs → Cg X q m t cs) → (∀ c i, c < am_n μ0 → ¬ WXa q0 e0 c i → m c i = m0 c i) → (∀ c i, c < am_n μ0 → ¬ WlX c i → l c i = l0 c i) →
      Wp (d + 17) 135 (91, [some (.ref 16), some (.int (zI (n : Int)))], [], sA μ m l) Q := by
  intro f
  induction f with
  | zero =>
    intro n μ m l q e T As sts tot nx Fn hn hnx hle hG hS hB hx hK e15 hSt hCo e106 ek hsz hTm hR e1 ht hres cg fr frl
    obtain ⟨⟨s1, s2, s3, s4, s5, s6⟩, ⟨x1, x2⟩, ⟨x3, x4, x5⟩, _, x7⟩ := id hS
    have hAl := hCo.1
    have h300 := hSt.2.1
    have e106' : m 106 1 = (sts.length : Int) := by rw [e106, hAl]
    have hR' : ∀ i : Nat, i < sts.length → RoX rs m i (sts.getD i []) (nx.getD i []) ∧ ∀ y, y ∈ nx.getD i [] → y < sts.length := fun i hi => hR i (by omega)
    have hend := kl_xend (d := d) (Q := Q) (n := n) (l := l) hs hS hB (Nat.le_trans hTf hK) hx hSt e106' ek (by omega) hsz hR' (fun m' hB' hx' z' rg' hk' cg' f' => hok μ m' l q e T sts nx Fn hres.symm hG hS hB' hx' hK z' rg' hk' (fun t cs ht h => cg' t cs (cg t cs ht h)) (fun c i hc z1 z2 => (f' c i (wxa_j z1) z2).trans (fr c i hc z1)) frl)
    exact K135_91 s1 s2 (TQ_q s3) hs s5 x1 x2 (hE_of hS) ⟨⟨by omega, by omega⟩, by rw [e106']; exact ⟨by omega, by omega⟩, fun _ => hend, fun z => absurd (by rw [e106']; omega) z⟩
  | succ f ih =>
    intro n μ m l q e T As sts tot nx Fn hn hnx hle hG hS hB hx hK e15 hSt hCo e106 ek hsz hTm hR e1 ht hres cg fr frl
    obtain ⟨⟨s1, s2, s3, s4, s5, s6⟩, ⟨x1, x2⟩, ⟨x3, x4, x5⟩, _, x7⟩ := id hS
    have hAl := hCo.1
    have h300 := hSt.2.1
    have hq0 := hG.2.2.2.1
    have he0 := hG.2.2.2.2.1
    have e106' : m 106 1 = (sts.length : Int) := by rw [e106, hAl]
    by_cases hlt : n < sts.length
    · refine K135_91 s1 s2 (TQ_q s3) hs s5 x1 x2 (hE_of hS) ⟨⟨by omega, by omega⟩, by rw [e106']; exact ⟨by omega, by omega⟩, fun z => absurd z (by rw [e106']; omega), fun _ => ⟨fun z => absurd z (by omega), fun _ => ⟨fun μ' => Wp (d + 17) 135 (114, [some (.ref 16), some (.int (zI (n : Int)))], [], μ') Q, fun x μ' => Q (.inr x) μ', ?_, fun _ h => h, fun _ _ h => h⟩⟩⟩
      refine kl_expand (d := d) (Q := pV _ _) (n := n) (tot := tot) (st := sts.getD n []) (A := As.getD n []) hS hs hgo hB hNf hK e15 hx hTf hKb hlt rfl rfl hSt hCo e106 ek hsz hTm e1 ht (fun μ' m' l' q' e' T' As' sts' tot' ns Fn' hJ hX G' S' hB' hx' hT' t' co' e106n hsz' hTm' hRo hnb hpre el' ht' cg' f' fl' => ?_) (fun μ' m' l' q' e' T' Fn' hno G' S' hB' hx' hT' z' rg' cg' f' fl' => ?_)
      · show Wp (d + 17) 135 (114, [some (.ref 16), some (.int (zI (n : Int)))], [], sA μ' m' l') Q
        obtain ⟨⟨u1, u2, u3, u4, u5, u6⟩, ⟨v1, v2⟩, _, _, v7⟩ := id S'
        obtain ⟨L, hL⟩ := hpre
        have e : xN rs (rlS rs) (f + 1) n sts tot nx = xN rs (rlS rs) f (n + 1) sts' tot' (nx ++ [ns]) := by
          show (if sts.length ≤ n then _ else _) = _
          rw [if_neg (by omega), if_pos hJ, hX]
        have hl' : sts.length ≤ sts'.length := by
          rw [hL, List.length_append]
          omega
        have gs : ∀ i : Nat, i < sts.length → sts'.getD i [] = sts.getD i [] := fun i hi => by rw [hL, gD_app hi]
        refine K135_114 u1 u2 (TQ_q u3) hs u5 v1 v2 (hE_of S') ?_
        have go := ih (n + 1) μ' m' l' q' e' T' As' sts' tot' (nx ++ [ns]) Fn' (by omega) (by rw [List.length_append, hnx]; rfl) (by omega) (Gx_t hS0 hG G') S' hB' hx' hT' ((f' 70 15 (wxe_0 (n := n) (j := 15) s3 x3 x7 (by omega)).1 (wxe_0 (j := 15) s3 x3 x7 (by omega)).2).trans e15) t' co' e106n ((f' 106 0 (wxe_0 (n := n) (j := 0) s3 x3 x7 (by omega)).1 (wxe_0 (j := 0) s3 x3 x7 (by omega)).2).trans ek) hsz' hTm' (fun i hi => ?_) el' ht' (e.symm.trans hres) (fun t cs ht h => cg' t cs ht (cg t cs ht h)) (fun c i hc z => (f' c i (Nat.lt_of_lt_of_le hc hG.1) (wxa_t hq0 he0 hc z)).trans (fr c i hc z)) (fun c i hc z => (fl' c i (Nat.lt_of_lt_of_le hc hG.1) z).trans (frl c i hc z))
        · rw [show ((n + 1 : Nat) : Int) = (n : Int) + 1 by omega] at go
          exact go
        · by_cases y : i = n
          · have e1' : (nx ++ [ns]).getD i [] = ns := by rw [y, ← hnx, gD_snX]
            rw [e1', y, gs n hlt]
            exact ⟨hRo, hnb⟩
          · rw [gD_app (by omega), gs i (by omega)]
            obtain ⟨a1, a2⟩ := hR i (by omega)
            exact ⟨RoX_cg (fun c j z => f' c j (wxa_r (n := n) s3 x3 x7 (by omega) z).1 (wxa_r s3 x3 x7 (by omega) z).2) a1, fun y hy => Nat.lt_of_lt_of_le (a2 y hy) hl'⟩
      · show Q (.inr 3) (sA (am_nX μ') m' l')
        refine hthr μ' m' l' q' e' T' Fn' ?_ (Gx_t hS0 hG G') S' hB' hx' hT' z' rg' (fun t cs ht h => cg' t cs ht (cg t cs ht h)) (fun c i hc z => (f' c i (Nat.lt_of_lt_of_le hc hG.1) (wxa_t hq0 he0 hc z)).trans (fr c i hc z)) (fun c i hc z => (fl' c i (Nat.lt_of_lt_of_le hc hG.1) z).trans (frl c i hc z))
        rw [← hres]
        show (if sts.length ≤ n then _ else _) = _
        rw [if_neg (by omega)]
        by_cases hJ : okS rs (rlS rs) (sts.getD n []) tot
        · rw [if_pos hJ, hno hJ]
        · rw [if_neg hJ]
    · have eX : xN rs (rlS rs) (f + 1) n sts tot nx = some (sts, nx) := if_pos (by omega)
      have hR' : ∀ i : Nat, i < sts.length → RoX rs m i (sts.getD i []) (nx.getD i []) ∧ ∀ y, y ∈ nx.getD i [] → y < sts.length := fun i hi => hR i (by omega)
      have hend := kl_xend (d := d) (Q := Q) (n := n) (l := l) hs hS hB (Nat.le_trans hTf hK) hx hSt e106' ek (by omega) hsz hR' (fun m' hB' hx' z' rg' hk' cg' f' => hok μ m' l q e T sts nx Fn (hres.symm.trans eX) hG hS hB' hx' hK z' rg' hk' (fun t cs ht h => cg' t cs (cg t cs ht h)) (fun c i hc z1 z2 => (f' c i (wxa_j z1) z2).trans (fr c i hc z1)) frl)
      exact K135_91 s1 s2 (TQ_q s3) hs s5 x1 x2 (hE_of hS) ⟨⟨by omega, by omega⟩, by rw [e106']; exact ⟨by omega, by omega⟩, fun _ => hend, fun z => absurd (by rw [e106']; omega) z⟩
end CXL
