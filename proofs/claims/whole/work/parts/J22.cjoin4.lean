/-! ===== the class at work: join's loop ===== -/
section CJ4
variable {d : Nat} {Q : Option Value ⊕ Nat → am_Mem → Prop} {X : Int → List Int → Prop} {W : Int → Nat} {s k C0 r lv : Nat} {rs : List Rul} {B : List Atm → Prop} {S0 S1 : List Atm} {lev : List Int → Nat} {gv nw : Int} {b : Nat → Option (List Cd)} {μ0 : am_Mem} {m0 l0 : PM} {q0 T0 : Nat}
/-- the next older fact of the relation -/
theorem nx74 {m : PM} {S : List Atm} {x : Int} {c : Nat} (hI : FtI W m S.length) (e72 : ∀ i : Nat, i < S1.length → m 72 i = m0 72 i) (hS : S1.length ≤ S.length) (hc : c < S1.length) (hx : m0 72 c = x) : m 74 c = lsF (m0 72) x c := by
  have z := (hI.2.2.1 c (by omega)).2.2.2
  rw [e72 c hc, hx] at z
  rw [z]
  exact lsF_cg c (fun f hf => e72 f (by omega))
theorem jl_258 {kn : Nat} {x la x4 x5 x6 : Int} (hs : s = 22 ∨ s = 42) (hr : r < rs.length) (hJ : JnP X W s rs B lev k C0 r gv nw S0 (d + 2) (lv + 1)) (hlv : lv < (posR (rs.getD r ruD)).length) (hgv : ¬ (lv : Int) = gv) (hnw : -1 ≤ nw ∧ nw ≤ 1000) (hla : la = if gv ≤ (lv : Int) then nw else nw - 1) (h0 : JnS X W s rs B lev k C0 r gv nw S0 lv μ0 m0 q0 T0 S1 b) (ek : m0 (s + 12) (8 * (r : Int) + (lv : Int)) = (kn : Int)) (ex : m0 (s + 6) (kn : Int) = x) (h6 : x6 = 0 ∨ (x6 = 1 ∧ ∀ v, atW ((posR (rs.getD r ruD)).getD lv ([], [])) v → b v = none → ¬ MtJ rs r (lv + 1) v)) (h2 : ∀ c, c ∈ (rs.getD r ruD).2 → c.1 = 3 → c.2.2.length = 2)
    (hret : ∀ (μ' : am_Mem) (m' l' : PM) (q' T' : Nat) (S' : List Atm), JnG X W s rs B lev k C0 μ0 m0 l0 q0 T0 S1 b μ' m' l' q' T' S' → DnJ rs r gv nw S0 lv b S' → Q (.inl none) (sA μ' m' l'))
    (hthr : ∀ (μ' : am_Mem) (m' l' : PM) (q' T' : Nat) (S' : List Atm), JnT X W s rs B lev k C0 μ0 m0 l0 q0 T0 S1 μ' m' l' q' T' S' → Q (.inr 3) (sA (am_nX μ') m' l')) :
    ∀ (g : Nat) (μ : am_Mem) (m l : PM) (q T : Nat) (S : List Atm) (x7 x9 : Int), g ≤ S1.length → JnG X W s rs B lev k C0 μ0 m0 l0 q0 T0 S1 b μ m l q T S → (∀ β, Gb β → Ext b β → Cmj (posR (rs.getD r ruD)) S0 gv nw (lv + 1) β → ∀ a : Nat, g ≤ a → a < S0.length → (a : Int) ≤ la → S0.getD a ([], []) = sbA β ((posR (rs.getD r ruD)).getD lv ([], [])) → Dn (rs.getD r ruD) S0 S β) → (x7 = 0 ∨ (x7 = 1 ∧ DnJ rs r gv nw S0 lv b S)) → (0 < cnF (m0 72) x g → x9 = lsF (m0 72) x g) →
    Wp (d + 3) 39 (258, [some (.ref 70), some (.int (zI (lv : Int))), some (.int (zI (kn : Int))), some (.int (zI la)), some (.int (zI x4)), some (.int (zI x5)), some (.int (zI x6)), some (.int (zI x7)), some (.int (zI (m0 70 8))), some (.int (zI x9)), some (.int (zI (cnF (m0 72) x g)))], [], sA μ m l) Q := by
  obtain ⟨hSh0, hE0, _, hx0, _⟩ := id h0
  have hX := hE0.1.1.2.1
  obtain ⟨_, _, _, _, ⟨kX0, _⟩, _⟩ := nd_pos hE0.1.1 hr hlv ek
  rw [ex] at kX0
  have hl0 := ExS_l hx0
  have hrel : ∀ a : Nat, a < S0.length → ∀ β, S0.getD a ([], []) = sbA β ((posR (rs.getD r ruD)).getD lv ([], [])) → m0 72 a = x := fun a ha β e => by
    have z := (hE0.1.2.2.2.2.2.2 a (by omega)).1
    rw [ExS_g hx0 ha, e] at z
    exact hX.2.2.1 _ _ _ z kX0
  intro g
  induction g using Nat.strongRecOn with
  | _ g ih =>
  intro μ m l q T S x7 x9 hg hG hdn h7 h9
  have hJS := JnS_st hs h0 hG
  obtain ⟨hSh, hE, ⟨e9, e10, e11⟩, hx, hb, hbt, hBL, hLT⟩ := id hJS
  obtain ⟨s1, s2, s3, s4, s5, s6⟩ := id hSh
  have hq := TQ_q s3
  obtain ⟨w1, w2, w3, w4, w5, w6, w7⟩ := id hE.1
  have hX2 := w1.2.2.1.1
  obtain ⟨n13, n60, n0, n1000⟩ := KV_n w1
  have e72 := fx72 hX hE0.1.2.2.2.2.2.2 w7 hG.2.2.2.1
  have fS : ∀ c j, s ≤ c → c ≤ s + 19 → m c j = m0 c j := fun c j a1 a2 => (hG.1.2.1 c j (jn_o (j := j) hSh0 hs (Or.inr (Or.inl ⟨a1, a2⟩))).2).1 (jn_o (j := j) hSh0 hs (Or.inr (Or.inl ⟨a1, a2⟩))).1
  have ek' : m (s + 12) (8 * (r : Int) + (lv : Int)) = (kn : Int) := (fS _ _ (by omega) (by omega)).trans ek
  have ex' : m (s + 6) (kn : Int) = x := (fS _ _ (by omega) (by omega)).trans ex
  obtain ⟨⟨kn1, kn6⟩, klow, knd, kok, ⟨kX, kx⟩, cd, cd1, cd2, cd3⟩ := nd_pos w1 hr hlv ek'
  rw [ex'] at kX kx
  have hcn := cnF_r (m0 72) x g
  have hS1000 := w6.2.1
  have hl1 := ExS_l hG.2.2.2.1
  have up0 : m 70 8 = m0 70 8 := hG.2.2.2.2.1
  refine K39_258 s1 s2 hq hs s5 ⟨⟨by omega, by omega⟩, fun z => ?_, fun z => ⟨by rcases h7 with h | h <;> exact ⟨by omega, by omega⟩, fun y => ?_, fun y => ?_⟩⟩
  · refine hret μ m l q T S hG (fun β hβ he hcm => ?_)
    obtain ⟨a, a1, a2, a3, a4⟩ := hcm lv (Nat.le_refl _) hlv hgv
    have hal : (a : Int) ≤ la := by
      rw [hla]
      by_cases y : gv ≤ (lv : Int)
      · rw [if_pos y]; exact a4
      · rw [if_neg y]; exact a3 (by omega)
    by_cases ga : g ≤ a
    · exact hdn β hβ he (Cmj_s hcm) a ga a1 hal a2
    · exact absurd (hrel a a1 β a2) ((cnF_sp (m0 72) x g).mp (by omega) a (by omega))
  · rcases h7 with h | h
    · exact absurd h y
    · exact hret μ m l q T S hG h.2
  · have h70 : x7 = 0 := Classical.byContradiction y
    obtain ⟨c, c1, c2, c3, c4⟩ : ∃ c : Nat, lsF (m0 72) x g = (c : Int) ∧ c < g ∧ m0 72 c = x ∧ ∀ g' : Nat, c < g' → g' < g → ¬ m0 72 g' = x := by
      rcases lsF_sp (m0 72) x g with h | h
      · exact absurd ((cnF_sp (m0 72) x g).mpr h.2) (by omega)
      · exact h
    have e9x : x9 = (c : Int) := (h9 (by omega)).trans c1
    rw [e9x]
    have hcS : c < S.length := by omega
    have go : ∀ (μ' : am_Mem) (m' l' : PM) (q' T' : Nat) (S' : List Atm) (x7' : Int), JnG X W s rs B lev k C0 μ0 m0 l0 q0 T0 S1 b μ' m' l' q' T' S' → (∀ a, a ∈ S → a ∈ S') → (∀ β, Gb β → Ext b β → Cmj (posR (rs.getD r ruD)) S0 gv nw (lv + 1) β → c < S0.length → (c : Int) ≤ la → S0.getD c ([], []) = sbA β ((posR (rs.getD r ruD)).getD lv ([], [])) → Dn (rs.getD r ruD) S0 S' β) → (x7' = 0 ∨ (x7' = 1 ∧ DnJ rs r gv nw S0 lv b S')) → Wp (d + 3) 39 (258, [some (.ref 70), some (.int (zI (lv : Int))), some (.int (zI (kn : Int))), some (.int (zI la)), some (.int (zI x4)), some (.int (zI x5)), some (.int (zI x6)), some (.int (zI x7')), some (.int (zI (m0 70 8))), some (.int (zI (m' 74 (c : Int)))), some (.int (zI (cnF (m0 72) x g - 1)))], [], sA μ' m' l') Q := by
      intro μ' m' l' q' T' S' x7' hG' hsub hcd h7'
      have hJ' := JnS_st hs h0 hG'
      have e72' := fx72 hX hE0.1.2.2.2.2.2.2 hJ'.2.1.1.2.2.2.2.2.2 hG'.2.2.2.1
      have ecn : cnF (m0 72) x g - 1 = cnF (m0 72) x c := by
        have := cnF_last c3 g c2 c4
        omega
      rw [nx74 hJ'.2.1.1.2.2.2.2.2.1 e72' (ExS_l hG'.2.2.2.1) (by omega) c3, ecn]
      refine ih c c2 μ' m' l' q' T' S' x7' _ (by omega) hG' (fun β hβ he hcm a ga a1 a2 a3 => ?_) h7' (fun _ => rfl)
      by_cases y1 : a = c
      · rw [y1] at a1 a2 a3
        exact hcd β hβ he hcm a1 a2 a3
      · by_cases y2 : g ≤ a
        · exact fun ho => hsub _ (hdn β hβ he hcm a y2 a1 a2 a3 ho)
        · exact absurd (hrel a a1 β a3) (c4 a (by omega) (by omega))
    have hla2 : -2 ≤ la ∧ la ≤ 1000 := by
      rw [hla]
      by_cases y : gv ≤ (lv : Int)
      · rw [if_pos y]; omega
      · rw [if_neg y]; omega
    refine ⟨⟨by omega, by omega⟩, ⟨by omega, by omega⟩, fun y2 => ⟨⟨by omega, by omega⟩, fun m1 e1 => ?_⟩, fun y2 => ?_⟩
    · rw [e1, up_self up0]
      exact go μ m l q T S x7 hG (fun _ h => h) (fun β hβ he hcm a1 a2 a3 => absurd a2 (by omega)) (Or.inl h70)
    · -- the fact is tried
      refine ⟨fun x' μ' => Wp (d + 3) 39 (281, [some (.ref 70), some (.int (zI (lv : Int))), some (.int (zI (kn : Int))), some (.int (zI la)), some (.int (zI x4)), some (.int (zI x5)), some (.int (zI x6)), some (.int (zI x7)), some (.int (zI (m0 70 8))), some (.int (zI (c : Int))), some (.int (zI (cnF (m0 72) x g)))], [.int x'], μ') Q, noX, ?_, fun _ _ z => z, fun _ _ z => z.elim⟩
      obtain ⟨n, en⟩ : ∃ n : Nat, m s 6 = (n : Int) := ⟨(m s 6).toNat, by omega⟩
      have hGr : GrI X q s m T n := by
        have z := w5
        rw [show (m s 6).toNat = n by omega] at z
        exact z
      obtain ⟨a1, a2, a3, a4⟩ := w7 c hcS
      rw [e72 c (by omega), c3] at a1 a2
      have ew : ((posR (rs.getD r ruD)).getD lv ([], [])).1 = (S.getD c ([], [])).1 := hX.2.1 _ _ _ kX a1
      have el : ((posR (rs.getD r ruD)).getD lv ([], [])).2.length = (S.getD c ([], [])).2.length := by
        rw [a2, ← cd3]
        rw [← cd3] at kX
        exact ((w3 _ ((mem_gD rs ruD _).mpr ⟨r, hr, rfl⟩)).2 cd cd1 (by omega) x kX).symm
      have mt : ∀ β, (∀ j, j < ((posR (rs.getD r ruD)).getD lv ([], [])).2.length → sbC β (((posR (rs.getD r ruD)).getD lv ([], [])).2.getD j []) = (S.getD c ([], [])).2.getD j []) ↔ sbA β ((posR (rs.getD r ruD)).getD lv ([], [])) = S.getD c ([], []) := fun β => mt_iff ew el
      refine k_fits (d := d + 2) (qs := (S.getD c ([], [])).2) s1 s2 hq hs s5 hX hX2 (show kn < n by omega) (by omega) klow knd (ok_vb kok) w4 hGr hb hbt (by omega) (fun j hj => a4 j (by omega)) (fun m' b' hXt hd' hb' hbt' fr => ?_) (fun m' hno hb' fr => ?_)
      · -- it fits
        obtain ⟨hE', hK'⟩ := fx_st (l := l) hs hSh hE fr
        have hKm := Kst_t hSh0 hG.2.1 (fun _ _ _ z => z) (jn_i hSh0 hG.1.1) hG.1 hK'
        have hBL' : BLg (posR (rs.getD r ruD)) b' gv (lv + 1) S := by
          refine ⟨fun i hi hl => ?_, fun v hv => ?_⟩
          · by_cases y3 : i = lv
            · rw [y3]
              refine ⟨fun p hp c' hc' h5 => (hd' _).mpr (Or.inr ⟨c', List.mem_flatten.mpr ⟨p, hp, hc'⟩, by omega⟩), fun β hβ he => ?_⟩
              rw [(mt β).mp ((hXt β hβ).mp he).2]
              exact gD_in hcS
            · obtain ⟨u1, u2⟩ := hBL.1 i hi (by omega)
              exact ⟨fun p hp c' hc' h5 => (hd' _).mpr (Or.inl (u1 p hp c' hc' h5)), fun β hβ he => u2 β hβ ((hXt β hβ).mp he).1⟩
          · cases e : b' v with
            | none => exact absurd e hv
            | some p => exact (hb' v p e).1
        have hJS' : JnS X W s rs B lev k C0 r gv nw S0 (lv + 1) μ m' q T S b' := ⟨hSh, hE', ⟨(fr _ _ (wfx_f hSh hs (by omega))).trans e9, (fr _ _ (wfx_f hSh hs (by omega))).trans e10, (fr _ _ (wfx_f hSh hs (by omega))).trans e11⟩, hx, hb', hbt', hBL', LT_cg (fun j => fr _ j (wfx_f hSh hs (by omega))) hLT⟩
        refine K39_281 s1 s2 hq hs s5 ⟨⟨by decide, by decide⟩, fun z => absurd z (by decide), fun _ => ?_⟩
        refine ⟨fun μ' => Wp (d + 3) 39 (291, [some (.ref 70), some (.int (zI (lv : Int))), some (.int (zI (kn : Int))), some (.int (zI la)), some (.int (zI x4)), some (.int (zI x5)), some (.int (zI x6)), some (.int (zI x7)), some (.int (zI (m0 70 8))), some (.int (zI (c : Int))), some (.int (zI (cnF (m0 72) x g)))], [], μ') Q, fun x μ' => Q (.inr x) μ', ?_, fun _ z => z, fun _ _ z => z⟩
        rw [show (lv : Int) + 1 = ((lv + 1 : Nat) : Int) by omega]
        refine hJ _ μ m' l q T S b' hJS' (fun μ2 m2 l2 q2 T2 S2 g2 dn2 => ?_) (fun μ2 m2 l2 q2 T2 S2 t2 => ?_)
        · show Wp (d + 3) 39 (291, _, [], _) Q
          have hSh2 := Gw_S hSh g2.1.1
          obtain ⟨t1, t2, t3, t4, t5, t6⟩ := id hSh2
          have hb2 : BdC X q2 m2 T2 b := fun v cs hv => g2.2.2.2.2.2 v cs (bd_ext (BdC_g hb') hXt (fun v hv => (hd' v).mpr (Or.inl hv)) hv)
          refine K39_291 t1 t2 (TQ_q t3) hs t5 ⟨⟨by omega, by omega⟩, fun m1 e1 => ?_⟩
          have hT2 : T0 ≤ T2 := Nat.le_trans hG.2.1 g2.2.1
          have hG1 := JnG_up hs hSh0 hSh2 (Kst_t hSh0 hG.2.1 (fun _ _ _ z => z) (jn_i hSh0 hG.1.1) hKm g2.1) hT2 g2.2.2.1 (ExS_t hG.2.2.2.1 g2.2.2.2.1) hb2 e1
          rw [show m2 74 (c : Int) = m1 74 (c : Int) by rw [e1, up_c (by decide)]]
          refine go μ2 m1 l2 q2 T2 S2 x6 hG1 (fun a ha => ExS_m g2.2.2.2.1 ha) (fun β hβ he hcm hc0 _ e => ?_) ?_
          · refine dn2 β hβ ((hXt β hβ).mpr ⟨he, (mt β).mpr ?_⟩) hcm
            rw [ExS_g hx hc0]
            exact e.symm
          · rcases h6 with h | ⟨h, hf⟩
            · exact Or.inl h
            · refine Or.inr ⟨h, once_dn hr h2 (BdC_g hb') hXt (fun v hv => ?_) hf dn2⟩
              rcases (hd' v).mp hv with h | ⟨c', h1, h2'⟩
              · exact Or.inl h
              · obtain ⟨p, p1, p2⟩ := List.mem_flatten.mp h1
                exact Or.inr ⟨p, p1, c', p2, h2'⟩
        · show Q (.inr 3) _
          obtain ⟨b1, b2, b3, b4, b5, b6⟩ := t2
          have hT2 : T0 ≤ T2 := Nat.le_trans hG.2.1 b3
          exact hthr μ2 m2 l2 q2 T2 S2 ⟨b1, Kst_t hSh0 hG.2.1 (fun _ _ _ z => z) (jn_i hSh0 hG.1.1) hKm b2, hT2, b4, ExS_t hG.2.2.2.1 b5, b6⟩
      · -- it doesn't
        refine K39_281 s1 s2 hq hs s5 ⟨⟨by decide, by decide⟩, fun _ => ⟨⟨by omega, by omega⟩, fun m1 e1 => ?_⟩, fun z => absurd rfl z⟩
        obtain ⟨hE', hK'⟩ := fx_st (l := l) hs hSh hE fr
        have hG1 := JnG_up hs hSh0 hSh (Kst_t hSh0 hG.2.1 (fun _ _ _ z => z) (jn_i hSh0 hG.1.1) hG.1 hK') hG.2.1 hE' hG.2.2.2.1 hb' e1
        rw [show m' 74 (c : Int) = m1 74 (c : Int) by rw [e1, up_c (by decide)]]
        refine go μ m1 l q T S x7 hG1 (fun _ h => h) (fun β hβ he _ hc0 _ e => absurd ((mt β).mpr ?_) (hno β hβ he)) (Or.inl h70)
        rw [ExS_g hx hc0]
        exact e.symm
end CJ4
