/-! ===== the class at work: fix ===== -/
/-- what fixing writes -/
abbrev WFz (q c : Nat) (j : Int) : Prop := WRn q c j ∨ (c = 70 ∧ 12 ≤ j ∧ j ≤ 15)
section CFX
variable {d : Nat} {Q : Option Value ⊕ Nat → am_Mem → Prop} {X : Int → List Int → Prop} {W : Int → Nat} {s k C0 : Nat} {rs : List Rul} {B : List Atm → Prop} {S : List Atm} {lev : List Int → Nat} {μ : am_Mem} {m l : PM} {q T : Nat}
theorem fz_i {q1 : Nat} {μ1 : am_Mem} (hS : ShW s μ q) (h : Gw μ q μ1 q1) : ∀ c j, c < am_n μ → WFz q1 c j → WFz q c j := by
  intro c j hc z
  have := Gw_q hS h
  omega
theorem fz_r {q1 : Nat} {μ1 : am_Mem} (hS : ShW s μ q) (h : Gw μ q μ1 q1) : ∀ c j, c < am_n μ → WRn q1 c j → WFz q c j := fun c j hc z => Or.inl (rn_i hS h c j hc z)
theorem fz_o (hS : ShW s μ q) (hs : s = 22 ∨ s = 42) {c : Nat} {j : Int} (h : (s ≤ c ∧ c ≤ s + 19) ∨ c = 80 ∨ c = 81 ∨ (c = 70 ∧ ¬ (8 ≤ j ∧ j ≤ 15))) : ¬ WFz q c j ∧ c < am_n μ := by
  have := q_n hS
  omega
theorem e70_f (hS : ShW s μ q) (hs : s = 22 ∨ s = 42) {c : Nat} (h : (s ≤ c ∧ c ≤ s + 19) ∨ c = 81 ∨ (71 ≤ c ∧ c ≤ 78) ∨ c = 83 ∨ (q ≤ c ∧ c ≤ q + 7) ∨ c = 84) : ¬ c = 70 := by
  have := hS.2.2.1
  omega
/-- the model's own numbers don't matter to the state -/
theorem ev_70 {m' : PM} (hs : s = 22 ∨ s = 42) (hS : ShW s μ q) (hE : EvC X W s rs B lev k C0 m q T S) (f : ∀ c j, ¬ c = 70 → m' c j = m c j) : EvC X W s rs B lev k C0 m' q T S ∧ ∀ t cs, t < T → Cg X q m t cs → Cg X q m' t cs := by
  have cg : ∀ t cs, t < T → Cg X q m t cs → Cg X q m' t cs := fun t cs ht h => CgR_cg (T := T) (fun t _ => ⟨f _ _ (e70_f hS hs (by omega)), f _ _ (e70_f hS hs (by omega)), fun i _ => f _ _ (e70_f hS hs (by omega))⟩) _ t cs ht h
  exact ⟨⟨CwW_st hs hE.1 (CtT_fr (fun c j z => f _ _ (e70_f hS hs (by omega))) hE.1.2.2.2.1) (Nat.le_refl _) (fun c j z1 z2 => f _ _ (e70_f hS hs (by omega))) (fun j => f _ _ (e70_f hS hs (by omega))) (fun c j z => f _ _ (e70_f hS hs (by omega))) cg, hE.2⟩, cg⟩
theorem Grp_cg {m' : PM} {F G : Nat} (f : ∀ c j, s ≤ c → c ≤ s + 19 → m' c j = m c j) (h : Grp s rs m lev F G) : Grp s rs m' lev F G := by
  obtain ⟨⟨g1, g2, g3, g4⟩, hL, h2, gLT, h5, gg⟩ := h
  refine ⟨⟨by rw [f _ _ (by omega) (by omega)]; exact g1, by rw [f _ _ (by omega) (by omega)]; exact g2, g3, g4⟩, hL, h2, fun r hr => ⟨LT_cg (fun j => f _ j (by omega) (by omega)) (gLT r hr).1, (gLT r hr).2⟩, h5, fun g hg => ?_⟩
  obtain ⟨o, P, R, ⟨o1, o2, o3, o4⟩, p1, p2, p3⟩ := gg g hg
  exact ⟨o, P, R, ⟨by rw [f _ _ (by omega) (by omega)]; exact o1, by rw [f _ _ (by omega) (by omega)]; exact o2, by rw [f _ _ (by omega) (by omega)]; exact o3, o4⟩, fun i hi => by rw [f _ _ (by omega) (by omega)]; exact p1 i hi, fun i hi => by rw [f _ _ (by omega) (by omega)]; exact p2 i hi, p3⟩
/-- a group is worked out: the next layer -/
theorem gr_up {F : Nat} {S1 : List Atm} (hL : LvO lev rs) (hk : ¬ k = F + 1) (hB : ∀ B', B B' → ∀ a, a ∈ B' → lev a.1 = F + 1) (hE : EvC X W s rs B lev k C0 m q T S) (hx : ExS lev k S1 S) (hpl : ∀ r, r < rs.length → lev (rs.getD r ruD).1.1 = k → (∀ c, c ∈ (rs.getD r ruD).2 → c.1 = 1 → lev c.2.1 < k) → Dal rs r S1 S1) (hrc : ∀ r, r < rs.length → lev (rs.getD r ruD).1.1 = k → (∃ c, c ∈ (rs.getD r ruD).2 ∧ c.1 = 1 ∧ lev c.2.1 = k) → Dal rs r S S) : EvC X W s rs B lev (k + 1) C0 m q T S := by
  have clo : Clo rs (fun ru => lev ru.1.1 = k) S := fun ru hru hl β hβ hf => by
    obtain ⟨r, hr, er⟩ := (mem_gD rs ruD _).mp hru
    have hl : lev ru.1.1 = k := hl
    have hD : Dal rs r S S := by
      rcases Classical.em (∃ c, c ∈ (rs.getD r ruD).2 ∧ c.1 = 1 ∧ lev c.2.1 = k) with z | z
      · exact hrc r hr (by rw [er]; exact hl) z
      · have hlow : ∀ c, c ∈ (rs.getD r ruD).2 → c.1 = 1 → lev c.2.1 < k := fun c hc e => by
          rw [er] at hc
          have h1 := (hL ru hru c hc).1 e
          have h2 : ¬ lev c.2.1 = k := fun y => z ⟨c, by rw [er]; exact hc, e, y⟩
          omega
        intro β' hβ' hps
        refine Dn_st hx (fun c hc e => ?_) (fun a ha => ExS_m hx ha) (hpl r hr (by rw [er]; exact hl) hlow β' hβ' (fun i hi => ?_))
        · rw [er] at hc
          rw [← hl]
          exact (hL ru hru c hc).2 e
        · obtain ⟨L, eL, hLk⟩ := id hx
          have h1 := hps i hi
          rw [eL] at h1
          rcases List.mem_append.mp h1 with h1 | h1
          · exact h1
          · have h2 := hLk _ h1
            have hi' : i < (psC (rs.getD r ruD).2).length := by rw [← posR_l]; exact hi
            rw [posR_g hi', sbA_1] at h2
            have hc := psC_mem.mp ((mem_gD (psC (rs.getD r ruD).2) cnD _).mpr ⟨i, hi', rfl⟩)
            have := hlow _ hc.1 hc.2
            omega
    rw [← er] at hf ⊢
    refine hD β hβ (fun i hi => ?_) (fun c hc => ⟨(hf c hc).2.1, (hf c hc).2.2⟩)
    have hi' : i < (psC (rs.getD r ruD).2).length := by rw [← posR_l]; exact hi
    rw [posR_g hi']
    have hc := psC_mem.mp ((mem_gD (psC (rs.getD r ruD).2) cnD _).mpr ⟨i, hi', rfl⟩)
    exact (hf _ hc.1).1 hc.2
  refine ⟨hE.1, ⟨hE.2.1.1, fun B' hB' => Prt_up (hE.2.1.2 B' hB') clo (fun a ha e => absurd ((hB B' hB' a ha).symm.trans e) (fun y => hk y.symm))⟩, fun a ha => ⟨Nat.le_succ_of_le (hE.2.2.1 a ha).1, (hE.2.2.1 a ha).2⟩, hE.2.2.2⟩
theorem k_fix0 {F G : Nat} (hs : s = 22 ∨ s = 42) (hgo : GoS rs) (hC : C0 + 45000 ≤ 58192) (hS : ShW s μ q) (hG : Grp s rs m lev F G) (e12 : m 70 12 = 0) (hB : ∀ B', B B' → ∀ a, a ∈ B' → lev a.1 = F + 1) (hE : EvC X W s rs B lev 1 C0 m q T [])
    (hret : ∀ (μ' : am_Mem) (m' l' : PM) (q' T' : Nat) (S' : List Atm), Kst X (WFz q) T μ q m l μ' q' m' l' → T ≤ T' → EvC X W s rs B lev (F + 1) C0 m' q' T' S' → (∀ a, a ∈ S' → lev a.1 < F + 1) → m' 70 12 = 1 → m' 70 13 = (S'.length : Int) → m' 70 14 = (T' : Int) → m' 70 15 = (T' : Int) → Q (.inl none) (sA μ' m' l'))
    (hthr : ∀ (μ' : am_Mem) (m' l' : PM) (q' T' : Nat) (S' : List Atm), (∀ B', B B' → ¬ ∃ S', EvG rs B' S') → Kst X (WFz q) T μ q m l μ' q' m' l' → T ≤ T' → T' ≤ C0 + 45000 → CwW X W s rs m' q' T' S' → m' 70 12 = 2 → Q (.inr 3) (sA (am_nX μ') m' l')) :
    Wp (d + 14) 36 (0, [some (.ref 70), none, none], [], sA μ m l) Q := by
  obtain ⟨s1, s2, s3, s4, s5, s6⟩ := id hS
  have hq := TQ_q s3
  obtain ⟨⟨g1, g2, g3, g4⟩, hL, _⟩ := id hG
  have fS : ∀ {μ1 : am_Mem} {m1 l1 : PM} {q1 : Nat}, Kst X (WFz q) T μ q m l μ1 q1 m1 l1 → ∀ c j, s ≤ c → c ≤ s + 19 → m1 c j = m c j := fun h c j a1 a2 => (h.2.1 c j (fz_o (j := j) hS hs (Or.inl ⟨a1, a2⟩)).2).1 (fz_o (j := j) hS hs (Or.inl ⟨a1, a2⟩)).1
  have loop : ∀ (f g : Nat) (μ1 : am_Mem) (m1 l1 : PM) (q1 T1 : Nat) (S1 : List Atm) (o2 : Option Value), g + f = F → Kst X (WFz q) T μ q m l μ1 q1 m1 l1 → T ≤ T1 → EvC X W s rs B lev (g + 1) C0 m1 q1 T1 S1 → (∀ a, a ∈ S1 → lev a.1 < g + 1) → m1 70 12 = 2 → Wp (d + 14) 36 (14, [some (.ref 70), some (.int (zI (g : Int))), o2], [], sA μ1 m1 l1) Q := by
    intro f
    induction f with
    | zero =>
      intro g μ1 m1 l1 q1 T1 S1 o2 hf hK hT hE1 hlow h12
      have hS1 := Gw_S hS hK.1
      obtain ⟨t1, t2, t3, t4, t5, t6⟩ := id hS1
      have e18 : m1 s 18 = (F : Int) := (fS hK _ _ (by omega) (by omega)).trans g2
      have e7 := hE1.1.2.2.2.2.2.1.1
      have e9 := hE1.1.2.2.2.1.1.1
      refine K36_14 (d := d + 10) t1 t2 (TQ_q t3) hs t5 ?_
      rw [e18, e7, e9]
      refine ⟨⟨by omega, by omega⟩, ⟨by omega, by omega⟩, fun _ m2 em2 m3 em3 => ⟨fun _ => ?_, fun z => absurd (by decide) z⟩, fun z => absurd z (by omega)⟩
      have f3 : ∀ c j, ¬ c = 70 → m3 c j = m1 c j := fun c j z => by
        rw [em3, up_c z, up_c z, em2, up_c z, up_c z]
      have f3' : ∀ c j, ¬ (c = 70 ∧ 12 ≤ j ∧ j ≤ 15) → m3 c j = m1 c j := fun c j z => by
        rw [em3, up_o (by omega), up_o (by omega), em2, up_o (by omega), up_o (by omega)]
      obtain ⟨hE3, cg3⟩ := ev_70 hs hS1 hE1 f3
      have hg : g = F := by omega
      rw [hg] at hE3 hlow
      refine hret μ1 m3 l1 q1 T1 S1 ⟨hK.1, fun c j hc => ⟨fun hw => (f3' c j (fun z => hw (Or.inr z))).trans ((hK.2.1 c j hc).1 hw), (hK.2.1 c j hc).2⟩, fun t cs ht h => cg3 t cs (by omega) (hK.2.2 t cs ht h)⟩ hT hE3 hlow ?_ ?_ ?_ ?_
      · rw [em3, up_s]
      · rw [em3, up_i (by decide), up_i (by decide), em2, up_i (by decide), up_s]
      · rw [em3, up_i (by decide), up_i (by decide), em2, up_s]
      · rw [em3, up_i (by decide), up_s]
    | succ f ih =>
      intro g μ1 m1 l1 q1 T1 S1 o2 hf hK hT hE1 hlow h12
      have hS1 := Gw_S hS hK.1
      obtain ⟨t1, t2, t3, t4, t5, t6⟩ := id hS1
      have e18 : m1 s 18 = (F : Int) := (fS hK _ _ (by omega) (by omega)).trans g2
      have e7 := hE1.1.2.2.2.2.2.1.1
      have hgF : g < F := by omega
      have hlv : lvl F g = g + 1 := lvl_f hgF
      have hG1 := Grp_cg (fS hK) hG
      have hn := q_n hS1
      refine K36_14 (d := d + 10) t1 t2 (TQ_q t3) hs t5 ?_
      rw [e18, e7]
      refine ⟨⟨by omega, by omega⟩, ⟨by omega, by omega⟩, fun z => absurd z (by omega), fun _ => ⟨fun μ' => Wp (d + 14) 36 (38, [some (.ref 70), some (.int (zI (g : Int))), some (.int (zI (S1.length : Int)))], [], μ') Q, fun x μ' => Q (.inr x) μ', ?_, fun _ z => z, fun _ _ z => z⟩⟩
      refine k_runPlain hs hgo hC hS1 hG1 (by omega) hlv hE1 (fun μ2 m2 l2 q2 T2 S2 h2 d2 => ?_) (fun μ2 m2 l2 q2 T2 S2 h2 => ?_)
      · show Wp (d + 14) 36 (38, _, [], _) Q
        have hS2 := Gw_S hS1 h2.1.1
        obtain ⟨u1, u2, u3, u4, u5, u6⟩ := id hS2
        have hK2 := Kst_t hS hT (fun _ _ _ z => z) (fz_r hS hK.1) hK h2.1
        have hT2 : T ≤ T2 := Nat.le_trans hT h2.2.1
        refine K36_38 (d := d + 10) u1 u2 (TQ_q u3) hs u5 ⟨fun μ' => Wp (d + 14) 36 (44, [some (.ref 70), some (.int (zI (g : Int))), some (.int (zI (S1.length : Int)))], [], μ') Q, fun x μ' => Q (.inr x) μ', ?_, fun _ z => z, fun _ _ z => z⟩
        refine k_runRec hs hgo hC hS2 (Grp_cg (fS hK2) hG) (by omega) hlv h2.2.2.1 h2.2.2.2 hlow (fun μ3 m3 l3 q3 T3 S3 h3 d3 => ?_) (fun μ3 m3 l3 q3 T3 S3 h3 => ?_)
        · show Wp (d + 14) 36 (44, _, [], _) Q
          have hS3 := Gw_S hS2 h3.1.1
          obtain ⟨r1, r2, r3, r4, r5, r6⟩ := id hS3
          have hK3 := Kst_t hS hT2 (fun _ _ _ z => z) (fz_r hS hK2.1) hK2 h3.1
          have hE3 := gr_up (F := F) hL (by omega) hB h3.2.2.1 h3.2.2.2 d2 d3
          have hn2 := q_n hS2
          have f2 : m2 70 12 = m1 70 12 := (h2.1.2.1 70 12 (by omega)).1 (rn_o hS1 hs (Or.inr (Or.inr (Or.inr ⟨rfl, by decide⟩)))).1
          have f3 : m3 70 12 = m2 70 12 := (h3.1.2.1 70 12 (by omega)).1 (rn_o hS2 hs (Or.inr (Or.inr (Or.inr ⟨rfl, by decide⟩)))).1
          have z := ih (g + 1) μ3 m3 l3 q3 T3 S3 (some (.int (zI (S1.length : Int)))) (by omega) hK3 (Nat.le_trans hT2 h3.2.1) hE3 (fun a ha => Nat.lt_succ_of_le (h3.2.2.1.2.2.1 a ha).1) (by rw [f3, f2]; exact h12)
          rw [show ((g + 1 : Nat) : Int) = (g : Int) + 1 by omega] at z
          exact K36_44 (d := d + 10) r1 r2 (TQ_q r3) hs r5 z
        · obtain ⟨b1, b2, b3, b4, b5, b6⟩ := h3
          have hn2 := q_n hS2
          have f2 : m2 70 12 = m1 70 12 := (h2.1.2.1 70 12 (by omega)).1 (rn_o hS1 hs (Or.inr (Or.inr (Or.inr ⟨rfl, by decide⟩)))).1
          have f3 : m3 70 12 = m2 70 12 := (b2.2.1 70 12 (by omega)).1 (rn_o hS2 hs (Or.inr (Or.inr (Or.inr ⟨rfl, by decide⟩)))).1
          exact hthr μ3 m3 l3 q3 T3 S3 b1 (Kst_t hS hT2 (fun _ _ _ z => z) (fz_r hS hK2.1) hK2 b2) (Nat.le_trans hT2 b3) b4 b6 (by rw [f3, f2]; exact h12)
      · obtain ⟨b1, b2, b3, b4, b5, b6⟩ := h2
        have f2 : m2 70 12 = m1 70 12 := (b2.2.1 70 12 (by omega)).1 (rn_o hS1 hs (Or.inr (Or.inr (Or.inr ⟨rfl, by decide⟩)))).1
        exact hthr μ2 m2 l2 q2 T2 S2 b1 (Kst_t hS hT (fun _ _ _ z => z) (fz_r hS hK.1) hK b2) (Nat.le_trans hT b3) b4 b6 (by rw [f2]; exact h12)
  refine K36_0 (d := d + 10) s1 s2 hq hs s5 ?_
  rw [e12]
  refine ⟨⟨by decide, by decide⟩, fun z => absurd rfl z, fun _ m1 em1 => ?_⟩
  have f1 : ∀ c j, ¬ c = 70 → m1 c j = m c j := fun c j z => by rw [em1, up_c z]
  have f1' : ∀ c j, ¬ (c = 70 ∧ 12 ≤ j ∧ j ≤ 15) → m1 c j = m c j := fun c j z => by rw [em1, up_o (by omega)]
  obtain ⟨hE1, cg1⟩ := ev_70 hs hS hE f1
  exact loop F 0 μ m1 l q T [] none (by omega) ⟨Gw_r, fun c j hc => ⟨fun hw => f1' c j (fun z => hw (Or.inr z)), rfl⟩, cg1⟩ (Nat.le_refl _) hE1 (fun a ha => absurd ha List.not_mem_nil) (by rw [em1, up_s])
/-- what was fixed before -/
theorem k_fix1 (hs : s = 22 ∨ s = 42) (hS : ShW s μ q) (e12 : m 70 12 = 1 ∨ m 70 12 = 2) (hret : m 70 12 = 1 → Q (.inl none) (sA μ m l)) (hthr : m 70 12 = 2 → Q (.inr 3) (sA (am_nX μ) m l)) : Wp (d + 14) 36 (0, [some (.ref 70), none, none], [], sA μ m l) Q := by
  obtain ⟨s1, s2, s3, s4, s5, s6⟩ := id hS
  refine K36_0 (d := d + 10) s1 s2 (TQ_q s3) hs s5 ⟨by rcases e12 with e | e <;> rw [e] <;> exact ⟨by decide, by decide⟩, fun _ => ⟨fun z => ?_, fun z => hthr (Classical.byContradiction z)⟩, fun z => absurd (fun y => by omega) z⟩
  rcases e12 with e | e
  · exact hret e
  · exact absurd e z
end CFX
