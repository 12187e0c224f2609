/-! ===== the class's fix, between calls ===== -/
theorem ClS_grp {s : Nat} {rs : List Rul} {m : PM} (hgo : GoS rs) (h : ClS s rs m) : ∃ lev F G, Grp s rs m lev F G := by
  obtain ⟨c, m0, m1, l0, h', h1, h2, h3, h4, h5, h6, h7, h8⟩ := h
  obtain ⟨lev, F, G, hG⟩ := Grp_of h3 h5 (fun r hr => ⟨((chF_ok hgo.2.2.2.2).1 r hr).2.1, ((chF_ok hgo.2.2.2.2).1 r hr).2.2.2.1⟩) h6
  exact ⟨lev, F, G, Grp_cg (fun c j a b => h8 c j a b) hG⟩
theorem lvl_1 (F g : Nat) : 1 ≤ lvl F g := by
  unfold lvl
  split <;> omega
section CFI
variable {d : Nat} {Q : Option Value ⊕ Nat → am_Mem → Prop} {X : Int → List Int → Prop} {W : Int → Nat} {s q e T N0 : Nat} {rs : List Rul} {μ : am_Mem} {m l : PM}
theorem Prt_1 {lev : List Int → Nat} {F G : Nat} (hG : Grp s rs m lev F G) {B : List Atm} (hB : BsP B) : Prt rs B lev 1 [] := by
  obtain ⟨_, _, ⟨g1, g2⟩, g3, _⟩ := hG
  refine ⟨fun a ha => Or.inr ?_, fun l1 a l2 e => ?_, fun ru hru hl β hβ hf => ?_, List.nodup_nil⟩
  · rcases hB a ha with e | e
    · rw [e, g1]; omega
    · rw [e, g2]; omega
  · cases l1 with
    | nil => exact nomatch e
    | cons x xs => exact nomatch e
  · obtain ⟨r, hr, er⟩ := (mem_gD rs ruD ru).mp hru
    obtain ⟨_, g, _, eg⟩ := g3 r hr
    rw [er] at eg
    have := lvl_1 F g
    omega
theorem wfz_s {s q n c : Nat} {j : Int} (hs : s = 22 ∨ s = 42) (hq : q = 85 ∨ 185 ≤ q) (hn : 186 ≤ n) (z : (s ≤ c ∧ c ≤ s + 19) ∨ c = 80 ∨ c = 81 ∨ (c = 70 ∧ j = 4) ∨ ((c = 98 ∨ c = 103) ∧ j = 0)) : c < n ∧ ¬ WFz q c j := by omega
theorem kl_fix0 (hS : ShX s μ q e) (hs : s = 22 ∨ s = 42) (hgo : GoS rs) (hB : ClB X W s rs q m N0 N0) (e12 : m 70 12 = 0) (hF : FtI W m 0) (hC : ClS s rs m)
    (hret : ∀ (μ' : am_Mem) (m' l' : PM) (q' T' Fn : Nat) (lev : List Int → Nat) (F G : Nat) (S0 : List Atm), Gx μ q e μ' q' e → ShX s μ' q' e → ClB X W s rs q' m' T' N0 → FxC X W s rs lev F G N0 m' q' T' Fn S0 T' → N0 ≤ T' → m' 70 15 = (T' : Int) → (∀ t cs, t < N0 → Cg X q m t cs → Cg X q' m' t cs) → (∀ c j, c < am_n μ → ¬ WFz q c j → m' c j = m c j) → (∀ c j, c < am_n μ → l' c j = l c j) → Q (.inl none) (sA μ' m' l'))
    (hthr : ∀ (μ' : am_Mem) (m' l' : PM) (q' T' Fn : Nat), (∀ B, BsP B → ¬ Evb rs B) → Gx μ q e μ' q' e → ShX s μ' q' e → ClB X W s rs q' m' T' N0 → N0 ≤ T' → FtI W m' Fn → m' 70 12 = 2 → (∀ c j, c < am_n μ → ¬ WFz q c j → m' c j = m c j) → (∀ c j, c < am_n μ → l' c j = l c j) → Q (.inr 3) (sA (am_nX μ') m' l')) :
    Wp (d + 14) 36 (0, [some (.ref 70), none, none], [], sA μ m l) Q := by
  obtain ⟨lev, F, G, hG⟩ := ClS_grp hgo hC
  obtain ⟨⟨b1, b2, b3, b4⟩, b5, b6, b7, ⟨b8, b9⟩, b10, b11, b12⟩ := id hB
  have hsq := hS.1.2.2.1
  have hn := hS.2.2.2.2
  refine k_fix0 (C0 := N0) (B := BsP) hs hgo (by omega) hS.1 hG e12 (fun B' hB' a ha => ?_) ⟨⟨b1, b2, b3, b6, b7, hF, fun i hi => absurd hi (Nat.not_lt_zero _)⟩, ⟨⟨[], fun a ha => absurd ha List.not_mem_nil⟩, fun B' hB' => Prt_1 hG hB'⟩, fun a ha => absurd ha List.not_mem_nil, by omega⟩ (fun μ1 m1 l1 q1 T1 S1 hK hT hE hl h12 h13 h14 h15 => ?_) (fun μ1 m1 l1 q1 T1 S1 hno hK hT hT2 hW h12 => ?_)
  · rcases hB' a ha with y | y
    · rw [y]; exact hG.2.2.1.1
    · rw [y]; exact hG.2.2.1.2
  · obtain ⟨gw, fr, cg⟩ := hK
    obtain ⟨G1, S1'⟩ := Gx_of hS gw
    have f : ∀ c j, c < am_n μ → ¬ WFz q c j → m1 c j = m c j := fun c j hc z => (fr c j hc).1 z
    obtain ⟨hw, hp, ht, hT3⟩ := hE
    obtain ⟨w1, w2, w3, w4, w5, w6, w7⟩ := hw
    refine hret μ1 m1 l1 q1 T1 _ lev F G S1 G1 S1' (ClB_st (fun c j z => f c j (wfz_s hs hsq hn z).1 (wfz_s hs hsq hn z).2) cg w4 hB) ⟨⟨w1, w2, w3, b4⟩, w4, w5, ⟨w6, Nat.le_refl _⟩, w7, ⟨Nat.le_refl _, hT3⟩, hp.2, fun a ha => ⟨hl a ha, (ht a ha).2⟩, Grp_cg (fun c j a b => f c j (wfz_s (j := j) hs hsq hn (Or.inl ⟨a, b⟩)).1 (wfz_s (j := j) hs hsq hn (Or.inl ⟨a, b⟩)).2) hG, h12, h13, h14⟩ hT h15 cg f (fun c j hc => (fr c j hc).2)
  · obtain ⟨gw, fr, cg⟩ := hK
    obtain ⟨G1, S1'⟩ := Gx_of hS gw
    have f : ∀ c j, c < am_n μ → ¬ WFz q c j → m1 c j = m c j := fun c j hc z => (fr c j hc).1 z
    exact hthr μ1 m1 l1 q1 T1 _ (fun B' hB' h => hno B' hB' h) G1 S1' (ClB_st (fun c j z => f c j (wfz_s hs hsq hn z).1 (wfz_s hs hsq hn z).2) cg hW.2.2.2.1 hB) hT hW.2.2.2.2.2.1 h12 f (fun c j hc => (fr c j hc).2)
end CFI
