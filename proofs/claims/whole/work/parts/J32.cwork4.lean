/-! ===== the class at work: workOut ===== -/
section CWQ
variable {d : Nat} {Q : Option Value ⊕ Nat → am_Mem → Prop} {X : Int → List Int → Prop} {W : Int → Nat} {s C0 C1 : Nat} {rs : List Rul} {S0 : List Atm} {lev : List Int → Nat} {μ : am_Mem} {m l : PM} {q T F G Tf Fn : Nat} {st L ch : List (List Cd)} {n r1 r3 L1 L3 : Nat}
theorem fcut_o {c : Nat} {j : Int} (h : (22 ≤ c ∧ c ≤ 61) ∨ (79 ≤ c) ∨ c = 70 ∨ (72 ≤ c ∧ c ≤ 75)) : ¬ WFc c j := by omega
theorem fcut_rn {c : Nat} {j : Int} (h : WFc c j) : WRn q c j := by omega
theorem gv_rn {c : Nat} {j : Int} (h : WGv c j) : WRn q c j := by omega
theorem k_workOut (hS : ShW s μ q) (hs : s = 22 ∨ s = 42) (hgo : GoS rs) (h : FxC X W s rs lev F G C0 m q T Fn S0 Tf) (k1 : am_kd μ r1 = (2, L1)) (k3 : am_kd μ r3 = (2, L3)) (b1 : L1 ≤ 1000) (b3 : L3 ≤ 1000) (hr1 : 94 ≤ r1 ∧ r1 < 185) (hr3 : 94 ≤ r3 ∧ r3 < 185) (hst : st.Nodup) (h60 : st.length ≤ 60) (hn1 : st.length ≤ L1) (hrow : RwC X q m T r1 0 st) (hLn : L.Nodup) (hL4 : L.length ≤ 4) (hLr : RwC X q m T 80 0 L) (hn : n ≤ L.length) (hn3 : n ≤ L3) (hcn : n ≤ ch.length) (hch : RwC X q m T r3 0 (ch.take n)) (ht : ∀ a, a ∈ baS st ++ baM L ch n → ∀ p, p ∈ a.2 → tlC p ≤ 48 ∧ NeC p) (hT : T ≤ C1 + 44 * (S0.length + st.length)) (hC : C1 + 45000 ≤ 58192)
    (hok : ∀ (μ' : am_Mem) (m' l' : PM) (q' T' : Nat) (L' : List Atm), EvG rs (baS st ++ baM L ch n) (S0 ++ L') → Ksw X (WRn q) T μ q m l μ' q' m' l' → T ≤ T' → CwW X W s rs m' q' T' (S0 ++ L') → FxC X W s rs lev F G C0 m' q' T' (S0 ++ L').length S0 Tf → (∀ a, a ∈ S0 ++ L' → ∀ p, p ∈ a.2 → tlC p ≤ 48 ∧ NeC p) → l' 70 16 = (smR (S0 ++ L') rs : Int) → Q (.inl none) (sA μ' m' l'))
    (hthr : ∀ (μ' : am_Mem) (m' l' : PM) (q' T' Fn' : Nat), (¬ ∃ S', EvG rs (baS st ++ baM L ch n) S') → Ksw X (WRn q) T μ q m l μ' q' m' l' → T ≤ T' → FxC X W s rs lev F G C0 m' q' T' Fn' S0 Tf → Q (.inr 3) (sA (am_nX μ') m' l')) :
    Wp (d + 14) 45 (0, [some (.ref 70), some (.ref r1), some (.int (zI (st.length : Int))), some (.ref r3), some (.int (zI (n : Int))), none, none], [], sA μ m l) Q := by
  obtain ⟨s1, s2, s3, s4, s5, s6⟩ := id hS
  obtain ⟨⟨x1, x2, x3, x3'⟩, x4, x5, ⟨x6, x6'⟩, x7, ⟨x8, x8'⟩, x9, x10, x11, x12, x13, x14⟩ := id h
  have hX := x1.2.1
  have hnm := q_n hS
  have hq := hS.2.2.1
  have hLv := x11.2.1
  have hlv2 := x11.2.2.1.1
  have hlv4 := x11.2.2.1.2
  have hx2 : X 2 (wdC.getD 2 []) := x1.2.2.1.2 2 (by decide)
  have hx4 : X 4 (wdC.getD 4 []) := x1.2.2.1.2 4 (by decide)
  have hW2 : W 2 = 1 := by
    rw [x3' _ _ hx2, wdt_own hgo (by decide)]
    decide
  have hW4 : W 4 = 2 := by
    rw [x3' _ _ hx4, wdt_own hgo (by decide)]
    decide
  have hbs : ∀ a, a ∈ baS st ++ baM L ch n → a.1 = wdC.getD 2 [] ∨ a.1 = wdC.getD 4 [] := fun a ha => by
    rcases List.mem_append.mp ha with ha | ha
    · exact Or.inl (baS_1 ha)
    · obtain ⟨r, _, e⟩ := List.mem_map.mp ha
      rw [← e]
      exact Or.inr rfl
  have hblv : ∀ a, a ∈ baS st ++ baM L ch n → lev a.1 = F + 1 := fun a ha => by
    rcases hbs a ha with e | e
    · rw [e]; exact hlv2
    · rw [e]; exact hlv4
  have hlow : ∀ a, a ∈ S0 → lev a.1 < F + 1 := fun a ha => (x10 a ha).1
  refine K45_0 (d := d + 10) s1 s2 (TQ_q s3) hs s5 k1 k3 b1 b3 ?_
  rw [x13]
  refine ⟨_, noX, k_fcut (M := S0.length) s1 x6 x6', fun μ' ho => ?_, fun _ _ z => z.elim⟩
  obtain ⟨m1, rfl, g1, g2⟩ := ho
  show Wp (d + 14) 45 (11, _, [], _) Q
  have cg1 : ∀ t cs, t < T → Cg X q m t cs → Cg X q m1 t cs := fun t cs ht h => CgR_cg (T := T) (fun t _ => ⟨g2 _ _ (fcut_o (by omega)), g2 _ _ (fcut_o (by omega)), fun i _ => g2 _ _ (fcut_o (by omega))⟩) _ t cs ht h
  have hC1 : CtT X q (tN q) (tS q) m1 T := CtT_fr (fun c j z => g2 c j (fcut_o (by omega))) x4
  have hF1 : FtS X q W m1 Tf S0 := fun i hi => by
    obtain ⟨a1, a2, a3, a4⟩ := x7 i hi
    rw [g2 72 _ (by omega)]
    refine ⟨a1, a2, a3, fun k hk => ?_⟩
    obtain ⟨u, b1, b2, b3⟩ := a4 k hk
    exact ⟨u, by rw [g2 73 _ (by omega)]; exact b1, b2, cg1 u _ (by omega) b3⟩
  have hx1 := FxC_st hS hs h (fun c j z => g2 c j (fcut_o (by omega))) (fun t cs z => cg1 t cs (by omega)) x8 hC1 g1 (Nat.le_refl _) hF1
  obtain ⟨⟨y1, y2, y3, y3'⟩, y4, y5, y6, y7, y8, y9, y10, y11, y12⟩ := id hx1
  have hW1 : CwW X W s rs m1 q T S0 := ⟨y1, y2, y3, hC1, fun k hk cs ht hg => by
    obtain ⟨u, a1, a2, a3⟩ := y5 k hk cs ht hg
    exact ⟨u, a1, by omega, a3⟩, g1, fun i hi => by
    obtain ⟨a1, a2, a3, a4⟩ := hF1 i hi
    refine ⟨a1, a2, a3, fun k hk => ?_⟩
    obtain ⟨u, b1, b2, b3⟩ := a4 k hk
    exact ⟨u, b1, by omega, b3⟩⟩
  have hI1 : GvI X W s rs lev F (baS st ++ baM L ch n) m1 m1 q T S0 := ⟨hW1, x9 _ hbs, fun _ _ _ z => z, fun _ _ _ => rfl⟩
  have kgv : ∀ {m2 : PM} {S : List Atm}, GvI X W s rs lev F (baS st ++ baM L ch n) m1 m2 q T S → Kst X (WRn q) T μ q m l μ q m2 l := fun hg => ⟨Gw_r, fun c j hc => ⟨fun hw => (hg.2.2.2 c j (fun z => hw (gv_rn z))).trans (g2 c j (fun z => hw (fcut_rn z))), rfl⟩, fun t cs ht z => hg.2.2.1 t cs ht (cg1 t cs ht z)⟩
  -- what a throw leaves
  have fin : ∀ {μ' : am_Mem} {m' l' : PM} {q' T' : Nat} {L' : List Atm}, Ksw X (WRn q) T μ q m l μ' q' m' l' → T ≤ T' → CwW X W s rs m' q' T' (S0 ++ L') → FxC X W s rs lev F G C0 m' q' T' (S0 ++ L').length S0 Tf := fun {μ' m' l' q' T' L'} hK hTT hW' => by
    have cg' : ∀ t cs, t < Tf → Cg X q m t cs → Cg X q' m' t cs := fun t cs ht z => hK.2.2 t cs (by omega) z
    exact FxC_st hS hs h (fun c j z => ((hK.2.1 c j (fx_o hS hs z).2).1 (fx_o hS hs z).1)) cg' (by omega) hW'.2.2.2.1 hW'.2.2.2.2.2.1 (by rw [List.length_append]; omega) (FtS_back hX hW'.2.2.2.1 x7 (by omega) cg' hW'.2.2.2.2.2.2)
  have thr0 : ∀ m2 S, (¬ ∃ S', EvG rs (baS st ++ baM L ch n) S') → GvI X W s rs lev F (baS st ++ baM L ch n) m1 m2 q T (S0 ++ S) → Q (.inr 3) (sA (am_nX μ) m2 l) := fun m2 S hno hg => hthr μ m2 l q T _ hno (Ksw_of (kgv hg)) (Nat.le_refl _) (fin (Ksw_of (kgv hg)) (Nat.le_refl _) hg.1)
  have hrow1 : RwC X q m1 T r1 0 st := RwC_st (Nat.le_refl _) (fun j _ _ => g2 _ _ (fcut_o (by omega))) cg1 hrow
  have hLr1 : RwC X q m1 T 80 0 L := RwC_st (Nat.le_refl _) (fun j _ _ => g2 _ _ (fcut_o (by omega))) cg1 hLr
  have hch1 : RwC X q m1 T r3 0 (ch.take n) := RwC_st (Nat.le_refl _) (fun j _ _ => g2 _ _ (fcut_o (by omega))) cg1 hch
  refine K45_11 (d := d + 10) s1 s2 (TQ_q s3) hs s5 k1 k3 b1 b3 ?_
  refine wk_14 (d := d + 10) (F := F) (S0 := S0) (lev := lev) (m0 := m1) hS hs k1 k3 b1 b3 hr1.1 hLv hlv2 hlow hx2 hW2 hst h60 hn1 hrow1 (fun m2 hg2 => ?_) thr0 st.length 0 m1 (by omega) (by
    rw [List.take_zero, show baS [] = [] from rfl, List.append_nil]
    exact hI1)
  refine wk_51 (d := d + 10) (F := F) (S0 := S0) (lev := lev) (m0 := m1) hS hs k1 k3 b1 b3 hr1.1 hr3.1 hLv hlv4 hlow hx4 hW4 hLn hn hL4 hn3 hLr1 hch1 hcn (fun m3 hg3 => ?_) thr0 n 0 m2 (by omega) hg2
  have e18 : m3 s 18 = (F : Int) := (hg3.2.2.2 _ _ (by omega)).trans y11.1.2.1
  rw [e18]
  have hG3 : Grp s rs m3 lev F G := Grp_cg (fun c j a1 a2 => hg3.2.2.2 c j (by omega)) y11
  have hBl : ∀ B', B' = baS st ++ baM L ch n → ∀ a, a ∈ B' → lev a.1 = F + 1 := fun B' e a ha => by
    rw [e] at ha
    exact hblv a ha
  have hSn : (S0 ++ (baS st ++ baM L ch n)).length = S0.length + (st.length + n) := by
    rw [List.length_append, List.length_append, baS_l, baM_l]
  have hE3 : EvC X W s rs (fun B' => B' = baS st ++ baM L ch n) lev (F + 2) C1 m3 q T (S0 ++ (baS st ++ baM L ch n)) := by
    refine ⟨hg3.1, ⟨⟨_, rfl⟩, fun B' e => ?_⟩, fun a ha => ?_, by rw [hSn]; omega⟩
    · rw [e]
      refine Prt_up hg3.2.1 (fun ru hru hl => ?_) (fun a ha _ => List.mem_append_right _ ha)
      obtain ⟨r, hr, er⟩ := (mem_gD rs ruD _).mp hru
      obtain ⟨g, _, hgl⟩ := (x11.2.2.2.1 r hr).2
      rw [er] at hgl
      exact absurd (hgl.symm.trans hl) lvl_0.2
    · rcases List.mem_append.mp ha with ha | ha
      · exact ⟨by have := (x10 a ha).1; omega, (x10 a ha).2⟩
      · exact ⟨by rw [hblv a ha]; omega, ht a ha⟩
  have hK3 := kgv hg3
  refine wk_111 (d := d) (S0 := S0) (B := fun B' => B' = baS st ++ baM L ch n) hs hgo hC hS x11 hBl hr1.2 hr3.2 k1 k3 b1 b3 (fun μ4 m4 l4 q4 T4 L4 o6 hK4 hT4 hE4 => ?_) (fun μ4 m4 l4 q4 T4 L4 hno hK4 hT4 hW4' => ?_) (G - F) F μ m3 l q T (baS st ++ baM L ch n) none (by have := x11.1.2.2.1; omega) (Nat.le_refl _) hK3 (Nat.le_refl _) hE3 (fun a ha => ?_)
  · -- the rooms
    have hS4 := Gw_S hS hK4.1
    obtain ⟨t1, t2, t3, t4, t5, t6⟩ := id hS4
    obtain ⟨a1, a2⟩ := hG3.1
    have e17 : m4 s 17 = (G : Int) := ((hK4.2.1 _ _ (rn_o (j := 17) hS hs (Or.inl ⟨Nat.le_refl _, by omega⟩)).2).1 (rn_o hS hs (Or.inl ⟨Nat.le_refl _, by omega⟩)).1).trans x11.1.1
    have kd4 : am_kd μ4 r1 = (2, L1) ∧ am_kd μ4 r3 = (2, L3) := by
      rcases hK4.1 with ⟨e, _⟩ | ⟨e, _⟩
      · rw [e]; exact ⟨k1, k3⟩
      · rw [e, grM_k (by omega), grM_k (by omega)]; exact ⟨k1, k3⟩
    have hP4 := hE4.2.1.2 _ rfl
    have e60 := x11.1.2.2.2
    refine K45_111 (d := d + 10) t1 t2 (TQ_q t3) hs t5 kd4.1 kd4.2 b1 b3 ?_
    rw [e17]
    refine ⟨⟨by omega, by omega⟩, ⟨by omega, by omega⟩, fun _ l5 e5 => ?_, fun z => absurd (Int.le_refl _) z⟩
    have ksw : ∀ {l6 : PM}, (∀ c j, ¬ (c = 70 ∧ j = 16) → l6 c j = l5 c j) → Ksw X (WRn q) T μ q m l μ4 q4 m4 l6 := fun {l6} f => ⟨hK4.1, fun c j hc => ⟨(hK4.2.1 c j hc).1, fun hl => (f c j hl).trans ((by rw [e5, up_o hl] : l5 c j = l4 c j).trans (hK4.2.1 c j hc).2)⟩, hK4.2.2⟩
    refine wk_160 (d := d + 10) (l0 := l5) hS4 hs kd4.1 kd4.2 b1 b3 hE4.1 (fun l6 e16 f6 hrm => ?_) (fun l6 f6 hbig => ?_) rs.length 0 l5 (by omega) (by rw [e5, up_s]; rfl) (fun _ _ _ => rfl) (fun r hr => absurd hr (Nat.not_lt_zero r))
    · refine hok μ4 m4 l6 q4 T4 L4 ?_ (ksw f6) hT4 hE4.1 (fin (ksw f6) hT4 hE4.1) (fun a ha => (hE4.2.2.1 a ha).2) e16
      refine Prt_end hP4 (fun ru hru => ?_) (fun a ha => ?_) hE4.1.2.2.2.2.2.1.2.1 (fun a ha p hp => ((hE4.2.2.1 a ha).2 p hp).1) hrm
      · obtain ⟨r, hr, er⟩ := (mem_gD rs ruD _).mp hru
        obtain ⟨g, hg, hgl⟩ := (x11.2.2.2.1 r hr).2
        rw [er] at hgl
        rw [hgl]
        unfold lvl
        split <;> omega
      · rcases hP4.1 a ha with z | z
        · exact z
        · have := hblv a ha
          have := x11.1.2.2.1
          omega
    · obtain ⟨ru, hru, hgt⟩ := hbig
      exact hthr μ4 m4 l6 q4 T4 _ (Prt_room hLv hP4 hru hgt) (ksw f6) hT4 (fin (ksw f6) hT4 hE4.1)
  · exact hthr μ4 m4 l4 q4 T4 _ (hno _ rfl) (Ksw_of hK4) hT4 (fin (Ksw_of hK4) hT4 hW4')
  · rcases List.mem_append.mp ha with ha | ha
    · have := hlow a ha; omega
    · have := hblv a ha; omega
end CWQ
