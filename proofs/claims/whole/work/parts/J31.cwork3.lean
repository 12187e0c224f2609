/-! ===== the class at work: workOut whole ===== -/
/-- lists of given atoms -/
def BsP (B' : List Atm) : Prop := ∀ a, a ∈ B' → a.1 = wdC.getD 2 [] ∨ a.1 = wdC.getD 4 []
/-- the class's model with what is fixed: T terms, Fn facts; S0 is fixed, up to term Tf -/
def FxC (X : Int → List Int → Prop) (W : Int → Nat) (s : Nat) (rs : List Rul) (lev : List Int → Nat) (F G C0 : Nat) (m : PM) (q T Fn : Nat) (S0 : List Atm) (Tf : Nat) : Prop := (KV X s m rs ∧ (∀ x w, X x w → m (s + 4) (x + 1) - m (s + 4) x = (w.length : Int)) ∧ WdO X W rs ∧ ∀ x w, X x w → W x = wdt rs w) ∧ CtT X q (tN q) (tS q) m T ∧ GrI X q s m Tf (m s 6).toNat ∧ (FtI W m Fn ∧ S0.length ≤ Fn) ∧ FtS X q W m Tf S0 ∧ (Tf ≤ T ∧ Tf ≤ C0 + 44 * S0.length) ∧ (∀ B', BsP B' → Prt rs B' lev (F + 1) S0) ∧ (∀ a, a ∈ S0 → lev a.1 < F + 1 ∧ ∀ p, p ∈ a.2 → tlC p ≤ 48 ∧ NeC p) ∧ Grp s rs m lev F G ∧ (m 70 12 = 1 ∧ m 70 13 = (S0.length : Int) ∧ m 70 14 = (Tf : Int))
section CWP
variable {d : Nat} {Q : Option Value ⊕ Nat → am_Mem → Prop} {X : Int → List Int → Prop} {W : Int → Nat} {s C0 C1 : Nat} {rs : List Rul} {B : List Atm → Prop} {S S0 : List Atm} {lev : List Int → Nat} {μ : am_Mem} {m l : PM} {q T F G Tf Fn : Nat} {st L ch : List (List Cd)} {n r1 r3 L1 L3 : Nat}
theorem FtS_back {m' : PM} {q' T' N SS : Nat} {L' : List Atm} (hX : XP X) (hC : CtT X q' N SS m' T') (h0 : FtS X q W m Tf S0) (hT : Tf ≤ T') (cg : ∀ t cs, t < Tf → Cg X q m t cs → Cg X q' m' t cs) (h' : FtS X q' W m' T' (S0 ++ L')) : FtS X q' W m' Tf S0 := fun i hi => by
  obtain ⟨a1, a2, a3, a4⟩ := h' i (by rw [List.length_append]; omega)
  obtain ⟨b1, b2, b3, b4⟩ := h0 i hi
  have e : (S0 ++ L').getD i ([], []) = S0.getD i ([], []) := by rw [List.getD_eq_getElem?_getD, List.getElem?_append_left hi, ← List.getD_eq_getElem?_getD]
  rw [e] at a1 a2 a3 a4
  refine ⟨a1, a2, a3, fun k hk => ?_⟩
  obtain ⟨u', c1, c2, c3⟩ := a4 k hk
  obtain ⟨u, d1, d2, d3⟩ := b4 k hk
  have eu := Cg_in hX hC.2.1 c2 (by omega) c3 (cg u _ d2 d3)
  exact ⟨u', c1, by omega, c3⟩
theorem FxC_st {m' : PM} {q' T' Fn' : Nat} (hS : ShW s μ q) (hs : s = 22 ∨ s = 42) (h : FxC X W s rs lev F G C0 m q T Fn S0 Tf) (k0 : ∀ c j, (s ≤ c ∧ c ≤ s + 19) ∨ c = 81 ∨ (c = 70 ∧ 12 ≤ j ∧ j ≤ 14) → m' c j = m c j) (cg : ∀ t cs, t < Tf → Cg X q m t cs → Cg X q' m' t cs) (hT : Tf ≤ T') (hC : CtT X q' (tN q') (tS q') m' T') (hF : FtI W m' Fn') (hle : S0.length ≤ Fn') (hFS : FtS X q' W m' Tf S0) : FxC X W s rs lev F G C0 m' q' T' Fn' S0 Tf := by
  obtain ⟨⟨h1, h2, h3, h3'⟩, h4, h5, h6, h7, h8, h9, h10, h11, h12, h13, h14⟩ := h
  refine ⟨⟨KV_cg (fun c j z => k0 c j (by omega)) h1, fun x w hx => ?_, h3, h3'⟩, hC, fun k hk cs ht hg => ?_, ⟨hF, hle⟩, hFS, ⟨hT, h8.2⟩, h9, h10, Grp_cg (fun c j a1 a2 => k0 c j (Or.inl ⟨a1, a2⟩)) h11, by rw [k0 _ _ (by omega)]; exact h12, by rw [k0 _ _ (by omega)]; exact h13, by rw [k0 _ _ (by omega)]; exact h14⟩
  · rw [k0 _ _ (by omega), k0 _ _ (by omega)]
    exact h2 x w hx
  · rw [k0 s 6 (by omega)] at hk
    have ht' := TcR_cg (m' := m) (fun _ _ z => z) 11 k cs (fun i _ _ => ⟨(k0 _ _ (by omega)).symm, (k0 _ _ (by omega)).symm, (k0 _ _ (by omega)).symm, (k0 _ _ (by omega)).symm⟩) (fun i _ _ => (k0 _ _ (by omega)).symm) ht
    obtain ⟨u, a1, a2, a3⟩ := h5 k hk cs ht' hg
    exact ⟨u, by rw [k0 _ _ (by omega)]; exact a1, a2, cg u cs a2 a3⟩
theorem fx_o (hS : ShW s μ q) (hs : s = 22 ∨ s = 42) {c : Nat} {j : Int} (h : (s ≤ c ∧ c ≤ s + 19) ∨ c = 81 ∨ (c = 70 ∧ 12 ≤ j ∧ j ≤ 14)) : ¬ WRn q c j ∧ c < am_n μ := by
  have := q_n hS
  omega
/-- the rooms are summed up -/
theorem wk_160 {l0 : PM} {o6 : Option Value} (hS : ShW s μ q) (hs : s = 22 ∨ s = 42) (k1 : am_kd μ r1 = (2, L1)) (k3 : am_kd μ r3 = (2, L3)) (b1 : L1 ≤ 1000) (b3 : L3 ≤ 1000) (hW : CwW X W s rs m q T S)
    (hok : ∀ l' : PM, l' 70 16 = (smR S rs : Int) → (∀ c j, ¬ (c = 70 ∧ j = 16) → l' c j = l0 c j) → (∀ ru, ru ∈ rs → rmA S ru ≤ 300000) → Q (.inl none) (sA μ m l'))
    (hthr : ∀ l' : PM, (∀ c j, ¬ (c = 70 ∧ j = 16) → l' c j = l0 c j) → (∃ ru, ru ∈ rs ∧ 300000 < rmA S ru) → Q (.inr 3) (sA (am_nX μ) m l')) :
    ∀ (f i : Nat) (l1 : PM), i + f = rs.length → l1 70 16 = (smR S (rs.take i) : Int) → (∀ c j, ¬ (c = 70 ∧ j = 16) → l1 c j = l0 c j) → (∀ r, r < i → rmA S (rs.getD r ruD) ≤ 300000) → Wp (d + 4) 45 (160, wkF r1 r3 st.length n (i : Int) o6, [], sA μ m l1) Q := by
  obtain ⟨s1, s2, s3, s4, s5, s6⟩ := id hS
  obtain ⟨n13, n60, n0, n1000⟩ := KV_n hW.1
  intro f
  induction f with
  | zero =>
    intro i l1 hi e16 fr hr
    have ei : i = rs.length := by omega
    refine K45_160 s1 s2 (TQ_q s3) hs s5 k1 k3 b1 b3 ⟨⟨by omega, by omega⟩, by rw [n13]; exact ⟨by omega, by omega⟩, fun _ => hok l1 ?_ fr (fun ru hru => ?_), fun z => absurd (by rw [n13]; omega) z⟩
    · rw [ei, List.take_length] at e16
      exact e16
    · obtain ⟨r, r1, r2⟩ := (mem_gD rs ruD _).mp hru
      rw [← r2]
      exact hr r (by omega)
  | succ f ih =>
    intro i l1 hi e16 fr hr
    have hil : i < rs.length := by omega
    refine K45_160 s1 s2 (TQ_q s3) hs s5 k1 k3 b1 b3 ⟨⟨by omega, by omega⟩, by rw [n13]; exact ⟨by omega, by omega⟩, fun z => absurd z (by rw [n13]; omega), fun _ => ⟨fun x' μ' => Wp (d + 4) 45 (183, wkF r1 r3 st.length n (i : Int) o6, [.long x', .long (zL (l1 70 16)), .ref 70], μ') Q, fun x μ' => Q (.inr x) μ', ?_, fun _ _ z => z, fun _ _ z => z⟩⟩
    refine k_roomR (d := d + 2) hS hs hW hil (fun hle => ?_) (fun hgt => hthr l1 fr ⟨_, (mem_gD rs ruD _).mpr ⟨i, hil, rfl⟩, hgt⟩)
    show Wp (d + 4) 45 (183, _, [.long _, .long _, .ref 70], _) Q
    refine K45_183 s1 s2 (TQ_q s3) hs s5 k1 k3 b1 b3 (fun l2 e2 => ?_)
    have z := ih (i + 1) l2 (by omega) (by rw [e2, up_s, e16, smR_t hil]; omega) (fun c j z => by rw [e2, up_o z]; exact fr c j z) (fun r h => by
      by_cases y : r = i
      · rw [y]; exact hle
      · exact hr r (by omega))
    rw [show ((i + 1 : Nat) : Int) = (i : Int) + 1 by omega] at z
    exact z
/-- the groups behind what is fixed -/
theorem wk_111 (hs : s = 22 ∨ s = 42) (hgo : GoS rs) (hC : C1 + 45000 ≤ 58192) (hS : ShW s μ q) (hG : Grp s rs m lev F G) (hB : ∀ B', B B' → ∀ a, a ∈ B' → lev a.1 = F + 1) (hr1 : r1 < 185) (hr3 : r3 < 185) (k1 : am_kd μ r1 = (2, L1)) (k3 : am_kd μ r3 = (2, L3)) (b1 : L1 ≤ 1000) (b3 : L3 ≤ 1000)
    (hok : ∀ (μ' : am_Mem) (m' l' : PM) (q' T' : Nat) (L' : List Atm) (o6 : Option Value), Kst X (WRn q) T μ q m l μ' q' m' l' → T ≤ T' → EvC X W s rs B lev (G + 2) C1 m' q' T' (S0 ++ L') → Wp (d + 14) 45 (111, wkF r1 r3 st.length n (G : Int) o6, [], sA μ' m' l') Q)
    (hthr : ∀ (μ' : am_Mem) (m' l' : PM) (q' T' : Nat) (L' : List Atm), (∀ B', B B' → ¬ ∃ S', EvG rs B' S') → Kst X (WRn q) T μ q m l μ' q' m' l' → T ≤ T' → CwW X W s rs m' q' T' (S0 ++ L') → Q (.inr 3) (sA (am_nX μ') m' l')) :
    ∀ (f g : Nat) (μ1 : am_Mem) (m1 l1 : PM) (q1 T1 : Nat) (L1' : List Atm) (o6 : Option Value), g + f = G → F ≤ g → Kst X (WRn q) T μ q m l μ1 q1 m1 l1 → T ≤ T1 → EvC X W s rs B lev (g + 2) C1 m1 q1 T1 (S0 ++ L1') → (∀ a, a ∈ S0 ++ L1' → lev a.1 < g + 2) → Wp (d + 14) 45 (111, wkF r1 r3 st.length n (g : Int) o6, [], sA μ1 m1 l1) Q := by
  obtain ⟨⟨g1, g2, g3, g4⟩, hL, _⟩ := id hG
  have hnm := q_n hS
  have fS : ∀ {μ1 : am_Mem} {m1 l1 : PM} {q1 : Nat}, Kst X (WRn q) T μ q m l μ1 q1 m1 l1 → ∀ c j, s ≤ c → c ≤ s + 19 → m1 c j = m c j := fun h c j a1 a2 => (h.2.1 c j (rn_o (j := j) hS hs (Or.inl ⟨a1, a2⟩)).2).1 (rn_o (j := j) hS hs (Or.inl ⟨a1, a2⟩)).1
  have kd1 : ∀ {μ1 : am_Mem} {q1 : Nat}, Gw μ q μ1 q1 → am_kd μ1 r1 = (2, L1) ∧ am_kd μ1 r3 = (2, L3) := fun h => by
    rcases h with ⟨e, _⟩ | ⟨e, _⟩
    · rw [e]; exact ⟨k1, k3⟩
    · rw [e, grM_k (by omega), grM_k (by omega)]; exact ⟨k1, k3⟩
  intro f
  induction f with
  | zero =>
    intro g μ1 m1 l1 q1 T1 L1' o6 hf hFg hK hT hE1 hlow
    have hg : g = G := by omega
    rw [hg] at hE1 ⊢
    exact hok μ1 m1 l1 q1 T1 L1' o6 hK hT hE1
  | succ f ih =>
    intro g μ1 m1 l1 q1 T1 L1' o6 hf hFg hK hT hE1 hlow
    have hS1 := Gw_S hS hK.1
    obtain ⟨t1, t2, t3, t4, t5, t6⟩ := id hS1
    have e17 : m1 s 17 = (G : Int) := (fS hK _ _ (by omega) (by omega)).trans g1
    have e7 := hE1.1.2.2.2.2.2.1.1
    have hlv : lvl F g = g + 2 := lvl_g (by omega)
    have hG1 := Grp_cg (fS hK) hG
    refine K45_111 (d := d + 10) t1 t2 (TQ_q t3) hs t5 (kd1 hK.1).1 (kd1 hK.1).2 b1 b3 ?_
    rw [e17, e7]
    refine ⟨⟨by omega, by omega⟩, ⟨by omega, by omega⟩, fun z => absurd z (by omega), fun _ => ⟨fun μ' => Wp (d + 14) 45 (138, wkF r1 r3 st.length n (g : Int) (some (.int (zI ((S0 ++ L1').length : Int)))), [], μ') Q, fun x μ' => Q (.inr x) μ', ?_, fun _ z => z, fun _ _ z => z⟩⟩
    refine k_runPlain hs hgo hC hS1 hG1 (by omega) hlv hE1 (fun μ2 m2 l2 q2 T2 S2 h2 d2 => ?_) (fun μ2 m2 l2 q2 T2 S2 h2 => ?_)
    · show Wp (d + 14) 45 (138, _, [], _) Q
      have hS2 := Gw_S hS1 h2.1.1
      obtain ⟨u1, u2, u3, u4, u5, u6⟩ := id hS2
      have hK2 := Kst_t hS hT (fun _ _ _ z => z) (rn_i hS hK.1) hK h2.1
      have hT2 : T ≤ T2 := Nat.le_trans hT h2.2.1
      refine K45_138 (d := d + 10) u1 u2 (TQ_q u3) hs u5 (kd1 hK2.1).1 (kd1 hK2.1).2 b1 b3 ⟨fun μ' => Wp (d + 14) 45 (146, wkF r1 r3 st.length n (g : Int) (some (.int (zI ((S0 ++ L1').length : Int)))), [], μ') Q, fun x μ' => Q (.inr x) μ', ?_, fun _ z => z, fun _ _ z => z⟩
      refine k_runRec hs hgo hC hS2 (Grp_cg (fS hK2) hG) (by omega) hlv h2.2.2.1 h2.2.2.2 hlow (fun μ3 m3 l3 q3 T3 S3 h3 d3 => ?_) (fun μ3 m3 l3 q3 T3 S3 h3 => ?_)
      · show Wp (d + 14) 45 (146, _, [], _) Q
        have hS3 := Gw_S hS2 h3.1.1
        obtain ⟨r1', r2', r3', r4', r5', r6'⟩ := id hS3
        have hK3 := Kst_t hS hT2 (fun _ _ _ z => z) (rn_i hS hK2.1) hK2 h3.1
        have hE3 := gr_up (F := F) hL (by omega) hB h3.2.2.1 h3.2.2.2 d2 d3
        obtain ⟨La, ea, _⟩ := ExS_t h2.2.2.2 h3.2.2.2
        rw [List.append_assoc] at ea
        rw [ea] at hE3
        have z := ih (g + 1) μ3 m3 l3 q3 T3 (L1' ++ La) (some (.int (zI ((S0 ++ L1').length : Int)))) (by omega) (by omega) hK3 (Nat.le_trans hT2 h3.2.1) hE3 (fun a ha => by
          rw [← ea] at ha
          exact Nat.lt_succ_of_le (h3.2.2.1.2.2.1 a ha).1)
        rw [show ((g + 1 : Nat) : Int) = (g : Int) + 1 by omega] at z
        exact K45_146 (d := d + 10) r1' r2' (TQ_q r3') hs r5' (kd1 hK3.1).1 (kd1 hK3.1).2 b1 b3 z
      · obtain ⟨c1, c2, c3, c4, c5, c6⟩ := h3
        obtain ⟨La, ea, _⟩ := ExS_t h2.2.2.2 c5
        rw [List.append_assoc] at ea
        rw [ea] at c6
        exact hthr μ3 m3 l3 q3 T3 _ c1 (Kst_t hS hT2 (fun _ _ _ z => z) (rn_i hS hK2.1) hK2 c2) (Nat.le_trans hT2 c3) c6
    · obtain ⟨c1, c2, c3, c4, c5, c6⟩ := h2
      obtain ⟨La, ea, _⟩ := c5
      rw [List.append_assoc] at ea
      rw [ea] at c6
      exact hthr μ2 m2 l2 q2 T2 _ c1 (Kst_t hS hT (fun _ _ _ z => z) (rn_i hS hK.1) hK c2) (Nat.le_trans hT c3) c6
end CWP
