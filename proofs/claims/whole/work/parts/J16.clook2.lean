/-! ===== the class at work: lookUp ===== -/
section CLU
variable {d : Nat} {μ : am_Mem} {m l : PM} {Q : Option Value ⊕ Nat → am_Mem → Prop} {X : Int → List Int → Prop} {W : Int → Nat} {q s T : Nat} {rs : List Rul} {S : List Atm}
theorem lu_st {c : Nat} {j : Int} {N P SS : Nat} (hq : TQ q N P SS) (hs : s = 22 ∨ s = 42) (h : (s ≤ c ∧ c ≤ s + 19) ∨ c = 81 ∨ (72 ≤ c ∧ c ≤ 78) ∨ (c = 71 ∧ j = 7) ∨ c = 83 ∨ c = 80) : ¬ WBd q T c j ∧ ¬ (c = q + 7 ∨ (c = 84 ∧ j = 9)) ∧ c < 185 := by omega
theorem lu_fr {c q1 n : Nat} {j : Int} (hq : q1 = q ∨ (q = 85 ∧ q1 = n)) (hc : c < n) (h : ¬ WLu q c j) : ¬ WBd q1 T c j ∧ ¬ (c = q1 + 7 ∨ (c = 84 ∧ j = 9)) := by omega
theorem lu_tm {N P SS : Nat} (hq : TQ q N P SS) {t : Int} {c : Nat} (hc : c = q ∨ c = q + 1 ∨ c = q + 2 ∨ c = q + 3) : ¬ (c = q + 7 ∨ (c = 84 ∧ t = 9)) := by omega
theorem k_lookUp {k : Nat} {w : List Int} {ps : List (List Cd)} {b : Nat → Option (List Cd)} (hS : ShW s μ q) (hs : s = 22 ∨ s = 42) (hW : CwW X W s rs m q T S) (hk : (k : Int) < m s 6) (hlow : 0 ≤ (k : Int) - (ps.flatten.length : Int)) (hnd : NdC X s 11 m k (fun x => X x w) ps) (hWd : ∀ x, X x w → W x = ps.length) (hb : BdC X q m T b) (hbd : bdC b ps.flatten) (hT : T + 1000 ≤ 58192)
    (hok : ∀ (μ' : am_Mem) (m' l' : PM) (q' : Nat), Kst X (WLu q) T μ q m l μ' q' m' l' → CwW X W s rs m' q' T S → (∀ f : Nat, f < S.length → S.getD f ([], []) = (w, ps.map (sbC (fulB b))) → Q (.inl (some (.int (zI (f : Int))))) (sA μ' m' l')) ∧ ((¬ (w, ps.map (sbC (fulB b))) ∈ S) → Q (.inl (some (.int (zI (-1))))) (sA μ' m' l'))) :
    Wp (d + 3) 42 (0, [some (.ref 70), some (.int (zI (k : Int))), none, none], [], sA μ m l) Q := by
  obtain ⟨s1, s2, s3, s4, s5, s6⟩ := id hS
  obtain ⟨w1, w2, w3, w4, w5, w6, w7⟩ := id hW
  obtain ⟨n13, n60, n0, n1000⟩ := KV_n w1
  have hX := w1.2.1
  have hX2 := w1.2.2.1.1
  obtain ⟨n, en⟩ : ∃ n : Nat, m s 6 = (n : Int) := ⟨(m s 6).toNat, by omega⟩
  have en' : (m s 6).toNat = n := by omega
  have hn : n ≤ 1000 := by omega
  have hkn : k < n := by omega
  have e9 := w4.1.1
  refine K42_0 s1 s2 (TQ_q s3) hs s5 ?_
  rw [en, e9]
  refine ⟨fun μ' => Wp (d + 3) 42 (22, [some (.ref 70), some (.int (zI (k : Int))), some (.int (zI (T : Int))), none], [], μ') Q, noX, ?_, fun _ z => z, fun _ _ z => z.elim⟩
  refine k_reserve hS w4 (by omega) (fun μ1 m1 l1 q1 G1 C1 r1 f1 cg1 => ?_)
  show Wp (d + 3) 42 (22, _, [], _) Q
  have hS1 := Gw_S hS G1
  obtain ⟨t1, t2, t3, t4, t5, t6⟩ := id hS1
  have hq1 := TQ_q t3
  have gq := (Gw_q hS G1).1
  have sm : ∀ c j, c < 185 → m1 c j = m c j := fun c j hc => (f1 c j (by omega)).1
  have hW1 : CwW X W s rs m1 q1 T S := CwW_st hs hW C1 (Nat.le_refl _) (fun c j a1 a2 => sm c j (by omega)) (fun j => sm _ j (by decide)) (fun c j z => sm c j (by omega)) cg1
  obtain ⟨v1, v2, v3, v4, v5, v6, v7⟩ := id hW1
  have hnd1 : NdC X s 11 m1 k (fun x => X x w) ps := by
    obtain ⟨b1, b2, b3, b4, b5, b6⟩ := hnd
    refine ⟨by rw [sm _ _ (by omega)]; exact b1, by rw [sm _ _ (by omega)]; exact b2, by rw [sm _ _ (by omega)]; exact b3, by rw [sm _ _ (by omega)]; exact b4, b5, ?_⟩
    exact PcR_fr (fun i hi => sm _ _ (by omega)) (fun i _ hi => ⟨sm _ _ (by omega), sm _ _ (by omega), sm _ _ (by omega), sm _ _ (by omega)⟩) (fun i _ hi => sm _ _ (by omega)) b6
  have hb1 : BdC X q1 m1 T b := fun v cs hv => by
    obtain ⟨a1, u, a2, a3, a4⟩ := hb v cs hv
    exact ⟨a1, u, by rw [sm _ _ (by decide)]; exact a2, a3, cg1 u cs a3 a4⟩
  have e6 : m1 s 6 = (n : Int) := by rw [sm _ _ (by omega)]; exact en
  have hG1 : GrI X q1 s m1 T n := by
    have z := v5
    rw [show (m1 s 6).toNat = n by omega] at z
    exact z
  refine K42_22 t1 t2 hq1 hs t5 ⟨fun μ' => Wp (d + 3) 42 (27, [some (.ref 70), some (.int (zI (k : Int))), some (.int (zI (T : Int))), none], [], μ') Q, noX, ?_, fun _ z => z, fun _ _ z => z.elim⟩
  have hfl : ps.flatten.length ≤ n := by omega
  refine k_build t1 t2 hq1 hs t5 t6 hX hX2 v2 hkn hn hlow hnd1 v4 hG1 hb1 hbd (by omega) (fun m2 T2 a1 a2 a3 a4 a5 f2 => ?_)
  show Wp (d + 3) 42 (27, _, [], _) Q
  have hT2 := a3.1.2.1
  have h58 := tN_le q1
  have cg2 : ∀ t cs, t < T → Cg X q1 m1 t cs → Cg X q1 m2 t cs := fun t cs ht h => Cg_wb hq1 f2 ht h
  have hW2 : CwW X W s rs m2 q1 T2 S := CwW_st hs hW1 a3 a1 (fun c j z1 z2 => f2 c j (lu_st hq1 hs (Or.inl ⟨z1, z2⟩)).1) (fun j => f2 _ j (lu_st hq1 hs (Or.inr (Or.inl rfl))).1) (fun c j z => f2 c j (lu_st hq1 hs (by omega)).1) cg2
  have e6' : m2 (s + 6) (k : Int) = m1 (s + 6) (k : Int) := f2 _ _ (lu_st hq1 hs (by omega)).1
  have e7' : m2 (s + 7) (k : Int) = (ps.length : Int) := (f2 _ _ (lu_st hq1 hs (by omega)).1).trans hnd1.2.1
  have hx : X (m2 (s + 6) (k : Int)) w := by rw [e6']; exact hnd1.1
  have hx0 := (hX.1 _ _ hx).1
  have hx1 := hX2 _ _ hx
  have el : (ps.map (sbC (fulB b))).length = ps.length := List.length_map ..
  have row : ∀ j : Nat, j < (ps.map (sbC (fulB b))).length → ∃ u : Nat, m2 79 (j : Int) = (u : Int) ∧ u < T2 ∧ Cg X q1 m2 u ((ps.map (sbC (fulB b))).getD j []) := fun j hj => by
    rw [el] at hj
    obtain ⟨u, c1, c2, c3⟩ := a4 j hj
    refine ⟨u, c1, c2, ?_⟩
    rw [List.getD_eq_getElem?_getD, List.getElem?_map, List.getElem?_eq_getElem hj]
    rw [List.getD_eq_getElem?_getD, List.getElem?_eq_getElem hj] at c3
    exact c3
  have rowb : ∀ j : Nat, j < ps.length → 0 ≤ m2 79 (j : Int) ∧ m2 79 (j : Int) < 100000 := fun j hj => by
    obtain ⟨u, c1, c2, _⟩ := a4 j hj
    omega
  have iff : ∀ f, f < S.length → (isF m2 f (m2 (s + 6) (k : Int)) (sl (m2 79) 0 ps.length) ↔ S.getD f ([], []) = (w, ps.map (sbC (fulB b)))) := fun f hf => by
    have z := isF_iff (qs := ps.map (sbC (fulB b))) hX hW2.2.2.2.1 hW2.2.2.2.2.2.2 hf hx (by rw [el]; exact hWd _ hx) row
    rw [el] at z
    exact z
  refine K42_27 t1 t2 hq1 hs t5 ⟨⟨by omega, by omega⟩, ?_⟩
  rw [e7']
  have fin : ∀ y : Int, iR y → (∀ (μ' : am_Mem) (m' l' : PM) (q' : Nat), Kst X (WLu q) T μ q m l μ' q' m' l' → CwW X W s rs m' q' T S → Q (.inl (some (.int (zI y)))) (sA μ' m' l')) → Wp (d + 3) 42 (52, [some (.ref 70), some (.int (zI (k : Int))), some (.int (zI (T : Int))), none], [.int (zI y)], sA μ1 m2 l1) Q := by
    intro y hy hfin
    refine K42_52 t1 t2 hq1 hs t5 ⟨_, noX, k_tcut (d := d + 2) (M := T) t1 t2 hq1 a3.1 a1, fun μ' ho => ?_, fun _ _ z => z.elim⟩
    · obtain ⟨m3, rfl, g1, g2⟩ := ho
      show Wp (d + 3) 42 (61, _, [], _) Q
      refine K42_61 t1 t2 hq1 hs t5 ?_
      have C3 : CtT X q1 (tN q1) (tS q1) m3 T := CtT_cg (P := 4 * tN q1) a1 a3 g1 (fun c j z => g2 c j (lu_tm hq1 z))
      have cg3 : ∀ t cs, t < T → Cg X q1 m2 t cs → Cg X q1 m3 t cs := fun t cs ht h => CgR_cg (T := T) (fun t _ => ⟨g2 _ _ (lu_tm hq1 (by omega)), g2 _ _ (lu_tm hq1 (by omega)), fun i _ => g2 _ _ (lu_tm hq1 (by omega))⟩) _ t cs ht h
      have f3 : ∀ c j, (s ≤ c ∧ c ≤ s + 19) ∨ c = 81 ∨ (72 ≤ c ∧ c ≤ 78) ∨ (c = 71 ∧ j = 7) ∨ c = 83 ∨ c = 80 → m3 c j = m1 c j := fun c j z => (g2 c j (lu_st (T := T) hq1 hs z).2.1).trans (f2 c j (lu_st hq1 hs z).1)
      refine hfin μ1 m3 l1 q1 ⟨G1, fun c j hc => ⟨fun hw => ?_, (f1 c j hc).2⟩, fun t cs ht h => cg3 t cs ht (cg2 t cs ht (cg1 t cs ht h))⟩ (CwW_st hs hW1 C3 (Nat.le_refl _) (fun c j z1 z2 => f3 c j (Or.inl ⟨z1, z2⟩)) (fun j => f3 _ j (Or.inr (Or.inl rfl))) (fun c j z => f3 c j (by omega)) (fun t cs ht h => cg3 t cs ht (cg2 t cs ht h)))
      have z := lu_fr (T := T) gq hc hw
      exact (g2 c j z.2).trans ((f2 c j z.1).trans (f1 c j hc).1)
  have hSl := hW2.2.2.2.2.2.1.2.1
  refine ⟨fun x μ' => Wp (d + 3) 42 (52, [some (.ref 70), some (.int (zI (k : Int))), some (.int (zI (T : Int))), none], [.int x], μ') Q, noX, ?_, fun _ _ z => z, fun _ _ z => z.elim⟩
  refine k_find (d := d + 1) t1 hW2.2.2.2.2.2.1 (FtS_P hW2.2.2.2.2.2.2) (by omega) ⟨hx0, hx1⟩ hnd1.2.2.2.2.1 (hWd _ hx) rowb (fun f hf h => ?_) (fun h => ?_)
  · exact fin (f : Int) ⟨by omega, by omega⟩ (fun μ' m' l' q' z1 z2 => (hok μ' m' l' q' z1 z2).1 f hf ((iff f hf).mp h))
  · refine fin (-1) ⟨by decide, by decide⟩ (fun μ' m' l' q' z1 z2 => (hok μ' m' l' q' z1 z2).2 (fun hm => ?_))
    obtain ⟨f, hf, e⟩ := List.getElem_of_mem hm
    refine h f hf ((iff f hf).mpr ?_)
    rw [List.getD_eq_getElem?_getD, List.getElem?_eq_getElem hf]
    exact e
end CLU
