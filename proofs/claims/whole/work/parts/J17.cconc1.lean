/-! ===== the class at work: conclude, the other conditions ===== -/
section CCN
variable {d : Nat} {μ : am_Mem} {l : PM} {Q : Option Value ⊕ Nat → am_Mem → Prop} {X : Int → List Int → Prop} {W : Int → Nat} {q s T : Nat} {rs : List Rul} {S : List Atm}
/-- build, in the class's state -/
theorem k_bW {m : PM} {k n : Nat} {Lb : Int → Prop} {ps : List (List Cd)} {b : Nat → Option (List Cd)} (hS : ShW s μ q) (hs : s = 22 ∨ s = 42) (hW : CwW X W s rs m q T S) (en : m s 6 = (n : Int)) (hk : k < n) (hlow : 0 ≤ (k : Int) - (ps.flatten.length : Int)) (hnd : NdC X s 11 m k Lb ps) (hb : BdC X q m T b) (hbd : bdC b ps.flatten) (hroom : T + n ≤ tN q)
    (hok : ∀ (m' : PM) (T' : Nat), T ≤ T' → T' ≤ T + nIn ps.flatten → CwW X W s rs m' q T' S → (∀ j : Nat, j < ps.length → ∃ u : Nat, m' 79 (j : Int) = (u : Int) ∧ u < T' ∧ Cg X q m' u (sbC (fulB b) (ps.getD j []))) → ((∀ p, p ∈ ps → ∃ u : Nat, u < T ∧ Cg X q m u (sbC (fulB b) p)) → T' = T) → (∀ c j, ¬ WBd q T c j → m' c j = m c j) → (∀ t cs, t < T → Cg X q m t cs → Cg X q m' t cs) → Q (.inl none) (sA μ m' l)) :
    Wp (d + 2) 41 (0, [some (.ref 70), some (.int (zI (k : Int))), none, none, none], [], sA μ m l) Q := by
  obtain ⟨s1, s2, s3, s4, s5, s6⟩ := id hS
  obtain ⟨w1, w2, w3, w4, w5, w6, w7⟩ := id hW
  obtain ⟨n13, n60, n0, n1000⟩ := KV_n w1
  have hX := w1.2.1
  have hX2 := w1.2.2.1.1
  have hq := TQ_q s3
  have hG : GrI X q s m T n := by
    have z := w5
    rw [show (m s 6).toNat = n by omega] at z
    exact z
  have hfl : ps.flatten.length ≤ n := by omega
  refine k_build s1 s2 hq hs s5 s6 hX hX2 w2 hk (by omega) hlow hnd w4 hG hb hbd (by omega) (fun m2 T2 a1 a2 a3 a4 a5 f2 => ?_)
  have cg2 : ∀ t cs, t < T → Cg X q m t cs → Cg X q m2 t cs := fun t cs ht h => Cg_wb hq f2 ht h
  exact hok m2 T2 a1 a2 (CwW_st hs hW a3 a1 (fun c j z1 z2 => f2 c j (lu_st hq hs (Or.inl ⟨z1, z2⟩)).1) (fun j => f2 _ j (lu_st hq hs (Or.inr (Or.inl rfl))).1) (fun c j z => f2 c j (lu_st hq hs (by omega)).1) cg2) a4 a5 f2 cg2
theorem lu_b {c : Nat} {j : Int} (h : ¬ WLu q c j) : ¬ WBd q T c j ∧ ¬ (c = q + 7 ∨ (c = 84 ∧ j = 9)) := by omega
/-- cut, in the class's state -/
theorem k_cW {m0 m : PM} {T' : Nat} (hS : ShW s μ q) (hs : s = 22 ∨ s = 42) (hW0 : CwW X W s rs m0 q T S) (hW : CwW X W s rs m q T' S) (hT : T ≤ T') (f : ∀ c j, ¬ WBd q T c j → m c j = m0 c j) : Wp d 90 (0, [some (.ref 84), some (.int (zI (T : Int))), none], [], sA μ m l) (pV (fun μ' => ∃ m', μ' = sA μ m' l ∧ CwW X W s rs m' q T S ∧ (∀ c j, ¬ WLu q c j → m' c j = m0 c j) ∧ ∀ t cs, t < T → Cg X q m0 t cs → Cg X q m' t cs) noX) := by
  obtain ⟨s1, s2, s3, s4, s5, s6⟩ := id hS
  have hq := TQ_q s3
  refine Wp.mono (k_tcut (d := d) (M := T) s1 s2 hq hW.2.2.2.1.1 hT) (fun o μ' ho => ?_)
  cases o with
  | inr e => exact ho.elim
  | inl v =>
    cases v with
    | some v => exact ho.elim
    | none =>
      obtain ⟨m3, rfl, g1, g2⟩ := ho
      have C3 : CtT X q (tN q) (tS q) m3 T := CtT_cg (P := 4 * tN q) hT hW.2.2.2.1 g1 (fun c j z => g2 c j (lu_tm hq z))
      have cg : ∀ t cs, t < T → Cg X q m0 t cs → Cg X q m3 t cs := fun t cs ht h => CgR_cg (T := T) (fun t _ => ⟨g2 _ _ (lu_tm hq (by omega)), g2 _ _ (lu_tm hq (by omega)), fun i _ => g2 _ _ (lu_tm hq (by omega))⟩) _ t cs ht (Cg_wb hq f ht h)
      have f3 : ∀ c j, (s ≤ c ∧ c ≤ s + 19) ∨ c = 81 ∨ (72 ≤ c ∧ c ≤ 78) ∨ (c = 71 ∧ j = 7) ∨ c = 83 ∨ c = 80 → m3 c j = m0 c j := fun c j z => (g2 c j (lu_st (T := T) hq hs z).2.1).trans (f c j (lu_st hq hs z).1)
      refine ⟨m3, rfl, CwW_st hs hW0 C3 (Nat.le_refl _) (fun c j z1 z2 => f3 c j (Or.inl ⟨z1, z2⟩)) (fun j => f3 _ j (Or.inr (Or.inl rfl))) (fun c j z => f3 c j (by omega)) cg, fun c j hw => ?_, cg⟩
      have z := lu_b (T := T) hw
      exact (g2 c j z.2).trans (f c j z.1)
theorem wl_70 (hS : ShW s μ q) {j : Int} : ¬ WLu q 70 j ∧ ¬ WLu q 83 j := by
  have := hS.2.2.1
  omega
theorem BdC_st {m m' : PM} {q' T' : Nat} {b : Nat → Option (List Cd)} (hT : T ≤ T') (e : ∀ j, m' 83 j = m 83 j) (cg : ∀ t cs, t < T → Cg X q m t cs → Cg X q' m' t cs) (h : BdC X q m T b) : BdC X q' m' T' b := fun v cs hv => by
  obtain ⟨a1, u, a2, a3, a4⟩ := h v cs hv
  exact ⟨a1, u, by rw [e]; exact a2, by omega, cg u cs a3 a4⟩
/-- the row's first two terms are the same -/
theorem row_eq {m : PM} {N SS : Nat} {p0 p1 : List Cd} {u0 u1 : Nat} (hX : XP X) (hT : CtT X q N SS m T) (e0 : m 79 0 = (u0 : Int)) (h0 : u0 < T) (c0 : Cg X q m u0 p0) (e1 : m 79 1 = (u1 : Int)) (h1 : u1 < T) (c1 : Cg X q m u1 p1) : m 79 0 = m 79 1 ↔ p0 = p1 := by
  constructor
  · intro e
    have eu : u0 = u1 := by omega
    rw [eu] at c0
    exact CgR_fun hX _ _ _ _ _ c0 c1
  · intro e
    rw [← e] at c1
    have := Cg_in hX hT.2.1 h0 h1 c0 c1
    omega
/-- the other conditions, from the i-th on -/
theorem cn_loop {m0 : PM} {r n : Nat} {b : Nat → Option (List Cd)} (hS : ShW s μ q) (hs : s = 22 ∨ s = 42) (hr : r < rs.length) (en : m0 s 6 = (n : Int)) (hroom : T + n ≤ tN q) (e9 : m0 70 9 = (r : Int)) (hb : BdC X q m0 T b) (hbo : ∀ c, c ∈ (rs.getD r ruD).2 → ¬ c.1 = 1 → bdC b c.2.2.flatten)
    (hno : ∀ m' : PM, (¬ ∀ c, c ∈ (rs.getD r ruD).2 → Oth (fulB b) S c) → CwW X W s rs m' q T S → (∀ c j, ¬ WLu q c j → m' c j = m0 c j) → (∀ t cs, t < T → Cg X q m0 t cs → Cg X q m' t cs) → Q (.inl none) (sA μ m' l))
    (hyes : ∀ (m' : PM) (o3 o4 o5 : Option Value), (∀ c, c ∈ (rs.getD r ruD).2 → Oth (fulB b) S c) → CwW X W s rs m' q T S → (∀ c j, ¬ WLu q c j → m' c j = m0 c j) → (∀ t cs, t < T → Cg X q m0 t cs → Cg X q m' t cs) → ∃ (P : am_Mem → Prop) (X : Nat → am_Mem → Prop), Wp (d + 2) 41 (0, [some (.ref 70), some (.int (zI (m' (s + 11) (m' 70 9)))), none, none, none], [], sA μ m' l) (pV P X) ∧ (∀ μ', P μ' → Wp (d + 3) 40 (172, [some (.ref 70), some (.int (zI (T : Int))), some (.int (zI (m' (s + 11) (m' 70 9)))), o3, o4, o5], [], μ') Q) ∧ ∀ x μ', X x μ' → Q (.inr x) μ') : ∀ (f i : Nat) (m : PM) (o3 o4 o5 : Option Value), i + f = (otC (rs.getD r ruD).2).length → (∀ j, j < i → Oth (fulB b) S ((otC (rs.getD r ruD).2).getD j cnD)) → CwW X W s rs m q T S → (∀ c j, ¬ WLu q c j → m c j = m0 c j) → (∀ t cs, t < T → Cg X q m0 t cs → Cg X q m t cs) → Wp (d + 3) 40 (24, [some (.ref 70), some (.int (zI (T : Int))), some (.int (zI (i : Int))), o3, o4, o5], [], sA μ m l) Q := by
  obtain ⟨s1, s2, s3, s4, s5, s6⟩ := id hS
  have hq := TQ_q s3
  have h58 := tN_le q
  have w70 : ∀ j, ¬ WLu q 70 j := fun j => (wl_70 hS).1
  have w83 : ∀ j, ¬ WLu q 83 j := fun j => (wl_70 hS).2
  have wS : ∀ c j, s ≤ c → c ≤ s + 19 → ¬ WLu q c j := fun c j a1 a2 => by omega
  intro f
  induction f with
  | zero =>
    intro i m o3 o4 o5 hi hall hW fr cg
    obtain ⟨k1, k2, k3, k4, k5, k6⟩ := KV_rule hW.1 hr
    have e9' : m 70 9 = (r : Int) := (fr _ _ (w70 _)).trans e9
    have e16 := k1.2.2.1.1
    refine K40_24 s1 s2 hq hs s5 ?_
    rw [e9', e16]
    refine ⟨⟨by omega, by omega⟩, ⟨by omega, by omega⟩, ⟨by omega, by omega⟩, fun _ => ?_, fun z => absurd z (by omega)⟩
    have z := hyes m o3 o4 o5 (fun c hc => ?_) hW fr cg
    · rw [e9'] at z
      exact z
    · by_cases h1 : c.1 = 1
      · exact ⟨fun e => by omega, fun e => by omega⟩
      · have hm : c ∈ otC (rs.getD r ruD).2 := otC_mem.mpr ⟨hc, h1⟩
        obtain ⟨j, hj, e⟩ := List.getElem_of_mem hm
        have z := hall j (by omega)
        rw [List.getD_eq_getElem?_getD, List.getElem?_eq_getElem hj] at z
        rw [← e]
        exact z
  | succ f ih =>
    intro i m o3 o4 o5 hi hall hW fr cg
    obtain ⟨w1, w2, w3, w4, w5, w6, w7⟩ := id hW
    have hX := w1.2.1
    have hX2 := w1.2.2.1.1
    obtain ⟨k1, k2, k3, k4, k5, k6⟩ := KV_rule w1 hr
    have e9' : m 70 9 = (r : Int) := (fr _ _ (w70 _)).trans e9
    have e16 := k1.2.2.1.1
    have hil : i < (otC (rs.getD r ruD).2).length := by omega
    obtain ⟨o1, o2, oA⟩ := KV_oth w1 hr hil
    generalize hcd : (otC (rs.getD r ruD).2).getD i cnD = cd at o1 o2 oA
    generalize hkd : m (s + 15) (8 * (r : Int) + (i : Int)) = kd at oA
    obtain ⟨oC, ok, ol, o9, oX, _⟩ := KV_cond w1 hr o1 oA
    obtain ⟨k, ek⟩ : ∃ k : Nat, kd = (k : Int) := ⟨kd.toNat, by omega⟩
    rw [ek] at oA ok ol o9 oX hkd
    obtain ⟨A1, A2, A3⟩ := oA
    have en' : m s 6 = (n : Int) := (fr _ _ (wS _ _ (by omega) (by omega))).trans en
    have hkn : k < n := by omega
    have hbm : BdC X q m T b := BdC_st (Nat.le_refl _) (fun j => fr _ j (w83 j)) cg hb
    have hbd := hbo cd o1 o2
    refine K40_24 s1 s2 hq hs s5 ?_
    rw [e9', e16]
    refine ⟨⟨by omega, by omega⟩, ⟨by omega, by omega⟩, ⟨by omega, by omega⟩, fun z => absurd z (by omega), fun _ => ⟨⟨by omega, by omega⟩, ?_⟩⟩
    rw [hkd]
    rintro v1 rfl
    refine ⟨⟨by omega, by omega⟩, fun μ' => Wp (d + 3) 40 (69, [some (.ref 70), some (.int (zI (T : Int))), some (.int (zI (i : Int))), some (.int (zI (k : Int))), some (.int (zI (m (s + 6) (k : Int)))), o5], [], μ') Q, noX, ?_, fun _ z => z, fun _ _ z => z.elim⟩
    refine k_bW hS hs hW en' hkn A2 A3 hbm hbd hroom (fun m2 T2 a1 a2 hW2 row _ f2 cg2 => ?_)
    show Wp (d + 3) 40 (69, _, [], _) Q
    have hT2 := hW2.2.2.2.1.1.2.1
    have fin : ∀ y : Int, (y = 0 ∨ y = 1) → (y = 1 ↔ Oth (fulB b) S cd) → ∃ (P : am_Mem → Prop) (X : Nat → am_Mem → Prop), Wp (d + 2) 90 (0, [some (.ref 84), some (.int (zI (T : Int))), none], [], sA μ m2 l) (pV P X) ∧ (∀ μ', P μ' → Wp (d + 3) 40 (142, [some (.ref 70), some (.int (zI (T : Int))), some (.int (zI (i : Int))), some (.int (zI (k : Int))), some (.int (zI (m (s + 6) (k : Int)))), some (.int (zI y))], [], μ') Q) ∧ ∀ x μ', X x μ' → Q (.inr x) μ' := by
      intro y hy hiff
      refine ⟨_, noX, k_cW (d := d + 2) hS hs hW hW2 a1 f2, fun μ' ho => ?_, fun _ _ z => z.elim⟩
      obtain ⟨m3, rfl, hW3, g2, cg3⟩ := ho
      have fr3 : ∀ c j, ¬ WLu q c j → m3 c j = m0 c j := fun c j z => (g2 c j z).trans (fr c j z)
      have cgA : ∀ t cs, t < T → Cg X q m0 t cs → Cg X q m3 t cs := fun t cs ht h => cg3 t cs ht (cg t cs ht h)
      refine K40_142 s1 s2 hq hs s5 ⟨⟨by omega, by omega⟩, fun z => ?_, fun z => ?_⟩
      · refine ih (i + 1) m3 _ _ _ (by omega) (fun j hj => ?_) hW3 fr3 cgA
        by_cases e : j = i
        · rw [e, hcd]
          exact hiff.mp (by omega)
        · exact hall j (by omega)
      · refine hno m3 (fun h => ?_) hW3 fr3 cgA
        have := hiff.mpr (h cd o1)
        omega
    refine K40_69 s1 s2 hq hs s5 ⟨⟨by omega, by omega⟩, fun z => ?_, fun z => ?_⟩
    · -- a negative condition
      have c2 : cd.1 = 2 := by
        rcases oC.2 with e | e | e
        · exact absurd e o2
        · exact e
        · exact absurd (o9 e.1) z
      obtain ⟨oX1, _⟩ := oX (by omega)
      have e7' : m2 (s + 7) (k : Int) = (cd.2.2.length : Int) := (f2 _ _ (lu_st hq hs (by omega)).1).trans A3.2.1
      have hl4 : cd.2.2.length ≤ 4 := A3.2.2.2.2.1
      have hWx : W (m (s + 6) (k : Int)) = cd.2.2.length := (w3 _ ((mem_gD rs ruD _).mpr ⟨r, hr, rfl⟩)).2 cd o1 (by omega) _ oX1
      have el : (cd.2.2.map (sbC (fulB b))).length = cd.2.2.length := List.length_map ..
      have rowm : ∀ j : Nat, j < (cd.2.2.map (sbC (fulB b))).length → ∃ u : Nat, m2 79 (j : Int) = (u : Int) ∧ u < T2 ∧ Cg X q m2 u ((cd.2.2.map (sbC (fulB b))).getD j []) := fun j hj => by
        rw [el] at hj
        obtain ⟨u, c1, c2, c3⟩ := row j hj
        refine ⟨u, c1, c2, ?_⟩
        rw [map_gD hj]
        exact c3
      have iff : ∀ f, f < S.length → (isF m2 f (m (s + 6) (k : Int)) (sl (m2 79) 0 cd.2.2.length) ↔ S.getD f ([], []) = (cd.2.1, cd.2.2.map (sbC (fulB b)))) := fun f hf => by
        have z := isF_iff (qs := cd.2.2.map (sbC (fulB b))) hX hW2.2.2.2.1 hW2.2.2.2.2.2.2 hf oX1 (by rw [el]; exact hWx) rowm
        rw [el] at z
        exact z
      have hSl := hW2.2.2.2.2.2.1.2.1
      rw [e7']
      refine ⟨⟨by omega, by omega⟩, fun x μ' => Wp (d + 3) 40 (123, [some (.ref 70), some (.int (zI (T : Int))), some (.int (zI (i : Int))), some (.int (zI (k : Int))), some (.int (zI (m (s + 6) (k : Int)))), o5], [.int x], μ') Q, noX, ?_, fun _ _ z => z, fun _ _ z => z.elim⟩
      refine k_find (d := d + 1) s1 hW2.2.2.2.2.2.1 (FtS_P hW2.2.2.2.2.2.2) (by omega) ol hl4 hWx (fun j hj => by
        obtain ⟨u, c1, c2, _⟩ := row j hj
        omega) (fun f hf h => ?_) (fun h => ?_)
      · refine K40_123 s1 s2 hq hs s5 ⟨⟨by omega, by omega⟩, ?_⟩
        rintro v1 ev
        rw [if_pos (by omega)] at ev
        rw [ev]
        refine fin 0 (Or.inl rfl) ⟨fun z => by omega, fun z => absurd ?_ (z.1 c2)⟩
        have e := (iff f hf).mp h
        show (cd.2.1, cd.2.2.map (sbC (fulB b))) ∈ S
        rw [← e, List.getD_eq_getElem?_getD, List.getElem?_eq_getElem hf]
        exact List.getElem_mem hf
      · refine K40_123 s1 s2 hq hs s5 ⟨⟨by decide, by decide⟩, ?_⟩
        rintro v1 ev
        rw [if_neg (fun z => z rfl)] at ev
        rw [ev]
        refine fin 1 (Or.inr rfl) ⟨fun _ => ⟨fun _ hm => ?_, fun e => by omega⟩, fun _ => rfl⟩
        have hm' : (cd.2.1, cd.2.2.map (sbC (fulB b))) ∈ S := hm
        obtain ⟨f, hf, e⟩ := List.getElem_of_mem hm'
        refine h f hf ((iff f hf).mpr ?_)
        rw [List.getD_eq_getElem?_getD, List.getElem?_eq_getElem hf]
        exact e
    · -- distinct
      have c3 : cd.1 = 3 := by
        rcases oC.2 with e | e | e
        · exact absurd e o2
        · exact absurd (oX (by omega)).2 z
        · exact e.1
      have l2 : cd.2.2.length = 2 := by
        rcases oC.2 with e | e | e
        · omega
        · omega
        · exact e.2.2
      obtain ⟨u0, x0, y0, z0⟩ := row 0 (by omega)
      obtain ⟨u1, x1, y1, z1⟩ := row 1 (by omega)
      have hiff := row_eq hX hW2.2.2.2.1 x0 y0 z0 x1 y1 z1
      have x0' : m2 79 0 = (u0 : Int) := x0
      have x1' : m2 79 1 = (u1 : Int) := x1
      refine ⟨⟨by omega, by omega⟩, ⟨by omega, by omega⟩, ?_⟩
      rintro v1 ev
      by_cases h : m2 79 0 = m2 79 1
      · rw [if_pos h] at ev
        rw [ev]
        exact fin 0 (Or.inl rfl) ⟨fun z => by omega, fun z => absurd (hiff.mp h) (z.2 c3)⟩
      · rw [if_neg h] at ev
        rw [ev]
        exact fin 1 (Or.inr rfl) ⟨fun _ => ⟨fun e => by omega, fun _ e => h (hiff.mpr e)⟩, fun _ => rfl⟩
end CCN
