/-! ===== the class at work: conclude ===== -/
/-- what concluding writes -/
abbrev WCo (q c : Nat) (j : Int) : Prop := WLu q c j ∨ (72 ≤ c ∧ c ≤ 78) ∨ (c = 71 ∧ j = 7)
theorem gD_l {α : Type} {S : List α} {a e : α} {i : Nat} (h : i < S.length) : (S ++ [a]).getD i e = S.getD i e := by
  rw [List.getD_eq_getElem?_getD, List.getD_eq_getElem?_getD, List.getElem?_append_left h]
theorem gD_r {α : Type} {S : List α} {a e : α} : (S ++ [a]).getD S.length e = a := by
  rw [List.getD_eq_getElem?_getD, List.getElem?_append_right (Nat.le_refl _), Nat.sub_self]
  rfl
theorem gD_in {α : Type} {L : List α} {e : α} {j : Nat} (h : j < L.length) : L.getD j e ∈ L := by
  rw [List.getD_eq_getElem?_getD, List.getElem?_eq_getElem h]
  exact List.getElem_mem h
section CCO
variable {d : Nat} {μ : am_Mem} {l : PM} {Q : Option Value ⊕ Nat → am_Mem → Prop} {X : Int → List Int → Prop} {W : Int → Nat} {q s T : Nat} {rs : List Rul} {S : List Atm}
theorem wfa_o {F : Nat} {x : Int} {c : Nat} {j : Int} (h : ¬ ((72 ≤ c ∧ c ≤ 78) ∨ (c = 71 ∧ j = 7))) : ¬ WFa F x c j := by omega
theorem wfa_c {N P SS : Nat} (hq : TQ q N P SS) (hs : s = 22 ∨ s = 42) {c : Nat} {j : Int} (h : (s ≤ c ∧ c ≤ s + 19) ∨ c = 81 ∨ (q ≤ c ∧ c ≤ q + 7) ∨ (c = 84 ∧ j = 9)) : ¬ ((72 ≤ c ∧ c ≤ 78) ∨ (c = 71 ∧ j = 7)) := by omega
theorem wfa_i {F : Nat} {x : Int} {i : Nat} (h : i < F) : ¬ WFa F x 72 i ∧ ∀ k : Nat, k < 4 → ¬ WFa F x 73 (4 * (i : Int) + k) := ⟨by omega, fun k hk => by omega⟩
/-- an atom more -/
theorem CwW_add {m m' : PM} {x : Int} {w : List Int} {qs : List (List Cd)} (hS : ShW s μ q) (hs : s = 22 ∨ s = 42) (hW : CwW X W s rs m q T S) (hx : X x w) (hl : qs.length ≤ 4) (hWx : W x = qs.length) (row : ∀ j : Nat, j < qs.length → ∃ u : Nat, m 79 (j : Int) = (u : Int) ∧ u < T ∧ Cg X q m u (qs.getD j [])) (hF : FtI W m' (S.length + 1)) (hi : isF m' S.length x (sl (m 79) 0 qs.length)) (k : ∀ c j, ¬ WFa S.length x c j → m' c j = m c j) : CwW X W s rs m' q T (S ++ [(w, qs)]) ∧ ∀ t cs, t < T → Cg X q m t cs → Cg X q m' t cs := by
  obtain ⟨h1, h2, h3, h4, h5, h6, h7⟩ := hW
  have hq := TQ_q hS.2.2.1
  have kk : ∀ c j, (s ≤ c ∧ c ≤ s + 19) ∨ c = 81 ∨ (q ≤ c ∧ c ≤ q + 7) ∨ (c = 84 ∧ j = 9) → m' c j = m c j := fun c j z => k c j (wfa_o (wfa_c hq hs z))
  have cg : ∀ t cs, t < T → Cg X q m t cs → Cg X q m' t cs := fun t cs ht h => CgR_cg (T := T) (fun t _ => ⟨kk _ _ (by omega), kk _ _ (by omega), fun i _ => kk _ _ (by omega)⟩) _ t cs ht h
  refine ⟨⟨KV_cg (fun c j z => kk c j (by omega)) h1, fun y v hy => ?_, h3, CtT_fr (fun c j z => kk c j (by omega)) h4, fun k' hk cs ht hg => ?_, ?_, fun i hi' => ?_⟩, cg⟩
  · rw [kk _ _ (by omega), kk _ _ (by omega)]
    exact h2 y v hy
  · rw [kk s 6 (by omega)] at hk
    have ht' := TcR_cg (m' := m) (fun _ _ z => z) 11 k' cs (fun i _ _ => ⟨(kk _ _ (by omega)).symm, (kk _ _ (by omega)).symm, (kk _ _ (by omega)).symm, (kk _ _ (by omega)).symm⟩) (fun i _ _ => (kk _ _ (by omega)).symm) ht
    obtain ⟨u, a1, a2, a3⟩ := h5 k' hk cs ht' hg
    exact ⟨u, by rw [kk _ _ (by omega)]; exact a1, a2, cg u cs a2 a3⟩
  · rw [List.length_append, List.length_singleton]
    exact hF
  · rw [List.length_append, List.length_singleton] at hi'
    by_cases z : i = S.length
    · rw [z, gD_r]
      obtain ⟨i1, i2⟩ := hi
      rw [sl_len] at i2
      refine ⟨by rw [i1]; exact hx, by rw [i1]; exact hWx.symm, hl, fun j hj => ?_⟩
      obtain ⟨u, b1, b2, b3⟩ := row j hj
      refine ⟨u, ?_, b2, cg u _ b2 b3⟩
      rw [(sl_eq.mp i2).2 j hj, show (0 : Int) + (j : Int) = (j : Int) by omega]
      exact b1
    · have hi2 : i < S.length := by omega
      rw [gD_l hi2]
      obtain ⟨a1, a2, a3, a4⟩ := h7 i hi2
      have z1 := wfa_i (x := x) hi2
      rw [k _ _ z1.1]
      refine ⟨a1, a2, a3, fun j hj => ?_⟩
      obtain ⟨u, b1, b2, b3⟩ := a4 j hj
      exact ⟨u, by rw [k _ _ (z1.2 j (by omega))]; exact b1, b2, cg u _ b2 b3⟩
theorem nIn_fl : ∀ (ps : List (List Cd)), (∀ p, p ∈ ps → nIn p ≤ 11) → nIn ps.flatten ≤ 11 * ps.length := by
  intro ps
  induction ps with
  | nil => intro _; exact Nat.le_refl _
  | cons p ps ih =>
    intro h
    have a := h p List.mem_cons_self
    have b := ih (fun p' hp => h p' (List.mem_cons_of_mem _ hp))
    rw [List.flatten_cons, nIn_app, List.length_cons]
    omega
theorem co_fr {c q1 n : Nat} {j : Int} (hq : q1 = q ∨ (q = 85 ∧ q1 = n)) (hc : c < n) (h : ¬ WCo q c j) : ¬ WLu q1 c j ∧ ¬ WBd q1 T c j ∧ ¬ ((72 ≤ c ∧ c ≤ 78) ∨ (c = 71 ∧ j = 7)) := by omega
theorem nIn_le : ∀ (ps : List (List Cd)), nIn ps.flatten ≤ ps.flatten.length := fun ps => List.length_filter_le _ _
theorem k_conclude {m : PM} {r : Nat} {b : Nat → Option (List Cd)} (hS : ShW s μ q) (hs : s = 22 ∨ s = 42) (hr : r < rs.length) (hW : CwW X W s rs m q T S) (e9 : m 70 9 = (r : Int)) (hb : BdC X q m T b) (hbo : ∀ c, c ∈ (rs.getD r ruD).2 → ¬ c.1 = 1 → bdC b c.2.2.flatten) (hbh : bdC b (rs.getD r ruD).1.2.flatten) (hT : T + 1000 ≤ 58192) (hne : ∀ p, p ∈ (rs.getD r ruD).1.2 → NeC (sbC (fulB b) p)) (htl : ∀ p, p ∈ (rs.getD r ruD).1.2 → 0 ≤ tlC (sbC (fulB b) p) ∧ tlC (sbC (fulB b) p) ≤ 1000000)
    (hno : ∀ (μ' : am_Mem) (m' l' : PM) (q' : Nat), (¬ ∀ c, c ∈ (rs.getD r ruD).2 → Oth (fulB b) S c) → Kst X (WCo q) T μ q m l μ' q' m' l' → CwW X W s rs m' q' T S → Q (.inl none) (sA μ' m' l'))
    (hold : ∀ (μ' : am_Mem) (m' l' : PM) (q' : Nat), (∀ c, c ∈ (rs.getD r ruD).2 → Oth (fulB b) S c) → sbA (fulB b) (rs.getD r ruD).1 ∈ S → Kst X (WCo q) T μ q m l μ' q' m' l' → CwW X W s rs m' q' T S → Q (.inl none) (sA μ' m' l'))
    (hnew : ∀ (μ' : am_Mem) (m' l' : PM) (q' T' : Nat), (∀ c, c ∈ (rs.getD r ruD).2 → Oth (fulB b) S c) → (∀ p, p ∈ (sbA (fulB b) (rs.getD r ruD).1).2 → tlC p ≤ 48) → ¬ sbA (fulB b) (rs.getD r ruD).1 ∈ S → S.length < 1000 → T ≤ T' → T' ≤ T + 44 → Kst X (WCo q) T μ q m l μ' q' m' l' → CwW X W s rs m' q' T' (S ++ [sbA (fulB b) (rs.getD r ruD).1]) → Q (.inl none) (sA μ' m' l'))
    (hthr : ∀ (μ' : am_Mem) (m' l' : PM) (q' T' : Nat), (∀ c, c ∈ (rs.getD r ruD).2 → Oth (fulB b) S c) → ((∃ p, p ∈ (sbA (fulB b) (rs.getD r ruD).1).2 ∧ 48 < tlC p) ∨ (¬ sbA (fulB b) (rs.getD r ruD).1 ∈ S ∧ S.length = 1000)) → T ≤ T' → T' ≤ T + 1000 → Kst X (WCo q) T μ q m l μ' q' m' l' → CwW X W s rs m' q' T' S → Q (.inr 3) (sA (am_nX μ') m' l')) :
    Wp (d + 3) 40 (0, [some (.ref 70), none, none, none, none, none], [], sA μ m l) Q := by
  obtain ⟨s1, s2, s3, s4, s5, s6⟩ := id hS
  obtain ⟨w1, w2, w3, w4, w5, w6, w7⟩ := id hW
  obtain ⟨n13, n60, n0, n1000⟩ := KV_n w1
  have hX := w1.2.1
  have hX2 := w1.2.2.1.1
  obtain ⟨n, en⟩ : ∃ n : Nat, m s 6 = (n : Int) := ⟨(m s 6).toNat, by omega⟩
  have e9c := w4.1.1
  refine K40_0 s1 s2 (TQ_q s3) hs s5 ?_
  rw [en, e9c]
  refine ⟨fun μ' => Wp (d + 3) 40 (22, [some (.ref 70), some (.int (zI (T : Int))), none, none, none, none], [], μ') Q, noX, ?_, fun _ z => z, fun _ _ z => z.elim⟩
  refine k_reserve hS w4 (by omega) (fun μ1 m1 l1 q1 G1 C1 r1 f1 cg1 => ?_)
  show Wp (d + 3) 40 (22, _, [], _) Q
  have hS1 := Gw_S hS G1
  obtain ⟨t1, t2, t3, t4, t5, t6⟩ := id hS1
  have hq1 := TQ_q t3
  have h58 := tN_le q1
  have gq := (Gw_q hS G1).1
  have sm : ∀ c j, c < 185 → m1 c j = m c j := fun c j hc => (f1 c j (by omega)).1
  have hW1 : CwW X W s rs m1 q1 T S := CwW_st hs hW C1 (Nat.le_refl _) (fun c j a1 a2 => sm c j (by omega)) (fun j => sm _ j (by decide)) (fun c j z => sm c j (by omega)) cg1
  have hb1 : BdC X q1 m1 T b := BdC_st (Nat.le_refl _) (fun j => sm _ j (by decide)) cg1 hb
  have kst : ∀ (m' : PM), (∀ c j, ¬ WLu q1 c j → ¬ WBd q1 T c j → ¬ ((72 ≤ c ∧ c ≤ 78) ∨ (c = 71 ∧ j = 7)) → m' c j = m1 c j) → (∀ t cs, t < T → Cg X q1 m1 t cs → Cg X q1 m' t cs) → Kst X (WCo q) T μ q m l μ1 q1 m' l1 := fun m' f cg => ⟨G1, fun c j hc => ⟨fun hw => by
    have z := co_fr (T := T) gq hc hw
    exact (f c j z.1 z.2.1 z.2.2).trans (f1 c j hc).1, (f1 c j hc).2⟩, fun t cs ht h => cg t cs ht (cg1 t cs ht h)⟩
  have en1 : m1 s 6 = (n : Int) := by rw [sm _ _ (by omega)]; exact en
  have e91 : m1 70 9 = (r : Int) := by rw [sm _ _ (by decide)]; exact e9
  refine K40_22 t1 t2 hq1 hs t5 ?_
  refine cn_loop (m0 := m1) hS1 hs hr en1 r1 e91 hb1 hbo (fun m' h hW' fr cg => ?_) (fun m' o3 o4 o5 ho hW' fr cg => ?_) (otC (rs.getD r ruD).2).length 0 m1 none none none (by omega) (fun j hj => absurd hj (Nat.not_lt_zero j)) hW1 (fun _ _ _ => rfl) (fun _ _ _ h => h)
  · exact hno μ1 m' l1 q1 h (kst m' (fun c j z _ _ => fr c j z) cg) hW'
  · -- the head
    obtain ⟨hA, hOk, hXl, hlb, hhd⟩ := KV_head hW'.1 hr
    have e9' : m' 70 9 = (r : Int) := (fr _ _ (wl_70 hS1).1).trans e91
    rw [e9']
    obtain ⟨k, ek⟩ : ∃ k : Nat, m' (s + 11) (r : Int) = (k : Int) := ⟨(m' (s + 11) (r : Int)).toNat, by omega⟩
    rw [ek] at hA hXl hlb hhd ⊢
    obtain ⟨A1, A2, A3⟩ := hA
    have A2' : 0 ≤ (k : Int) - ((rs.getD r ruD).1.2.flatten.length : Int) := A2
    clear A2
    have A3' : NdC X s 11 m' (k : Int) (fun x => X x (rs.getD r ruD).1.1) (rs.getD r ruD).1.2 := A3
    have en' : m' s 6 = (n : Int) := (fr _ _ (by omega)).trans en1
    have hbm : BdC X q1 m' T b := BdC_st (Nat.le_refl _) (fun j => fr _ j (wl_70 hS1).2) cg hb1
    refine ⟨fun μ' => Wp (d + 3) 40 (172, [some (.ref 70), some (.int (zI (T : Int))), some (.int (zI (k : Int))), o3, o4, o5], [], μ') Q, noX, ?_, fun _ z => z, fun _ _ z => z.elim⟩
    refine k_bW (ps := (rs.getD r ruD).1.2) hS1 hs hW' en' (by omega) A2' A3' hbm hbh r1 (fun m2 T2 a1 a2 hW2 row sameT f2 cg2 => ?_)
    show Wp (d + 3) 40 (172, _, [], _) Q
    have hT2 := hW2.2.2.2.1.1.2.1
    have hl4 : (rs.getD r ruD).1.2.length ≤ 4 := A3.2.2.2.2.1
    have hfl : (rs.getD r ruD).1.2.flatten.length ≤ n := by omega
    have hnn := nIn_le (rs.getD r ruD).1.2
    have e7' : m2 (s + 7) (k : Int) = ((rs.getD r ruD).1.2.length : Int) := (f2 _ _ (lu_st hq1 hs (by omega)).1).trans A3.2.1
    have e6' : m2 (s + 6) (k : Int) = m' (s + 6) (k : Int) := f2 _ _ (lu_st hq1 hs (by omega)).1
    have k2 : Kst X (WCo q) T μ q m l μ1 q1 m2 l1 := kst m2 (fun c j z1 z2 _ => (f2 c j z2).trans (fr c j z1)) (fun t cs ht h => cg2 t cs ht (cg t cs ht h))
    have hlen : ∀ j : Nat, j < (rs.getD r ruD).1.2.length → ∃ u : Nat, m2 79 (j : Int) = (u : Int) ∧ u < T2 ∧ Cg X q1 m2 u (sbC (fulB b) ((rs.getD r ruD).1.2.getD j [])) ∧ m2 (q1 + 3) (u : Int) = tlC (sbC (fulB b) ((rs.getD r ruD).1.2.getD j [])) := fun j hj => by
      obtain ⟨u, c1, c2, c3⟩ := row j hj
      obtain ⟨cs, d1, d2⟩ := hW2.2.2.2.1.2.2 u c2
      rw [CgR_fun hX _ _ _ _ _ d1 c3] at d2
      exact ⟨u, c1, c2, c3, d2⟩
    have gm : ∀ j, j < (rs.getD r ruD).1.2.length → (rs.getD r ruD).1.2.getD j [] ∈ (rs.getD r ruD).1.2 := fun j hj => gD_in hj
    refine K40_172 t1 t2 hq1 hs t5 ?_
    have hl : ∀ (f j : Nat), j + f = (rs.getD r ruD).1.2.length → (∀ i, i < j → tlC (sbC (fulB b) ((rs.getD r ruD).1.2.getD i [])) ≤ 48) → Wp (d + 3) 40 (174, [some (.ref 70), some (.int (zI (T : Int))), some (.int (zI (k : Int))), some (.int (zI (j : Int))), o4, o5], [], sA μ1 m2 l1) Q := by
      intro f
      induction f with
      | zero =>
        intro j hj hall
        have ej : j = (rs.getD r ruD).1.2.length := by omega
        have el : ((rs.getD r ruD).1.2.map (sbC (fulB b))).length = (rs.getD r ruD).1.2.length := List.length_map ..
        have hx2 : X (m2 (s + 6) (k : Int)) (rs.getD r ruD).1.1 := by rw [e6']; exact hXl
        have hWx : W (m2 (s + 6) (k : Int)) = (rs.getD r ruD).1.2.length := (w3 _ ((mem_gD rs ruD _).mpr ⟨r, hr, rfl⟩)).1 _ hx2
        have rowm : ∀ j : Nat, j < ((rs.getD r ruD).1.2.map (sbC (fulB b))).length → ∃ u : Nat, m2 79 (j : Int) = (u : Int) ∧ u < T2 ∧ Cg X q1 m2 u (((rs.getD r ruD).1.2.map (sbC (fulB b))).getD j []) := fun j hj => by
          rw [el] at hj
          obtain ⟨u, c1, c2, c3⟩ := row j hj
          refine ⟨u, c1, c2, ?_⟩
          rw [map_gD hj]
          exact c3
        have iff : ∀ f, f < S.length → (isF m2 f (m2 (s + 6) (k : Int)) (sl (m2 79) 0 (rs.getD r ruD).1.2.length) ↔ S.getD f ([], []) = sbA (fulB b) (rs.getD r ruD).1) := fun f hf => by
          have z := isF_iff (qs := (rs.getD r ruD).1.2.map (sbC (fulB b))) hX hW2.2.2.2.1 hW2.2.2.2.2.2.2 hf hx2 (by rw [el]; exact hWx) rowm
          rw [el] at z
          exact z
        have memS : (∀ f, f < S.length → ¬ isF m2 f (m2 (s + 6) (k : Int)) (sl (m2 79) 0 (rs.getD r ruD).1.2.length)) → ¬ sbA (fulB b) (rs.getD r ruD).1 ∈ S := fun h hm => by
          obtain ⟨f, hf, e⟩ := List.getElem_of_mem hm
          refine h f hf ((iff f hf).mpr ?_)
          rw [List.getD_eq_getElem?_getD, List.getElem?_eq_getElem hf]
          exact e
        have all48 : ∀ p, p ∈ (rs.getD r ruD).1.2 → tlC (sbC (fulB b) p) ≤ 48 := fun p hp => by
          obtain ⟨i, hi, e⟩ := mem_gD2 hp
          have z := hall i (by omega)
          rw [e] at z
          exact z
        refine K40_174 t1 t2 hq1 hs t5 ?_
        rw [e7']
        refine ⟨⟨by omega, by omega⟩, ⟨by omega, by omega⟩, ⟨by omega, by omega⟩, fun _ => ?_, fun z => absurd z (by omega)⟩
        refine ⟨fun μ' => Wp (d + 3) 40 (250, [some (.ref 70), some (.int (zI (T : Int))), some (.int (zI (k : Int))), some (.int (zI (j : Int))), o4, o5], [], μ') Q, fun x μ' => Q (.inr x) μ', ?_, fun _ z => z, fun _ _ z => z⟩
        rw [e6']
        rw [e6'] at iff memS hx2 hWx
        refine k_add (d := d + 1) t1 hW2.2.2.2.2.2.1 (FtS_P hW2.2.2.2.2.2.2) (by omega) hlb hl4 hWx (fun j hj => by
          obtain ⟨u, c1, c2, _⟩ := row j hj
          omega) (fun f hf h => ?_) (fun h h1000 => ?_) (fun h hlt m3 F3 i3 k3 => ?_)
        · refine K40_250 t1 t2 hq1 hs t5 ?_
          have e := (iff f hf).mp h
          have hm : sbA (fulB b) (rs.getD r ruD).1 ∈ S := by
            rw [← e, List.getD_eq_getElem?_getD, List.getElem?_eq_getElem hf]
            exact List.getElem_mem hf
          have eT : T2 = T := sameT (fun p hp => by
            obtain ⟨i, hi, ei⟩ := mem_gD2 hp
            obtain ⟨_, _, _, a4⟩ := hW'.2.2.2.2.2.2 f hf
            rw [e] at a4
            obtain ⟨u, _, u2, u3⟩ := a4 i (by show i < ((rs.getD r ruD).1.2.map (sbC (fulB b))).length; rw [el]; exact hi)
            refine ⟨u, u2, ?_⟩
            have u3 : Cg X q1 m' u (((rs.getD r ruD).1.2.map (sbC (fulB b))).getD i []) := u3
            rw [map_gD hi, ei] at u3
            exact u3)
          rw [eT] at hW2
          exact hold μ1 m2 l1 q1 ho hm k2 hW2
        · exact hthr μ1 m2 l1 q1 T2 ho (Or.inr ⟨memS h, h1000⟩) a1 (by omega) k2 hW2
        · refine K40_250 t1 t2 hq1 hs t5 ?_
          obtain ⟨hW3, cg3⟩ := CwW_add (w := (rs.getD r ruD).1.1) (qs := (rs.getD r ruD).1.2.map (sbC (fulB b))) hS1 hs hW2 hx2 (by rw [el]; exact hl4) (by rw [el]; exact hWx) rowm F3 (by rw [el]; exact i3) k3
          have h44 : nIn (rs.getD r ruD).1.2.flatten ≤ 44 := by
            have z := nIn_fl (rs.getD r ruD).1.2 (fun p hp => by
              obtain ⟨i, hi, ei⟩ := mem_gD2 hp
              obtain ⟨u, _, _, c3⟩ := row i hi
              rw [ei] at c3
              have z1 := in_11 (CgR_wf _ _ _ c3) (CgR_gnd _ _ _ c3) (hne p hp) (all48 p hp)
              have z2 := nIn_sb (fulB b) p
              omega)
            omega
          refine hnew μ1 m3 l1 q1 T2 ho (fun p hp => ?_) (memS h) hlt a1 (by omega) (kst m3 (fun c j z1 z2 z3 => (k3 c j (wfa_o z3)).trans ((f2 c j z2).trans (fr c j z1))) (fun t cs ht h => cg3 t cs (by omega) (cg2 t cs ht (cg t cs ht h)))) hW3
          obtain ⟨p', g1, g2⟩ := List.mem_map.mp (show p ∈ (rs.getD r ruD).1.2.map (sbC (fulB b)) from hp)
          rw [← g2]
          exact all48 p' g1
      | succ f ih =>
        intro j hj hall
        obtain ⟨u, c1, c2, c3, c4⟩ := hlen j (by omega)
        have htl' := htl _ (gm j (by omega))
        refine K40_174 t1 t2 hq1 hs t5 ?_
        rw [e7', c1, c4]
        refine ⟨⟨by omega, by omega⟩, ⟨by omega, by omega⟩, ⟨by omega, by omega⟩, fun z => absurd z (by omega), fun _ => ⟨⟨by omega, by omega⟩, ⟨by omega, by omega⟩, ⟨by omega, by omega⟩, fun z => ?_, fun z => ?_⟩⟩
        · refine ih (j + 1) (by omega) (fun i hi => ?_)
          by_cases e : i = j
          · rw [e]
            exact z
          · exact hall i (by omega)
        · exact hthr μ1 m2 l1 q1 T2 ho (Or.inl ⟨_, List.mem_map.mpr ⟨_, gm j (by omega), rfl⟩, by omega⟩) a1 (by omega) k2 hW2
    exact hl (rs.getD r ruD).1.2.length 0 (by omega) (fun i hi => absurd hi (Nat.not_lt_zero i))
end CCO
