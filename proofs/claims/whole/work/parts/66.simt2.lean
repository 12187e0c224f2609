/-! ===== the reference's reader: a term's end; all terms ===== -/
section SM2
variable {t : Int → Int} {n : Int} {μ : am_Mem} {l : PM}
theorem close_e (H : RS μ) (hn : 0 ≤ n ∧ n ≤ 2000) {f : Nat} {m : PM} {i : Nat} {vs : List (List Int)} {what o w : Int} {ct cc : Nat} {k0 : Int} {acc : List (List Cd)} (h : PI2 t n f m i vs what o w ct cc k0 acc) (h2 : tK t n i = 2) (hl : (if what = 4 then 2 else 1) ≤ acc.length) (hl2 : acc.length ≤ (if what = 4 then 2 else 4)) (hw : w < 1100) :
    Rch μ l m (if what = 5 then adM (up (up m 142 w (m 125 22)) 125 34 (o - 1)) else adM (up m 125 34 (o - 1))) := by
  have h31 := BI_31 hn.1 h.1
  obtain ⟨hB, ⟨h1, h2', h3, h4, h5, h6, h7⟩, h8, h9, h10, h11⟩ := h
  have hR := tK_R t n i
  rw [← hB.2.1.1] at hR
  have h28 : m 125 28 = 2 := by rw [hB.2.1.1]; exact h2
  have hTX : TX m := hB.1.2.2
  have hwh : what = 5 ∨ what = 2 ∨ what = 4 := by
    rcases h11 with ⟨a, _⟩ | ⟨a, _⟩
    · exact Or.inl a
    · exact Or.inr a
  have hl4 : acc.length ≤ 4 := by split at hl2 <;> omega
  refine rch_part H hB.2.2.2.2.2 (by omega) (fun d => ?_)
  refine R171_0 (d := d + 1) H ⟨by omega, hR, fun z => absurd h28 z, fun _ => ?_⟩
  rintro v4 -
  refine ⟨fun μ' => μ' = sA μ (if what = 5 then adM (up (up m 142 w (m 125 22)) 125 34 (o - 1)) else adM (up m 125 34 (o - 1))) l, noX, ?_, fun μ' hp => ?_, fun _ _ z => z.elim⟩
  · refine R172_0 (d := d + 2) H ?_
    rw [h3, h4, h5, h6]
    refine ⟨by omega, by omega, ⟨fun _ => ⟨by omega, trivial⟩, fun _ => ⟨by omega, trivial⟩⟩, ?_⟩
    rintro v1 e1 v2 - v3 e3
    have e3' : ¬ v3 = 0 := by
      rw [e3]
      by_cases q : what = 4
      · rw [if_pos q] at hl hl2
        rw [if_neg (fun z => z q), if_neg (fun z => z (by omega))]
        decide
      · rw [if_neg q] at hl
        rw [if_pos q, if_neg (by omega)]
        decide
    refine ⟨fun _ => ⟨fun z => ?_, fun z => ⟨by omega, ?_⟩⟩, fun z => absurd e3' z⟩
    · rintro m4 rfl
      refine ⟨hTX, by rw [up_i (by decide), up_i (by decide)]; exact h31, ?_⟩
      rintro m5 rfl
      show _ = _
      rw [if_neg (fun y => z (e1.trans y))]
    · rintro m6 rfl m7 rfl
      refine ⟨hTX, by rw [up_i (by decide), up_c (by decide), up_i (by decide), up_c (by decide)]; exact h31, ?_⟩
      rintro m8 rfl
      show _ = _
      rw [if_pos (e1.symm.trans (Classical.not_not.mp z))]
  · have hp' : μ' = sA μ (if what = 5 then adM (up (up m 142 w (m 125 22)) 125 34 (o - 1)) else adM (up m 125 34 (o - 1))) l := hp
    rw [hp']
    exact R171_26 H rfl
/-- the state behind a step that writes nothing that reading looks at -/
theorem BI_cg {m mm : PM} {i : Nat} {vs : List (List Int)} (hB : BI t n m i vs) (hs : ∀ c j, (c = 128 ∨ c = 129 ∨ c = 130 ∨ c = 146 ∨ (c = 125 ∧ (j = 8 ∨ j = 9 ∨ j = 22 ∨ j = 28 ∨ j = 29 ∨ j = 30 ∨ j = 31 ∨ j = 32 ∨ j = 38))) → mm c j = m c j) : BI t n mm i vs := by
  obtain ⟨⟨b1, b2, b3⟩, ⟨b4, b5, b6, b7⟩, ⟨b8, b9, b10⟩, b11, ⟨b12, b13, b14⟩, b15⟩ := hB
  have f9 := hs 125 9 (by omega)
  have f129 : ∀ j, mm 129 j = m 129 j := fun j => hs _ _ (by omega)
  have f130 : ∀ j, mm 130 j = m 130 j := fun j => hs _ _ (by omega)
  refine ⟨⟨?_, by rw [hs _ _ (by omega)]; exact b2, TX_cg (hs _ _ (by omega)) (fun j => hs _ _ (by omega)) b3⟩, ⟨by rw [hs _ _ (by omega)]; exact b4, by rw [hs _ _ (by omega)]; exact b5, by rw [hs _ _ (by omega)]; exact b6, by rw [hs _ _ (by omega)]; exact b7⟩, ⟨NmW_cg f9 f129 f130 b8, NmD_cg f9 f129 f130 b9, ⟨by rw [f9]; exact b10.1, by rw [nmL_cg f9 f129 f130]; exact b10.2⟩⟩, by rw [hs _ _ (by omega)]; exact b11, ⟨by rw [hs _ _ (by omega)]; exact b12, b13, fun j hj => ?_⟩, by rw [hs _ _ (by omega)]; exact b15⟩
  · rw [← b1]
    funext j
    exact hs _ _ (by omega)
  · rw [hs _ _ (by omega)]
    exact nX_cg f9 f129 f130 (b14 j hj)
theorem ST_SPl {nd o w cnt : Int} {ct cc c : Nat} {j : Int} (h : ¬ ST nd o w cnt ct cc c j) : ¬ SPl (nd + 1) (o + 1) nd 141 140 c j := by
  intro z
  apply h
  unfold SPl at z
  unfold ST
  clear h
  rcases z with z | z | z | z | ⟨z1, z2⟩ | ⟨z1, z2⟩ | ⟨z1, z2⟩ | ⟨z1, z2⟩ | ⟨z1, z2, z3⟩ | ⟨z1, z2⟩
  · exact Or.inl z
  · exact Or.inr (Or.inl z)
  · exact Or.inr (Or.inr (Or.inl z))
  · exact Or.inr (Or.inr (Or.inr (Or.inl z)))
  · exact Or.inr (Or.inr (Or.inr (Or.inr (Or.inl ⟨z1, by omega⟩))))
  · exact Or.inr (Or.inr (Or.inr (Or.inr (Or.inr (Or.inl ⟨z1, by omega⟩)))))
  · exact Or.inr (Or.inr (Or.inr (Or.inr (Or.inr (Or.inr (Or.inl ⟨z1, by omega⟩))))))
  · exact Or.inr (Or.inr (Or.inr (Or.inr (Or.inr (Or.inr (Or.inl ⟨Or.inr (Or.inl z1), by omega⟩))))))
  · exact Or.inr (Or.inr (Or.inr (Or.inr (Or.inr (Or.inl ⟨z1, by omega⟩)))))
  · exact Or.inr (Or.inr (Or.inr (Or.inr (Or.inl ⟨Or.inr (Or.inr (Or.inl z1)), by omega⟩))))
theorem ST_g2 {nd o w cnt : Int} {ct cc c : Nat} {j : Int} (h : ¬ ST nd o w cnt ct cc c j) : ¬ ((c = 142 ∧ j = nd) ∨ (c = 125 ∧ (j = 34 ∨ j = 28 ∨ j = 29 ∨ j = 30 ∨ j = 31))) := by
  rintro (⟨z1, z2⟩ | ⟨z1, z2⟩)
  · exact h (Or.inr (Or.inr (Or.inr (Or.inr (Or.inl ⟨Or.inr (Or.inr (Or.inr z1)), by omega⟩)))))
  · exact h (Or.inl ⟨z1, by omega⟩)
set_option maxHeartbeats 8000000 in
theorem simT_open (H : RS μ) (hn : 0 ≤ n ∧ n ≤ 2000) {dl : Nat} (hS : SimT t n μ l dl) {i : Nat} {vs : List (List Int)} {m : PM} {o w cnt : Int} {ct cc : Nat} (hB : BI t n m i vs) (hT : Top m o w cnt ct cc) (ho : o + (dl + 1 : Nat) = 10) (hk : tK t n i = 1) (hp : pln t n (i + 1)) :
    match (match pPs (tK t n) (pT t n dl) 1 4 (i + 2) vs [] with | .inl x => (.inl x : Rd (List Cd)) | .inr (ps, i', vs') => .inr ((ps.length, tW t n (i + 1)) :: ps.flatten, i', vs')) with
      | .inl x => ∃ m', Rch μ l m m' ∧ Flt t n m m' x
      | .inr (cs, i', vs') => ∃ m', Rch μ l m m' ∧ BI t n m' i' vs' ∧ TP (dl + 2) m m' cs o w cnt ct cc := by
  obtain ⟨hO, hB2⟩ := op_OP hn hB hT hk hp
  have hr1 : Rch μ l m (opM m) := part_t H hB hT (by omega) (fun d => bt_open H hn hB hT hk (by omega) hp d)
  have hpp := Top_p hT
  have hnd : 0 ≤ m 125 22 ∧ m 125 22 ≤ (nt t n i : Int) := hB.2.2.2.1
  have hnt := nt_le (t := t) hn i
  have hT' := hT
  obtain ⟨t1, t2, t3, t4, t5, t6, t7, t8⟩ := hT'
  obtain ⟨o1, o2, o3, o4, o5, o6, ⟨o7, o8, o9⟩, ⟨o10, o11, o12⟩, o13⟩ := hO
  have eo : o + 1 - 1 = o := by omega
  have hI : PI2 t n (dl + 1) (opM m) (i + 2) vs 5 (o + 1) (m 125 22) 141 140 (m 125 22 + 1) [] := by
    refine ⟨hB2, ⟨by omega, by omega, o2, by rw [eo]; exact o10, by rw [eo]; exact o12, by rw [eo]; exact o11, by omega⟩, o9, by rw [o3]; simp, trivial, Or.inl ⟨rfl, rfl, rfl, rfl⟩⟩
  have hPL := PL (l := l) H hS (what := 5) (o := o + 1) (w := m 125 22) (ct := 141) (cc := 140) (k0 := m 125 22 + 1) (by omega) 1 4 rfl rfl 4 (i + 2) vs [] (opM m) rfl hI
  generalize pPs (tK t n) (pT t n dl) 1 4 (i + 2) vs [] = res at hPL ⊢
  match res, hPL with
  | .inl x, hPL =>
    obtain ⟨m', r2, hF⟩ := hPL
    refine ⟨m', hr1.trans r2, Flt_of hF (fun c j q => o1 c j ?_)⟩
    unfold PCl at q
    unfold ST
    rcases hpp with ⟨_, rfl, rfl, _⟩ | ⟨_, rfl, rfl⟩ <;> omega
  | .inr (ps, i', vs'), hPL =>
    obtain ⟨m2, i0, rfl, a2, a3, a4, a5, a6, a7, a8⟩ := hPL
    have hc := close_e (l := l) H hn a6 a2 a3 a4 (by omega)
    rw [if_pos rfl, eo] at hc
    generalize hg : up (up m2 142 (m 125 22) (m2 125 22)) 125 34 o = g at hc
    have hI2 := a6
    obtain ⟨p1, ⟨p2, p3, p4, p5, p6, p7, p8⟩, p9, p10, p11, -⟩ := a6
    have g1 : ∀ c j, ¬ ((c = 142 ∧ j = m 125 22) ∨ (c = 125 ∧ j = 34)) → g c j = m2 c j := by
      intro c j q
      rw [← hg, up_o (by omega), up_o (by omega)]
    have g2 : ∀ c j, ¬ ((c = 142 ∧ j = m 125 22) ∨ (c = 125 ∧ (j = 34 ∨ j = 28 ∨ j = 29 ∨ j = 30 ∨ j = 31))) → adM g c j = m2 c j := by
      intro c j q
      rw [adM_o (by omega), g1 c j (by omega)]
    have hX2 : ∀ x u, nX m2 x u → nX (adM g) x u := fun x u z => nX_cg (g2 _ _ (by omega)) (fun j => g2 _ _ (by omega)) (fun j => g2 _ _ (by omega)) z
    have n7 : nX m2 (m2 138 (m 125 22)) (tW t n (i + 1)) := by
      rw [a7 138 (m 125 22) (by unfold SPl; omega)]
      exact a8 _ _ o7
    have n8 : m2 139 (m 125 22) = -1 := by
      rw [a7 139 (m 125 22) (by unfold SPl; omega)]
      exact o8
    have hlen : (((ps.length, tW t n (i + 1)) :: ps.flatten : List Cd).length : Int) = ps.flatten.length + 1 := by simp
    refine ⟨adM g, (hr1.trans a5).trans hc, BI_skip (BI_cg p1 (fun c j q => g1 c j (by omega))) (nN1 (Or.inr (Or.inl a2))), fun c j q => ?_, ?_, ?_, ?_, ?_, ?_, ?_, fun x u z => hX2 x u (a8 x u (o13 x u z))⟩
    · rw [g2 c j (ST_g2 q), a7 c j (ST_SPl q), o1 c j q]
    · rw [adM_o (by omega), ← hg, up_s]
    · rw [g2 _ _ (by omega), p10, hlen]
      omega
    · rcases hpp with ⟨_, rfl, rfl, hw⟩ | ⟨_, rfl, rfl⟩
      · have c4 : cnt < 4 := by rcases t8 with ⟨_, _, _, _, z⟩ | ⟨_, z, _⟩ | ⟨_, z, _⟩ <;> omega
        rw [g2 _ _ (by omega), a7 _ _ (by unfold SPl; omega)]
        exact o4
      · rw [g2 _ _ (by omega), a7 _ _ (by unfold SPl; omega)]
        exact o4
    · rcases hpp with ⟨_, rfl, rfl, hw⟩ | ⟨_, rfl, rfl⟩
      all_goals
        rw [g2 _ _ (by omega), a7 _ _ (by unfold SPl; omega)]
        exact o5
    · rw [g2 _ _ (by omega), a7 _ _ (by unfold SPl; omega)]
      exact o6
    · unfold TmR
      simp only
      rw [if_neg (by omega)]
      refine ⟨ps, rfl, rfl, ?_, ?_, ?_, ?_, ?_⟩
      · rw [g2 _ _ (by omega)]
        exact hX2 _ _ n7
      · rw [g2 _ _ (by omega)]
        exact n8
      · rw [g2 _ _ (by omega)]
        exact p9
      · rw [adM_o (by omega), ← hg, up_c (by decide), up_s, p10]
        omega
      · refine PsR_cg ps 0 (m 125 22 + 1) (fun j _ _ => g2 _ _ (by omega)) (fun y p hy hpl hR => ?_) p11
        exact TmR_cg hX2 (dl + 1) y p (fun j j1 j2 => ⟨g2 _ _ (by omega), g2 _ _ (by omega), g2 _ _ (by omega), g2 _ _ (by omega)⟩) (fun j j1 j2 => g2 _ _ (by omega)) hR
theorem simT_leaf (H : RS μ) (hn : 0 ≤ n ∧ n ≤ 2000) {f : Nat} {i : Nat} {vs : List (List Int)} {m : PM} {o w cnt : Int} {ct cc : Nat} {e : Rd (List Cd)} (hB : BI t n m i vs) (hT : Top m o w cnt ct cc) (hk : ¬ tK t n i = 2) (he : tK t n i = 1 → match e with
      | .inl x => ∃ m', Rch μ l m m' ∧ Flt t n m m' x
      | .inr (cs, i', vs') => ∃ m', Rch μ l m m' ∧ BI t n m' i' vs' ∧ TP (f + 1) m m' cs o w cnt ct cc) :
    match pT0 t n i vs e with
      | .inl x => ∃ m', Rch μ l m m' ∧ Flt t n m m' x
      | .inr (cs, i', vs') => ∃ m', Rch μ l m m' ∧ BI t n m' i' vs' ∧ TP (f + 1) m m' cs o w cnt ct cc := by
  unfold pT0
  by_cases h4 : tK t n i = 4
  · rw [if_pos h4]
    obtain ⟨a1, a2, a3, a4, a5⟩ := BI_name hn hB (Or.inr h4)
    obtain ⟨hV, hN⟩ := BI_var hn hB h4
    have hb := hB.2.2.2.2.1
    have hf0 := hB.2.2.2.2.2
    have r38 : nmM m (m 125 30) (m 125 31) 125 38 = m 125 38 := k_nmM (by decide) (by decide) (by decide)
    have r146 : ∀ j, nmM m (m 125 30) (m 125 31) 146 j = m 146 j := fun j => k_nmM (by decide) (by decide) (by omega)
    by_cases hx : vrx vs (tW t n i) < vs.length
    · rw [if_pos hx]
      have q : (vrN (nmM m (m 125 30) (m 125 31)) (nmI m (m 125 30) (m 125 31)) : Int) < nmM m (m 125 30) (m 125 31) 125 38 := by
        rw [hN, r38, hb.1]
        omega
      have eM : vrM (nmM m (m 125 30) (m 125 31)) (nmI m (m 125 30) (m 125 31)) = nmM m (m 125 30) (m 125 31) := if_pos q
      have eI : vrI (nmM m (m 125 30) (m 125 31)) (nmI m (m 125 30) (m 125 31)) = vrx vs (tW t n i) := by
        unfold vrI
        rw [if_pos q, hN]
      have hw := fun d => bt_var (l := l) H hn hB hT h4 d
      rw [eM, eI] at hw
      refine ⟨_, part_t H hB hT hk hw, leaf_BI hB hT nmM_hs (Or.inr h4) a2 a3 a4 ⟨by rw [r38]; exact hb.1, hb.2.1, fun j hj => by rw [r146]; exact a5 _ _ (hb.2.2 j hj)⟩, leaf_TP hT nmM_hs a5 (Or.inl ⟨Nat.le_add_right 5 _, rfl, ?_⟩)⟩
      show (vrx vs (tW t n i) : Int) = ((5 + vrx vs (tW t n i) : Nat) : Int) - 5
      omega
    · rw [if_neg hx]
      by_cases h8 : vs.length = 8
      · rw [if_pos h8]
        obtain ⟨m', hw, hF⟩ := bt_f4 (l := l) H hn hB hT h4 hx h8
        exact ⟨m', part_t H hB hT hk hw, hF⟩
      · rw [if_neg h8]
        have q : ¬ (vrN (nmM m (m 125 30) (m 125 31)) (nmI m (m 125 30) (m 125 31)) : Int) < nmM m (m 125 30) (m 125 31) 125 38 := by
          rw [hN, r38, hb.1]
          omega
        have q2 : ¬ nmM m (m 125 30) (m 125 31) 125 38 = 8 := by rw [r38, hb.1]; omega
        have eM : vrM (nmM m (m 125 30) (m 125 31)) (nmI m (m 125 30) (m 125 31)) = up (up (nmM m (m 125 30) (m 125 31)) 146 (vs.length : Int) (nmI m (m 125 30) (m 125 31))) 125 38 ((vs.length : Int) + 1) := by
          unfold vrM
          rw [if_neg q, if_neg q2, r38, hb.1]
        have eI : vrI (nmM m (m 125 30) (m 125 31)) (nmI m (m 125 30) (m 125 31)) = vs.length := by
          unfold vrI
          rw [if_neg q, if_neg q2, r38, hb.1]
        have hw := fun d => bt_var (l := l) H hn hB hT h4 d
        rw [eM, eI] at hw
        generalize hg : up (up (nmM m (m 125 30) (m 125 31)) 146 (vs.length : Int) (nmI m (m 125 30) (m 125 31))) 125 38 ((vs.length : Int) + 1) = g at hw
        have g1 : ∀ c j, ¬ (c = 146 ∨ (c = 125 ∧ j = 38)) → g c j = nmM m (m 125 30) (m 125 31) c j := by
          intro c j z
          rw [← hg, up_o (by omega), up_o (by omega)]
        have hX : ∀ x u, nX (nmM m (m 125 30) (m 125 31)) x u → nX g x u := fun x u z => nX_cg (g1 _ _ (by omega)) (fun j => g1 _ _ (by omega)) (fun j => g1 _ _ (by omega)) z
        have hs : ∀ c i, ¬ (c = 129 ∨ c = 130 ∨ c = 146 ∨ (c = 125 ∧ (i = 9 ∨ i = 38))) → g c i = m c i := fun c j z => by rw [g1 c j (by omega), nmM_hs c j z]
        have hl : ((vs ++ [tW t n i]).length : Int) = vs.length + 1 := by simp
        refine ⟨_, part_t H hB hT hk hw, leaf_BI hB hT hs (Or.inr h4) (NmW_cg (g1 _ _ (by omega)) (fun j => g1 _ _ (by omega)) (fun j => g1 _ _ (by omega)) a2) (NmD_cg (g1 _ _ (by omega)) (fun j => g1 _ _ (by omega)) (fun j => g1 _ _ (by omega)) a3) ⟨by rw [g1 _ _ (by omega)]; exact a4.1, by rw [nmL_cg (g1 _ _ (by omega)) (fun j => g1 _ _ (by omega)) (fun j => g1 _ _ (by omega))]; exact a4.2⟩ ⟨by rw [← hg, up_s, hl], by simp; omega, fun j hj => ?_⟩, leaf_TP hT hs (fun x u z => hX _ _ (a5 x u z)) (Or.inl ⟨Nat.le_add_right 5 _, rfl, ?_⟩)⟩
        · by_cases z : j = vs.length
          · have e1 : g 146 j = nmI m (m 125 30) (m 125 31) := by rw [← hg, up_c (by decide), z, up_s]
            have e2 : (vs ++ [tW t n i]).getD j [] = tW t n i := by rw [z]; simp [List.getD_eq_getElem?_getD]
            rw [e1, e2]
            exact hX _ _ a1
          · have hj2 : j < vs.length := by simp at hj; omega
            have e1 : g 146 j = m 146 j := by rw [← hg, up_c (by decide), up_i (by omega), r146]
            have e2 : (vs ++ [tW t n i]).getD j [] = vs.getD j [] := by simp [List.getD_eq_getElem?_getD, List.getElem?_append_left hj2]
            rw [e1, e2]
            exact hX _ _ (a5 _ _ (hb.2.2 j hj2))
        · show (vs.length : Int) = ((5 + vs.length : Nat) : Int) - 5
          omega
  · rw [if_neg h4]
    by_cases hp : pln t n i
    · rw [if_pos hp]
      obtain ⟨a1, a2, a3, a4, a5⟩ := BI_name hn hB (Or.inl hp.1)
      have hb := hB.2.2.2.2.1
      have r38 : nmM m (m 125 30) (m 125 31) 125 38 = m 125 38 := k_nmM (by decide) (by decide) (by decide)
      have r146 : ∀ j, nmM m (m 125 30) (m 125 31) 146 j = m 146 j := fun j => k_nmM (by decide) (by decide) (by omega)
      exact ⟨_, part_t H hB hT hk (fun d => bt_name H hn hB hT hp), leaf_BI hB hT nmM_hs (Or.inl hp.1) a2 a3 a4 ⟨by rw [r38]; exact hb.1, hb.2.1, fun j hj => by rw [r146]; exact a5 _ _ (hb.2.2 j hj)⟩, leaf_TP hT nmM_hs a5 (Or.inr ⟨rfl, a1, rfl⟩)⟩
    · rw [if_neg hp]
      by_cases h1 : tK t n i = 1
      · rw [if_pos h1]
        exact he h1
      · rw [if_neg h1]
        obtain ⟨m', hw, hF⟩ := bt_f1 (l := l) H hn hB h4 hp h1
        exact ⟨m', part_t H hB hT hk hw, hF⟩
/-- the reader goes through terms as told -/
theorem simT (H : RS μ) (hn : 0 ≤ n ∧ n ≤ 2000) : ∀ dl, SimT t n μ l dl := by
  intro dl
  induction dl with
  | zero =>
    intro i vs m o w cnt ct cc hB hT ho hk
    refine simT_leaf (f := 0) H hn hB hT hk (fun h1 => ?_)
    obtain ⟨m', hw, hF⟩ := bt_f2 (l := l) H hB h1 (by have := hT.2.2.1; omega)
    exact ⟨m', part_t H hB hT hk hw, hF⟩
  | succ dl ih =>
    intro i vs m o w cnt ct cc hB hT ho hk
    refine simT_leaf (f := dl + 1) H hn hB hT hk (fun h1 => ?_)
    by_cases hp : pln t n (i + 1)
    · rw [if_pos hp]
      exact simT_open H hn ih hB hT ho h1 hp
    · rw [if_neg hp]
      obtain ⟨m', hw, hF⟩ := bt_f3 (l := l) H hn hB h1 (by have := hT.2.2.1; have := hT.1; omega) hp
      exact ⟨m', part_t H hB hT hk hw, hF⟩
end SM2
