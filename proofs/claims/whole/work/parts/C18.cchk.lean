/-! ===== the class's check, whole ===== -/
theorem pR_sA (μ : am_Mem) (m l : PM) (c f r : Nat) : am_pR (sA μ m l) c f r = sA (am_pR μ c f r) m l := rfl
theorem CS_pR {μ : am_Mem} {c f r : Nat} (hn : ∀ j, j < 99 → ¬ ((cFl.getD j (0, 0, 0)).1 = c ∧ (cFl.getD j (0, 0, 0)).2.1 = f)) (H : CS μ) : CS (am_pR μ c f r) := by
  refine ⟨H.1, fun j hj => ?_⟩
  have z := hn j hj
  have e := H.2 j hj
  show am_u2 (am_F μ) c f r _ _ = _
  unfold am_u2
  split
  · rename_i q
    first
    | exact absurd q z
    | exact absurd (by simpa using q) z
  · exact e
theorem nF_65_1 : ∀ j, j < 99 → ¬ ((cFl.getD j (0, 0, 0)).1 = 65 ∧ (cFl.getD j (0, 0, 0)).2.1 = 1) := by decide
theorem nF_62_1 : ∀ j, j < 99 → ¬ ((cFl.getD j (0, 0, 0)).1 = 62 ∧ (cFl.getD j (0, 0, 0)).2.1 = 1) := by decide
/-- what a check may write -/
abbrev WCk (s c : Nat) (j : Int) : Prop := (c = 65 ∧ (j = 0 ∨ j = 4)) ∨ c = 66 ∨ c = 67 ∨ WPn s c j
theorem plc_R {P : Nat → Prop} {n : Nat} (h : n ≤ 60) : iR (plc P n) := by
  unfold plc
  split
  · exact ⟨by omega, by omega⟩
  · exact ⟨by omega, by omega⟩
theorem plc_m {P : Nat → Prop} {n : Nat} : plc P n = -1 ↔ ¬ lst P 0 n < n := by
  unfold plc
  split
  · constructor
    · intro q; omega
    · intro q; omega
  · constructor
    · intro _; assumption
    · intro _; rfl
theorem plc_v {P : Nat → Prop} {n : Nat} (h : lst P 0 n < n) : plc P n = (lst P 0 n : Int) := by
  unfold plc
  rw [if_pos h]
theorem ch4_R (rs : List Rul) : iR (ch4 rs) := by
  unfold ch4
  by_cases h1 : (Dep rs (wdL.getD 3 []) (wdL.getD 4 []) ∨ Dep rs (wdL.getD 3 []) (wdL.getD 5 []))
  · rw [cif_p h1]; exact ⟨by decide, by decide⟩
  · rw [cif_n h1]
    by_cases h2 : Dep rs (wdL.getD 6 []) (wdL.getD 5 [])
    · rw [cif_p h2]; exact ⟨by decide, by decide⟩
    · rw [cif_n h2]
      by_cases h3 : Dep rs (wdL.getD 8 []) (wdL.getD 5 [])
      · rw [cif_p h3]; exact ⟨by decide, by decide⟩
      · rw [cif_n h3]
        by_cases h4 : Dep rs (wdL.getD 9 []) (wdL.getD 5 [])
        · rw [cif_p h4]; exact ⟨by decide, by decide⟩
        · rw [cif_n h4]; exact ⟨by decide, by decide⟩
/-- what a check tells -/
def CkE (X : Int → List Int → Prop) (s : Nat) (rs : List Rul) (m l : PM) (y : Int) (m' l' : PM) : Prop := y = (chF rs).1 ∧ (∀ c j, ¬ WCk s c j → m' c j = m c j) ∧ (∀ c j, ¬ c = 68 → l' c j = l c j) ∧ m' 65 0 = (chF rs).2 ∧ ((chF rs).1 = 0 → ∃ (m0 : PM) (h : Nat), (∀ c j, ¬ WPn s c j → m' c j = m0 c j) ∧ KV X s m0 rs ∧ RLt X rs m0 l' h ∧ PlE s rs m0 l' h m')
section CCK
variable {d : Nat} {μ : am_Mem} {s : Nat} {X : Int → List Int → Prop} {rs : List Rul} {l : PM}
theorem ck_end {m m' l' : PM} {v p : Int} (e : chF rs = (v, p)) (hv : ¬ v = 0) (fr : ∀ c j, ¬ WCk s c j → m' c j = m c j) (fl : ∀ c j, ¬ c = 68 → l' c j = l c j) : CkE X s rs m l v (up m' 65 0 p) l' := by
  refine ⟨by rw [e], fun c j hn => ?_, fl, by rw [up_s, e], fun q => absurd (by rw [e] at q; exact q) hv⟩
  rw [up_o (by rintro ⟨q1, q2⟩; exact hn (Or.inl ⟨q1, Or.inl q2⟩))]
  exact fr c j hn
theorem ck_st {m m' : PM} {p : Int} (fr : ∀ c j, ¬ WCk s c j → m' c j = m c j) : ∀ c j, ¬ WCk s c j → up m' 65 0 p c j = m c j := by
  intro c j hn
  rw [up_o (by rintro ⟨q1, q2⟩; exact hn (Or.inl ⟨q1, Or.inl q2⟩))]
  exact fr c j hn
theorem KV_ck {m m' : PM} (hs : s = 22 ∨ s = 42) (fr : ∀ c j, ¬ WCk s c j → m' c j = m c j) (hv : KV X s m rs) : KV X s m' rs := by
  refine KV_cg (fun c j hc => fr c j ?_) hv
  rcases hs with rfl | rfl <;> omega
theorem RLt_up {m l : PM} {h : Nat} {p : Int} (hR : RLt X rs m l h) : RLt X rs (up m 65 0 p) l h := by
  refine RLt_cg (fun c j hc => up_o ?_) hR
  rintro ⟨rfl, rfl⟩
  rcases hc with q | q
  · exact absurd q (by decide)
  · exact absurd q.2 (by decide)
theorem k_check {m : PM} (H0 : CS μ) (hs : s = 22 ∨ s = 42) (hv : KV X s m rs) (hk1 : am_kd μ 1 = (8, 8)) (h1 : ∀ j : Nat, j < 8 → m 1 (j : Int) = fixV.getD j 0) : Wp (d + 6) 1 (0, [some (.ref 65), some (.ref s)], [], sA μ m l) (pI (fun y μ' => ∃ (y' : Int) (m' l' : PM), y = zI y' ∧ μ' = sA (am_pR μ 65 1 s) m' l' ∧ CkE X s rs m l y' m' l') noX) := by
  have H : CS (am_pR μ 65 1 s) := CS_pR nF_65_1 H0
  have hS : am_F (am_pR μ 65 1 s) 65 1 = s := by
    show (if (65 : Nat) = 65 ∧ (1 : Nat) = 1 then s else am_F μ 65 1) = s
    exact if_pos ⟨rfl, rfl⟩
  have n60 := (KV_n hv).2.1
  refine b1_0 (d := d + 5) (X := noX) (cK_65 H0) (by rcases hs with rfl | rfl <;> decide) (show am_kd μ 65 = (1, 0) from cK_65 H0) (by rw [pR_sA]; exact k_findWidth (d := d + 3) H hs hS hv hk1 h1) (fun y μ' hp => ?_) (fun _ _ z => z.elim)
  obtain ⟨m1, rfl, rfl, f1⟩ := hp
  have fr1 : ∀ c j, ¬ WCk s c j → m1 c j = m c j := fun c j hn => f1 c j (fun q => hn (Or.inr (Or.inl q)))
  refine K1_10 H hs hS ⟨plc_R n60, fun q => ?_, fun q => ?_⟩
  rotate_left
  · rintro m2 rfl
    have q' : lst (Bad2 rs) 0 rs.length < rs.length := Decidable.byContradiction fun z => q (plc_m.mpr z)
    rw [plc_v q']
    exact ⟨2, _, l, rfl, rfl, ck_end (by unfold chF; rw [if_pos q']) (by decide) fr1 (fun _ _ _ => rfl)⟩
  have n2 := plc_m.mp q
  clear q
  rintro m2 rfl
  have fr2 := ck_st (p := plc (Bad2 rs) rs.length) fr1
  generalize up m1 65 0 (plc (Bad2 rs) rs.length) = m2 at fr2 ⊢
  have hv2 := KV_ck hs fr2 hv
  refine ⟨_, _, k_findWord (d := d + 3) H hs hS hv2, fun y μ' hp => ?_, fun _ _ z => z.elim⟩
  obtain ⟨rfl, rfl⟩ := hp
  refine K1_28 H hs hS ⟨plc_R n60, fun q => ?_, fun q => ?_⟩
  rotate_left
  · rintro m3 rfl
    have q' : lst (Bad3 rs) 0 rs.length < rs.length := Decidable.byContradiction fun z => q (plc_m.mpr z)
    rw [plc_v q']
    exact ⟨3, _, l, rfl, rfl, ck_end (by unfold chF; rw [if_neg n2, if_pos q']) (by decide) fr2 (fun _ _ _ => rfl)⟩
  have n3 := plc_m.mp q
  clear q
  rintro m3 rfl
  have fr3 := ck_st (p := plc (Bad3 rs) rs.length) fr2
  generalize up m2 65 0 (plc (Bad3 rs) rs.length) = m3 at fr3 ⊢
  have hv3 := KV_ck hs fr3 hv
  have z3 := (lst_le (Bad3 rs) rs.length 0).1
  have h3 : ∀ j, j < rs.length → ¬ Bad3 rs j := fun j hj => lst_no rs.length 0 j (Nat.zero_le _) (by omega)
  refine ⟨_, _, k_relate (d := d + 2) H hs hS hv3 h3, fun μ' hp => ?_, fun _ _ z => z.elim⟩
  obtain ⟨m4, l4, h, rfl, f4, g4, hR⟩ := hp
  have fr4 : ∀ c j, ¬ WCk s c j → m4 c j = m c j := fun c j hn => (f4 c j (fun q => hn (q.elim (fun q => Or.inr (Or.inr (Or.inl q))) (fun q => Or.inl ⟨q.1, Or.inr q.2⟩)))).trans (fr3 c j hn)
  have hv4 := KV_ck hs fr4 hv
  refine K1_45 H hs hS ⟨_, _, k_findDependence (d := d + 3) H hs hS hv4 hR, fun y μ' hp => ?_, fun _ _ z => z.elim⟩
  obtain ⟨rfl, rfl⟩ := hp
  refine K1_50 H hs hS ⟨ch4_R rs, fun q => ?_, fun q => ?_⟩
  rotate_left
  · rintro m5 rfl
    exact ⟨4, _, l4, rfl, rfl, ck_end (by unfold chF; rw [if_neg n2, if_neg n3, if_pos q]) (by decide) fr4 g4⟩
  have n4 : ¬ ¬ ch4 rs = -1 := fun z => z q
  clear q
  rintro m5 rfl
  have fr5 := ck_st (p := ch4 rs) fr4
  have hR5 : RLt X rs (up m4 65 0 (ch4 rs)) l4 h := RLt_up hR
  generalize up m4 65 0 (ch4 rs) = m5 at fr5 hR5 ⊢
  have hv5 := KV_ck hs fr5 hv
  refine ⟨_, _, k_findUnsafe (d := d + 3) H hs hS hv5, fun y μ' hp => ?_, fun _ _ z => z.elim⟩
  obtain ⟨rfl, rfl⟩ := hp
  refine K1_68 H hs hS ⟨plc_R n60, fun q => ?_, fun q => ?_⟩
  rotate_left
  · rintro m6 rfl
    have q' : lst (Bad5 rs) 0 rs.length < rs.length := Decidable.byContradiction fun z => q (plc_m.mpr z)
    rw [plc_v q']
    exact ⟨5, _, l4, rfl, rfl, ck_end (by unfold chF; rw [if_neg n2, if_neg n3, if_neg n4, if_pos q']) (by decide) fr5 g4⟩
  have n5 := plc_m.mp q
  clear q
  rintro m6 rfl
  have fr6 := ck_st (p := plc (Bad5 rs) rs.length) fr5
  have hR6 : RLt X rs (up m5 65 0 (plc (Bad5 rs) rs.length)) l4 h := RLt_up hR5
  generalize up m5 65 0 (plc (Bad5 rs) rs.length) = m6 at fr6 hR6 ⊢
  have hv6 := KV_ck hs fr6 hv
  refine ⟨_, _, k_findUnlayered (d := d + 2) H hs hS hv6 hR6, fun y μ' hp => ?_, fun _ _ z => z.elim⟩
  obtain ⟨rfl, rfl⟩ := hp
  refine K1_86 H hs hS ⟨plc_R n60, fun q => ?_, fun q => ?_⟩
  rotate_left
  · rintro m7 rfl
    have q' : lst (Bad6 rs) 0 rs.length < rs.length := Decidable.byContradiction fun z => q (plc_m.mpr z)
    rw [plc_v q']
    exact ⟨6, _, l4, rfl, rfl, ck_end (by unfold chF; rw [if_neg n2, if_neg n3, if_neg n4, if_neg n5, if_pos q']) (by decide) fr6 g4⟩
  have n6 := plc_m.mp q
  clear q
  rintro m7 rfl
  have fr7 := ck_st (p := plc (Bad6 rs) rs.length) fr6
  have hR7 : RLt X rs (up m6 65 0 (plc (Bad6 rs) rs.length)) l4 h := RLt_up hR6
  generalize up m6 65 0 (plc (Bad6 rs) rs.length) = m7 at fr7 hR7 ⊢
  have hv7 := KV_ck hs fr7 hv
  refine ⟨_, _, k_findUnbounded (d := d) H hs hS hv7 hR7, fun y μ' hp => ?_, fun _ _ z => z.elim⟩
  obtain ⟨rfl, rfl⟩ := hp
  refine K1_105 H hs hS ⟨plc_R n60, fun q => ?_, fun q => ?_⟩
  rotate_left
  · rintro m8 rfl
    have q' : lst (Bad7 rs) 0 rs.length < rs.length := Decidable.byContradiction fun z => q (plc_m.mpr z)
    rw [plc_v q']
    exact ⟨7, _, l4, rfl, rfl, ck_end (by unfold chF; rw [if_neg n2, if_neg n3, if_neg n4, if_neg n5, if_neg n6, if_pos q']) (by decide) fr7 g4⟩
  have n7 := plc_m.mp q
  rintro m8 rfl
  have fr8 := ck_st (p := plc (Bad7 rs) rs.length) fr7
  have e8 : up m7 65 0 (plc (Bad7 rs) rs.length) 65 0 = -1 := (up_s _ _ _ _).trans q
  have hR8 : RLt X rs (up m7 65 0 (plc (Bad7 rs) rs.length)) l4 h := RLt_up hR7
  generalize up m7 65 0 (plc (Bad7 rs) rs.length) = m8 at fr8 hR8 e8 ⊢
  have hv8 := KV_ck hs fr8 hv
  refine ⟨_, _, k_plan (d := d) H hs hS hv8 hR8, fun μ' hp => ?_, fun _ _ z => z.elim⟩
  obtain ⟨m9, rfl, f9, hE⟩ := hp
  have e : chF rs = (0, -1) := by unfold chF; rw [if_neg n2, if_neg n3, if_neg n4, if_neg n5, if_neg n6, if_neg n7]
  refine K1_123 H hs hS ⟨0, m9, l4, rfl, rfl, by rw [e], fun c j hn => (f9 c j (fun q => hn (Or.inr (Or.inr (Or.inr q))))).trans (fr8 c j hn), g4, ?_, fun _ => ⟨m8, h, f9, hv8, hR8, hE⟩⟩
  rw [f9 65 0 (by rcases hs with rfl | rfl <;> omega), e8, e]
end CCK
