/-! ===== the class's parser: takeCondition ===== -/
section CPG
variable {t : Int → Int} {n : Int} {X : Int → List Int → Prop} {J : Nat} {d : Nat} {μ : am_Mem} {m l : PM} {s : Nat} {i : Nat} {vs : List (List Int)} {r : Int} {h0 : Atm} {acc : List (Nat × Atm)}
/-- takeCondition at 'not' -/
theorem tc_not (H : CS μ) (hs : s = 22 ∨ s = 42) (hS : am_F μ 62 1 = s) (hX : XP X) (hn : 0 ≤ n ∧ n ≤ 2000) (hr : 0 ≤ r ∧ r < 60) (hacc : acc.length < 8) (hR : RuI X s m r h0 acc) (h : CI t n X J s m i vs) {m3 : PM} (e3 : m3 = up m 62 2 (m 62 2 + 2)) (hC : CI t n X J s m3 (i + 2) vs) {x2 : Int} :
  ∃ (P : Int32 → am_Mem → Prop) (X' : Nat → am_Mem → Prop), Wp (d + 23) 58 (0, [some (.ref 62), some (.int (zI 2)), some (.int (zI 1)), none, none], [], sA μ m3 l) (pI P X') ∧ (∀ x μ', P x μ' → Wp (d + 24) 63 (64, [some (.ref 62), some (.int (zI r)), some (.int (zI x2)), none], [.int x], μ') (pI (CoP t n X J s μ l m r h0 acc (match pAt t n 7 (i + 2) vs with
    | .inl x => .inl x
    | .inr (a, i', vs') => if tK t n i' = 2 then .inr ((2, a), i' + 1, vs') else .inl i')) noX)) ∧ ∀ x μ', X' x μ' → pI (CoP t n X J s μ l m r h0 acc (match pAt t n 7 (i + 2) vs with
    | .inl x => .inl x
    | .inr (a, i', vs') => if tK t n i' = 2 then .inr ((2, a), i' + 1, vs') else .inl i')) noX (.inr x) μ' := by
  have k3 : ∀ c j, ¬ (c = 62 ∧ j = 2) → m3 c j = m c j := fun c j q => by rw [e3]; exact up_o q
  have e6 : m3 s 6 = m s 6 := k3 _ _ (by omega)
  refine ⟨_, noX, tt_atom (dl := 7) (x1 := 2) H hs hS hX hn (by decide) (by decide) hC, fun y μ' hy => ?_, fun _ _ z => z.elim⟩
  obtain ⟨x, m1, rfl, hx, rfl, hq1, hq2⟩ := hy
  have fr1 : ∀ c j, ¬ WR s (m s 6) r c j → m1 c j = m c j := fun c j w => by rw [hq1 c j (by omega), k3 c j (by omega)]
  cases q : pAt t n 7 (i + 2) vs with
  | inl e =>
    rw [q] at hq2
    obtain ⟨a1, a2, a3⟩ := hq2
    refine K63_64 H hs hS ⟨hx, fun z => absurd a1 z, fun _ => ⟨0, m1, rfl, by decide, rfl, fr1, rfl, a2, a3⟩⟩
  | inr y =>
    obtain ⟨a, i', vs'⟩ := y
    rw [q] at hq2
    obtain ⟨a1, a2, a3, a4⟩ := hq2
    have h60 := h.2.2.2.1.1
    have hR3 : RuI X s m3 r h0 acc := RuI_cg (by omega) (fun i _ => ⟨k3 _ _ (by omega), k3 _ _ (by omega), k3 _ _ (by omega), k3 _ _ (by omega)⟩) (fun i _ => k3 _ _ (by omega)) (k3 _ _ (by omega)) (k3 _ _ (by omega)) (k3 _ _ (by omega)) (fun j _ => k3 _ _ (by omega)) (fun j _ => k3 _ _ (by omega)) hR
    have hR1 : RuI X s m1 r h0 acc := AtQ_RuI (x := x) (q := .inl 0) hs hq1 (by omega) hR3
    have hA : AtC X s m1 (m1 s 6) x (2, a) := ⟨by omega, by show 0 ≤ x - (a.2.flatten.length : Int); omega, a4⟩
    have ho := hR1.2.2.1.1
    have hol := psot_len acc
    refine K63_64 H hs hS ⟨hx, fun _ => ⟨fun μ' => ∃ m2, m2 = up (up m1 (s + 15) (8 * r + m1 (s + 16) r) x) (s + 16) r (m1 (s + 16) r + 1) ∧ μ' = sA μ m2 l, noX, K67_0 H hs ⟨hr, by omega, fun m2 e2 => ⟨m2, e2, rfl⟩⟩, fun μ' hμ => ?_, fun _ _ z => z.elim⟩, fun z => absurd (by omega) z⟩
    obtain ⟨m2, e2, rfl⟩ := hμ
    have hR2 := RuI_oth hs (by decide) hacc hR1 hA e2
    have k2 : ∀ c j, ¬ ((c = s + 15 ∧ j = 8 * r + m1 (s + 16) r) ∨ (c = s + 16 ∧ j = r)) → m2 c j = m1 c j := fun c j w => by rw [e2, up_o (by omega), up_o (by omega)]
    have hC2 : CI t n X J s m2 i' vs' := CI_cg a2 (fun j => k2 _ _ (by omega)) (fun j => k2 _ _ (by omega)) (fun j => k2 _ _ (by omega)) (k2 _ _ (by omega)) (k2 _ _ (by omega)) (fun j => k2 _ _ (by omega)) (by rw [k2 _ _ (by omega)]; exact a2.2.2.2.1)
    have fr2 : ∀ c j, ¬ WR s (m s 6) r c j → m2 c j = m c j := fun c j w => by rw [k2 c j (by omega)]; exact fr1 c j w
    have h62 : m2 s 6 = m1 s 6 := k2 _ _ (by omega)
    obtain ⟨hT, h2, h3, _⟩ := id hC2
    have hJ := hT.1
    have hc := ck_all t n i'
    have e19 : m2 19 (m2 62 2) = ckK (tK t n i') := by rw [h2]; exact (hT.2.2.2 i' h3).1
    refine K63_81 H hs hS ⟨fun y μ' => (y = zI 0 ∧ ¬ tK t n i' = 2 ∧ μ' = sA μ m2 l) ∨ (y = zI 1 ∧ tK t n i' = 2 ∧ μ' = sA μ (up m2 62 2 (m2 62 2 + 1)) l), noX, k_close H hs hS (by omega) (by rw [e19]; exact hc.2.2.2.2) (fun z => Or.inl ⟨rfl, fun w => z (by rw [e19]; exact hc.2.1.mpr w), rfl⟩) (fun z => Or.inr ⟨rfl, hc.2.1.mp (by rw [← e19]; exact z), rfl⟩), fun y μ' hy => ?_, fun _ _ z => z.elim⟩
    rcases hy with ⟨rfl, hk, rfl⟩ | ⟨rfl, hk, rfl⟩
    · refine K63_85 H hs hS ⟨Or.inl rfl, 0, m2, rfl, by decide, rfl, fr2, ?_⟩
      simp only [if_neg hk]
      exact ⟨trivial, h2, h3⟩
    · refine K63_85 H hs hS ⟨Or.inr rfl, 1, up m2 62 2 (m2 62 2 + 1), rfl, by decide, rfl, fun c j w => ?_, ?_⟩
      · rw [up_o (by omega)]; exact fr2 c j w
      · simp only [if_pos hk]
        have k4 : ∀ c j, ¬ (c = 62 ∧ j = 2) → up m2 62 2 (m2 62 2 + 1) c j = m2 c j := fun c j q => up_o q
        refine ⟨trivial, CI_adv hs hC2 (CI_lt hC2 (by omega)), by rw [k4 _ _ (by omega)]; omega, ?_, fun k y1 y2 => cov_at (fun y hy => ⟨_, hy⟩) (ok_vb (pAt_ok (by decide) (by have y1 := h.2.2.2.2.1.2.1; have y2 := h.2.2.2.2.2.1; omega) q).1) (by omega) a4 (fun c j _ _ => by rw [k4 c j (by omega), k2 c j (by omega)]) k (by omega) (by rw [k4 s 6 (by omega)] at y2; omega)⟩
        exact RuI_cg (by rw [k4 _ _ (by omega)]; exact Int.le_refl _) (fun i _ => ⟨k4 _ _ (by omega), k4 _ _ (by omega), k4 _ _ (by omega), k4 _ _ (by omega)⟩) (fun i _ => k4 _ _ (by omega)) (k4 _ _ (by omega)) (k4 _ _ (by omega)) (k4 _ _ (by omega)) (fun j _ => k4 _ _ (by omega)) (fun j _ => k4 _ _ (by omega)) hR2
/-- takeCondition at 'distinct' -/
theorem tc_dis (H : CS μ) (hs : s = 22 ∨ s = 42) (hS : am_F μ 62 1 = s) (hX : XP X) (hn : 0 ≤ n ∧ n ≤ 2000) (hr : 0 ≤ r ∧ r < 60) (hacc : acc.length < 8) (hR : RuI X s m r h0 acc) (h : CI t n X J s m i vs) {m3 : PM} (e3 : m3 = up m 62 2 (m 62 2 + 2)) (hC : CI t n X J s m3 (i + 2) vs) (hk1 : tK t n (i + 1) = 3) {x2 : Int} :
  ∃ (P : Int32 → am_Mem → Prop) (X' : Nat → am_Mem → Prop), Wp (d + 23) 60 (0, [some (.ref 62), some (.int (zI 9)), some (.int (zI 2)), some (.int (zI 2)), some (.int (zI 2)), none, none, none], [], sA μ m3 l) (pI P X') ∧ (∀ x μ', P x μ' → Wp (d + 24) 63 (111, [some (.ref 62), some (.int (zI r)), some (.int (zI x2)), none], [.int x], μ') (pI (CoP t n X J s μ l m r h0 acc (match pPa t n 8 (i + 2) vs [] 2 2 with
    | .inl x => .inl x
    | .inr (a, i', vs') => .inr ((3, a), i', vs'))) noX)) ∧ ∀ x μ', X' x μ' → pI (CoP t n X J s μ l m r h0 acc (match pPa t n 8 (i + 2) vs [] 2 2 with
    | .inl x => .inl x
    | .inr (a, i', vs') => .inr ((3, a), i', vs'))) noX (.inr x) μ' := by
  have k3 : ∀ c j, ¬ (c = 62 ∧ j = 2) → m3 c j = m c j := fun c j q => by rw [e3]; exact up_o q
  have e6 : m3 s 6 = m s 6 := k3 _ _ (by omega)
  have hm := nt_m t n i
  have hN := nt_n (t := t) (n := n) (i := i + 1) (Or.inl hk1)
  have h60 := h.2.2.2.1
  have hz := tp_0 (l := l) (mn := 2) (mx := 2) (dl := 8) (x1 := 9) (L := fun x => x = 9) H hs hS hn (by decide) (simC' H hs hS hX hn (d + 1) 8 (by decide)) rfl (by decide) (by decide) (by decide) hC (by rw [e6, show i + 2 = i + 1 + 1 from rfl]; omega)
  refine ⟨_, noX, hz, fun y μ' hy => ?_, fun _ _ z => z.elim⟩
  obtain ⟨x, m1, rfl, hx, rfl, hq1, hq2⟩ := hy
  have fr1 : ∀ c j, ¬ WR s (m s 6) r c j → m1 c j = m c j := fun c j w => by rw [hq1 c j (by omega), k3 c j (by omega)]
  unfold pPa
  cases q : pPs (tK t n) (pT t n 8) 2 2 (i + 2) vs [] with
  | inl e =>
    rw [q] at hq2
    obtain ⟨a1, a2, a3⟩ := hq2
    refine K63_111 H hs hS ⟨hx, fun z v1 e1 => ?_, fun z => absurd a1 z⟩
    rw [if_pos z] at e1
    rw [e1]
    exact ⟨0, m1, rfl, by decide, rfl, fr1, rfl, a2, a3⟩
  | inr y =>
    obtain ⟨ps, i', vs'⟩ := y
    rw [q] at hq2
    obtain ⟨a1, a2, a3, a4⟩ := hq2
    have hR3 : RuI X s m3 r h0 acc := RuI_cg (by omega) (fun i _ => ⟨k3 _ _ (by omega), k3 _ _ (by omega), k3 _ _ (by omega), k3 _ _ (by omega)⟩) (fun i _ => k3 _ _ (by omega)) (k3 _ _ (by omega)) (k3 _ _ (by omega)) (k3 _ _ (by omega)) (fun j _ => k3 _ _ (by omega)) (fun j _ => k3 _ _ (by omega)) hR
    have hR1 : RuI X s m1 r h0 acc := AtQ_RuI (x := x) (q := .inl 0) hs hq1 (by omega) hR3
    have hA : AtC X s m1 (m1 s 6) x (3, (([] : List Int), ps)) := ⟨by omega, by show 0 ≤ x - (ps.flatten.length : Int); omega, NdC_mono (f := 9) (by decide) a4⟩
    have ho := hR1.2.2.1.1
    have hol := psot_len acc
    refine K63_111 H hs hS ⟨hx, fun z => absurd z (by omega), fun z => ⟨fun μ' => ∃ m2, m2 = up (up m1 (s + 15) (8 * r + m1 (s + 16) r) x) (s + 16) r (m1 (s + 16) r + 1) ∧ μ' = sA μ m2 l, noX, K67_0 H hs ⟨hr, by omega, fun m2 e2 => ⟨m2, e2, rfl⟩⟩, fun μ' hμ => ?_, fun _ _ z => z.elim⟩⟩
    obtain ⟨m2, e2, rfl⟩ := hμ
    have hR2 := RuI_oth hs (by decide) hacc hR1 hA e2
    have k2 : ∀ c j, ¬ ((c = s + 15 ∧ j = 8 * r + m1 (s + 16) r) ∨ (c = s + 16 ∧ j = r)) → m2 c j = m1 c j := fun c j w => by rw [e2, up_o (by omega), up_o (by omega)]
    have hC2 : CI t n X J s m2 i' vs' := CI_cg a2 (fun j => k2 _ _ (by omega)) (fun j => k2 _ _ (by omega)) (fun j => k2 _ _ (by omega)) (k2 _ _ (by omega)) (k2 _ _ (by omega)) (fun j => k2 _ _ (by omega)) (by rw [k2 _ _ (by omega)]; exact a2.2.2.2.1)
    refine K63_126 H hs hS ⟨hx, fun v1 e1 => ?_⟩
    rw [if_neg z] at e1
    rw [e1]
    exact ⟨1, m2, rfl, by decide, rfl, fun c j w => by rw [k2 c j (by omega)]; exact fr1 c j w, rfl, hC2, by rw [k2 _ _ (by omega)]; omega, hR2, fun k y1 y2 => cov_at (ps := ps) (L := fun x => x = 9) (fun y hy => ⟨wdL.getD 1 [], hy.symm ▸ hX.2.2.2.2⟩) (ok_vb (a := (([] : List Int), ps)) (pPa_ok (t := t) (n := n) (dl := 8) (i := i + 2) (mn := 2) (mx := 2) (vs := vs) (w := []) (i' := i') (vs' := vs') (by decide) (by decide) (by have y1 := h.2.2.2.2.1.2.1; have y2 := h.2.2.2.2.2.1; omega) (by unfold pPa; rw [q])).1) (by omega) (NdC_mono (f := 9) (by decide) a4) (fun c j _ _ => k2 c j (by omega)) k (by omega) (by rw [k2 s 6 (by omega)] at y2; omega)⟩
/-- takeCondition at an atom -/
theorem tc_pos (H : CS μ) (hs : s = 22 ∨ s = 42) (hS : am_F μ 62 1 = s) (hX : XP X) (hn : 0 ≤ n ∧ n ≤ 2000) (hr : 0 ≤ r ∧ r < 60) (hacc : acc.length < 8) (hR : RuI X s m r h0 acc) (h : CI t n X J s m i vs) {x2 : Int} :
  ∃ (P : Int32 → am_Mem → Prop) (X' : Nat → am_Mem → Prop), Wp (d + 23) 58 (0, [some (.ref 62), some (.int (zI 1)), some (.int (zI 1)), none, none], [], sA μ m l) (pI P X') ∧ (∀ x μ', P x μ' → Wp (d + 24) 63 (143, [some (.ref 62), some (.int (zI r)), some (.int (zI x2)), none], [.int x], μ') (pI (CoP t n X J s μ l m r h0 acc (match pAt t n 8 i vs with
    | .inl x => .inl x
    | .inr (a, i', vs') => .inr ((1, a), i', vs'))) noX)) ∧ ∀ x μ', X' x μ' → pI (CoP t n X J s μ l m r h0 acc (match pAt t n 8 i vs with
    | .inl x => .inl x
    | .inr (a, i', vs') => .inr ((1, a), i', vs'))) noX (.inr x) μ' := by
  refine ⟨_, noX, tt_atom (dl := 8) (x1 := 1) H hs hS hX hn (by decide) (by decide) h, fun y μ' hy => ?_, fun _ _ z => z.elim⟩
  obtain ⟨x, m1, rfl, hx, rfl, hq1, hq2⟩ := hy
  have fr1 : ∀ c j, ¬ WR s (m s 6) r c j → m1 c j = m c j := fun c j w => hq1 c j (by omega)
  have h60 := h.2.2.2.1
  cases q : pAt t n 8 i vs with
  | inl e =>
    rw [q] at hq2
    obtain ⟨a1, a2, a3⟩ := hq2
    refine K63_143 H hs hS ⟨hx, fun z v1 e1 => ?_, fun z => absurd a1 z⟩
    rw [if_pos z] at e1
    rw [e1]
    exact ⟨0, m1, rfl, by decide, rfl, fr1, rfl, a2, a3⟩
  | inr y =>
    obtain ⟨a, i', vs'⟩ := y
    rw [q] at hq2
    obtain ⟨a1, a2, a3, a4⟩ := hq2
    have hR1 : RuI X s m1 r h0 acc := AtQ_RuI (x := x) (q := .inl 0) hs hq1 (by omega) hR
    have hA : AtC X s m1 (m1 s 6) x (1, a) := ⟨by omega, by show 0 ≤ x - (a.2.flatten.length : Int); omega, a4⟩
    have ho := hR1.2.1.1
    have hol := psot_len acc
    refine K63_143 H hs hS ⟨hx, fun z => absurd z (by omega), fun z => ⟨fun μ' => ∃ m2, m2 = up (up m1 (s + 12) (8 * r + m1 (s + 13) r) x) (s + 13) r (m1 (s + 13) r + 1) ∧ μ' = sA μ m2 l, noX, K68_0 H hs ⟨hr, by omega, fun m2 e2 => ⟨m2, e2, rfl⟩⟩, fun μ' hμ => ?_, fun _ _ z => z.elim⟩⟩
    obtain ⟨m2, e2, rfl⟩ := hμ
    have hR2 := RuI_pos hs hacc hR1 hA e2
    have k2 : ∀ c j, ¬ ((c = s + 12 ∧ j = 8 * r + m1 (s + 13) r) ∨ (c = s + 13 ∧ j = r)) → m2 c j = m1 c j := fun c j w => by rw [e2, up_o (by omega), up_o (by omega)]
    have hC2 : CI t n X J s m2 i' vs' := CI_cg a2 (fun j => k2 _ _ (by omega)) (fun j => k2 _ _ (by omega)) (fun j => k2 _ _ (by omega)) (k2 _ _ (by omega)) (k2 _ _ (by omega)) (fun j => k2 _ _ (by omega)) (by rw [k2 _ _ (by omega)]; exact a2.2.2.2.1)
    refine K63_158 H hs hS ⟨hx, fun v1 e1 => ?_⟩
    rw [if_neg z] at e1
    rw [e1]
    exact ⟨1, m2, rfl, by decide, rfl, fun c j w => by rw [k2 c j (by omega)]; exact fr1 c j w, rfl, hC2, by rw [k2 _ _ (by omega)]; omega, hR2, fun k y1 y2 => cov_at (fun y hy => ⟨_, hy⟩) (ok_vb (pAt_ok (by decide) (by have y1 := h.2.2.2.2.1.2.1; have y2 := h.2.2.2.2.2.1; omega) q).1) (by omega) a4 (fun c j _ _ => k2 c j (by omega)) k (by omega) (by rw [k2 s 6 (by omega)] at y2; omega)⟩
/-- takeCondition -/
theorem k_takeCond (H : CS μ) (hs : s = 22 ∨ s = 42) (hS : am_F μ 62 1 = s) (hX : XP X) (hn : 0 ≤ n ∧ n ≤ 2000) (hr : 0 ≤ r ∧ r < 60) (hacc : acc.length < 8) (hR : RuI X s m r h0 acc) (h : CI t n X J s m i vs) :
  Wp (d + 24) 63 (0, [some (.ref 62), some (.int (zI r)), none, none], [], sA μ m l) (pI (CoP t n X J s μ l m r h0 acc (pCo t n i vs)) noX) := by
  obtain ⟨hT, h2, h3, h4, _⟩ := id h
  have hJ := hT.1
  have hc := ck_all t n i
  have hc1 := ck_all t n (i + 1)
  have e19 : m 19 (m 62 2) = ckK (tK t n i) := by rw [h2]; exact (hT.2.2.2 i h3).1
  refine K63_0 H hs hS ⟨by omega, by rw [e19]; exact hc.2.2.2.2, ⟨fun _ => trivial, fun z => ?_⟩, fun v1 e1 => ?_⟩
  · have k1 : tK t n i = 1 := hc.1.mp (by rw [← e19]; exact Decidable.byContradiction z)
    have hlt := CI_lt h (by omega)
    have e2 : m 19 (m 62 2 + 1) = ckK (tK t n (i + 1)) := by
      rw [show m 62 2 + 1 = ((i + 1 : Nat) : Int) by omega]
      exact (hT.2.2.2 (i + 1) (by omega)).1
    exact ⟨by omega, by rw [e2]; exact hc1.2.2.2.2, trivial⟩
  obtain ⟨w0, w8, w9⟩ := word_iff hX h e1
  refine ⟨w0, fun n8 => ⟨fun n9 => ?_, fun n9 => ?_⟩, fun n8 => ?_⟩
  · have e : pCo t n i vs = (match pAt t n 8 i vs with
      | .inl x => .inl x
      | .inr (a, i', vs') => .inr ((1, a), i', vs')) := by
      unfold pCo
      rw [if_neg (fun z => n8 (w8.mpr z)), if_neg (fun z => n9 (w9.mpr z))]
      all_goals rfl
    rw [e]
    exact tc_pos H hs hS hX hn hr hacc hR h
  · have k9 := w9.mp (Decidable.byContradiction n9)
    intro m2 e2
    have hC := CI_adv2 hs h (CI_lt1 h (by omega) (by omega))
    rw [← e2] at hC
    have e : pCo t n i vs = (match pPa t n 8 (i + 2) vs [] 2 2 with
      | .inl x => .inl x
      | .inr (a, i', vs') => .inr ((3, a), i', vs')) := by
      unfold pCo
      rw [if_neg (fun z => n8 (w8.mpr z)), if_pos k9]
      all_goals rfl
    rw [e]
    exact tc_dis H hs hS hX hn hr hacc hR h e2 hC k9.2.1
  · have k8 := w8.mp (Decidable.byContradiction n8)
    intro m2 e2
    have hC := CI_adv2 hs h (CI_lt1 h (by omega) (by omega))
    rw [← e2] at hC
    have e : pCo t n i vs = (match pAt t n 7 (i + 2) vs with
      | .inl x => .inl x
      | .inr (a, i', vs') => if tK t n i' = 2 then .inr ((2, a), i' + 1, vs') else .inl i') := by
      unfold pCo
      rw [if_pos k8]
      all_goals rfl
    rw [e]
    exact tc_not H hs hS hX hn hr hacc hR h e2 hC
end CPG
