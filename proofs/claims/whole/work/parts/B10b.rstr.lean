/-! ===== the reference's checkDependence, turns, checkStrata ===== -/
theorem ChE_cg {k : Int} {P : Nat → Prop} {n : Nat} {m m' : PM} (h : ChE k P n m) (e1 : m' 125 32 = m 125 32) (e2 : m' 125 33 = m 125 33) : ChE k P n m' := by
  unfold ChE
  rw [e1, e2]
  exact h
/-- the four of the fault of dependence -/
def P4 (rs : List Rul) : Nat → Prop
  | 0 => Dep rs (wdL.getD 3 []) (wdL.getD 4 []) ∨ Dep rs (wdL.getD 3 []) (wdL.getD 5 [])
  | 1 => Dep rs (wdL.getD 6 []) (wdL.getD 5 [])
  | 2 => Dep rs (wdL.getD 8 []) (wdL.getD 5 [])
  | _ => Dep rs (wdL.getD 9 []) (wdL.getD 5 [])
theorem ch4_lst (rs : List Rul) : (lst (P4 rs) 0 4 < 4 ∧ ch4 rs = (lst (P4 rs) 0 4 : Int)) ∨ (¬ lst (P4 rs) 0 4 < 4 ∧ ch4 rs = -1) := by
  unfold ch4
  have e : lst (P4 rs) 0 4 = cif (P4 rs 0) 0 (cif (P4 rs 1) 1 (cif (P4 rs 2) 2 (cif (P4 rs 3) 3 4))) := rfl
  rw [e]
  by_cases c0 : P4 rs 0
  · rw [cif_p c0, cif_p (show _ ∨ _ from c0)]
    exact Or.inl ⟨by decide, rfl⟩
  · rw [cif_n c0, cif_n (show ¬ (_ ∨ _) from c0)]
    by_cases c1 : P4 rs 1
    · rw [cif_p c1, cif_p (show Dep rs (wdL.getD 6 []) (wdL.getD 5 []) from c1)]
      exact Or.inl ⟨by decide, rfl⟩
    · rw [cif_n c1, cif_n (show ¬ Dep rs (wdL.getD 6 []) (wdL.getD 5 []) from c1)]
      by_cases c2 : P4 rs 2
      · rw [cif_p c2, cif_p (show Dep rs (wdL.getD 8 []) (wdL.getD 5 []) from c2)]
        exact Or.inl ⟨by decide, rfl⟩
      · rw [cif_n c2, cif_n (show ¬ Dep rs (wdL.getD 8 []) (wdL.getD 5 []) from c2)]
        by_cases c3 : P4 rs 3
        · rw [cif_p c3, cif_p (show Dep rs (wdL.getD 9 []) (wdL.getD 5 []) from c3)]
          exact Or.inl ⟨by decide, rfl⟩
        · rw [cif_n c3, cif_n (show ¬ Dep rs (wdL.getD 9 []) (wdL.getD 5 []) from c3)]
          exact Or.inr ⟨by decide, rfl⟩
section RST
variable {d : Nat} {μ : am_Mem} {l : PM}
theorem nX_w {m : PM} (hD : NmD m) {j : Nat} (hj : j < 10) : nX m (j : Int) (wdL.getD j []) := ⟨by omega, by have := hD.2.1; omega, by rw [show ((j : Int).toNat) = j by omega]; exact hD.2.2 j hj⟩
theorem cd_31 (H : RS μ) {m0 : PM} {rs : List Rul} {Q : Option Value ⊕ Nat → am_Mem → Prop} (hq : ∀ m, (∀ c j, ¬ WKc c j → m c j = m0 c j) → ChE 4 (P4 rs) 4 m → Q (.inl none) (sA μ m l)) : ∀ (f k : Nat) (m : PM), k + f = 4 → 1 ≤ k → (∀ c j, ¬ WKc c j → m c j = m0 c j) → RV m rs → FSt 4 (P4 rs) k m → Wp (d + 2) 189 (31, [some (.ref 125), some (.int (zI (k : Int)))], [], sA μ m l) Q := by
  intro f
  induction f with
  | zero =>
    intro k m hf h1 fr hv hF
    exact R189_31 H ⟨by unfold iR; omega, fun _ => hq m fr (FSt_end hF (by omega) (Or.inl (by omega))), fun z => absurd (by omega) z⟩
  | succ f ih =>
    intro k m hf h1 fr hv hF
    have hD := hv.2.2.1
    refine R189_31 H ⟨by unfold iR; omega, fun z => absurd z (by omega), fun _ v1 e1 => ?_⟩
    have key : ∃ w : Nat, w < 10 ∧ v1 = (w : Int) ∧ (P4 rs k ↔ Dep rs (wdL.getD w []) (wdL.getD 5 [])) := by
      have hk : k = 1 ∨ k = 2 ∨ k = 3 := by omega
      rcases hk with rfl | rfl | rfl
      · exact ⟨6, by decide, by rw [e1]; decide, Iff.rfl⟩
      · exact ⟨8, by decide, by rw [e1]; decide, Iff.rfl⟩
      · exact ⟨9, by decide, by rw [e1]; decide, Iff.rfl⟩
    obtain ⟨w, hw, ew, hP⟩ := key
    rw [ew]
    refine ⟨_, noX, c_depend H hv (nX_w hD hw), fun μ' hp => ?_, fun _ _ z => z.elim⟩
    obtain ⟨m1, rfl, q1, q2, q3, q4⟩ := hp
    have h5 := q4 5 _ (nX_w q2.2.2.1 (j := 5) (by decide))
    have hF1 : FSt 4 (P4 rs) k m1 := FSt_cg hF (q1 _ _ (by decide)) (q1 _ _ (by decide))
    have hb := q3 5 (by decide) (by have := q2.2.2.1.2.1; omega)
    have e : (k : Int) + 1 = ((k + 1 : Nat) : Int) := by omega
    refine R189_62 H ⟨by rcases hb with z | z <;> rw [z] <;> decide, fun z => ?_, fun z => ⟨FSt_R (by decide) hF1, fun m2 e2 => ?_⟩⟩
    · rw [e]
      exact ih (k + 1) m1 (by omega) (by omega) (fun c j q => by rw [q1 c j (by omega)]; exact fr c j q) q2 (FSt_no hF1 (fun w => h5.mpr (hP.mp w) z))
    · rw [e]
      have kf : ∀ c j, ¬ WKc c j → m2 c j = m1 c j := fun c j q => by rw [e2]; exact k_fail (by omega) (by omega)
      refine ih (k + 1) m2 (by omega) (by omega) (fun c j q => by rw [kf c j q, q1 c j (by omega)]; exact fr c j q) (RV_cg kf q2) ?_
      rw [e2]
      exact FSt_fail (by decide) hF1 (hP.mpr (h5.mp z))
theorem c_checkDependence (H : RS μ) {m : PM} {rs : List Rul} (hv : RV m rs) (f0 : m 125 32 = 0) : Wp (d + 2) 189 (0, [some (.ref 125), none], [], sA μ m l) (pV (fun μ' => ∃ m', μ' = sA μ m' l ∧ (∀ c j, ¬ WKc c j → m' c j = m c j) ∧ ChE 4 (P4 rs) 4 m') noX) := by
  have hD := hv.2.2.1
  refine R189_0 H ⟨_, noX, c_depend H hv (nX_w hD (j := 3) (by decide)), fun μ' hp => ?_, fun _ _ z => z.elim⟩
  obtain ⟨m1, rfl, q1, q2, q3, q4⟩ := hp
  have hD1 := q2.2.2.1
  have h4 := q4 4 _ (nX_w hD1 (j := 4) (by decide))
  have h5 := q4 5 _ (nX_w hD1 (j := 5) (by decide))
  have hb4 := q3 4 (by decide) (by have := hD1.2.1; omega)
  have hb5 := q3 5 (by decide) (by have := hD1.2.1; omega)
  have hF : FSt 4 (P4 rs) 0 m1 := Or.inl ⟨by rw [q1 _ _ (by decide)]; exact f0, fun j hj => absurd hj (Nat.not_lt_zero j)⟩
  have go : ∀ m2, (∀ c j, ¬ WKc c j → m2 c j = m1 c j) → FSt 4 (P4 rs) 1 m2 → Wp (d + 2) 189 (31, [some (.ref 125), some (.int (zI 1))], [], sA μ m2 l) (pV (fun μ' => ∃ m', μ' = sA μ m' l ∧ (∀ c j, ¬ WKc c j → m' c j = m c j) ∧ ChE 4 (P4 rs) 4 m') noX) := by
    intro m2 k2 hF2
    exact cd_31 (m0 := m) H (fun m' fr hE => ⟨m', rfl, fr, hE⟩) 3 1 m2 rfl (Nat.le_refl _) (fun c j q => by rw [k2 c j q]; exact q1 c j (by omega)) (RV_cg k2 q2) hF2
  refine R189_5 H ⟨by rcases hb4 with z | z <;> rw [z] <;> decide, fun z => ⟨FSt_R (by decide) hF, fun m2 e2 => ?_⟩, fun z => ⟨by rcases hb5 with z | z <;> rw [z] <;> decide, fun z5 => ?_, fun z5 => ⟨FSt_R (by decide) hF, fun m2 e2 => ?_⟩⟩⟩
  · refine go m2 (fun c j q => by rw [e2]; exact k_fail (by omega) (by omega)) ?_
    rw [e2]
    exact FSt_fail (r := 0) (by decide) hF (Or.inl (h4.mp z))
  · refine go m1 (fun _ _ _ => rfl) (FSt_no hF ?_)
    rintro (w | w)
    · exact z (h4.mpr w)
    · exact h5.mpr w z5
  · refine go m2 (fun c j q => by rw [e2]; exact k_fail (by omega) (by omega)) ?_
    rw [e2]
    exact FSt_fail (r := 0) (by decide) hF (Or.inr (h5.mp z5))
/-- what a call that only marks does -/
abbrev TrP (μ : am_Mem) (l m : PM) (p : Prop) : Int32 → am_Mem → Prop := fun y μ' => ∃ m' : PM, y = zI (bP p) ∧ μ' = sA μ m' l ∧ ∀ c j, ¬ c = 147 → m' c j = m c j
theorem c_turns (H : RS μ) {m : PM} {rs : List Rul} {r : Nat} {x1 : Int} {w : List Int} (hr : r < rs.length) (hv : RV m rs) (hx : nX m x1 w) : Wp (d + 2) 195 (0, [some (.ref 125), some (.int (zI x1)), some (.int (zI (r : Int)))], [], sA μ m l) (pI (TrP μ l m (Trn rs (rs.getD r ruD) w)) noX) := by
  refine R195_0 H ⟨_, noX, c_depend H hv hx, fun μ' hp => ?_, fun _ _ z => z.elim⟩
  obtain ⟨m1, rfl, q1, q2, q3, q4⟩ := hp
  obtain ⟨n1, n2, n3, n4, n5⟩ := RV_n q2
  obtain ⟨k1, k2, k3, k4, k5, k6, k7, k8⟩ := RV_head q2 hr
  have hx1 : nX m1 x1 w := nX_cg (q1 _ _ (by decide)) (fun i => q1 _ _ (by decide)) (fun i => q1 _ _ (by decide)) hx
  have hb := q3 _ k3.1 k3.2.1
  have hd := q4 _ _ k3
  have i1 : m1 135 (m1 131 (r : Int)) = x1 ↔ (rs.getD r ruD).1.1 = w := nX_inj q2.2.2.1 k3 hx1
  have := hx1.1
  have := hx1.2.1
  refine R195_5 H ⟨by omega, by omega, k4, by unfold iR; omega, fun v1 e1 => ⟨⟨fun _ => trivial, fun _ => ⟨by omega, by omega, by omega, by rcases hb with z | z <;> rw [z] <;> decide, trivial⟩⟩, fun v2 e2 => ⟨m1, ?_, rfl, q1⟩⟩⟩
  rw [e2, e1]
  by_cases c1 : m1 135 (m1 131 (r : Int)) = x1
  · rw [if_pos (by rw [bP_1 c1]; decide), bP_1]
    exact Or.inl (i1.mp c1).symm
  · rw [if_neg (by rw [bP_0 c1]; decide)]
    by_cases c2 : m1 147 (m1 135 (m1 131 (r : Int))) = 0
    · rw [if_pos c2, bP_0]
      rintro (z | z)
      · exact c1 (i1.mpr z.symm)
      · exact hd.mpr z c2
    · rw [if_neg c2, bP_1]
      exact Or.inr (hd.mp c2)
theorem ct_24 (H : RS μ) {m0 : PM} {rs : List Rul} {r : Nat} {Q : Option Value ⊕ Nat → am_Mem → Prop} (hr : r < rs.length) (hq : ∀ m, (∀ c j, ¬ WKc c j → m c j = m0 c j) → RV m rs → FSt 6 (Bad6 rs) (r + 1) m → ∀ o : Option Value, Wp (d + 3) 194 (2, [some (.ref 125), some (.int (zI ((r : Int) + 1))), o], [], sA μ m l) Q) : ∀ (f j : Nat) (m : PM), j + f = (rs.getD r ruD).2.length → (∀ c j, ¬ WKc c j → m c j = m0 c j) → RV m rs → ((∃ u, u < j ∧ ((rs.getD r ruD).2.getD u cnD).1 = 2 ∧ Trn rs (rs.getD r ruD) ((rs.getD r ruD).2.getD u cnD).2.1) → FSt 6 (Bad6 rs) (r + 1) m) → ((¬ ∃ u, u < j ∧ ((rs.getD r ruD).2.getD u cnD).1 = 2 ∧ Trn rs (rs.getD r ruD) ((rs.getD r ruD).2.getD u cnD).2.1) → FSt 6 (Bad6 rs) r m) → Wp (d + 3) 194 (24, [some (.ref 125), some (.int (zI (r : Int))), some (.int (zI (m 132 r + (j : Int))))], [], sA μ m l) Q := by
  intro f
  induction f with
  | zero =>
    intro j m hf fr hv h1 h2
    obtain ⟨⟨a1, a2, a3⟩, ⟨b1, b2, b3⟩, c⟩ := RV_rule hv hr
    obtain ⟨n1, n2, n3, n4, n5⟩ := RV_n hv
    have ej : j = (rs.getD r ruD).2.length := by omega
    refine R194_24 H ⟨by omega, by unfold iR; omega, by unfold iR; omega, fun _ => hq m fr hv ?_ _, fun z => absurd (by omega) z⟩
    by_cases c : ∃ u, u < j ∧ ((rs.getD r ruD).2.getD u cnD).1 = 2 ∧ Trn rs (rs.getD r ruD) ((rs.getD r ruD).2.getD u cnD).2.1
    · exact h1 c
    · refine FSt_no (h2 c) (fun hb => c ?_)
      rw [ej]
      exact (ex_mem (ru := rs.getD r ruD) (P := fun c => c.1 = 2 ∧ Trn rs (rs.getD r ruD) c.2.1)).mpr hb
  | succ f ih =>
    intro j m hf fr hv h1 h2
    obtain ⟨⟨a1, a2, a3⟩, ⟨b1, b2, b3⟩, c⟩ := RV_rule hv hr
    obtain ⟨n1, n2, n3, n4, n5⟩ := RV_n hv
    obtain ⟨k1, k2, k3, k4, k5, k6, k7, k8, k9⟩ := RV_cond hv hr (show j < _ by omega)
    have hs3 : ((rs.getD r ruD).2.getD j cnD).1 ≤ 3 := by
      rcases k1.2 with q | q | q
      · omega
      · omega
      · have := q.1; omega
    have e : m 132 r + (j : Int) + 1 = m 132 r + ((j + 1 : Nat) : Int) := by omega
    have hst : ¬ (((rs.getD r ruD).2.getD j cnD).1 = 2 ∧ Trn rs (rs.getD r ruD) ((rs.getD r ruD).2.getD j cnD).2.1) → ∀ m', (∀ c i, ¬ c = 147 → m' c i = m c i) → Wp (d + 3) 194 (24, [some (.ref 125), some (.int (zI (r : Int))), some (.int (zI (m 132 r + (j : Int) + 1)))], [], sA μ m' l) Q := by
      intro hno m' k
      rw [e, show m 132 r = m' 132 r from (k _ _ (by decide)).symm]
      refine ih (j + 1) m' (by omega) (fun c i q => by rw [k c i (by omega)]; exact fr c i q) (RV_cg (fun c i q => k c i (by omega)) hv) (fun ⟨u, hu, hb⟩ => FSt_cg (h1 ⟨u, ?_, hb⟩) (k _ _ (by decide)) (k _ _ (by decide))) (fun w => FSt_cg (h2 fun ⟨u, hu, hb⟩ => w ⟨u, by omega, hb⟩) (k _ _ (by decide)) (k _ _ (by decide)))
      by_cases c : u = j
      · rw [c] at hb; exact absurd hb hno
      · omega
    refine R194_24 H ⟨by omega, by unfold iR; omega, by unfold iR; omega, fun z => absurd z (by omega), fun _ => ⟨by omega, by rw [k2]; unfold iR; omega, fun z => ?_, fun z => ⟨by omega, ?_⟩⟩⟩
    · exact hst (fun w => z (by rw [k2, w.1]; rfl)) m (fun _ _ _ => rfl)
    · have h2s : ((rs.getD r ruD).2.getD j cnD).1 = 2 := by omega
      refine ⟨_, noX, c_turns H hr hv (k6 (by omega)), fun y μ' hp => ?_, fun _ _ z => z.elim⟩
      obtain ⟨m1, rfl, rfl, q1⟩ := hp
      have hR1 : iR (m1 125 32) := by
        rw [q1 _ _ (by decide)]
        by_cases c : ∃ u, u < j ∧ ((rs.getD r ruD).2.getD u cnD).1 = 2 ∧ Trn rs (rs.getD r ruD) ((rs.getD r ruD).2.getD u cnD).2.1
        · exact FSt_R (by decide) (h1 c)
        · exact FSt_R (by decide) (h2 c)
      refine R194_62 H ⟨bP_R _, fun z => hst (fun w => bP_z.mp z w.2) m1 q1, fun z => ⟨hR1, fun m2 e2 => ?_⟩⟩
      have ht : Trn rs (rs.getD r ruD) ((rs.getD r ruD).2.getD j cnD).2.1 := Classical.byContradiction fun w => z (bP_z.mpr w)
      have bad : Bad6 rs r := ⟨_, (mem_gD _ cnD _).mpr ⟨j, by omega, rfl⟩, h2s, ht⟩
      have kf : ∀ c i, ¬ WKc c i → m2 c i = m c i := fun c i q => by rw [e2, k_fail (by omega) (by omega)]; exact q1 c i (by omega)
      rw [e, show m 132 r = m2 132 r from (kf _ _ (by omega)).symm]
      refine ih (j + 1) m2 (by omega) (fun c i q => by rw [kf c i q]; exact fr c i q) (RV_cg kf hv) (fun _ => ?_) (fun w => absurd ⟨j, by omega, h2s, ht⟩ w)
      rw [e2]
      by_cases c : ∃ u, u < j ∧ ((rs.getD r ruD).2.getD u cnD).1 = 2 ∧ Trn rs (rs.getD r ruD) ((rs.getD r ruD).2.getD u cnD).2.1
      · exact FSt_again (by decide) (FSt_cg (h1 c) (q1 _ _ (by decide)) (q1 _ _ (by decide))) bad
      · exact FSt_fail (by decide) (FSt_cg (h2 c) (q1 _ _ (by decide)) (q1 _ _ (by decide))) bad
theorem ct_2 (H : RS μ) {m0 : PM} {rs : List Rul} {Q : Option Value ⊕ Nat → am_Mem → Prop} (hq : ∀ m, (∀ c j, ¬ WKc c j → m c j = m0 c j) → ChE 6 (Bad6 rs) rs.length m → Q (.inl none) (sA μ m l)) : ∀ (f r : Nat) (m : PM) (o : Option Value), r + f = rs.length → (∀ c j, ¬ WKc c j → m c j = m0 c j) → RV m rs → FSt 6 (Bad6 rs) r m → Wp (d + 3) 194 (2, [some (.ref 125), some (.int (zI (r : Int))), o], [], sA μ m l) Q := by
  intro f
  induction f with
  | zero =>
    intro r m o hf fr hv hF
    obtain ⟨n1, n2, n3, n4, n5⟩ := RV_n hv
    exact R194_2 H ⟨by unfold iR; omega, by unfold iR; omega, fun _ => hq m fr (FSt_end hF (by omega) (Or.inl (by omega))), fun z => absurd (by omega) z⟩
  | succ f ih =>
    intro r m o hf fr hv hF
    obtain ⟨n1, n2, n3, n4, n5⟩ := RV_n hv
    refine R194_2 H ⟨by unfold iR; omega, by unfold iR; omega, fun z => absurd z (by omega), fun _ => ⟨FSt_R (by decide) hF, fun z => hq m fr (FSt_end hF (by omega) (Or.inr z)), fun z => ⟨by omega, ?_⟩⟩⟩
    rw [show m 132 (r : Int) = m 132 r + ((0 : Nat) : Int) by omega]
    exact ct_24 (m0 := m0) H (show r < rs.length by omega) (fun m' fr' hv' hF' o => ih (r + 1) m' o (by omega) fr' hv' hF') (rs.getD r ruD).2.length 0 m (Nat.zero_add _) fr hv (fun ⟨u, hu, _⟩ => absurd hu (Nat.not_lt_zero u)) (fun _ => hF)
theorem c_checkStrata (H : RS μ) {m : PM} {rs : List Rul} (hv : RV m rs) (f0 : m 125 32 = 0) : Wp (d + 3) 194 (0, [some (.ref 125), none, none], [], sA μ m l) (pV (fun μ' => ∃ m', μ' = sA μ m' l ∧ (∀ c j, ¬ WKc c j → m' c j = m c j) ∧ ChE 6 (Bad6 rs) rs.length m') noX) := by
  refine R194_0 H ?_
  exact ct_2 H (fun m' fr hE => ⟨m', rfl, fr, hE⟩) rs.length 0 m none (Nat.zero_add _) (fun _ _ _ => rfl) hv (Or.inl ⟨f0, fun j hj => absurd hj (Nat.not_lt_zero j)⟩)
end RST
