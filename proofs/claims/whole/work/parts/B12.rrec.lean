/-! ===== the reference's checkRecursion, checkAll ===== -/
section RRC
variable {d : Nat} {μ : am_Mem} {l : PM}
theorem TmR_147 {m m' : PM} {x : Int} {q : List Cd} (k : ∀ c j, ¬ c = 147 → m' c j = m c j) (h : TmR 11 m x q) : TmR 11 m' x q :=
  TmR_cg (fun _ _ z => nX_cg (k _ _ (by decide)) (fun _ => k _ _ (by decide)) (fun _ => k _ _ (by decide)) z) 11 x q (fun i _ _ => ⟨k _ _ (by decide), k _ _ (by decide), k _ _ (by decide), k _ _ (by decide)⟩) (fun i _ _ => k _ _ (by decide)) h
/-- a term is held by the head, or by a condition before j -/
def Hj (rs : List Rul) (r : Nat) (q : List Cd) (j : Nat) : Prop := q ∈ (rs.getD r ruD).1.2 ∨ ∃ i, i < j ∧ ((rs.getD r ruD).2.getD i cnD).1 = 1 ∧ q ∈ ((rs.getD r ruD).2.getD i cnD).2.2 ∧ ¬ Trn rs (rs.getD r ruD) ((rs.getD r ruD).2.getD i cnD).2.1
theorem Hj_end (rs : List Rul) (r : Nat) (q : List Cd) : Hj rs r q (rs.getD r ruD).2.length ↔ Hld rs (rs.getD r ruD) q :=
  or_congr Iff.rfl (ex_mem (ru := rs.getD r ruD) (P := fun c => c.1 = 1 ∧ q ∈ c.2.2 ∧ ¬ Trn rs (rs.getD r ruD) c.2.1))
theorem ht_20 (H : RS μ) {m0 : PM} {rs : List Rul} {r : Nat} {x2 : Int} {q : List Cd} (hr : r < rs.length) (hq0 : wfT 11 q) (hx0 : 0 ≤ x2) (hx1 : x2 + (q.length : Int) ≤ 1000) : ∀ (f j : Nat) (m : PM) (x3 : Int) (o5 : Option Value), j + f = (rs.getD r ruD).2.length → (∀ c j, ¬ c = 147 → m c j = m0 c j) → RV m rs → TmR 11 m x2 q → x3 = bP (Hj rs r q j) → Wp (d + 3) 198 (20, [some (.ref 125), some (.int (zI (r : Int))), some (.int (zI x2)), some (.int (zI x3)), some (.int (zI (m 132 r + (j : Int)))), o5], [], sA μ m l) (pI (TrP μ l m0 (Hld rs (rs.getD r ruD) q)) noX) := by
  intro f
  induction f with
  | zero =>
    intro j m x3 o5 hf fr hv hT e3
    obtain ⟨⟨a1, a2, a3⟩, ⟨b1, b2, b3⟩, c⟩ := RV_rule hv hr
    obtain ⟨n1, n2, n3, n4, n5⟩ := RV_n hv
    have ej : j = (rs.getD r ruD).2.length := by omega
    refine R198_20 H ⟨by omega, by unfold iR; omega, by unfold iR; omega, fun _ => ⟨by rw [e3]; exact bP_b _, m, ?_, rfl, fr⟩, fun z => absurd (by omega) z⟩
    rw [e3, ej, bP_cg (Hj_end rs r q)]
  | succ f ih =>
    intro j m x3 o5 hf fr hv hT e3
    obtain ⟨⟨a1, a2, a3⟩, ⟨b1, b2, b3⟩, c⟩ := RV_rule hv hr
    obtain ⟨n1, n2, n3, n4, n5⟩ := RV_n hv
    obtain ⟨k1, k2, k3, k4, k5, k6, k7, k8, k9⟩ := RV_cond hv hr (show j < _ by omega)
    have hs3 : ((rs.getD r ruD).2.getD j cnD).1 ≤ 3 := by
      rcases k1.2 with q | q | q
      · omega
      · omega
      · have := q.1; omega
    have e : m 132 r + (j : Int) + 1 = m 132 r + ((j + 1 : Nat) : Int) := by omega
    have hg := tm_good n4 hT hq0 hx0 hx1
    have hA := at_T hv.2.2.1 k9 k1.1 hT hq0
    have hmono : ∀ i, Hj rs r q i → i ≤ (rs.getD r ruD).2.length → Hld rs (rs.getD r ruD) q := by
      intro i hi hl
      refine (Hj_end rs r q).mp ?_
      rcases hi with w | ⟨u, hu, w⟩
      · exact Or.inl w
      · exact Or.inr ⟨u, by omega, w⟩
    refine R198_20 H ⟨by omega, by unfold iR; omega, by unfold iR; omega, fun z => absurd z (by omega), fun _ => ⟨by rw [e3]; exact bP_R _, fun z => ⟨by rw [e3]; exact bP_b _, m, ?_, rfl, fr⟩, fun z => ?_⟩⟩
    · have hj : Hj rs r q j := Classical.byContradiction fun w => z (by rw [e3]; exact bP_z.mpr w)
      rw [e3, bP_1 hj, bP_1 (hmono j hj (by omega))]
    have nj : ¬ Hj rs r q j := by
      have z' : x3 = 0 := Decidable.byContradiction z
      rw [e3] at z'
      exact bP_z.mp z'
    have step : ∀ p : Prop, (p ↔ (((rs.getD r ruD).2.getD j cnD).1 = 1 ∧ q ∈ ((rs.getD r ruD).2.getD j cnD).2.2 ∧ ¬ Trn rs (rs.getD r ruD) ((rs.getD r ruD).2.getD j cnD).2.1)) → bP p = bP (Hj rs r q (j + 1)) := by
      intro p hp
      refine bP_cg ⟨fun w => Or.inr ⟨j, by omega, hp.mp w⟩, fun w => ?_⟩
      rcases w with w | ⟨i, hi, w⟩
      · exact absurd (Or.inl w) nj
      · by_cases ei : i = j
        · rw [ei] at w; exact hp.mpr w
        · exact absurd (Or.inr ⟨i, by omega, w⟩) nj
    have skip : ¬ (((rs.getD r ruD).2.getD j cnD).1 = 1 ∧ q ∈ ((rs.getD r ruD).2.getD j cnD).2.2 ∧ ¬ Trn rs (rs.getD r ruD) ((rs.getD r ruD).2.getD j cnD).2.1) → (0 : Int) = bP (Hj rs r q (j + 1)) := by
      intro w
      rw [← step False ⟨fun z => z.elim, fun z => w z⟩, bP_0 (fun z => z)]
    refine ⟨by omega, by rw [k2]; unfold iR; omega, fun z1 => ?_, fun z1 => ⟨k8, hg.2, fun v1 e1 => ⟨fun zv => ?_, fun zv => ⟨by omega, ?_⟩⟩⟩⟩
    · rw [e]
      exact ih (j + 1) m 0 _ (by omega) fr hv hT (skip fun w => z1 (by rw [k2, w.1]; rfl))
    · rw [e]
      refine ih (j + 1) m 0 _ (by omega) fr hv hT (skip fun w => ?_)
      rw [e1] at zv
      exact bP_z.mp zv (hA.mpr w.2.1)
    · have h1s : ((rs.getD r ruD).2.getD j cnD).1 = 1 := by omega
      have hin : q ∈ ((rs.getD r ruD).2.getD j cnD).2.2 := hA.mp (Classical.byContradiction fun w => zv (by rw [e1]; exact bP_z.mpr w))
      refine ⟨_, noX, c_turns H hr hv (k6 (by omega)), fun y μ' hp => ?_, fun _ _ z => z.elim⟩
      obtain ⟨m1, rfl, rfl, q1⟩ := hp
      refine R198_79 H ⟨bP_R _, fun v2 e2 => ?_⟩
      have hv1 : RV m1 rs := RV_cg (fun c i w => q1 c i (by omega)) hv
      rw [e, show m 132 r = m1 132 r from (q1 _ _ (by decide)).symm]
      refine ih (j + 1) m1 v2 _ (by omega) (fun c i w => by rw [q1 c i w]; exact fr c i w) hv1 (TmR_147 q1 hT) ?_
      rw [e2, ← step (¬ Trn rs (rs.getD r ruD) ((rs.getD r ruD).2.getD j cnD).2.1) ⟨fun w => ⟨h1s, hin, w⟩, fun w => w.2.2⟩]
      by_cases ct : Trn rs (rs.getD r ruD) ((rs.getD r ruD).2.getD j cnD).2.1
      · rw [bP_1 ct, bP_0 (not_not_intro ct), if_pos (by decide)]
      · rw [bP_0 ct, bP_1 ct, if_neg (by decide)]
theorem c_isHeldTerm (H : RS μ) {m : PM} {rs : List Rul} {r : Nat} {x2 : Int} {q : List Cd} (hr : r < rs.length) (hv : RV m rs) (hT : TmR 11 m x2 q) (hq0 : wfT 11 q) (hx0 : 0 ≤ x2) (hx1 : x2 + (q.length : Int) ≤ 1000) : Wp (d + 3) 198 (0, [some (.ref 125), some (.int (zI (r : Int))), some (.int (zI x2)), none, none, none], [], sA μ m l) (pI (TrP μ l m (Hld rs (rs.getD r ruD) q)) noX) := by
  obtain ⟨n1, n2, n3, n4, n5⟩ := RV_n hv
  obtain ⟨k1, k2, k3, k4, k5, k6, k7, k8⟩ := RV_head hv hr
  refine R198_0 H ⟨by omega, k7, (tm_good n4 hT hq0 hx0 hx1).2, fun v1 e1 => ⟨by omega, ?_⟩⟩
  rw [show m 132 (r : Int) = m 132 r + ((0 : Nat) : Int) by omega]
  refine ht_20 (m0 := m) H hr hq0 hx0 hx1 (rs.getD r ruD).2.length 0 m v1 none (Nat.zero_add _) (fun _ _ _ => rfl) hv hT ?_
  rw [e1]
  refine bP_cg ((at_T hv.2.2.1 k8 k1 hT hq0).trans ⟨fun w => Or.inl w, fun w => ?_⟩)
  rcases w with w | ⟨i, hi, _⟩
  · exact w
  · exact absurd hi (Nat.not_lt_zero i)
/-- a term with a variable that isn't held -/
def Wld (rs : List Rul) (r : Nat) (p : List Cd) : Prop := hasV p ∧ ¬ Hld rs (rs.getD r ruD) p
theorem tm_13 (H : RS μ) {m0 : PM} {rs : List Rul} {r j : Nat} {x2 a : Int} (hr : r < rs.length) (hj : j < (rs.getD r ruD).2.length) (ea : a = m0 134 (m0 132 r + (j : Int))) : ∀ (f k : Nat) (m : PM) (x4 : Int) (o6 : Option Value), k + f = ((rs.getD r ruD).2.getD j cnD).2.2.length → (∀ c j, ¬ c = 147 → m c j = m0 c j) → RV m rs → x4 = bP (¬ ∃ i, i < k ∧ Wld rs r (((rs.getD r ruD).2.getD j cnD).2.2.getD i [])) → Wp (d + 4) 197 (13, [some (.ref 125), some (.int (zI (r : Int))), some (.int (zI x2)), some (.int (zI a)), some (.int (zI x4)), some (.int (zI (k : Int))), o6], [], sA μ m l) (pI (TrP μ l m0 (¬ ∃ p, p ∈ ((rs.getD r ruD).2.getD j cnD).2.2 ∧ Wld rs r p)) noX) := by
  intro f
  induction f with
  | zero =>
    intro k m x4 o6 hf fr hv e4
    obtain ⟨n1, n2, n3, n4, n5⟩ := RV_n hv
    obtain ⟨k1, k2, k3, k4, k5, k6, k7, k8, k9⟩ := RV_cond hv hr hj
    rw [fr 134 _ (by decide), fr 132 _ (by decide), ← ea] at k3 k9
    obtain ⟨⟨t1, t2⟩, t3⟩ := at_nodes k9
    have ek : k = ((rs.getD r ruD).2.getD j cnD).2.2.length := by omega
    refine R197_13 H ⟨by omega, by unfold iR; omega, by unfold iR; omega, fun _ => ⟨by rw [e4]; exact bP_b _, m, ?_, rfl, fr⟩, fun z => absurd (by omega) z⟩
    rw [e4, ek]
    refine congrArg zI (bP_cg (not_congr ⟨fun ⟨i, hi, w⟩ => ⟨_, (mem_gD _ [] _).mpr ⟨i, hi, rfl⟩, w⟩, fun ⟨p, hp, w⟩ => ?_⟩))
    obtain ⟨i, hi, e⟩ := (mem_gD _ [] _).mp hp
    exact ⟨i, hi, by rw [e]; exact w⟩
  | succ f ih =>
    intro k m x4 o6 hf fr hv e4
    obtain ⟨n1, n2, n3, n4, n5⟩ := RV_n hv
    obtain ⟨k1, k2, k3, k4, k5, k6, k7, k8, k9⟩ := RV_cond hv hr hj
    rw [fr 134 _ (by decide), fr 132 _ (by decide), ← ea] at k3 k9
    obtain ⟨⟨t1, t2⟩, t3⟩ := at_nodes k9
    obtain ⟨x, c1, c2, c3, c4⟩ := t3 k (by omega)
    have wf : wfT 11 (((rs.getD r ruD).2.getD j cnD).2.2.getD k []) := k1.1.2 _ ((mem_gD _ [] _).mpr ⟨k, by omega, rfl⟩)
    have e : (k : Int) + 1 = ((k + 1 : Nat) : Int) := by omega
    have step : ∀ p : Prop, x4 = 1 → (p ↔ ¬ Wld rs r (((rs.getD r ruD).2.getD j cnD).2.2.getD k [])) → bP p = bP (¬ ∃ i, i < k + 1 ∧ Wld rs r (((rs.getD r ruD).2.getD j cnD).2.2.getD i [])) := by
      intro p h1 hp
      rw [e4] at h1
      have h1' := bP_e.mp h1
      refine bP_cg ⟨fun w => ?_, fun w => hp.mpr fun u => w ⟨k, by omega, u⟩⟩
      rintro ⟨i, hi, u⟩
      by_cases ei : i = k
      · rw [ei] at u; exact hp.mp w u
      · exact h1' ⟨i, by omega, u⟩
    refine R197_13 H ⟨by omega, by unfold iR; omega, by unfold iR; omega, fun z => absurd z (by omega), fun _ => ⟨by omega, by rw [e4]; exact bP_R _, fun z v1 e1 => ?_, fun z v2 e2 => ?_⟩⟩
    · rw [e]
      refine ih (k + 1) m 0 _ (by omega) fr hv ?_
      rw [e4] at z
      have z' := bP_z.mp z
      rw [bP_0]
      intro w
      exact z' fun ⟨i, hi, u⟩ => w ⟨i, by omega, u⟩
    · have h41 : x4 = 1 := by
        rw [e4]
        rcases bP_b (¬ ∃ i, i < k ∧ Wld rs r (((rs.getD r ruD).2.getD j cnD).2.2.getD i [])) with w | w
        · rw [e4] at z; exact absurd w z
        · exact w
      rw [c1] at e2
      rw [e2]
      have hg := tm_good n4 c4 wf c2 (by omega)
      have hvv := tm_hv c4
      refine ⟨hg.1, by decide, fun zv => ?_, fun zv => ?_⟩
      · rw [e]
        refine ih (k + 1) m 1 _ (by omega) fr hv ?_
        rw [← step True h41 ⟨fun _ w => bP_z.mp zv (hvv.mpr w.1), fun _ => trivial⟩, bP_1 trivial]
      · have hh : hasV (((rs.getD r ruD).2.getD j cnD).2.2.getD k []) := hvv.mp (Classical.byContradiction fun w => zv (bP_z.mpr w))
        refine ⟨_, noX, c_isHeldTerm H hr hv c4 wf c2 (by omega), fun y μ' hp => ?_, fun _ _ z => z.elim⟩
        obtain ⟨m1, rfl, rfl, q1⟩ := hp
        refine R197_59 H ⟨bP_R _, fun v3 e3 => ?_⟩
        rw [e]
        refine ih (k + 1) m1 v3 _ (by omega) (fun c i w => by rw [q1 c i w]; exact fr c i w) (RV_cg (fun c i w => q1 c i (by omega)) hv) ?_
        rw [e3, ← step (Hld rs (rs.getD r ruD) (((rs.getD r ruD).2.getD j cnD).2.2.getD k [])) h41 ⟨fun w u => u.2 w, fun w => Classical.byContradiction fun u => w ⟨hh, u⟩⟩]
        by_cases ch : Hld rs (rs.getD r ruD) (((rs.getD r ruD).2.getD j cnD).2.2.getD k [])
        · rw [bP_1 ch, if_neg (by decide)]
        · rw [bP_0 ch, if_pos (by decide)]
theorem c_isTame (H : RS μ) {m : PM} {rs : List Rul} {r j : Nat} (hr : r < rs.length) (hj : j < (rs.getD r ruD).2.length) (hv : RV m rs) : Wp (d + 4) 197 (0, [some (.ref 125), some (.int (zI (r : Int))), some (.int (zI (m 132 r + (j : Int)))), none, none, none, none], [], sA μ m l) (pI (TrP μ l m (¬ ∃ p, p ∈ ((rs.getD r ruD).2.getD j cnD).2.2 ∧ Wld rs r p)) noX) := by
  obtain ⟨⟨a1, a2, a3⟩, ⟨b1, b2, b3⟩, c⟩ := RV_rule hv hr
  obtain ⟨n1, n2, n3, n4, n5⟩ := RV_n hv
  refine R197_0 H ⟨by omega, ?_⟩
  have z := tm_13 (d := d) (μ := μ) (l := l) (m0 := m) (x2 := m 132 r + (j : Int)) H hr hj rfl ((rs.getD r ruD).2.getD j cnD).2.2.length 0 m 1 none (Nat.zero_add _) (fun _ _ _ => rfl) hv (by
    rw [bP_1]
    rintro ⟨i, hi, _⟩
    exact absurd hi (Nat.not_lt_zero i))
  exact z
/-- a condition that turns back and isn't tame -/
def R7 (rs : List Rul) (r u : Nat) : Prop := ((rs.getD r ruD).2.getD u cnD).1 = 1 ∧ Trn rs (rs.getD r ruD) ((rs.getD r ruD).2.getD u cnD).2.1 ∧ ∃ p, p ∈ ((rs.getD r ruD).2.getD u cnD).2.2 ∧ Wld rs r p
theorem cr_24 (H : RS μ) {m0 : PM} {rs : List Rul} {r : Nat} {Q : Option Value ⊕ Nat → am_Mem → Prop} (hr : r < rs.length) (hq : ∀ m, (∀ c j, ¬ WKc c j → m c j = m0 c j) → RV m rs → FSt 7 (Bad7 rs) (r + 1) m → ∀ o : Option Value, Wp (d + 5) 196 (2, [some (.ref 125), some (.int (zI ((r : Int) + 1))), o], [], sA μ m l) Q) : ∀ (f j : Nat) (m : PM), j + f = (rs.getD r ruD).2.length → (∀ c j, ¬ WKc c j → m c j = m0 c j) → RV m rs → ((∃ u, u < j ∧ R7 rs r u) → FSt 7 (Bad7 rs) (r + 1) m) → ((¬ ∃ u, u < j ∧ R7 rs r u) → FSt 7 (Bad7 rs) r m) → Wp (d + 5) 196 (24, [some (.ref 125), some (.int (zI (r : Int))), some (.int (zI (m 132 r + (j : Int))))], [], sA μ m l) Q := by
  intro f
  induction f with
  | zero =>
    intro j m hf fr hv h1 h2
    obtain ⟨⟨a1, a2, a3⟩, ⟨b1, b2, b3⟩, c⟩ := RV_rule hv hr
    obtain ⟨n1, n2, n3, n4, n5⟩ := RV_n hv
    have ej : j = (rs.getD r ruD).2.length := by omega
    refine R196_24 H ⟨by omega, by unfold iR; omega, by unfold iR; omega, fun _ => hq m fr hv ?_ _, fun z => absurd (by omega) z⟩
    by_cases c : ∃ u, u < j ∧ R7 rs r u
    · exact h1 c
    · refine FSt_no (h2 c) (fun hb => c ?_)
      rw [ej]
      exact (ex_mem (ru := rs.getD r ruD) (P := fun c => c.1 = 1 ∧ Trn rs (rs.getD r ruD) c.2.1 ∧ ∃ p, p ∈ c.2.2 ∧ Wld rs r p)).mpr hb
  | succ f ih =>
    intro j m hf fr hv h1 h2
    obtain ⟨⟨a1, a2, a3⟩, ⟨b1, b2, b3⟩, c⟩ := RV_rule hv hr
    obtain ⟨n1, n2, n3, n4, n5⟩ := RV_n hv
    obtain ⟨k1, k2, k3, k4, k5, k6, k7, k8, k9⟩ := RV_cond hv hr (show j < _ by omega)
    have hs3 : ((rs.getD r ruD).2.getD j cnD).1 ≤ 3 := by
      rcases k1.2 with q | q | q
      · omega
      · omega
      · have := q.1; omega
    have e : m 132 r + (j : Int) + 1 = m 132 r + ((j + 1 : Nat) : Int) := by omega
    have hst : ¬ R7 rs r j → ∀ m', (∀ c i, ¬ c = 147 → m' c i = m c i) → Wp (d + 5) 196 (24, [some (.ref 125), some (.int (zI (r : Int))), some (.int (zI (m 132 r + (j : Int) + 1)))], [], sA μ m' l) Q := by
      intro hno m' k
      rw [e, show m 132 r = m' 132 r from (k _ _ (by decide)).symm]
      refine ih (j + 1) m' (by omega) (fun c i q => by rw [k c i (by omega)]; exact fr c i q) (RV_cg (fun c i q => k c i (by omega)) hv) (fun ⟨u, hu, hb⟩ => FSt_cg (h1 ⟨u, ?_, hb⟩) (k _ _ (by decide)) (k _ _ (by decide))) (fun w => FSt_cg (h2 fun ⟨u, hu, hb⟩ => w ⟨u, by omega, hb⟩) (k _ _ (by decide)) (k _ _ (by decide)))
      by_cases c : u = j
      · rw [c] at hb; exact absurd hb hno
      · omega
    refine R196_24 H ⟨by omega, by unfold iR; omega, by unfold iR; omega, fun z => absurd z (by omega), fun _ => ⟨by omega, by rw [k2]; unfold iR; omega, fun z => ?_, fun z => ⟨by omega, ?_⟩⟩⟩
    · exact hst (fun w => z (by rw [k2, w.1]; rfl)) m (fun _ _ _ => rfl)
    · have h1s : ((rs.getD r ruD).2.getD j cnD).1 = 1 := by omega
      refine ⟨_, noX, c_turns H hr hv (k6 (by omega)), fun y μ' hp => ?_, fun _ _ z => z.elim⟩
      obtain ⟨m1, rfl, rfl, q1⟩ := hp
      have hv1 : RV m1 rs := RV_cg (fun c i q => q1 c i (by omega)) hv
      refine R196_62 H ⟨bP_R _, fun z => hst (fun w => bP_z.mp z w.2.1) m1 q1, fun z => ?_⟩
      have ht : Trn rs (rs.getD r ruD) ((rs.getD r ruD).2.getD j cnD).2.1 := Classical.byContradiction fun w => z (bP_z.mpr w)
      rw [show m 132 r = m1 132 r from (q1 _ _ (by decide)).symm]
      refine ⟨_, noX, c_isTame H hr (show j < _ by omega) hv1, fun y μ' hp => ?_, fun _ _ z => z.elim⟩
      obtain ⟨m3, rfl, rfl, q3⟩ := hp
      have q4 : ∀ c i, ¬ c = 147 → m3 c i = m c i := fun c i w => by rw [q3 c i w]; exact q1 c i w
      have hR1 : iR (m3 125 32) := by
        rw [q4 _ _ (by decide)]
        by_cases c : ∃ u, u < j ∧ R7 rs r u
        · exact FSt_R (by decide) (h1 c)
        · exact FSt_R (by decide) (h2 c)
      refine R196_71 H ⟨bP_R _, fun z => ?_, fun z => ⟨hR1, fun m2 e2 => ?_⟩⟩
      · rw [show m1 132 (r : Int) = m 132 r from q1 _ _ (by decide)]
        refine hst (fun w => ?_) m3 q4
        exact z (bP_z.mpr (not_not_intro w.2.2))
      · have z' : bP (¬ ∃ p, p ∈ ((rs.getD r ruD).2.getD j cnD).2.2 ∧ Wld rs r p) = 0 := Decidable.byContradiction z
        have hp : ∃ p, p ∈ ((rs.getD r ruD).2.getD j cnD).2.2 ∧ Wld rs r p := Classical.byContradiction fun w => bP_z.mp z' w
        have h7 : R7 rs r j := ⟨h1s, ht, hp⟩
        have bad : Bad7 rs r := ⟨_, (mem_gD _ cnD _).mpr ⟨j, by omega, rfl⟩, h7⟩
        have kf : ∀ c i, ¬ WKc c i → m2 c i = m c i := fun c i q => by rw [e2, k_fail (by omega) (by omega)]; exact q4 c i (by omega)
        rw [show m1 132 (r : Int) = m 132 r from q1 _ _ (by decide), e, show m 132 r = m2 132 r from (kf _ _ (by omega)).symm]
        refine ih (j + 1) m2 (by omega) (fun c i q => by rw [kf c i q]; exact fr c i q) (RV_cg kf hv) (fun _ => ?_) (fun w => absurd ⟨j, by omega, h7⟩ w)
        rw [e2]
        by_cases c : ∃ u, u < j ∧ R7 rs r u
        · exact FSt_again (by decide) (FSt_cg (h1 c) (q4 _ _ (by decide)) (q4 _ _ (by decide))) bad
        · exact FSt_fail (by decide) (FSt_cg (h2 c) (q4 _ _ (by decide)) (q4 _ _ (by decide))) bad
theorem cr_2 (H : RS μ) {m0 : PM} {rs : List Rul} {Q : Option Value ⊕ Nat → am_Mem → Prop} (hq : ∀ m, (∀ c j, ¬ WKc c j → m c j = m0 c j) → ChE 7 (Bad7 rs) rs.length m → Q (.inl none) (sA μ m l)) : ∀ (f r : Nat) (m : PM) (o : Option Value), r + f = rs.length → (∀ c j, ¬ WKc c j → m c j = m0 c j) → RV m rs → FSt 7 (Bad7 rs) r m → Wp (d + 5) 196 (2, [some (.ref 125), some (.int (zI (r : Int))), o], [], sA μ m l) Q := by
  intro f
  induction f with
  | zero =>
    intro r m o hf fr hv hF
    obtain ⟨n1, n2, n3, n4, n5⟩ := RV_n hv
    exact R196_2 H ⟨by unfold iR; omega, by unfold iR; omega, fun _ => hq m fr (FSt_end hF (by omega) (Or.inl (by omega))), fun z => absurd (by omega) z⟩
  | succ f ih =>
    intro r m o hf fr hv hF
    obtain ⟨n1, n2, n3, n4, n5⟩ := RV_n hv
    refine R196_2 H ⟨by unfold iR; omega, by unfold iR; omega, fun z => absurd z (by omega), fun _ => ⟨FSt_R (by decide) hF, fun z => hq m fr (FSt_end hF (by omega) (Or.inr z)), fun z => ⟨by omega, ?_⟩⟩⟩
    rw [show m 132 (r : Int) = m 132 r + ((0 : Nat) : Int) by omega]
    exact cr_24 (m0 := m0) H (show r < rs.length by omega) (fun m' fr' hv' hF' o => ih (r + 1) m' o (by omega) fr' hv' hF') (rs.getD r ruD).2.length 0 m (Nat.zero_add _) fr hv (fun ⟨u, hu, _⟩ => absurd hu (Nat.not_lt_zero u)) (fun _ => hF)
theorem c_checkRecursion (H : RS μ) {m : PM} {rs : List Rul} (hv : RV m rs) (f0 : m 125 32 = 0) : Wp (d + 5) 196 (0, [some (.ref 125), none, none], [], sA μ m l) (pV (fun μ' => ∃ m', μ' = sA μ m' l ∧ (∀ c j, ¬ WKc c j → m' c j = m c j) ∧ ChE 7 (Bad7 rs) rs.length m') noX) := by
  refine R196_0 H ?_
  exact cr_2 H (fun m' fr hE => ⟨m', rfl, fr, hE⟩) rs.length 0 m none (Nat.zero_add _) (fun _ _ _ => rfl) hv (Or.inl ⟨f0, fun j hj => absurd hj (Nat.not_lt_zero j)⟩)
/-- checkAll: the fault as the rules tell it -/
theorem c_checkAll (H : RS μ) {m : PM} {rs : List Rul} (hv : RV m rs) (f0 : m 125 32 = 0) : Wp (d + 6) 182 (0, [some (.ref 125)], [], sA μ m l) (pV (fun μ' => ∃ m', μ' = sA μ m' l ∧ (∀ c j, ¬ WKc c j → m' c j = m c j) ∧ m' 125 32 = (chF rs).1 ∧ (¬ (chF rs).1 = 0 → m' 125 33 = (chF rs).2)) noX) := by
  have n0 : ∀ {m1 : PM} {p : Prop}, m1 125 32 = 0 → ¬ m1 125 32 = 0 → p := fun a b => absurd a b
  refine R182_0 H ⟨by rw [f0]; decide, fun z => n0 f0 z, fun _ => ⟨_, noX, c_checkCounts H hv f0, fun μ' hp => ?_, fun _ _ z => z.elim⟩⟩
  obtain ⟨m1, rfl, w1, E1⟩ := hp
  rcases E1 with ⟨a1, a2, a3⟩ | ⟨a1, a2⟩
  · have ec : chF rs = (2, (lst (Bad2 rs) 0 rs.length : Int)) := by unfold chF; rw [if_pos a1]
    refine R182_11 H ⟨by rw [a2]; decide, fun _ => ⟨fun _ => ⟨fun _ => ⟨fun _ => ⟨fun _ => ⟨m1, rfl, w1, by rw [ec]; exact a2, fun _ => by rw [ec]; exact a3⟩, fun z => absurd (by rw [a2]; decide) z⟩, fun z => absurd (by rw [a2]; decide) z⟩, fun z => absurd (by rw [a2]; decide) z⟩, fun z => absurd (by rw [a2]; decide) z⟩, fun z => absurd (by rw [a2]; decide) z⟩
  have hv1 := RV_cg w1 hv
  refine R182_11 H ⟨by rw [a2]; decide, fun z => n0 a2 z, fun _ => ⟨_, noX, c_checkWords H hv1 a2, fun μ' hp => ?_, fun _ _ z => z.elim⟩⟩
  obtain ⟨m2, rfl, w2, E2⟩ := hp
  have w2' : ∀ c j, ¬ WKc c j → m2 c j = m c j := fun c j q => by rw [w2 c j q]; exact w1 c j q
  rcases E2 with ⟨b1, b2, b3⟩ | ⟨b1, b2⟩
  · have ec : chF rs = (3, (lst (Bad3 rs) 0 rs.length : Int)) := by unfold chF; rw [if_neg a1, if_pos b1]
    refine R182_22 H ⟨by rw [b2]; decide, fun _ => ⟨fun _ => ⟨fun _ => ⟨fun _ => ⟨m2, rfl, w2', by rw [ec]; exact b2, fun _ => by rw [ec]; exact b3⟩, fun z => absurd (by rw [b2]; decide) z⟩, fun z => absurd (by rw [b2]; decide) z⟩, fun z => absurd (by rw [b2]; decide) z⟩, fun z => absurd (by rw [b2]; decide) z⟩
  have hv2 := RV_cg w2' hv
  refine R182_22 H ⟨by rw [b2]; decide, fun z => n0 b2 z, fun _ => ⟨_, noX, c_checkDependence H hv2 b2, fun μ' hp => ?_, fun _ _ z => z.elim⟩⟩
  obtain ⟨m3, rfl, w3, E3⟩ := hp
  have w3' : ∀ c j, ¬ WKc c j → m3 c j = m c j := fun c j q => by rw [w3 c j q]; exact w2' c j q
  have h4 := ch4_lst rs
  rcases E3 with ⟨c1, c2, c3⟩ | ⟨c1, c2⟩
  · have e4 : ch4 rs = (lst (P4 rs) 0 4 : Int) := by
      rcases h4 with q | q
      · exact q.2
      · exact absurd c1 q.1
    have ec : chF rs = (4, ch4 rs) := by unfold chF; rw [if_neg a1, if_neg b1, if_pos (by omega)]
    refine R182_33 H ⟨by rw [c2]; decide, fun _ => ⟨fun _ => ⟨fun _ => ⟨m3, rfl, w3', by rw [ec]; exact c2, fun _ => by rw [ec]; show m3 125 33 = ch4 rs; rw [e4]; exact c3⟩, fun z => absurd (by rw [c2]; decide) z⟩, fun z => absurd (by rw [c2]; decide) z⟩, fun z => absurd (by rw [c2]; decide) z⟩
  have e4 : ch4 rs = -1 := by
    rcases h4 with q | q
    · exact absurd q.1 c1
    · exact q.2
  have hv3 := RV_cg w3' hv
  refine R182_33 H ⟨by rw [c2]; decide, fun z => n0 c2 z, fun _ => ⟨_, noX, c_checkSafety H hv3 c2, fun μ' hp => ?_, fun _ _ z => z.elim⟩⟩
  obtain ⟨m4, rfl, w4, E4⟩ := hp
  have w4' : ∀ c j, ¬ WKc c j → m4 c j = m c j := fun c j q => by rw [w4 c j q]; exact w3' c j q
  rcases E4 with ⟨d1, d2, d3⟩ | ⟨d1, d2⟩
  · have ec : chF rs = (5, (lst (Bad5 rs) 0 rs.length : Int)) := by unfold chF; rw [if_neg a1, if_neg b1, if_neg (not_not_intro e4), if_pos d1]
    refine R182_44 H ⟨by rw [d2]; decide, fun _ => ⟨fun _ => ⟨m4, rfl, w4', by rw [ec]; exact d2, fun _ => by rw [ec]; exact d3⟩, fun z => absurd (by rw [d2]; decide) z⟩, fun z => absurd (by rw [d2]; decide) z⟩
  have hv4 := RV_cg w4' hv
  refine R182_44 H ⟨by rw [d2]; decide, fun z => n0 d2 z, fun _ => ⟨_, noX, c_checkStrata H hv4 d2, fun μ' hp => ?_, fun _ _ z => z.elim⟩⟩
  obtain ⟨m5, rfl, w5, E5⟩ := hp
  have w5' : ∀ c j, ¬ WKc c j → m5 c j = m c j := fun c j q => by rw [w5 c j q]; exact w4' c j q
  rcases E5 with ⟨g1, g2, g3⟩ | ⟨g1, g2⟩
  · have ec : chF rs = (6, (lst (Bad6 rs) 0 rs.length : Int)) := by unfold chF; rw [if_neg a1, if_neg b1, if_neg (not_not_intro e4), if_neg d1, if_pos g1]
    refine R182_55 H ⟨by rw [g2]; decide, fun _ => ⟨m5, rfl, w5', by rw [ec]; exact g2, fun _ => by rw [ec]; exact g3⟩, fun z => absurd (by rw [g2]; decide) z⟩
  have hv5 := RV_cg w5' hv
  refine R182_55 H ⟨by rw [g2]; decide, fun z => n0 g2 z, fun _ => ⟨_, noX, c_checkRecursion H hv5 g2, fun μ' hp => ?_, fun _ _ z => z.elim⟩⟩
  obtain ⟨m6, rfl, w6, E6⟩ := hp
  have w6' : ∀ c j, ¬ WKc c j → m6 c j = m c j := fun c j q => by rw [w6 c j q]; exact w5' c j q
  rcases E6 with ⟨i1, i2, i3⟩ | ⟨i1, i2⟩
  · have ec : chF rs = (7, (lst (Bad7 rs) 0 rs.length : Int)) := by unfold chF; rw [if_neg a1, if_neg b1, if_neg (not_not_intro e4), if_neg d1, if_neg g1, if_pos i1]
    exact R182_66 H ⟨m6, rfl, w6', by rw [ec]; exact i2, fun _ => by rw [ec]; exact i3⟩
  · have ec : chF rs = (0, -1) := by unfold chF; rw [if_neg a1, if_neg b1, if_neg (not_not_intro e4), if_neg d1, if_neg g1, if_neg i1]
    exact R182_66 H ⟨m6, rfl, w6', by rw [ec]; exact i2, fun z => absurd (by rw [ec]) z⟩
end RRC
