/-! ===== the reference's checkWords, checkSafety ===== -/
theorem wd_ne : ∀ j : Fin 10, ¬ ([] : List Int) = wdL.getD j.val [] := by decide
abbrev cnD : Nat × Atm := (0, ([], []))
section RCW
variable {d : Nat} {μ : am_Mem} {l : PM}
/-- condition j of rule r -/
theorem RV_cond {m : PM} {rs : List Rul} (h : RV m rs) {r j : Nat} (hr : r < rs.length) (hj : j < (rs.getD r ruD).2.length) : OkC ((rs.getD r ruD).2.getD j cnD) ∧ m 133 (m 132 r + j) = (((rs.getD r ruD).2.getD j cnD).1 : Int) ∧ (0 ≤ m 134 (m 132 r + j) ∧ m 134 (m 132 r + j) < 540) ∧ (∀ w : Nat, w < 10 → (m 135 (m 134 (m 132 r + j)) = (w : Int) ↔ ((rs.getD r ruD).2.getD j cnD).2.1 = wdL.getD w [])) ∧ iR (m 135 (m 134 (m 132 r + j))) ∧ (((rs.getD r ruD).2.getD j cnD).1 < 3 → nX m (m 135 (m 134 (m 132 r + j))) ((rs.getD r ruD).2.getD j cnD).2.1) ∧ GAt m (m 134 (m 132 r + j)) ∧ GAa m (m 134 (m 132 r + j)) ∧ AtR m (m 134 (m 132 r + j)) ((rs.getD r ruD).2.getD j cnD).2 (decide (((rs.getD r ruD).2.getD j cnD).1 = 3)) (m 125 22) := by
  obtain ⟨⟨a1, a2, a3⟩, ⟨b1, b2, b3⟩, c⟩ := RV_rule h hr
  obtain ⟨n1, n2, n3, n4, n5⟩ := RV_n h
  obtain ⟨z1, z2, z3, z4⟩ := c j hj
  have okc := (OkS_at h.2.2.2.2.2 hr).2.2 _ ((mem_gD _ cnD _).mpr ⟨j, hj, rfl⟩)
  have g := at_good (by omega) n4 n5 okc.1 z4
  refine ⟨okc, z1, ⟨z2, z3⟩, fun w hw => ?_, ?_, fun q => ?_, g.1, g.2, z4⟩
  · by_cases q : ((rs.getD r ruD).2.getD j cnD).1 = 3
    · have e := z4.1
      rw [decide_eq_true q] at e
      have e1 : m 135 (m 134 (m 132 r + j)) = -1 := e
      have e2 : ((rs.getD r ruD).2.getD j cnD).2.1 = [] := by
        rcases okc.2 with y | y | y
        · rw [y] at q; exact absurd q (by decide)
        · rw [y] at q; exact absurd q (by decide)
        · exact y.2.1
      rw [e1, e2]
      exact ⟨fun y => absurd y (by omega), fun y => absurd y (wd_ne ⟨w, hw⟩)⟩
    · have e := z4.1
      rw [decide_eq_false q] at e
      exact nX_wd h.2.2.1 e hw
  · by_cases q : ((rs.getD r ruD).2.getD j cnD).1 = 3
    · have e := z4.1
      rw [decide_eq_true q] at e
      have e1 : m 135 (m 134 (m 132 r + j)) = -1 := e
      rw [e1]; decide
    · have e := z4.1
      rw [decide_eq_false q] at e
      have e1 : nX m (m 135 (m 134 (m 132 r + j))) _ := e
      have := e1.1
      have := e1.2.1
      unfold iR
      omega
  · have e := z4.1
    rw [decide_eq_false (show ¬ ((rs.getD r ruD).2.getD j cnD).1 = 3 by omega)] at e
    exact e
/-- the head of rule r -/
theorem RV_head {m : PM} {rs : List Rul} (h : RV m rs) {r : Nat} (hr : r < rs.length) : OkA (rs.getD r ruD).1 ∧ (0 ≤ m 131 r ∧ m 131 r < 540) ∧ nX m (m 135 (m 131 r)) (rs.getD r ruD).1.1 ∧ iR (m 135 (m 131 r)) ∧ (0 ≤ m 135 (m 131 r) ∧ m 135 (m 131 r) < 1010) ∧ GAt m (m 131 r) ∧ GAa m (m 131 r) ∧ AtR m (m 131 r) (rs.getD r ruD).1 false (m 125 22) := by
  obtain ⟨⟨a1, a2, a3⟩, ⟨b1, b2, b3⟩, c⟩ := RV_rule h hr
  obtain ⟨n1, n2, n3, n4, n5⟩ := RV_n h
  have ok := (OkS_at h.2.2.2.2.2 hr).1
  have g := at_good (by omega) n4 n5 ok a3
  have e : nX m (m 135 (m 131 r)) _ := a3.1
  have := e.1
  have := e.2.1
  exact ⟨ok, ⟨a1, a2⟩, e, by unfold iR; omega, by omega, g.1, g.2, a3⟩
/-- the words of rule r, as far as its head and the conditions before j tell -/
def B3j (ru : Rul) (j : Nat) : Prop := (ru.1.1 = wdL.getD 4 [] ∨ ru.1.1 = wdL.getD 5 [] ∨ (ru.1.1 = wdL.getD 2 [] ∧ (¬ ru.2 = [] ∨ atV ru.1))) ∨ ∃ i, i < j ∧ ((ru.2.getD i cnD).2.1 = wdL.getD 3 [] ∨ (ru.2.getD i cnD).2.1 = wdL.getD 7 [])
theorem B3j_end (rs : List Rul) (r : Nat) : B3j (rs.getD r ruD) (rs.getD r ruD).2.length ↔ Bad3 rs r := by
  unfold B3j Bad3
  constructor
  · rintro ((h | h | h) | ⟨i, hi, h⟩)
    · exact Or.inl h
    · exact Or.inr (Or.inl h)
    · exact Or.inr (Or.inr (Or.inl h))
    · exact Or.inr (Or.inr (Or.inr ⟨_, (mem_gD _ cnD _).mpr ⟨i, hi, rfl⟩, h⟩))
  · rintro (h | h | h | ⟨c, hc, h⟩)
    · exact Or.inl (Or.inl h)
    · exact Or.inl (Or.inr (Or.inl h))
    · exact Or.inl (Or.inr (Or.inr h))
    · obtain ⟨i, hi, e⟩ := (mem_gD _ cnD _).mp hc
      exact Or.inr ⟨i, hi, by rw [e]; exact h⟩
theorem cw_93 (H : RS μ) {m : PM} {rs : List Rul} {r : Nat} {Q : Option Value ⊕ Nat → am_Mem → Prop} (hr : r < rs.length) (hv : RV m rs) (hF : FSt 3 (Bad3 rs) r m) (hq : ∀ m', (m' = m ∨ m' = m_fail m 3 (r : Int)) → FSt 3 (Bad3 rs) (r + 1) m' → ∀ o2 o3 o4 o5 o6 : Option Value, Wp (d + 2) 186 (2, [some (.ref 125), some (.int (zI ((r : Int) + 1))), o2, o3, o4, o5, o6], [], sA μ m' l) Q) {x2 x3 : Int} : ∀ (f j : Nat) (o6 : Option Value), j + f = (rs.getD r ruD).2.length → Wp (d + 2) 186 (93, [some (.ref 125), some (.int (zI (r : Int))), some (.int (zI x2)), some (.int (zI x3)), some (.int (zI (bP (B3j (rs.getD r ruD) j)))), some (.int (zI (m 132 r + (j : Int)))), o6], [], sA μ m l) Q := by
  obtain ⟨⟨a1, a2, a3⟩, ⟨b1, b2, b3⟩, c⟩ := RV_rule hv hr
  obtain ⟨n1, n2, n3, n4, n5⟩ := RV_n hv
  intro f
  induction f with
  | zero =>
    intro j o6 hf
    have ej : j = (rs.getD r ruD).2.length := by omega
    refine R186_93 H ⟨by omega, by unfold iR; omega, by unfold iR; omega, fun _ => ⟨bP_R _, fun z => ?_, fun z => ⟨FSt_R (by decide) hF, fun m1 e1 => ?_⟩⟩, fun z => absurd (by omega) z⟩
    · have nb : ¬ Bad3 rs r := fun w => bP_z.mp z (by rw [ej]; exact (B3j_end rs r).mpr w)
      exact hq m (Or.inl rfl) (FSt_no hF nb) _ _ _ _ _
    · have nb : Bad3 rs r := (B3j_end rs r).mp (by rw [← ej]; exact Classical.byContradiction fun w => z (bP_z.mpr w))
      exact hq m1 (Or.inr e1) (by rw [e1]; exact FSt_fail (by decide) hF nb) _ _ _ _ _
  | succ f ih =>
    intro j o6 hf
    obtain ⟨k1, k2, k3, k4, k5, k6, k7, k8, k9⟩ := RV_cond hv hr (show j < _ by omega)
    refine R186_93 H ⟨by omega, by unfold iR; omega, by unfold iR; omega, fun z => absurd z (by omega), fun _ => ⟨by omega, by omega, bP_R _, ⟨fun _ => trivial, fun _ => ⟨k5, trivial⟩⟩, fun v2 e2 => ?_⟩⟩
    have ev : v2 = bP (B3j (rs.getD r ruD) (j + 1)) := by
      rw [e2]
      by_cases q : B3j (rs.getD r ruD) j
      · rw [if_pos (by rw [bP_1 q]; decide), bP_1]
        rcases q with q | ⟨i, hi, q⟩
        · exact Or.inl q
        · exact Or.inr ⟨i, by omega, q⟩
      · rw [if_neg (by rw [bP_0 q]; decide)]
        have q3 := k4 3 (by decide)
        have q7 := k4 7 (by decide)
        by_cases c3 : m 135 (m 134 (m 132 r + (j : Int))) = 3
        · rw [if_pos c3, bP_1]
          exact Or.inr ⟨j, by omega, Or.inl (q3.mp c3)⟩
        · rw [if_neg c3]
          by_cases c7 : m 135 (m 134 (m 132 r + (j : Int))) = 7
          · rw [if_neg (not_not_intro c7), bP_1]
            exact Or.inr ⟨j, by omega, Or.inr (q7.mp c7)⟩
          · rw [if_pos c7, bP_0]
            rintro (w | ⟨i, hi, w⟩)
            · exact q (Or.inl w)
            · by_cases ei : i = j
              · rw [ei] at w
                rcases w with w | w
                · exact c3 (q3.mpr w)
                · exact c7 (q7.mpr w)
              · exact q (Or.inr ⟨i, by omega, w⟩)
    have e : m 132 r + (j : Int) + 1 = m 132 r + ((j + 1 : Nat) : Int) := by omega
    rw [ev, e]
    exact ih (j + 1) _ (by omega)
theorem cw_2 (H : RS μ) {m0 : PM} {rs : List Rul} {Q : Option Value ⊕ Nat → am_Mem → Prop} (hq : ∀ m, (∀ c j, ¬ WKc c j → m c j = m0 c j) → ChE 3 (Bad3 rs) rs.length m → Q (.inl none) (sA μ m l)) : ∀ (f r : Nat) (m : PM) (o2 o3 o4 o5 o6 : Option Value), r + f = rs.length → (∀ c j, ¬ WKc c j → m c j = m0 c j) → RV m rs → FSt 3 (Bad3 rs) r m → Wp (d + 2) 186 (2, [some (.ref 125), some (.int (zI (r : Int))), o2, o3, o4, o5, o6], [], sA μ m l) Q := by
  intro f
  induction f with
  | zero =>
    intro r m o2 o3 o4 o5 o6 hf fr hv hF
    obtain ⟨n1, n2, n3, n4, n5⟩ := RV_n hv
    exact R186_2 H ⟨by unfold iR; omega, by unfold iR; omega, fun _ => hq m fr (FSt_end hF (by omega) (Or.inl (by omega))), fun z => absurd (by omega) z⟩
  | succ f ih =>
    intro r m o2 o3 o4 o5 o6 hf fr hv hF
    obtain ⟨n1, n2, n3, n4, n5⟩ := RV_n hv
    have hr : r < rs.length := by omega
    obtain ⟨⟨a1, a2, a3⟩, ⟨b1, b2, b3⟩, c⟩ := RV_rule hv hr
    obtain ⟨k1, k2, k3, k4, k5, k6, k7, k8⟩ := RV_head hv hr
    refine R186_2 H ⟨by unfold iR; omega, by unfold iR; omega, fun z => absurd z (by omega), fun _ => ⟨by omega, by omega, by omega, by omega, by unfold iR; omega, by unfold iR; omega, ⟨fun _ => trivial, fun _ => ⟨k6, by decide, trivial⟩⟩, fun v1 e1 => ⟨k4, fun v2 e2 => ?_⟩⟩⟩
    have w4 := nX_wd hv.2.2.1 k3 (j := 4) (by decide)
    have w5 := nX_wd hv.2.2.1 k3 (j := 5) (by decide)
    have w2 := nX_wd hv.2.2.1 k3 (j := 2) (by decide)
    have hvv := at_V k8
    have e1' : v1 = 0 ↔ (¬ (rs.getD r ruD).2 = [] ∨ atV (rs.getD r ruD).1) := by
      rw [e1]
      by_cases ce : (rs.getD r ruD).2 = []
      · have el : (rs.getD r ruD).2.length = 0 := by rw [ce]; rfl
        rw [if_neg (by omega)]
        by_cases cv : atV (rs.getD r ruD).1
        · rw [if_pos (by rw [bP_1 (hvv.mpr cv)]; decide)]
          exact ⟨fun _ => Or.inr cv, fun _ => rfl⟩
        · rw [if_neg (by rw [bP_0 (fun z => cv (hvv.mp z))]; decide)]
          exact ⟨fun z => absurd z (by decide), fun z => by
            rcases z with z | z
            · exact absurd ce z
            · exact absurd z cv⟩
      · have el : 0 < (rs.getD r ruD).2.length := List.length_pos_iff.mpr ce
        rw [if_pos (by omega)]
        exact ⟨fun _ => Or.inl ce, fun _ => rfl⟩
    have ev : v2 = bP (B3j (rs.getD r ruD) 0) := by
      rw [e2]
      by_cases c4 : m 135 (m 131 (r : Int)) = 4
      · rw [if_pos c4, bP_1]
        exact Or.inl (Or.inl (w4.mp c4))
      · rw [if_neg c4]
        by_cases c5 : m 135 (m 131 (r : Int)) = 5
        · rw [if_pos c5, bP_1]
          exact Or.inl (Or.inr (Or.inl (w5.mp c5)))
        · rw [if_neg c5]
          have no : ¬ ((rs.getD r ruD).1.1 = wdL.getD 2 [] ∧ (¬ (rs.getD r ruD).2 = [] ∨ atV (rs.getD r ruD).1)) → ¬ B3j (rs.getD r ruD) 0 := by
            intro w
            rintro ((z | z | z) | ⟨i, hi, _⟩)
            · exact c4 (w4.mpr z)
            · exact c5 (w5.mpr z)
            · exact w z
            · exact absurd hi (Nat.not_lt_zero i)
          by_cases c2 : m 135 (m 131 (r : Int)) = 2
          · rw [if_neg (not_not_intro c2)]
            by_cases cv : v1 = 0
            · rw [if_neg (not_not_intro cv), bP_1]
              exact Or.inl (Or.inr (Or.inr ⟨w2.mp c2, e1'.mp cv⟩))
            · rw [if_pos cv, bP_0]
              exact no fun z => cv (e1'.mpr z.2)
          · rw [if_pos c2, bP_0]
            exact no fun z => c2 (w2.mpr z.1)
    rw [ev, show m 132 (r : Int) = m 132 r + ((0 : Nat) : Int) by omega]
    refine cw_93 H hr hv hF (fun m' hm hF' o2 o3 o4 o5 o6 => ?_) (rs.getD r ruD).2.length 0 _ (by omega)
    have fr' : ∀ c j, ¬ WKc c j → m' c j = m c j := fun c j q => by
      rcases hm with e | e
      · rw [e]
      · rw [e]; exact k_fail (by omega) (by omega)
    exact ih (r + 1) m' _ _ _ _ _ (by omega) (fun c j q => by rw [fr' c j q]; exact fr c j q) (RV_cg fr' hv) hF'
theorem c_checkWords (H : RS μ) {m : PM} {rs : List Rul} (hv : RV m rs) (f0 : m 125 32 = 0) : Wp (d + 2) 186 (0, [some (.ref 125), none, none, none, none, none, none], [], sA μ m l) (pV (fun μ' => ∃ m', μ' = sA μ m' l ∧ (∀ c j, ¬ WKc c j → m' c j = m c j) ∧ ChE 3 (Bad3 rs) rs.length m') noX) := by
  refine R186_0 H ?_
  exact cw_2 H (fun m' fr hE => ⟨m', rfl, fr, hE⟩) rs.length 0 m none none none none none (Nat.zero_add _) (fun _ _ _ => rfl) hv (Or.inl ⟨f0, fun j hj => absurd hj (Nat.not_lt_zero j)⟩)
/-- variable v of rule r isn't safe -/
def Uns (ru : Rul) (v : Nat) : Prop := (atW ru.1 v ∨ ∃ c, c ∈ ru.2 ∧ 1 < c.1 ∧ atW c.2 v) ∧ ¬ ∃ c, c ∈ ru.2 ∧ c.1 = 1 ∧ atW c.2 v
theorem ex_mem {ru : Rul} {P : Nat × Atm → Prop} : (∃ i, i < ru.2.length ∧ P (ru.2.getD i cnD)) ↔ ∃ c, c ∈ ru.2 ∧ P c := by
  constructor
  · rintro ⟨i, hi, h⟩
    exact ⟨_, (mem_gD _ cnD _).mpr ⟨i, hi, rfl⟩, h⟩
  · rintro ⟨c, hc, h⟩
    obtain ⟨i, hi, e⟩ := (mem_gD _ cnD _).mp hc
    exact ⟨i, hi, by rw [e]; exact h⟩
theorem or_step {A : Prop} {P : Nat → Prop} {j : Nat} {x v : Int} {w : Prop} (e : x = bP (A ∨ ∃ i, i < j ∧ P i)) (hv : ∀ y : Int, y = v → (¬ x = 0 → y = 1) ∧ (x = 0 → (y = 0 ↔ ¬ w) ∧ (y = 1 ↔ w))) (hw : w ↔ P j) : v = bP (A ∨ ∃ i, i < j + 1 ∧ P i) := by
  obtain ⟨h1, h2⟩ := hv v rfl
  by_cases q : A ∨ ∃ i, i < j ∧ P i
  · rw [h1 (by rw [e, bP_1 q]; decide), bP_1]
    rcases q with q | ⟨i, hi, q⟩
    · exact Or.inl q
    · exact Or.inr ⟨i, by omega, q⟩
  · have h3 := h2 (by rw [e, bP_0 q])
    by_cases c : w
    · rw [h3.2.mpr c, bP_1]
      exact Or.inr ⟨j, by omega, hw.mp c⟩
    · rw [h3.1.mpr c, bP_0]
      rintro (z | ⟨i, hi, z⟩)
      · exact q (Or.inl z)
      · by_cases ei : i = j
        · rw [ei] at z; exact c (hw.mpr z)
        · exact q (Or.inr ⟨i, by omega, z⟩)
theorem sf_23 (H : RS μ) {m : PM} {rs : List Rul} {r v : Nat} (hr : r < rs.length) (hv8 : v < 8) (hv : RV m rs) : ∀ (f j : Nat) (x3 x4 : Int) (o6 : Option Value), j + f = (rs.getD r ruD).2.length → x3 = bP (atW (rs.getD r ruD).1 v ∨ ∃ i, i < j ∧ (1 < ((rs.getD r ruD).2.getD i cnD).1 ∧ atW ((rs.getD r ruD).2.getD i cnD).2 v)) → x4 = bP (False ∨ ∃ i, i < j ∧ (((rs.getD r ruD).2.getD i cnD).1 = 1 ∧ atW ((rs.getD r ruD).2.getD i cnD).2 v)) → Wp (d + 2) 193 (23, [some (.ref 125), some (.int (zI (r : Int))), some (.int (zI (v : Int))), some (.int (zI x3)), some (.int (zI x4)), some (.int (zI (m 132 r + (j : Int)))), o6], [], sA μ m l) (pI (fun y μ' => y = zI (bP (¬ Uns (rs.getD r ruD) v)) ∧ μ' = sA μ m l) noX) := by
  obtain ⟨⟨a1, a2, a3⟩, ⟨b1, b2, b3⟩, c⟩ := RV_rule hv hr
  obtain ⟨n1, n2, n3, n4, n5⟩ := RV_n hv
  intro f
  induction f with
  | zero =>
    intro j x3 x4 o6 hf e3 e4
    have ej : j = (rs.getD r ruD).2.length := by omega
    rw [ej] at e3 e4
    refine R193_23 H ⟨by omega, by unfold iR; omega, by unfold iR; omega, fun _ => ⟨by rw [e4]; exact bP_R _, ⟨fun _ => trivial, fun _ => ⟨by rw [e3]; exact bP_R _, trivial⟩⟩, fun v1 e1 => ⟨?_, rfl⟩⟩, fun z => absurd (by omega) z⟩
    rw [e1, e3, e4]
    have i3 := ex_mem (ru := rs.getD r ruD) (P := fun c => 1 < c.1 ∧ atW c.2 v)
    have i4 := ex_mem (ru := rs.getD r ruD) (P := fun c => c.1 = 1 ∧ atW c.2 v)
    by_cases c4 : False ∨ ∃ i, i < (rs.getD r ruD).2.length ∧ (((rs.getD r ruD).2.getD i cnD).1 = 1 ∧ atW ((rs.getD r ruD).2.getD i cnD).2 v)
    · rw [if_pos (by rw [bP_1 c4]; decide), bP_1]
      intro u
      rcases c4 with c4 | c4
      · exact c4
      · exact u.2 (i4.mp c4)
    · rw [if_neg (by rw [bP_0 c4]; decide)]
      by_cases c3 : atW (rs.getD r ruD).1 v ∨ ∃ i, i < (rs.getD r ruD).2.length ∧ (1 < ((rs.getD r ruD).2.getD i cnD).1 ∧ atW ((rs.getD r ruD).2.getD i cnD).2 v)
      · rw [if_pos (by rw [bP_1 c3]; decide), bP_0]
        intro u
        refine u ⟨?_, fun z => c4 (Or.inr (i4.mpr z))⟩
        rcases c3 with c3 | c3
        · exact Or.inl c3
        · exact Or.inr (i3.mp c3)
      · rw [if_neg (by rw [bP_0 c3]; decide), bP_1]
        intro u
        rcases u.1 with z | z
        · exact c3 (Or.inl z)
        · exact c3 (Or.inr (i3.mpr z))
  | succ f ih =>
    intro j x3 x4 o6 hf e3 e4
    obtain ⟨k1, k2, k3, k4, k5, k6, k7, k8, k9⟩ := RV_cond hv hr (show j < _ by omega)
    have hs3 : ((rs.getD r ruD).2.getD j cnD).1 ≤ 3 := by
      rcases k1.2 with q | q | q
      · omega
      · omega
      · have := q.1; omega
    have hw := at_W (v := v) k9
    refine R193_23 H ⟨by omega, by unfold iR; omega, by unfold iR; omega, fun z => absurd z (by omega), fun _ => ⟨by omega, k7, by unfold iR; omega, fun v2 e2 => ⟨by rw [e4]; exact bP_R _, ⟨fun _ => trivial, fun _ => ⟨fun _ => trivial, fun _ => ⟨by rw [k2]; unfold iR; omega, trivial⟩⟩⟩, fun v3 ev3 => ⟨by rw [e3]; exact bP_R _, ⟨fun _ => trivial, fun _ => ⟨fun _ => trivial, fun _ => ⟨by rw [k2]; unfold iR; omega, trivial⟩⟩⟩, fun v4 ev4 => ?_⟩⟩⟩⟩
    have e2' : v2 = 0 ↔ ¬ atW ((rs.getD r ruD).2.getD j cnD).2 v := by
      rw [e2, bP_z, hw]
    have s3 : v4 = bP (atW (rs.getD r ruD).1 v ∨ ∃ i, i < j + 1 ∧ (1 < ((rs.getD r ruD).2.getD i cnD).1 ∧ atW ((rs.getD r ruD).2.getD i cnD).2 v)) := by
      refine or_step (P := fun i => 1 < ((rs.getD r ruD).2.getD i cnD).1 ∧ atW ((rs.getD r ruD).2.getD i cnD).2 v) (w := 1 < ((rs.getD r ruD).2.getD j cnD).1 ∧ atW ((rs.getD r ruD).2.getD j cnD).2 v) e3 (fun y ey => ?_) Iff.rfl
      rw [ey, ev4]
      refine ⟨fun z => by rw [if_pos z], fun z => ?_⟩
      rw [if_neg (not_not_intro z)]
      by_cases c2 : v2 = 0
      · rw [if_pos c2]
        exact ⟨⟨fun _ w => e2'.mp c2 w.2, fun _ => rfl⟩, ⟨fun w => absurd w (by decide), fun w => absurd w.2 (e2'.mp c2)⟩⟩
      · rw [if_neg c2]
        have ca : atW ((rs.getD r ruD).2.getD j cnD).2 v := Classical.byContradiction fun w => c2 (e2'.mpr w)
        by_cases c1 : m 133 (m 132 (r : Int) + (j : Int)) ≤ 1
        · rw [if_pos c1]
          exact ⟨⟨fun _ w => by omega, fun _ => rfl⟩, ⟨fun w => absurd w (by decide), fun w => by omega⟩⟩
        · rw [if_neg c1]
          exact ⟨⟨fun w => absurd w (by decide), fun w => absurd ⟨by omega, ca⟩ w⟩, ⟨fun _ => ⟨by omega, ca⟩, fun _ => rfl⟩⟩
    have s4 : v3 = bP (False ∨ ∃ i, i < j + 1 ∧ (((rs.getD r ruD).2.getD i cnD).1 = 1 ∧ atW ((rs.getD r ruD).2.getD i cnD).2 v)) := by
      refine or_step (P := fun i => ((rs.getD r ruD).2.getD i cnD).1 = 1 ∧ atW ((rs.getD r ruD).2.getD i cnD).2 v) (w := ((rs.getD r ruD).2.getD j cnD).1 = 1 ∧ atW ((rs.getD r ruD).2.getD j cnD).2 v) e4 (fun y ey => ?_) Iff.rfl
      rw [ey, ev3]
      refine ⟨fun z => by rw [if_pos z], fun z => ?_⟩
      rw [if_neg (not_not_intro z)]
      by_cases c2 : v2 = 0
      · rw [if_pos c2]
        exact ⟨⟨fun _ w => e2'.mp c2 w.2, fun _ => rfl⟩, ⟨fun w => absurd w (by decide), fun w => absurd w.2 (e2'.mp c2)⟩⟩
      · rw [if_neg c2]
        have ca : atW ((rs.getD r ruD).2.getD j cnD).2 v := Classical.byContradiction fun w => c2 (e2'.mpr w)
        by_cases c1 : m 133 (m 132 (r : Int) + (j : Int)) = 1
        · rw [if_neg (not_not_intro c1)]
          exact ⟨⟨fun w => absurd w (by decide), fun w => absurd ⟨by omega, ca⟩ w⟩, ⟨fun _ => ⟨by omega, ca⟩, fun _ => rfl⟩⟩
        · rw [if_pos c1]
          exact ⟨⟨fun _ w => by omega, fun _ => rfl⟩, ⟨fun w => absurd w (by decide), fun w => by omega⟩⟩
    have e : m 132 r + (j : Int) + 1 = m 132 r + ((j + 1 : Nat) : Int) := by omega
    rw [e]
    exact ih (j + 1) v4 v3 _ (by omega) s3 s4
theorem c_isSafe (H : RS μ) {m : PM} {rs : List Rul} {r v : Nat} (hr : r < rs.length) (hv8 : v < 8) (hv : RV m rs) : Wp (d + 2) 193 (0, [some (.ref 125), some (.int (zI (r : Int))), some (.int (zI (v : Int))), none, none, none, none], [], sA μ m l) (pI (fun y μ' => y = zI (bP (¬ Uns (rs.getD r ruD) v)) ∧ μ' = sA μ m l) noX) := by
  obtain ⟨n1, n2, n3, n4, n5⟩ := RV_n hv
  obtain ⟨k1, k2, k3, k4, k5, k6, k7, k8⟩ := RV_head hv hr
  refine R193_0 H ⟨by omega, k6, by unfold iR; omega, fun v1 e1 => ⟨by omega, ?_⟩⟩
  rw [show m 132 (r : Int) = m 132 r + ((0 : Nat) : Int) by omega]
  refine sf_23 H hr hv8 hv (rs.getD r ruD).2.length 0 v1 0 none (Nat.zero_add _) ?_ ?_
  · rw [e1]
    refine bP_cg ((at_W k8).trans ⟨fun z => Or.inl z, fun z => ?_⟩)
    rcases z with z | ⟨i, hi, _⟩
    · exact z
    · exact absurd hi (Nat.not_lt_zero i)
  · rw [bP_0]
    rintro (z | ⟨i, hi, _⟩)
    · exact z
    · exact absurd hi (Nat.not_lt_zero i)
theorem cs_12 (H : RS μ) {m0 : PM} {rs : List Rul} {r : Nat} {Q : Option Value ⊕ Nat → am_Mem → Prop} (hr : r < rs.length) (hq : ∀ m, (∀ c j, ¬ WKc c j → m c j = m0 c j) → RV m rs → FSt 5 (Bad5 rs) (r + 1) m → ∀ o : Option Value, Wp (d + 3) 192 (2, [some (.ref 125), some (.int (zI ((r : Int) + 1))), o], [], sA μ m l) Q) : ∀ (f v : Nat) (m : PM), v + f = 8 → (∀ c j, ¬ WKc c j → m c j = m0 c j) → RV m rs → ((∃ u, u < v ∧ Uns (rs.getD r ruD) u) → FSt 5 (Bad5 rs) (r + 1) m) → ((¬ ∃ u, u < v ∧ Uns (rs.getD r ruD) u) → FSt 5 (Bad5 rs) r m) → Wp (d + 3) 192 (12, [some (.ref 125), some (.int (zI (r : Int))), some (.int (zI (v : Int)))], [], sA μ m l) Q := by
  intro f
  induction f with
  | zero =>
    intro v m hf fr hv h1 h2
    have ev : v = 8 := by omega
    refine R192_12 H ⟨by unfold iR; omega, fun _ => hq m fr hv ?_ _, fun z => absurd (by omega) z⟩
    by_cases c : ∃ u, u < v ∧ Uns (rs.getD r ruD) u
    · exact h1 c
    · refine FSt_no (h2 c) ?_
      rintro ⟨u, hu, hb⟩
      exact c ⟨u, by omega, hb⟩
  | succ f ih =>
    intro v m hf fr hv h1 h2
    refine R192_12 H ⟨by unfold iR; omega, fun z => absurd z (by omega), fun _ => ⟨_, noX, c_isSafe H hr (by omega) hv, fun y μ' hp => ?_, fun _ _ z => z.elim⟩⟩
    obtain ⟨rfl, rfl⟩ := hp
    have e : (v : Int) + 1 = ((v + 1 : Nat) : Int) := by omega
    refine R192_24 H ⟨bP_R _, fun z => ?_, fun z => ⟨?_, fun m1 e1 => ?_⟩⟩
    · have ns : ¬ Uns (rs.getD r ruD) v := Classical.byContradiction fun w => z (bP_z.mpr w)
      rw [e]
      refine ih (v + 1) m (by omega) fr hv (fun ⟨u, hu, hb⟩ => h1 ⟨u, ?_, hb⟩) (fun w => h2 fun ⟨u, hu, hb⟩ => w ⟨u, by omega, hb⟩)
      by_cases c : u = v
      · rw [c] at hb; exact absurd hb ns
      · omega
    · by_cases c : ∃ u, u < v ∧ Uns (rs.getD r ruD) u
      · exact FSt_R (by decide) (h1 c)
      · exact FSt_R (by decide) (h2 c)
    · have us : Uns (rs.getD r ruD) v := by
        have z' : bP (¬ Uns (rs.getD r ruD) v) = 0 := Decidable.byContradiction z
        exact Classical.byContradiction fun w => bP_z.mp z' w
      have bad : Bad5 rs r := ⟨v, by omega, us⟩
      rw [e]
      have kf : ∀ c j, ¬ WKc c j → m1 c j = m c j := fun c j q => by rw [e1]; exact k_fail (by omega) (by omega)
      refine ih (v + 1) m1 (by omega) (fun c j q => by rw [kf c j q]; exact fr c j q) (RV_cg kf hv) (fun _ => ?_) (fun w => absurd ⟨v, by omega, us⟩ w)
      rw [e1]
      by_cases c : ∃ u, u < v ∧ Uns (rs.getD r ruD) u
      · exact FSt_again (by decide) (h1 c) bad
      · exact FSt_fail (by decide) (h2 c) bad
theorem cs_2 (H : RS μ) {m0 : PM} {rs : List Rul} {Q : Option Value ⊕ Nat → am_Mem → Prop} (hq : ∀ m, (∀ c j, ¬ WKc c j → m c j = m0 c j) → ChE 5 (Bad5 rs) rs.length m → Q (.inl none) (sA μ m l)) : ∀ (f r : Nat) (m : PM) (o : Option Value), r + f = rs.length → (∀ c j, ¬ WKc c j → m c j = m0 c j) → RV m rs → FSt 5 (Bad5 rs) r m → Wp (d + 3) 192 (2, [some (.ref 125), some (.int (zI (r : Int))), o], [], sA μ m l) Q := by
  intro f
  induction f with
  | zero =>
    intro r m o hf fr hv hF
    obtain ⟨n1, n2, n3, n4, n5⟩ := RV_n hv
    exact R192_2 H ⟨by unfold iR; omega, by unfold iR; omega, fun _ => hq m fr (FSt_end hF (by omega) (Or.inl (by omega))), fun z => absurd (by omega) z⟩
  | succ f ih =>
    intro r m o hf fr hv hF
    obtain ⟨n1, n2, n3, n4, n5⟩ := RV_n hv
    refine R192_2 H ⟨by unfold iR; omega, by unfold iR; omega, fun z => absurd z (by omega), fun _ => ?_⟩
    exact cs_12 (m0 := m0) H (show r < rs.length by omega) (fun m' fr' hv' hF' o => ih (r + 1) m' o (by omega) fr' hv' hF') 8 0 m rfl fr hv (fun ⟨u, hu, _⟩ => absurd hu (Nat.not_lt_zero u)) (fun _ => hF)
theorem c_checkSafety (H : RS μ) {m : PM} {rs : List Rul} (hv : RV m rs) (f0 : m 125 32 = 0) : Wp (d + 3) 192 (0, [some (.ref 125), none, none], [], sA μ m l) (pV (fun μ' => ∃ m', μ' = sA μ m' l ∧ (∀ c j, ¬ WKc c j → m' c j = m c j) ∧ ChE 5 (Bad5 rs) rs.length m') noX) := by
  refine R192_0 H ?_
  exact cs_2 H (fun m' fr hE => ⟨m', rfl, fr, hE⟩) rs.length 0 m none (Nat.zero_add _) (fun _ _ _ => rfl) hv (Or.inl ⟨f0, fun j hj => absurd hj (Nat.not_lt_zero j)⟩)
end RCW
