/-! ===== the reference's read: a fault, or on to the roles ===== -/
theorem chF_R2 (rs : List Rul) (h : ¬ (chF rs).1 = 0) : 0 < (chF rs).1 ∧ (chF rs).1 < 100 := by
  have key : (chF rs).1 = 0 ∨ (0 < (chF rs).1 ∧ (chF rs).1 < 100) := by
    unfold chF
    repeat' split
    · exact Or.inr (by decide : (0 : Int) < 2 ∧ (2 : Int) < 100)
    · exact Or.inr (by decide : (0 : Int) < 3 ∧ (3 : Int) < 100)
    · exact Or.inr (by decide : (0 : Int) < 4 ∧ (4 : Int) < 100)
    · exact Or.inr (by decide : (0 : Int) < 5 ∧ (5 : Int) < 100)
    · exact Or.inr (by decide : (0 : Int) < 6 ∧ (6 : Int) < 100)
    · exact Or.inr (by decide : (0 : Int) < 7 ∧ (7 : Int) < 100)
    · exact Or.inl rfl
  exact key.elim (fun z => absurd z h) id
section RRE
variable {d : Nat} {μ : am_Mem} {l : PM} {Q : Option Value ⊕ Nat → am_Mem → Prop}
theorem rd_18b {m m3 : PM} {k p : Int} (H : RS μ) (hn6 : 0 ≤ m 125 6 ∧ m 125 6 ≤ 2000) (ht7 : ∀ j, 0 ≤ m 127 j ∧ m 127 j ≤ 127) (fr : ∀ c j, ¬ RdR c j → m3 c j = m c j) (e0 : m3 125 0 = 0) (r8 : ∀ j, 0 ≤ m3 128 j ∧ m3 128 j ≤ 127) (hk : m3 125 32 = k) (hk0 : 0 < k ∧ k < 100) (hp : m3 125 33 = p)
    (hb : ∀ m' : PM, (∀ c j, ¬ RdR c j → m' c j = m c j) → m' 125 0 = 0 → m' 125 3 = p → (∀ j, 0 ≤ m' 128 j ∧ m' 128 j ≤ 127) → (∀ rs, pSh (m 127) (m 125 6) 60 0 [] = .inr rs → RV m' rs ∧ nmL m' = LsE (m 127) (m 125 6)) → Q (.inl (some (.int (zI k)))) (sA μ m' l)) :
    Wp (d + 9) 153 (18, [some (.ref 125), none, none], [], sA μ m3 l) Q := by
  refine R153_18 H ⟨by rw [hk]; exact ⟨by omega, by omega⟩, ?_⟩
  rintro v1 e1
  have ev : v1 = p := by rw [e1, if_neg (by omega), hp]
  refine ⟨fun q => by omega, fun _ => ?_⟩
  rintro m4 e4
  have k4 : ∀ c j, ¬ (c = 125 ∧ j = 3) → m4 c j = m3 c j := fun c j q => by rw [e4]; exact up_o q
  have e6 : m4 125 6 = m 125 6 := by rw [k4 _ _ (by omega), fr _ _ (by omega)]
  have e7 : m4 127 = m 127 := funext fun j => by rw [k4 _ _ (by omega), fr _ _ (by omega)]
  have e43 : m4 125 3 = p := by rw [e4, up_s, ev]
  have e40 : m4 125 0 = 0 := by rw [k4 _ _ (by omega)]; exact e0
  refine ⟨_, _, c_takeSheet H (b := 1) (n := m 125 6) (src := 127) (Or.inr ⟨rfl, rfl, e6⟩) hn6, fun μ' hp => ?_, fun _ _ z => z.elim⟩
  subst hp
  have z := rd_take (m := m4) (src := 127) (n := m 125 6) (l := l) H (Or.inr rfl) hn6 (fun j => by rw [e7]; exact ht7 j) (fun j => by rw [k4 _ _ (by omega)]; exact r8 j)
  rw [e7] at z
  rw [hk]
  cases hP : pSh (m 127) (m 125 6) 60 0 [] with
  | inl x =>
    rw [hP] at z
    obtain ⟨m5, w, _, _, r5, f5⟩ := z
    refine R153_48 H ⟨_, _, w d, fun μ' hp => ?_, fun _ _ z => z.elim⟩
    subst hp
    refine R153_52 H (hb m5 (fun c j q => ?_) ?_ ?_ r5 (fun rs y => by rw [hP] at y; exact absurd y (by intro z; cases z)))
    · rw [f5 c j (by omega), k4 c j (by omega)]
      exact fr c j q
    · rw [f5 _ _ (by omega)]
      exact e40
    · rw [f5 _ _ (by omega)]
      exact e43
  | inr rs0 =>
    rw [hP] at z
    obtain ⟨m5, w, _, hv, hL, _, _, r5, f5⟩ := z
    refine R153_48 H ⟨_, _, w d, fun μ' hp => ?_, fun _ _ z => z.elim⟩
    subst hp
    refine R153_52 H (hb m5 (fun c j q => ?_) ?_ ?_ r5 (fun rs y => by
      rw [hP] at y
      have : rs0 = rs := Sum.inr.inj y
      rw [← this]
      exact ⟨hv, hL⟩))
    · rw [f5 c j (by omega), k4 c j (by omega)]
      exact fr c j q
    · rw [f5 _ _ (by omega)]
      exact e40
    · rw [f5 _ _ (by omega)]
      exact e43
/-- the sheet's signs are kept -/
theorem rd_69 {m0 : PM} {n : Int} (H : RS μ) (hn : 0 ≤ n ∧ n ≤ 2000) (hq : ∀ m : PM, (∀ c j, ¬ c = 127 → m c j = m0 c j) → (∀ j, 0 ≤ j → j < n → m 127 j = m0 128 j) → (∀ j, n ≤ j → m 127 j = m0 127 j) → (∀ j, j < 0 → m 127 j = m0 127 j) → ∃ (P : am_Mem → Prop) (X : Nat → am_Mem → Prop), Wp (d + 8) 201 (0, [some (.ref 125), none, none, none, none], [], sA μ m l) (pV P X) ∧ (∀ μ', P μ' → Wp (d + 9) 153 (99, [some (.ref 125), some (.int (zI 0)), some (.int (zI n))], [], μ') Q) ∧ ∀ x μ', X x μ' → Q (.inr x) μ') (h6 : m0 125 6 = n) : ∀ (f : Nat) (i : Int) (m : PM), 0 ≤ i → i + f = n → (∀ c j, ¬ c = 127 → m c j = m0 c j) → (∀ j, 0 ≤ j → j < i → m 127 j = m0 128 j) → (∀ j, i ≤ j → m 127 j = m0 127 j) → (∀ j, j < 0 → m 127 j = m0 127 j) → Wp (d + 9) 153 (69, [some (.ref 125), some (.int (zI 0)), some (.int (zI i))], [], sA μ m l) Q := by
  intro f
  induction f with
  | zero =>
    intro i m h0 hi g1 g2 g3 g4
    have ei : i = n := by omega
    have e6 : m 125 6 = n := by rw [g1 _ _ (by decide)]; exact h6
    refine R153_69 H ⟨⟨by omega, by omega⟩, ⟨by omega, by omega⟩, fun _ => ?_, fun q => by omega⟩
    rw [ei] at g2 g3 ⊢
    exact hq m g1 g2 g3 g4
  | succ f ih =>
    intro i m h0 hi g1 g2 g3 g4
    have e6 : m 125 6 = n := by rw [g1 _ _ (by decide)]; exact h6
    refine R153_69 H ⟨⟨by omega, by omega⟩, ⟨by omega, by omega⟩, fun q => by omega, fun _ => ⟨⟨by omega, by omega⟩, ?_⟩⟩
    rintro m1 e1
    refine ih (i + 1) m1 (by omega) (by omega) (fun c j q => ?_) (fun j q1 q2 => ?_) (fun j q => ?_) (fun j q => ?_)
    · rw [e1, up_c q]
      exact g1 c j q
    · by_cases y : j = i
      · rw [e1, y, up_s]
        exact g1 _ _ (by decide)
      · rw [e1, up_i y]
        exact g2 j q1 (by omega)
    · rw [e1, up_i (by omega)]
      exact g3 j (by omega)
    · rw [e1, up_i (by omega)]
      exact g4 j q
theorem r_read1 {m : PM} (H : RS μ) (hn : 0 ≤ m 125 2 ∧ m 125 2 ≤ 2000) (hn6 : 0 ≤ m 125 6 ∧ m 125 6 ≤ 2000) (ht : ∀ j, 0 ≤ m 126 j ∧ m 126 j ≤ 127) (ht7 : ∀ j, 0 ≤ m 127 j ∧ m 127 j ≤ 127) (ht8 : ∀ j, 0 ≤ m 128 j ∧ m 128 j ≤ 127)
    (hb : ∀ m' : PM, (∀ c j, ¬ RdR c j → m' c j = m c j) → m' 125 0 = 0 → m' 125 3 = (vd (m 126) (m 125 2)).2 → ¬ (vd (m 126) (m 125 2)).1 = 0 → (∀ j, 0 ≤ m' 128 j ∧ m' 128 j ≤ 127) → (∀ rs, pSh (m 127) (m 125 6) 60 0 [] = .inr rs → RV m' rs ∧ nmL m' = LsE (m 127) (m 125 6)) → Q (.inl (some (.int (zI (vd (m 126) (m 125 2)).1)))) (sA μ m' l))
    (hg : ∀ (rs : List Rul) (m' : PM), pSh (m 126) (m 125 2) 60 0 [] = .inr rs → (chF rs).1 = 0 → (∀ c j, ¬ (RdR c j ∨ c = 127 ∨ (c = 125 ∧ (j = 4 ∨ j = 6))) → m' c j = m c j) → m' 125 0 = 0 → m' 125 3 = -1 → m' 125 4 = 1 → m' 125 6 = m 125 2 → (∀ j, 0 ≤ j → j < m 125 2 → m' 127 j = m 126 j) → (∀ j, 0 ≤ m' 127 j ∧ m' 127 j ≤ 127) → (∀ j, 0 ≤ m' 128 j ∧ m' 128 j ≤ 127) → RV m' rs → nmL m' = LsE (m 126) (m 125 2) → ∃ (P : am_Mem → Prop) (X : Nat → am_Mem → Prop), Wp (d + 8) 201 (0, [some (.ref 125), none, none, none, none], [], sA μ m' l) (pV P X) ∧ (∀ μ', P μ' → Wp (d + 9) 153 (99, [some (.ref 125), some (.int (zI 0)), some (.int (zI (m 125 2)))], [], μ') Q) ∧ ∀ x μ', X x μ' → Q (.inr x) μ') :
    Wp (d + 9) 153 (0, [some (.ref 125), none, none], [], sA μ m l) Q := by
  refine R153_0 H ?_
  rintro m1 e1
  have k1 : ∀ c j, ¬ (c = 125 ∧ j = 0) → m1 c j = m c j := fun c j q => by rw [e1]; exact up_o q
  have e10 : m1 125 0 = 0 := by rw [e1, up_s]
  have e2 : m1 125 2 = m 125 2 := k1 _ _ (by omega)
  have e126 : m1 126 = m 126 := funext fun j => k1 _ _ (by omega)
  refine ⟨_, _, c_takeSheet H (b := 0) (n := m 125 2) (src := 126) (Or.inl ⟨rfl, rfl, e2⟩) hn, fun μ' hp => ?_, fun _ _ z => z.elim⟩
  subst hp
  have z := rd_take (m := m1) (src := 126) (n := m 125 2) (l := l) H (Or.inl rfl) hn (fun j => by rw [e126]; exact ht j) (fun j => by rw [k1 _ _ (by omega)]; exact ht8 j)
  rw [e126] at z
  cases hP : pSh (m 126) (m 125 2) 60 0 [] with
  | inl x =>
    rw [hP] at z
    obtain ⟨m2, w, f1, f2, r2, fr⟩ := z
    refine R153_10 H ⟨_, _, w d, fun μ' hp => ?_, fun _ _ z => z.elim⟩
    subst hp
    refine R153_14 H ⟨_, _, c_checkAll_f (d := d + 2) H (by rw [f1]; exact ⟨by decide, by decide⟩) (by rw [f1]; decide), fun μ' hp => ?_, fun _ _ z => z.elim⟩
    subst hp
    have ev : vd (m 126) (m 125 2) = (1, tkP (m 126) (m 125 2) x) := by unfold vd; rw [hP]
    refine rd_18b (m := m) (k := 1) (p := tkP (m 126) (m 125 2) x) H hn6 ht7 (fun c j q => ?_) ?_ r2 f1 (by decide) f2 (fun m' g1 g2 g3 g4 g5 => ?_)
    · rw [fr c j (by omega)]
      exact k1 c j (by omega)
    · rw [fr _ _ (by omega)]
      exact e10
    · have zb := hb m' g1 g2 (by rw [ev]; exact g3) (by rw [ev]; exact (by decide : ¬ (1 : Int) = 0)) g4 g5
      rw [ev] at zb
      exact zb
  | inr rs =>
    rw [hP] at z
    obtain ⟨m2, w, f1, hv, hL, f8, f128, r2, fr⟩ := z
    have ev : vd (m 126) (m 125 2) = chF rs := by unfold vd; rw [hP]
    refine R153_10 H ⟨_, _, w d, fun μ' hp => ?_, fun _ _ z => z.elim⟩
    subst hp
    refine R153_14 H ⟨_, _, c_checkAll (d := d + 2) H hv f1, fun μ' hp => ?_, fun _ _ z => z.elim⟩
    obtain ⟨m3, rfl, f3, g1, g2⟩ := hp
    have hv3 : RV m3 rs := RV_cg f3 hv
    have fr3 : ∀ c j, ¬ RdR c j → m3 c j = m c j := fun c j q => by
      rw [f3 c j (by omega), fr c j (by omega)]
      exact k1 c j (by omega)
    have e30 : m3 125 0 = 0 := by rw [f3 _ _ (by omega), fr _ _ (by omega)]; exact e10
    have r3 : ∀ j, 0 ≤ m3 128 j ∧ m3 128 j ≤ 127 := fun j => by rw [f3 _ _ (by omega)]; exact r2 j
    by_cases q0 : (chF rs).1 = 0
    · refine R153_18 H ⟨by rw [g1, q0]; exact ⟨by decide, by decide⟩, ?_⟩
      rintro v1 ev1
      have ev1' : v1 = -1 := by rw [ev1, if_pos (by rw [g1, q0]; decide)]
      refine ⟨fun _ => ?_, fun q => absurd (by rw [g1, q0]; decide) q⟩
      rintro m4 e4 m5 e5
      have k5 : ∀ c j, ¬ (c = 125 ∧ (j = 3 ∨ j = 4 ∨ j = 6)) → m5 c j = m3 c j := fun c j q => by rw [e5, up_o (by omega), up_o (by omega), e4, up_o (by omega)]
      have e56 : m5 125 6 = m 125 2 := by rw [e5, up_s, f3 _ _ (by omega)]; exact f8
      have e54 : m5 125 4 = 1 := by rw [e5, up_i (by decide), up_s]
      have e53 : m5 125 3 = -1 := by rw [e5, up_i (by decide), up_i (by decide), e4, up_s]; exact ev1'
      rw [g1, q0]
      refine rd_69 (m0 := m5) (n := m 125 2) H hn (fun m6 y1 y2 y3 y4 => ?_) e56 (m 125 2).toNat 0 m5 (Int.le_refl _) (by omega) (fun _ _ _ => rfl) (fun j q1 q2 => by omega) (fun _ _ => rfl) (fun _ _ => rfl)
      have e128 : ∀ j, 0 ≤ j → j < m 125 2 → m5 128 j = m 126 j := fun j q1 q2 => by rw [k5 _ _ (by omega), f3 _ _ (by omega)]; exact f128 j q1 q2
      have e127 : ∀ j, m5 127 j = m 127 j := fun j => by rw [k5 _ _ (by omega), fr3 _ _ (by omega)]
      refine hg rs m6 hP q0 (fun c j q => ?_) ?_ ?_ ?_ ?_ (fun j q1 q2 => (y2 j q1 q2).trans (e128 j q1 q2)) (fun j => ?_) (fun j => ?_) ?_ ?_
      · rw [y1 c j (by omega), k5 c j (by omega)]
        exact fr3 c j (by omega)
      · rw [y1 _ _ (by decide), k5 _ _ (by omega)]
        exact e30
      · rw [y1 _ _ (by decide)]
        exact e53
      · rw [y1 _ _ (by decide)]
        exact e54
      · rw [y1 _ _ (by decide)]
        exact e56
      · by_cases q1 : 0 ≤ j
        · by_cases q2 : j < m 125 2
          · rw [y2 j q1 q2, e128 j q1 q2]
            exact ht j
          · rw [y3 j (by omega), e127]
            exact ht7 j
        · rw [y4 j (by omega), e127]
          exact ht7 j
      · rw [y1 _ _ (by decide), k5 _ _ (by omega)]
        exact r3 j
      · exact RV_cg2 (fun c j q => by rw [y1 c j (by omega), k5 c j (by omega)]) hv3
      · have kk : ∀ c j, (c = 129 ∨ c = 130 ∨ (c = 125 ∧ j = 9)) → m6 c j = m2 c j := fun c j q => by rw [y1 c j (by omega), k5 c j (by omega), f3 c j (by omega)]
        rw [nmL_cg (kk _ _ (by omega)) (fun j => kk _ _ (by omega)) (fun j => kk _ _ (by omega))]
        exact hL
    · have hR := chF_R2 rs q0
      refine rd_18b (m := m) (k := (chF rs).1) (p := (chF rs).2) H hn6 ht7 fr3 e30 r3 g1 hR (g2 q0) (fun m' y1 y2 y3 y4 y5 => ?_)
      have zb := hb m' y1 y2 (by rw [ev]; exact y3) (by rw [ev]; exact q0) y4 y5
      rw [ev] at zb
      exact zb
end RRE
