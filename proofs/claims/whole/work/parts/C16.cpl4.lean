/-! ===== the class's plan, whole ===== -/
theorem fL_lt {P Q : Nat → Prop} (hpq : ∀ r, P r → Q r) {n r : Nat} (hr : r < n) (hp : ¬ P r) (hq : Q r) : (fL P n).length < (fL Q n).length := by
  have z := fL_dj (P := P) (Q := fun r => Q r ∧ ¬ P r) (R := Q) (fun r => ⟨fun y => by
    by_cases c : P r
    · exact Or.inl c
    · exact Or.inr ⟨y, c⟩, fun y => by
    rcases y with y | y
    · exact hpq r y
    · exact y.1⟩) (fun r y w => w.2 y) n
  have m : r ∈ fL (fun r => Q r ∧ ¬ P r) n := (fL_mem n r).mpr ⟨hr, hq, hp⟩
  have := List.length_pos_of_mem m
  omega
/-- the groups as far as they are placed, at a turn -/
def PLI (s : Nat) (rs : List Rul) (m0 l : PM) (h : Nat) (t b0 : Nat) (B : List Nat) (m : PM) : Prop := ((∀ c j, ¬ WPn s c j → m c j = m0 c j) ∧ PMm s rs m0 l h B m) ∧ (∀ b, b ∈ B → b < h ∧ kyB l b ≤ (t : Int)) ∧ (∀ i j, i < j → j < B.length → ¬ sm l (B.getD i 0) (B.getD j 0)) ∧ (∀ i j, i ≤ j → j < B.length → kyB l (B.getD i 0) ≤ kyB l (B.getD j 0)) ∧ (∀ c, c < h → ((∃ b, b ∈ B ∧ sm l b c) ↔ (kyB l c < (t : Int) ∨ (kyB l c = (t : Int) ∧ ∃ b, b < b0 ∧ sm l b c)))) ∧ B.length ≤ (fL (PB s m0 l B) rs.length).length
def FxI (s : Nat) (l : PM) (B : List Nat) (m : PM) : Prop := ∃ F : Nat, m s 18 = (F : Int) ∧ F ≤ B.length ∧ ∀ i, i < B.length → (i < F ↔ kyB l (B.getD i 0) < 62)
/-- what the plan leaves -/
def PlE (s : Nat) (rs : List Rul) (m0 l : PM) (h : Nat) (m : PM) : Prop := ∃ B : List Nat, PMm s rs m0 l h B m ∧ (∀ b, b ∈ B → b < h) ∧ (∀ i j, i < j → j < B.length → ¬ sm l (B.getD i 0) (B.getD j 0)) ∧ (∀ i j, i ≤ j → j < B.length → kyB l (B.getD i 0) ≤ kyB l (B.getD j 0)) ∧ (∀ c, c < h → ∃ b, b ∈ B ∧ sm l b c) ∧ FxI s l B m
section CP16
variable {d : Nat} {μ : am_Mem} {s : Nat} {X : Int → List Int → Prop} {rs : List Rul} {l m0 : PM} {h : Nat}
theorem pl_71 {t : Nat} {Q : Option Value ⊕ Nat → am_Mem → Prop} (H : CS μ) (hs : s = 22 ∨ s = 42) (hS : am_F μ 65 1 = s) (hv0 : KV X s m0 rs) (hR0 : RLt X rs m0 l h) (ht : t < 124) (hq : ∀ (B : List Nat) (m : PM), PLI s rs m0 l h t h B m → (62 ≤ t → FxI s l B m) → ∀ o2 : Option Value, Wp (d + 5) 20 (43, [some (.ref 65), some (.int (zI ((t : Int) + 1))), o2], [], sA μ m l) Q) : ∀ (f b0 : Nat) (B : List Nat) (m : PM), b0 + f = h → PLI s rs m0 l h t b0 B m → (62 ≤ t → FxI s l B m) → Wp (d + 5) 20 (71, [some (.ref 65), some (.int (zI (t : Int))), some (.int (zI (b0 : Int)))], [], sA μ m l) Q := by
  have h60 := hR0.1.2.1
  have e4 := hR0.1.1
  have n60 := (KV_n hv0).2.1
  intro f
  induction f with
  | zero =>
    intro b0 B m hf hI hF
    have eb : b0 = h := by omega
    rw [eb] at hI
    have e4' : m 65 4 = (h : Int) := by rw [hI.1.1 _ _ (by omega)]; exact e4
    exact K20_71 H hs hS ⟨by unfold iR; omega, by unfold iR; omega, fun _ => hq B m hI hF _, fun z => absurd (by omega) z⟩
  | succ f ih =>
    intro b0 B m hf hI hF
    obtain ⟨⟨fr, hM⟩, i1, i2, i3, i4, i5⟩ := hI
    have e4' : m 65 4 = (h : Int) := by rw [fr _ _ (by omega)]; exact e4
    have e69 := hM.2.2.2.2.1 b0 (by omega)
    have hk : ∀ c, c < h → sm l b0 c → kyB l c = kyB l b0 := fun c hc z => (ky_eq hv0 hR0 (by omega) hc z).symm
    have e : (b0 : Int) + 1 = ((b0 + 1 : Nat) : Int) := by omega
    have ext : ∀ (P : Prop) (c : Nat), (P ↔ (kyB l c < (t : Int) ∨ (kyB l c = (t : Int) ∧ ∃ b, b < b0 ∧ sm l b c))) → (kyB l c = (t : Int) → sm l b0 c → P) → (P ↔ (kyB l c < (t : Int) ∨ (kyB l c = (t : Int) ∧ ∃ b, b < b0 + 1 ∧ sm l b c))) := by
      intro P c hP hx
      constructor
      · intro z
        rcases hP.mp z with y | ⟨y1, b, y2, y3⟩
        · exact Or.inl y
        · exact Or.inr ⟨y1, b, by omega, y3⟩
      · rintro (y | ⟨y1, b, y2, y3⟩)
        · exact hP.mpr (Or.inl y)
        · by_cases cb : b = b0
          · rw [cb] at y3; exact hx y1 y3
          · exact hP.mpr (Or.inr ⟨y1, b, by omega, y3⟩)
    refine K20_71 H hs hS ⟨by unfold iR; omega, by unfold iR; omega, fun z => absurd z (by omega), fun _ => ⟨by omega, by rw [e69]; exact bP_R _, fun z => ?_, fun z => ?_⟩⟩
    · have hp : ∃ b, b ∈ B ∧ sm l b b0 := Classical.byContradiction fun w => z (by rw [e69]; exact bP_z.mpr w)
      rw [e]
      refine ih (b0 + 1) B m (by omega) ⟨⟨fr, hM⟩, i1, i2, i3, fun c hc => ext _ c (i4 c hc) (fun _ y => ?_), i5⟩ hF
      obtain ⟨b, hb, w⟩ := hp
      exact ⟨b, hb, sm_tr hv0 hR0 (i1 b hb).1 (by omega) hc w y⟩
    · have hnp : ¬ ∃ b, b ∈ B ∧ sm l b b0 := by
        have z' : m 69 (b0 : Int) = 0 := Decidable.byContradiction z
        rw [e69] at z'
        exact bP_z.mp z'
      refine ⟨_, noX, k_turnOf H hs hS (by omega), fun y μ' hy => ?_, fun _ _ z => z.elim⟩
      obtain ⟨rfl, rfl⟩ := hy
      have hr := ky_rng hv0 hR0 (show b0 < h by omega)
      refine K20_93 H hs hS ⟨by unfold iR; omega, by unfold iR; omega, fun zt => ?_, fun zt => ?_⟩
      · rw [e]
        refine ih (b0 + 1) B m (by omega) ⟨⟨fr, hM⟩, i1, i2, i3, fun c hc => ext _ c (i4 c hc) (fun y1 y => ?_), i5⟩ hF
        exact absurd ((hk c hc y).symm.trans y1) zt
      · have ekt : kyB l b0 = (t : Int) := Decidable.byContradiction zt
        obtain ⟨r, hr1, hr2⟩ := hbt_on hv0 hR0 (show b0 < h by omega)
        have hlt : (fL (PB s m0 l B) rs.length).length < (fL (PB s m0 l (B ++ [b0])) rs.length).length := by
          refine fL_lt (fun r z => PB_app.mpr (Or.inl z)) hr1 (fun z => ?_) (PB_app.mpr (Or.inr (by rw [hr2]; exact Or.inl rfl)))
          obtain ⟨b, hb, w⟩ := z
          rw [hr2] at w
          exact hnp ⟨b, hb, w⟩
        have hle := fL_le (PB s m0 l (B ++ [b0])) rs.length
        refine ⟨_, noX, k_placeGroup H hs hS hv0 hR0 (by omega) (fun x hx => (i1 x hx).1) (by omega) hnp fr hM, fun μ' hp => ?_, fun _ _ z => z.elim⟩
        obtain ⟨m1, rfl, fr1, e18, hM1⟩ := hp
        refine K20_102 H hs hS ?_
        rw [e]
        have el : (B ++ [b0]).length = B.length + 1 := by simp
        have mB : ∀ i, i < B.length → B.getD i 0 ∈ B := fun i hi => (mem_gD B 0 _).mpr ⟨i, hi, rfl⟩
        refine ih (b0 + 1) (B ++ [b0]) m1 (by omega) ⟨⟨fr1, hM1⟩, fun b hb => ?_, fun i j hij hj => ?_, fun i j hij hj => ?_, fun c hc => ?_, by omega⟩ (fun h62 => ?_)
        · rcases List.mem_append.mp hb with hb | hb
          · exact i1 b hb
          · rw [List.mem_singleton.mp hb]; exact ⟨by omega, by omega⟩
        · rw [el] at hj
          by_cases cj : j = B.length
          · rw [cj, getD_r, getD_l _ _ _ (by omega)]
            exact fun w => hnp ⟨_, mB i (by omega), w⟩
          · rw [getD_l _ _ _ (by omega), getD_l _ _ _ (by omega)]
            exact i2 i j hij (by omega)
        · rw [el] at hj
          by_cases cj : j = B.length
          · rw [cj, getD_r]
            by_cases ci : i = B.length
            · rw [ci, getD_r]; exact Int.le_refl _
            · rw [getD_l _ _ _ (by omega)]
              have := (i1 _ (mB i (by omega))).2
              omega
          · rw [getD_l _ _ _ (by omega), getD_l _ _ _ (by omega)]
            exact i3 i j hij (by omega)
        · constructor
          · rintro ⟨b, hb, w⟩
            rcases List.mem_append.mp hb with hb | hb
            · rcases (i4 c hc).mp ⟨b, hb, w⟩ with y | ⟨y1, b', y2, y3⟩
              · exact Or.inl y
              · exact Or.inr ⟨y1, b', by omega, y3⟩
            · rw [List.mem_singleton.mp hb] at w
              exact Or.inr ⟨(hk c hc w).trans ekt, b0, by omega, w⟩
          · rintro (y | ⟨y1, b, y2, y3⟩)
            · obtain ⟨b, hb, w⟩ := (i4 c hc).mpr (Or.inl y)
              exact ⟨b, List.mem_append_left _ hb, w⟩
            · by_cases cb : b = b0
              · rw [cb] at y3
                exact ⟨b0, List.mem_append_right _ (List.mem_singleton.mpr rfl), y3⟩
              · obtain ⟨b', hb', w⟩ := (i4 c hc).mpr (Or.inr ⟨y1, b, by omega, y3⟩)
                exact ⟨b', List.mem_append_left _ hb', w⟩
        · obtain ⟨F, f1, f2, f3⟩ := hF h62
          refine ⟨F, by rw [e18]; exact f1, by omega, fun i hi => ?_⟩
          rw [el] at hi
          by_cases ci : i = B.length
          · rw [ci, getD_r]
            exact ⟨fun z => by omega, fun z => by omega⟩
          · rw [getD_l _ _ _ (by omega)]
            exact f3 i (by omega)
theorem pl_43 {Q : Option Value ⊕ Nat → am_Mem → Prop} (H : CS μ) (hs : s = 22 ∨ s = 42) (hS : am_F μ 65 1 = s) (hv0 : KV X s m0 rs) (hR0 : RLt X rs m0 l h) (hq : ∀ m : PM, (∀ c j, ¬ WPn s c j → m c j = m0 c j) → PlE s rs m0 l h m → Q (.inl none) (sA μ m l)) : ∀ (f t : Nat) (B : List Nat) (m : PM) (o2 : Option Value), t + f = 124 → PLI s rs m0 l h t 0 B m → (62 < t → FxI s l B m) → Wp (d + 5) 20 (43, [some (.ref 65), some (.int (zI (t : Int))), o2], [], sA μ m l) Q := by
  have h60 := hR0.1.2.1
  intro f
  induction f with
  | zero =>
    intro t B m o2 hf hI hF
    obtain ⟨⟨fr, hM⟩, i1, i2, i3, i4, i5⟩ := hI
    refine K20_43 H hs hS ⟨by unfold iR; omega, fun _ => hq m fr ⟨B, hM, fun b hb => (i1 b hb).1, i2, i3, fun c hc => ?_, hF (by omega)⟩, fun z => absurd (by omega) z⟩
    have := (ky_rng hv0 hR0 hc).1
    exact (i4 c hc).mpr (Or.inl (by omega))
  | succ f ih =>
    intro t B m o2 hf hI hF
    have nxt : ∀ (B : List Nat) (m : PM), PLI s rs m0 l h t h B m → (62 ≤ t → FxI s l B m) → ∀ o2 : Option Value, Wp (d + 5) 20 (43, [some (.ref 65), some (.int (zI ((t : Int) + 1))), o2], [], sA μ m l) Q := by
      intro B m hI hF o2
      obtain ⟨⟨fr, hM⟩, i1, i2, i3, i4, i5⟩ := hI
      rw [show (t : Int) + 1 = ((t + 1 : Nat) : Int) by omega]
      refine ih (t + 1) B m o2 (by omega) ⟨⟨fr, hM⟩, fun b hb => ⟨(i1 b hb).1, by have := (i1 b hb).2; omega⟩, i2, i3, fun c hc => ?_, i5⟩ (fun z => hF (by omega))
      rw [i4 c hc]
      constructor
      · rintro (y | y)
        · exact Or.inl (by omega)
        · exact Or.inl (by omega)
      · rintro (y | ⟨_, b, y, _⟩)
        · by_cases ck : kyB l c = (t : Int)
          · exact Or.inr ⟨ck, c, hc, Or.inl rfl⟩
          · exact Or.inl (by omega)
        · exact absurd y (Nat.not_lt_zero b)
    refine K20_43 H hs hS ⟨by unfold iR; omega, fun z => absurd z (by omega), fun _ => ⟨fun z => ?_, fun z m1 e1 => ?_⟩⟩
    · exact pl_71 H hs hS hv0 hR0 (by omega) nxt h 0 B m (Nat.zero_add _) hI (fun y => hF (by omega))
    · have et : t = 62 := by omega
      obtain ⟨⟨fr, hM⟩, i1, i2, i3, i4, i5⟩ := hI
      have k : ∀ c j, ¬ (c = s ∧ j = 18) → m1 c j = m c j := fun c j q => by rw [e1]; exact up_o q
      have hM1 : PMm s rs m0 l h B m1 := by
        obtain ⟨g1, g2, g3, g4, g5, g6⟩ := hM
        refine ⟨by rw [k _ _ (by omega)]; exact g1, fun g hg => by rw [k _ _ (by omega)]; exact g2 g hg, fun g hg => by rw [k _ _ (by omega), k _ _ (by omega), k _ _ (by omega)]; exact g3 g hg, fun g hg => ⟨fun i hi => ?_, fun i hi => ?_⟩, fun c hc => by rw [k _ _ (by omega)]; exact g5 c hc, fun r hr z => ?_⟩
        · rw [k (s + 18) _ (by omega), k _ _ (by omega)]; exact (g4 g hg).1 i hi
        · rw [k (s + 19) _ (by omega), k _ _ (by omega)]; exact (g4 g hg).2 i hi
        · intro j h1 h2
          obtain ⟨u, w1, w2⟩ := g6 r hr z j h1 h2
          exact ⟨u, by rw [k _ _ (by omega)]; exact w1, w2⟩
      refine pl_71 H hs hS hv0 hR0 (by omega) nxt h 0 B m1 (Nat.zero_add _) ⟨⟨fun c j q => by rw [k c j (by omega)]; exact fr c j q, hM1⟩, i1, i2, i3, i4, i5⟩ (fun _ => ⟨B.length, by rw [e1, up_s]; exact hM.1, Nat.le_refl _, fun i hi => ⟨fun _ => ?_, fun _ => hi⟩⟩)
      have hb : B.getD i 0 ∈ B := (mem_gD B 0 _).mpr ⟨i, hi, rfl⟩
      have hlt := (i1 _ hb).1
      rcases (i4 _ hlt).mp ⟨_, hb, Or.inl rfl⟩ with y | ⟨_, b, y, _⟩
      · omega
      · exact absurd y (Nat.not_lt_zero b)
theorem pl_2 {Q : Option Value ⊕ Nat → am_Mem → Prop} (H : CS μ) (hs : s = 22 ∨ s = 42) (hS : am_F μ 65 1 = s) (hv0 : KV X s m0 rs) (hR0 : RLt X rs m0 l h) (hq : ∀ m : PM, (∀ c j, ¬ WPn s c j → m c j = m0 c j) → PlE s rs m0 l h m → Q (.inl none) (sA μ m l)) : ∀ (f b0 : Nat) (m : PM), b0 + f = h → (∀ c j, ¬ WPn s c j → m c j = m0 c j) → (∀ c : Nat, c < b0 → m 69 (c : Int) = 0) → Wp (d + 5) 20 (2, [some (.ref 65), some (.int (zI (b0 : Int))), none], [], sA μ m l) Q := by
  have h60 := hR0.1.2.1
  have e4 := hR0.1.1
  intro f
  induction f with
  | zero =>
    intro b0 m hf fr h69
    have e4' : m 65 4 = (h : Int) := by rw [fr _ _ (by omega)]; exact e4
    refine K20_2 H hs hS ⟨by unfold iR; omega, by unfold iR; omega, fun _ m1 e1 => ?_, fun z => absurd (by omega) z⟩
    have k : ∀ c j, ¬ ((c = s ∧ j = 17) ∨ (c = s + 18 ∧ j = 0)) → m1 c j = m c j := fun c j q => by rw [e1, up_o (by omega), up_o (by omega)]
    have nB : ∀ c, ¬ ∃ b, b ∈ ([] : List Nat) ∧ sm l b c := fun c ⟨b, hb, _⟩ => absurd hb List.not_mem_nil
    refine pl_43 (m0 := m0) (X := X) H hs hS hv0 hR0 hq 124 0 [] m1 none rfl ⟨⟨fun c j q => by rw [k c j (by omega)]; exact fr c j q, ?_⟩, fun b hb => absurd hb List.not_mem_nil, fun i j _ hj => absurd hj (Nat.not_lt_zero j), fun i j _ hj => absurd hj (Nat.not_lt_zero j), fun c hc => ?_, Nat.zero_le _⟩ (fun z => absurd z (by decide))
    · have z0 : (fL (PB s m0 l []) rs.length).length = 0 := by
        have z := fL_sub (P := PB s m0 l []) (Q := fun _ => False) (fun r ⟨b, hb, _⟩ => absurd hb List.not_mem_nil) rs.length
        have z2 : ∀ n, (fL (fun _ => False) n).length = 0 := by
          intro n
          induction n with
          | zero => rfl
          | succ n ih => rw [fL_n (fun z => z)]; exact ih
        rw [z2] at z
        omega
      refine ⟨by rw [e1, up_o (by omega), up_s]; rfl, fun g hg => ?_, fun g hg => absurd hg (Nat.not_lt_zero g), fun g hg => absurd hg (Nat.not_lt_zero g), fun c hc => ?_, fun r hr ⟨b, hb, _⟩ => absurd hb List.not_mem_nil⟩
      · have eg : g = 0 := Nat.le_zero.mp hg
        rw [eg, List.take_zero, z0, e1]
        exact up_s _ _ _ _
      · rw [k _ _ (by omega), h69 c (by omega), bP_0 (nB c)]
    · have := (ky_rng hv0 hR0 hc).1
      exact ⟨fun z => absurd z (nB c), fun z => by
        rcases z with y | ⟨_, b, y, _⟩
        · omega
        · exact absurd y (Nat.not_lt_zero b)⟩
  | succ f ih =>
    intro b0 m hf fr h69
    have e4' : m 65 4 = (h : Int) := by rw [fr _ _ (by omega)]; exact e4
    refine K20_2 H hs hS ⟨by unfold iR; omega, by unfold iR; omega, fun z => absurd z (by omega), fun _ => ⟨by omega, fun m2 e2 => ?_⟩⟩
    have k : ∀ c j, ¬ (c = 69 ∧ j = (b0 : Int)) → m2 c j = m c j := fun c j q => by rw [e2]; exact up_o q
    rw [show (b0 : Int) + 1 = ((b0 + 1 : Nat) : Int) by omega]
    refine ih (b0 + 1) m2 (by omega) (fun c j q => by rw [k c j (by omega)]; exact fr c j q) (fun c hc => ?_)
    by_cases cc : c = b0
    · rw [cc, e2, up_s]
    · rw [k _ _ (by omega)]; exact h69 c (by omega)
/-- plan -/
theorem k_plan {m : PM} (H : CS μ) (hs : s = 22 ∨ s = 42) (hS : am_F μ 65 1 = s) (hv : KV X s m rs) (hR : RLt X rs m l h) : Wp (d + 5) 20 (0, [some (.ref 65), none, none], [], sA μ m l) (pV (fun μ' => ∃ m', μ' = sA μ m' l ∧ (∀ c j, ¬ WPn s c j → m' c j = m c j) ∧ PlE s rs m l h m') noX) := by
  refine K20_0 H hs hS ?_
  exact pl_2 (m0 := m) (X := X) H hs hS hv hR (fun m' fr hE => ⟨m', rfl, fr, hE⟩) h 0 m (Nat.zero_add _) (fun _ _ _ => rfl) (fun c hc => absurd hc (Nat.not_lt_zero c))
end CP16
