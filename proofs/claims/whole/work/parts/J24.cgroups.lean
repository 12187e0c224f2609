/-! ===== the plan's groups, as layers ===== -/
/-- the layer of a group -/
def lvl (F g : Nat) : Nat := if g < F then g + 1 else g + 2
theorem lvl_lt {F i j : Nat} (h : i < j) : lvl F i < lvl F j := by
  unfold lvl
  by_cases a : i < F <;> by_cases b : j < F <;> simp only [a, b, if_true, if_false] <;> omega
theorem lvl_inj {F i j : Nat} (h : lvl F i = lvl F j) : i = j := by
  rcases Nat.lt_trichotomy i j with z | z | z
  · have := lvl_lt (F := F) z
    omega
  · exact z
  · have := lvl_lt (F := F) z
    omega
theorem lvl_f {F g : Nat} (h : g < F) : lvl F g = g + 1 := if_pos h
theorem lvl_g {F g : Nat} (h : ¬ g < F) : lvl F g = g + 2 := if_neg h
theorem lvl_0 {F g : Nat} : 0 < lvl F g ∧ ¬ lvl F g = F + 1 := by
  by_cases h : g < F
  · rw [lvl_f h]
    omega
  · rw [lvl_g h]
    omega
section CGR
variable {X : Int → List Int → Prop} {s h : Nat} {rs : List Rul} {l : PM}
/-- a head's bit -/
theorem hd_bit {m : PM} (hv : KV X s m rs) (hR : RLt X rs m l h) {r : Nat} (hr : r < rs.length) : BN X m (hbt s m r) (rs.getD r ruD).1.1 := ⟨_, (KV_head hv hr).2.2.1, (hbt_v hv hR hr).1⟩
/-- layers for the groups -/
theorem gr_lev {m0 : PM} {B : List Nat} {F : Nat} (hv : KV X s m0 rs) (hR : RLt X rs m0 l h) (h3 : ∀ r, r < rs.length → ¬ Bad3 rs r) (b1 : ∀ b, b ∈ B → b < h) (b2 : ∀ i j, i < j → j < B.length → ¬ sm l (B.getD i 0) (B.getD j 0)) (b3 : ∀ i j, i ≤ j → j < B.length → kyB l (B.getD i 0) ≤ kyB l (B.getD j 0)) (b4 : ∀ c, c < h → ∃ b, b ∈ B ∧ sm l b c) (f1 : ∀ i, i < B.length → (i < F ↔ kyB l (B.getD i 0) < 62)) : ∃ lev : List Int → Nat, (∀ r, r < rs.length → ∃ i, i < B.length ∧ sm l (B.getD i 0) (hbt s m0 r) ∧ lev (rs.getD r ruD).1.1 = lvl F i) ∧ (lev (wdC.getD 2 []) = F + 1 ∧ lev (wdC.getD 4 []) = F + 1) ∧ (∀ w, ¬ isHd rs w → ¬ w = wdC.getD 2 [] → ¬ w = wdC.getD 4 [] → lev w = 0) ∧ ∀ r, r < rs.length → ∀ c, c ∈ (rs.getD r ruD).2 → c.1 < 3 → (Trn rs (rs.getD r ruD) c.2.1 → lev c.2.1 = lev (rs.getD r ruD).1.1) ∧ (¬ Trn rs (rs.getD r ruD) c.2.1 → lev c.2.1 < lev (rs.getD r ruD).1.1) := by
  have h60 := hR.1.2.1
  have gB : ∀ i, i < B.length → B.getD i 0 < h := fun i hi => b1 _ (gD_in hi)
  have grp : ∀ c, c < h → ∃ i, i < B.length ∧ sm l (B.getD i 0) c := fun c hc => by
    obtain ⟨b, hb, z⟩ := b4 c hc
    obtain ⟨i, hi, e⟩ := (mem_gD B 0 b).mp hb
    exact ⟨i, hi, by rw [e]; exact z⟩
  have nh : ∀ w, (w = wdC.getD 2 [] ∨ w = wdC.getD 4 []) → ¬ isHd rs w := fun w hw ⟨q, hq, e⟩ => by
    rcases hw with hw | hw
    · exact h3 q hq (Or.inl (e.trans hw))
    · exact h3 q hq (Or.inr (Or.inl (e.trans hw)))
  have ex : ∀ w : List Int, ∃ n : Nat, (isHd rs w → ∃ c i, BN X m0 c w ∧ i < B.length ∧ sm l (B.getD i 0) c ∧ n = lvl F i) ∧ ((w = wdC.getD 2 [] ∨ w = wdC.getD 4 []) → n = F + 1) ∧ (¬ isHd rs w → ¬ w = wdC.getD 2 [] → ¬ w = wdC.getD 4 [] → n = 0) := fun w => by
    rcases Classical.em (isHd rs w) with z | z
    · obtain ⟨q, hq, e⟩ := id z
      obtain ⟨i, hi, y⟩ := grp (hbt s m0 q) (hbt_v hv hR hq).2
      refine ⟨lvl F i, fun _ => ⟨hbt s m0 q, i, by rw [← e]; exact hd_bit hv hR hq, hi, y, rfl⟩, fun hw => absurd z (nh w hw), fun z' => absurd z z'⟩
    · by_cases y : w = wdC.getD 2 [] ∨ w = wdC.getD 4 []
      · exact ⟨F + 1, fun z' => absurd z' z, fun _ => rfl, fun _ y1 y2 => absurd y (fun y => y.elim y1 y2)⟩
      · exact ⟨0, fun z' => absurd z' z, fun y' => absurd y' y, fun _ _ _ => rfl⟩
  obtain ⟨lev, hlev⟩ := Classical.axiomOfChoice ex
  have hl : ∀ r, r < rs.length → ∃ i, i < B.length ∧ sm l (B.getD i 0) (hbt s m0 r) ∧ lev (rs.getD r ruD).1.1 = lvl F i := fun r hr => by
    obtain ⟨c, i, c1, c2, c3, c4⟩ := (hlev (rs.getD r ruD).1.1).1 ⟨r, hr, rfl⟩
    have e := BN_in hv hR.1 (KV_head hv hr).2.2.1 c1
    have e' := (hbt_v hv hR hr).1
    have : c = hbt s m0 r := by omega
    exact ⟨i, c2, by rw [← this]; exact c3, c4⟩
  refine ⟨lev, hl, ⟨(hlev _).2.1 (Or.inl rfl), (hlev _).2.1 (Or.inr rfl)⟩, fun w => (hlev w).2.2, fun r hr c hc c3 => ?_⟩
  obtain ⟨i, i1, i2, i3⟩ := hl r hr
  obtain ⟨ha, hah⟩ := hbt_v hv hR hr
  have hE : Edg rs (rs.getD r ruD).1.1 c.2.1 := ⟨_, (mem_gD rs ruD _).mpr ⟨r, hr, rfl⟩, rfl, c, hc, c3, rfl⟩
  have hD : Dep rs (rs.getD r ruD).1.1 c.2.1 := Relation.TransGen.single hE
  rcases Classical.em (isHd rs c.2.1) with z | z
  · obtain ⟨r', hr', e'⟩ := id z
    obtain ⟨j, j1, j2, j3⟩ := hl r' hr'
    obtain ⟨hb, hbh⟩ := hbt_v hv hR hr'
    rw [e'] at j3
    have bit : ∀ {p p' : Nat}, p < rs.length → p' < rs.length → Dep rs (rs.getD p ruD).1.1 (rs.getD p' ruD).1.1 → bL (l 68 (hbt s m0 p : Int)) (hbt s m0 p') = true := fun {p p'} hp hp' hd => (hR.2.1 _ _ (hbt_v hv hR hp).2 (by have := (hbt_v hv hR hp').2; omega)).mpr ⟨_, _, hd_bit hv hR hp, hd_bit hv hR hp', hd⟩
    have tib : ∀ {p p' : Nat}, p < rs.length → p' < rs.length → bL (l 68 (hbt s m0 p : Int)) (hbt s m0 p') = true → Dep rs (rs.getD p ruD).1.1 (rs.getD p' ruD).1.1 := fun {p p'} hp hp' hd => by
      obtain ⟨w, w', x1, x2, x3⟩ := (hR.2.1 _ _ (hbt_v hv hR hp).2 (by have := (hbt_v hv hR hp').2; omega)).mp hd
      rw [BN_uq hv hR.1 x1 (hd_bit hv hR hp), BN_uq hv hR.1 x2 (hd_bit hv hR hp')] at x3
      exact x3
    have ab : bL (l 68 (hbt s m0 r : Int)) (hbt s m0 r') = true := bit hr hr' (by rw [e']; exact hD)
    have smT : sm l (hbt s m0 r) (hbt s m0 r') ↔ Trn rs (rs.getD r ruD) c.2.1 := by
      constructor
      · rintro (y | y)
        · refine Or.inl ?_
          have y1 := hd_bit hv hR hr
          rw [y] at y1
          rw [← e']
          exact BN_uq hv hR.1 (hd_bit hv hR hr') y1
        · refine Or.inr ?_
          have y1 := tib hr' hr y.2
          rw [e'] at y1
          exact y1
      · rintro (y | y)
        · refine Or.inl ?_
          have y1 := hd_bit hv hR hr
          rw [← y, ← e'] at y1
          have y2 := BN_in hv hR.1 (KV_head hv hr').2.2.1 y1
          omega
        · exact Or.inr ⟨ab, bit hr' hr (by rw [e']; exact y)⟩
    refine ⟨fun t => ?_, fun t => ?_⟩
    · have y := smT.mpr t
      have y1 : sm l (B.getD i 0) (hbt s m0 r') := sm_tr hv hR (gB i i1) hah hbh i2 y
      have y2 : sm l (B.getD i 0) (B.getD j 0) := sm_tr hv hR (gB i i1) hbh (gB j j1) y1 (sm_sy j2)
      have eij : i = j := by
        rcases Nat.lt_trichotomy i j with q | q | q
        · exact absurd y2 (b2 i j q j1)
        · exact q
        · exact absurd (sm_sy y2) (b2 j i q i1)
      rw [i3, j3, eij]
    · have y : ¬ sm l (hbt s m0 r) (hbt s m0 r') := fun q => t (smT.mp q)
      have y1 := ky_lt hv hR hah hbh ab (fun q => y (Or.inr ⟨ab, q⟩))
      have y2 := ky_eq hv hR (gB i i1) hah i2
      have y3 := ky_eq hv hR (gB j j1) hbh j2
      rw [i3, j3]
      refine lvl_lt (Classical.byContradiction fun q => ?_)
      have := b3 i j (by omega) j1
      omega
  · have nt : ¬ Trn rs (rs.getD r ruD) c.2.1 := fun t => by
      rcases t with t | t
      · exact z ⟨r, hr, t.symm⟩
      · exact z (Dep_hd t)
    refine ⟨fun t => absurd t nt, fun _ => ?_⟩
    rw [i3]
    by_cases y : c.2.1 = wdC.getD 2 [] ∨ c.2.1 = wdC.getD 4 []
    · have hk : ¬ kyB l (hbt s m0 r) < 62 := fun q => by
        refine ((ky_rng hv hR hah).2.mp q) ?_
        rcases y with y | y
        · exact Or.inl ((hR.2.1 _ 60 hah (by decide)).mpr ⟨_, _, hd_bit hv hR hr, ⟨2, hv.2.2.1.2 2 (by decide), hR.1.2.2.2.2.1.1⟩, by rw [← y]; exact hD⟩)
        · exact Or.inr ((hR.2.1 _ 61 hah (by decide)).mpr ⟨_, _, hd_bit hv hR hr, ⟨4, hv.2.2.1.2 4 (by decide), hR.1.2.2.2.2.1.2⟩, by rw [← y]; exact hD⟩)
      have y2 := ky_eq hv hR (gB i i1) hah i2
      have hi : ¬ i < F := fun q => by
        have := (f1 i i1).mp q
        omega
      rw [(hlev _).2.1 y, lvl_g hi]
      omega
    · rw [(hlev _).2.2 z (fun q => y (Or.inl q)) (fun q => y (Or.inr q))]
      exact lvl_0.1
/-- the plan of the rules: layer after layer -/
def Grp (s : Nat) (rs : List Rul) (m : PM) (lev : List Int → Nat) (F G : Nat) : Prop := (m s 17 = (G : Int) ∧ m s 18 = (F : Int) ∧ F ≤ G ∧ G ≤ 60) ∧ LvO lev rs ∧ (lev (wdC.getD 2 []) = F + 1 ∧ lev (wdC.getD 4 []) = F + 1) ∧ (∀ r, r < rs.length → LT s rs m r 0 ∧ ∃ g, g < G ∧ lev (rs.getD r ruD).1.1 = lvl F g) ∧ (∀ w, ¬ isHd rs w → ¬ w = wdC.getD 2 [] → ¬ w = wdC.getD 4 [] → lev w = 0) ∧ ∀ g : Nat, g < G → ∃ (o : Nat) (P R : List Nat), (m (s + 18) (g : Int) = (o : Int) ∧ m (s + 19) (g : Int) = (o : Int) + (P.length : Int) ∧ m (s + 18) ((g : Int) + 1) = (o : Int) + (P.length : Int) + (R.length : Int) ∧ o + P.length + R.length ≤ 60) ∧ (∀ i : Nat, i < P.length → m (s + 17) ((o : Int) + (i : Int)) = (P.getD i 0 : Int)) ∧ (∀ i : Nat, i < R.length → m (s + 17) ((o : Int) + (P.length : Int) + (i : Int)) = (R.getD i 0 : Int)) ∧ (∀ r, r ∈ P ∨ r ∈ R → r < rs.length ∧ lev (rs.getD r ruD).1.1 = lvl F g) ∧ (∀ r, r < rs.length → lev (rs.getD r ruD).1.1 = lvl F g → r ∈ P ∨ r ∈ R) ∧ (∀ r, r ∈ P → ∀ c, c ∈ (rs.getD r ruD).2 → c.1 = 1 → lev c.2.1 < lvl F g) ∧ ∀ r, r ∈ R → ∃ c, c ∈ (rs.getD r ruD).2 ∧ c.1 = 1 ∧ lev c.2.1 = lvl F g
theorem Grp_of {m0 m : PM} (hv : KV X s m0 rs) (hR : RLt X rs m0 l h) (h3 : ∀ r, r < rs.length → ¬ Bad3 rs r ∧ ¬ Bad6 rs r) (hP : PlE s rs m0 l h m) : ∃ lev F G, Grp s rs m lev F G := by
  obtain ⟨B, ⟨p1, p2, p3, p4, p5, p6⟩, b1, b2, b3, b4, F, f0, f2, f1⟩ := hP
  obtain ⟨lev, e1, e2, e3, e4⟩ := gr_lev hv hR (fun r hr => (h3 r hr).1) b1 b2 b3 b4 f1
  have h60 := (KV_n hv).2.1
  have gB : ∀ i, i < B.length → B.getD i 0 < h := fun i hi => b1 _ (gD_in hi)
  have hPB : ∀ r, r < rs.length → PB s m0 l B r := fun r hr => b4 _ (hbt_v hv hR hr).2
  -- the rules of a group
  have gI : ∀ g, g < B.length → ∀ r, r < rs.length → (lev (rs.getD r ruD).1.1 = lvl F g ↔ sm l (B.getD g 0) (hbt s m0 r)) := fun g hg r hr => by
    obtain ⟨i, i1, i2, i3⟩ := e1 r hr
    constructor
    · intro z
      rw [i3] at z
      rw [← lvl_inj z]
      exact i2
    · intro z
      have hh := (hbt_v hv hR hr).2
      have y2 : sm l (B.getD i 0) (B.getD g 0) := sm_tr hv hR (gB i i1) hh (gB g hg) i2 (sm_sy z)
      have eij : i = g := by
        rcases Nat.lt_trichotomy i g with q | q | q
        · exact absurd y2 (b2 i g q hg)
        · exact q
        · exact absurd (sm_sy y2) (b2 g i q i1)
      rw [i3, eij]
  have ne : ∀ g, g < B.length → 0 < (fL (Gp s rs m0 l (B.getD g 0) 0) rs.length).length + (fL (Gp s rs m0 l (B.getD g 0) 1) rs.length).length := fun g hg => by
    obtain ⟨r, hr, er⟩ := hbt_on hv hR (gB g hg)
    rcases bP_b (Rec rs r) with y | y
    · have : r ∈ fL (Gp s rs m0 l (B.getD g 0) 0) rs.length := (fL_mem _ _).mpr ⟨hr, Or.inl er.symm, y⟩
      have := List.length_pos_of_mem this
      omega
    · have : r ∈ fL (Gp s rs m0 l (B.getD g 0) 1) rs.length := (fL_mem _ _).mpr ⟨hr, Or.inl er.symm, y⟩
      have := List.length_pos_of_mem this
      omega
  have up : ∀ g : Nat, g ≤ B.length → (g : Int) ≤ m (s + 18) (g : Int) ∧ m (s + 18) (g : Int) ≤ 60 := fun g => by
    induction g with
    | zero =>
      intro _
      have := p2 0 (Nat.zero_le _)
      have := fL_le (PB s m0 l (B.take 0)) rs.length
      omega
    | succ g ih =>
      intro hg
      have a1 := ih (by omega)
      have a2 := p3 g (by omega)
      have a3 := ne g (by omega)
      have a4 := p2 (g + 1) hg
      have a5 := fL_le (PB s m0 l (B.take (g + 1))) rs.length
      have : ((g + 1 : Nat) : Int) = (g : Int) + 1 := by omega
      rw [this] at a4 ⊢
      omega
  have cnd : ∀ r, r < rs.length → ∀ c, c ∈ (rs.getD r ruD).2 → (c.1 = 1 → lev c.2.1 ≤ lev (rs.getD r ruD).1.1) ∧ (c.1 = 2 → lev c.2.1 < lev (rs.getD r ruD).1.1) := fun r hr c hc => by
    refine ⟨fun e => ?_, fun e => ?_⟩
    · obtain ⟨t1, t2⟩ := e4 r hr c hc (by omega)
      rcases Classical.em (Trn rs (rs.getD r ruD) c.2.1) with z | z
      · exact Nat.le_of_eq (t1 z)
      · exact Nat.le_of_lt (t2 z)
    · exact (e4 r hr c hc (by omega)).2 (fun z => (h3 r hr).2 ⟨c, hc, e, z⟩)
  refine ⟨lev, F, B.length, ⟨p1, f0, f2, ?_⟩, fun ru hru c hc => ?_, e2, fun r hr => ⟨p6 r hr (hPB r hr), ?_⟩, e3, fun g hg => ?_⟩
  · have := up B.length (Nat.le_refl _)
    omega
  · obtain ⟨r, hr, e⟩ := (mem_gD rs ruD _).mp hru
    rw [← e] at hc ⊢
    exact cnd r hr c hc
  · obtain ⟨i, i1, _, i3⟩ := e1 r hr
    exact ⟨i, i1, i3⟩
  · have a2 := p3 g hg
    have a4 := p4 g hg
    have a5 := up g (by omega)
    have a6 := up (g + 1) (by omega)
    rw [show ((g + 1 : Nat) : Int) = (g : Int) + 1 by omega] at a6
    refine ⟨(m (s + 18) (g : Int)).toNat, fL (Gp s rs m0 l (B.getD g 0) 0) rs.length, fL (Gp s rs m0 l (B.getD g 0) 1) rs.length, ⟨by omega, by omega, by omega, by omega⟩, fun i hi => ?_, fun i hi => ?_, fun r hr => ?_, fun r hr z => ?_, fun r hr c hc e => ?_, fun r hr => ?_⟩
    · rw [show (((m (s + 18) (g : Int)).toNat : Nat) : Int) = m (s + 18) (g : Int) by omega]
      exact a4.1 i hi
    · rw [show (((m (s + 18) (g : Int)).toNat : Nat) : Int) = m (s + 18) (g : Int) by omega, ← a2.1]
      exact a4.2 i hi
    · rcases hr with hr | hr
      · obtain ⟨x1, x2⟩ := (fL_mem _ _).mp hr
        exact ⟨x1, (gI g hg r x1).mpr x2.1⟩
      · obtain ⟨x1, x2⟩ := (fL_mem _ _).mp hr
        exact ⟨x1, (gI g hg r x1).mpr x2.1⟩
    · have y := (gI g hg r hr).mp z
      rcases bP_b (Rec rs r) with q | q
      · exact Or.inl ((fL_mem _ _).mpr ⟨hr, y, q⟩)
      · exact Or.inr ((fL_mem _ _).mpr ⟨hr, y, q⟩)
    · obtain ⟨x1, x2⟩ := (fL_mem _ _).mp hr
      have x3 := bP_z.mp x2.2
      rw [← (gI g hg r x1).mpr x2.1]
      exact (e4 r x1 c hc (by omega)).2 (fun t => x3 ⟨c, hc, e, t⟩)
    · obtain ⟨x1, x2⟩ := (fL_mem _ _).mp hr
      obtain ⟨c, c1, c2, c3⟩ := bP_e.mp x2.2
      refine ⟨c, c1, c2, ?_⟩
      rw [← (gI g hg r x1).mpr x2.1]
      exact (e4 r x1 c c1 (by omega)).1 c3
end CGR
