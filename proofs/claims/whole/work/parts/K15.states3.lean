/-! ===== the class's states: the defect, settling, judging ===== -/
/-- at least as good: the less, or the greater -/
def Ub (lo : Prop) (p q : Int) : Prop := (lo ∧ p ≤ q) ∨ (¬ lo ∧ q ≤ p)
theorem Ub_r {lo : Prop} (p : Int) : Ub lo p p := by
  by_cases h : lo
  · exact Or.inl ⟨h, Int.le_refl _⟩
  · exact Or.inr ⟨h, Int.le_refl _⟩
theorem Ub_t {lo : Prop} {p q r : Int} (h : Ub lo p q) (h' : Ub lo q r) : Ub lo p r := by
  rcases h with ⟨a, b⟩ | ⟨a, b⟩ <;> rcases h' with ⟨a', b'⟩ | ⟨a', b'⟩
  · exact Or.inl ⟨a, by omega⟩
  · exact absurd a a'
  · exact absurd a' a
  · exact Or.inr ⟨a, by omega⟩
theorem Ub_n {lo : Prop} {p q : Int} (h : ¬ Ub lo p q) : Ub lo q p ∧ ¬ p = q := by
  by_cases y : lo
  · refine ⟨Or.inl ⟨y, ?_⟩, fun e => h (by rw [e]; exact Ub_r q)⟩
    by_cases z : p ≤ q
    · exact absurd (Or.inl ⟨y, z⟩) h
    · omega
  · refine ⟨Or.inr ⟨y, ?_⟩, fun e => h (by rw [e]; exact Ub_r q)⟩
    by_cases z : q ≤ p
    · exact absurd (Or.inr ⟨y, z⟩) h
    · omega
theorem Ub_a {lo : Prop} {p q : Int} (h : Ub lo p q) (h' : Ub lo q p) : p = q := by
  rcases h with ⟨a, b⟩ | ⟨a, b⟩ <;> rcases h' with ⟨a', b'⟩ | ⟨a', b'⟩
  · omega
  · exact absurd a a'
  · exact absurd a' a
  · omega
theorem wgF_sp {lo : Prop} [Decidable lo] : ∀ (xs : List Int) (a : Int), wgF lo a xs ∈ a :: xs ∧ ∀ x, x ∈ a :: xs → Ub lo (wgF lo a xs) x := by
  intro xs
  induction xs with
  | nil =>
    intro a
    exact ⟨List.mem_cons_self, fun x hx => by rw [List.mem_singleton.mp hx]; exact Ub_r a⟩
  | cons y ys ih =>
    intro a
    obtain ⟨b, hb, h1, h2, h3⟩ : ∃ b : Int, (if lo then (if a ≤ y then a else y) else (if y ≤ a then a else y)) = b ∧ (b = a ∨ b = y) ∧ Ub lo b a ∧ Ub lo b y := by
      by_cases q : lo
      · by_cases z : a ≤ y
        · exact ⟨a, by rw [if_pos q, if_pos z], Or.inl rfl, Ub_r a, Or.inl ⟨q, z⟩⟩
        · exact ⟨y, by rw [if_pos q, if_neg z], Or.inr rfl, Or.inl ⟨q, by omega⟩, Ub_r y⟩
      · by_cases z : y ≤ a
        · exact ⟨a, by rw [if_neg q, if_pos z], Or.inl rfl, Ub_r a, Or.inr ⟨q, z⟩⟩
        · exact ⟨y, by rw [if_neg q, if_neg z], Or.inr rfl, Or.inr ⟨q, by omega⟩, Ub_r y⟩
    have e : wgF lo a (y :: ys) = wgF lo b ys := by
      show wgF lo (if lo then (if a ≤ y then a else y) else (if y ≤ a then a else y)) ys = _
      rw [hb]
    rw [e]
    obtain ⟨i1, i2⟩ := ih b
    refine ⟨?_, fun x hx => ?_⟩
    · rcases List.mem_cons.mp i1 with w | w
      · rw [w]
        rcases h1 with z | z
        · rw [z]; exact List.mem_cons_self
        · rw [z]; exact List.mem_cons_of_mem _ List.mem_cons_self
      · exact List.mem_cons_of_mem _ (List.mem_cons_of_mem _ w)
    · rcases List.mem_cons.mp hx with w | w
      · rw [w]; exact Ub_t (i2 b List.mem_cons_self) h2
      · rcases List.mem_cons.mp w with w | w
        · rw [w]; exact Ub_t (i2 b List.mem_cons_self) h3
        · exact i2 x (List.mem_cons_of_mem _ w)
/-- a best place gives the worth -/
theorem wgh_at {ov : Nat → Prop} {g : Nat → Nat → Int} {mn : Nat → Nat → Nat} {nx : List (List Nat)} {v : Nat → Int} {n j : Nat} (h : ¬ ov n) (hj : j < (nx.getD n []).length) (hb : ∀ i : Nat, i < (nx.getD n []).length → Ub (mn n 0 = 1) (v ((nx.getD n []).getD j 0)) (v ((nx.getD n []).getD i 0))) : wgh ov g mn nx v n = v ((nx.getD n []).getD j 0) := by
  unfold wgh
  rw [cif_n h]
  cases hx : nx.getD n [] with
  | nil => rw [hx] at hj; exact absurd hj (Nat.not_lt_zero _)
  | cons a t =>
    rw [hx] at hj hb
    show wgF (mn n 0 = 1) (v a) (t.map v) = _
    obtain ⟨h1, h2⟩ := wgF_sp (lo := mn n 0 = 1) (t.map v) (v a)
    have e : v a :: t.map v = (a :: t).map v := rfl
    rw [e] at h1 h2
    refine Ub_a (lo := mn n 0 = 1) (h2 _ (List.mem_map.mpr ⟨_, gD_nl hj, rfl⟩)) ?_
    obtain ⟨x, hx1, hx2⟩ := List.mem_map.mp h1
    obtain ⟨i, hi, ei⟩ := (mem_gD (a :: t) 0 x).mp hx1
    rw [← hx2, ← ei]
    exact hb i hi
section CJD
variable {d : Nat} {Q : Option Value ⊕ Nat → am_Mem → Prop} {μ : am_Mem} {m l : PM} {k N : Nat} {ov : Nat → Prop} {g : Nat → Nat → Int} {mn : Nat → Nat → Nat} {nx : List (List Nat)}
theorem k_settle {n : Nat} (H : CS μ) (hT : TbC m 2 N ov g mn nx) (hn : n < N) (hd : dfS ov g mn n = 0) (hov : ov n → nx.getD n [] = []) (hne : ¬ ov n → ¬ mn n 0 = 0 → ¬ mn n 1 = 0 → ¬ nx.getD n [] = [])
    (hv : ∀ b, b ∈ nx.getD n [] → m 121 (b : Int) = -1 ∨ (0 ≤ m 121 (b : Int) ∧ m 121 (b : Int) ≤ 100))
    (hy : ∀ m' : PM, (∀ c j, ¬ ((c = 121 ∨ c = 122) ∧ j = (n : Int)) → m' c j = m c j) → (∀ b, b ∈ nx.getD n [] → ¬ m 121 (b : Int) = -1) → (0 ≤ m' 121 (n : Int) ∧ m' 121 (n : Int) ≤ 100) → m' 121 (n : Int) = wgh ov g mn nx (fun b => m 121 (b : Int)) n → BsI (fun b => m 121 (b : Int)) (m' 121 (n : Int)) (nx.getD n []) (m' 122 (n : Int)) → Q (.inl (some (.int (zI 1)))) (sA μ m' l))
    (hno : (∃ b, b ∈ nx.getD n [] ∧ m 121 (b : Int) = -1) → Q (.inl (some (.int (zI 0)))) (sA μ m l)) :
    Wp d 79 (0, [some (.ref 106), some (.int (zI (n : Int))), none, none, none, none, none], [], sA μ m l) Q := by
  obtain ⟨⟨a1, a2, a3⟩, a4⟩ := id hT
  obtain ⟨b1, ⟨b2, b2'⟩, b3, b4, b5⟩ := a4 n hn
  obtain ⟨⟨c1, c1'⟩, ⟨c2, c2'⟩, ⟨c3, c3'⟩, c4, c4'⟩ := b5 rfl
  refine K79_0 H ⟨⟨by omega, by omega⟩, by rw [b1]; exact bP_R _, fun z => ?_, fun z m1 e => ?_⟩
  · -- it isn't over
    have nov : ¬ ov n := bP_z.mp (b1.symm.trans z)
    have hmn : ¬ mn n 0 = 0 ∧ ¬ mn n 1 = 0 := by
      unfold dfS at hd
      rw [cif_n nov] at hd
      by_cases w : mn n 0 = 0 ∨ mn n 1 = 0
      · rw [if_pos w] at hd
        exact absurd hd (by decide)
      · exact ⟨fun h => w (Or.inl h), fun h => w (Or.inr h)⟩
    have hpos : 0 < (nx.getD n []).length := by
      rcases Nat.eq_zero_or_pos (nx.getD n []).length with h | h
      · exact absurd (List.eq_nil_of_length_eq_zero h) (hne nov hmn.1 hmn.2)
      · exact h
    have hm : ∀ j : Nat, j < (nx.getD n []).length → ((nx.getD n []).getD j 0 < N ∧ m 116 (40 * (n : Int) + (j : Int)) = (((nx.getD n []).getD j 0 : Nat) : Int)) ∧ (m 121 (((nx.getD n []).getD j 0 : Nat) : Int) = -1 ∨ (0 ≤ m 121 (((nx.getD n []).getD j 0 : Nat) : Int) ∧ m 121 (((nx.getD n []).getD j 0 : Nat) : Int) ≤ 100)) := fun j hj => ⟨⟨b4 _ (gD_nl hj), b3 j hj⟩, hv _ (gD_nl hj)⟩
    have go : ∀ (r j s : Nat) (o5 o6 : Option Value), j + r = (nx.getD n []).length → (j = 0 ∧ s = 0 ∨ s < j) → (∀ i : Nat, i < j → ¬ m 121 (((nx.getD n []).getD i 0 : Nat) : Int) = -1 ∧ Ub (mn n 0 = 1) (m 121 (((nx.getD n []).getD s 0 : Nat) : Int)) (m 121 (((nx.getD n []).getD i 0 : Nat) : Int))) → (∀ i : Nat, i < s → ¬ m 121 (((nx.getD n []).getD i 0 : Nat) : Int) = m 121 (((nx.getD n []).getD s 0 : Nat) : Int)) → Wp d 79 (40, [some (.ref 106), some (.int (zI (n : Int))), some (.int (zI (40 * (n : Int)))), some (.int (zI (s : Int))), some (.int (zI (j : Int))), o5, o6], [], sA μ m l) Q := by
      intro r
      induction r with
      | zero =>
        intro j s o5 o6 hj hs h1 h2
        have sl : s < (nx.getD n []).length := by omega
        obtain ⟨⟨g1, g2⟩, g3⟩ := hm s sl
        have nz : ¬ m 121 (((nx.getD n []).getD s 0 : Nat) : Int) = -1 := (h1 s (by omega)).1
        refine K79_40 H ⟨⟨by omega, by omega⟩, ⟨by omega, by omega⟩, by rw [b2]; exact ⟨by omega, by omega⟩, fun _ => ⟨⟨by omega, by omega⟩, by rw [g2]; exact ⟨by omega, by omega⟩, fun m1 e => ?_⟩, fun z => absurd (by rw [b2]; omega) z⟩
        rw [g2] at e
        have v1 : m1 121 (n : Int) = m 121 (((nx.getD n []).getD s 0 : Nat) : Int) := by rw [e, up_c (by decide), up_s]
        have v2 : m1 122 (n : Int) = (s : Int) := by rw [e, up_s]
        refine hy m1 (fun c i h => by rw [e, up_o (by omega), up_o (by omega)]) (fun b hb => ?_) (by rw [v1]; omega) ?_ ?_
        · obtain ⟨i, hi, ei⟩ := (mem_gD (nx.getD n []) 0 b).mp hb
          rw [← ei]
          exact (h1 i (by omega)).1
        · rw [v1]
          exact (wgh_at (v := fun b => m 121 (b : Int)) nov sl (fun i hi => (h1 i (by omega)).2)).symm
        · rw [v1, v2]
          exact Or.inr ⟨s, sl, rfl, rfl, h2⟩
      | succ r ih =>
        intro j s o5 o6 hj hs h1 h2
        have jl : j < (nx.getD n []).length := by omega
        have sl : s < (nx.getD n []).length := by omega
        obtain ⟨⟨g1, g2⟩, g3⟩ := hm s sl
        obtain ⟨⟨f1, f2⟩, f3⟩ := hm j jl
        refine K79_40 H ⟨⟨by omega, by omega⟩, ⟨by omega, by omega⟩, by rw [b2]; exact ⟨by omega, by omega⟩, fun z => absurd z (by rw [b2]; omega), fun _ => ⟨⟨by omega, by omega⟩, by rw [f2]; exact ⟨by omega, by omega⟩, by rw [f2]; exact ⟨by omega, by omega⟩, fun nz v2 ev2 => ⟨⟨by omega, by omega⟩, by rw [g2]; exact ⟨by omega, by omega⟩, by rw [c1]; exact ⟨by omega, by omega⟩, ⟨fun _ => ⟨by rw [g2]; exact ⟨by omega, by omega⟩, trivial⟩, fun _ => ⟨by rw [g2]; exact ⟨by omega, by omega⟩, trivial⟩⟩, fun v3 ev3 v4 ev4 => ?_⟩, fun z v5 ev5 => hno ⟨_, gD_nl jl, ?_⟩⟩⟩
        · rw [f2] at nz ev2
          rw [g2, c1, ev2] at ev3
          have e3 : (Ub (mn n 0 = 1) (m 121 (((nx.getD n []).getD s 0 : Nat) : Int)) (m 121 (((nx.getD n []).getD j 0 : Nat) : Int)) ∧ v3 = (s : Int)) ∨ (¬ Ub (mn n 0 = 1) (m 121 (((nx.getD n []).getD s 0 : Nat) : Int)) (m 121 (((nx.getD n []).getD j 0 : Nat) : Int)) ∧ v3 = (j : Int)) := by
            by_cases y : mn n 0 = 1
            · rw [if_pos (show ((mn n 0 : Nat) : Int) ≤ 1 by omega)] at ev3
              by_cases w : m 121 (((nx.getD n []).getD s 0 : Nat) : Int) ≤ m 121 (((nx.getD n []).getD j 0 : Nat) : Int)
              · exact Or.inl ⟨Or.inl ⟨y, w⟩, by rw [ev3, if_pos w]⟩
              · refine Or.inr ⟨fun h => ?_, by rw [ev3, if_neg w]⟩
                rcases h with ⟨_, h⟩ | ⟨h, _⟩
                · exact w h
                · exact h y
            · rw [if_neg (show ¬ ((mn n 0 : Nat) : Int) ≤ 1 by omega)] at ev3
              by_cases w : m 121 (((nx.getD n []).getD j 0 : Nat) : Int) ≤ m 121 (((nx.getD n []).getD s 0 : Nat) : Int)
              · exact Or.inl ⟨Or.inr ⟨y, w⟩, by rw [ev3, if_pos w]⟩
              · refine Or.inr ⟨fun h => ?_, by rw [ev3, if_neg w]⟩
                rcases h with ⟨h, _⟩ | ⟨_, h⟩
                · exact y h
                · exact w h
          rcases e3 with ⟨u, e3⟩ | ⟨u, e3⟩
          · rw [e3]
            have w := ih (j + 1) s (some (.int (zI v2))) (some (.int (zI v4))) (by omega) (by omega) (fun i hi => ?_) h2
            · rw [show ((j + 1 : Nat) : Int) = (j : Int) + 1 by omega] at w
              exact w
            · by_cases y : i = j
              · rw [y]; exact ⟨nz, u⟩
              · exact h1 i (by omega)
          · rw [e3]
            obtain ⟨u1, u2⟩ := Ub_n u
            have w := ih (j + 1) j (some (.int (zI v2))) (some (.int (zI v4))) (by omega) (by omega) (fun i hi => ?_) (fun i hi e => ?_)
            · rw [show ((j + 1 : Nat) : Int) = (j : Int) + 1 by omega] at w
              exact w
            · by_cases y : i = j
              · rw [y]; exact ⟨nz, Ub_r _⟩
              · exact ⟨(h1 i (by omega)).1, Ub_t u1 (h1 i (by omega)).2⟩
            · have := (h1 i hi).2
              rw [e] at this
              exact u this
        · rw [f2] at z
          exact Classical.byContradiction z
    exact go (nx.getD n []).length 0 0 none none (by omega) (Or.inl ⟨rfl, rfl⟩) (fun i hi => absurd hi (Nat.not_lt_zero _)) (fun i hi => absurd hi (Nat.not_lt_zero _))
  · -- it is over
    have hov1 : ov n := Classical.byContradiction fun h => z (b1.trans (bP_0 h))
    have hg : 0 ≤ g n 0 := by
      unfold dfS at hd
      rw [cif_p hov1] at hd
      by_cases w : g n 0 < 0 ∨ g n 1 < 0
      · rw [if_pos w] at hd
        exact absurd hd (by decide)
      · omega
    have v1 : m1 121 (n : Int) = g n 0 := by rw [e, up_c (by decide), up_s, c3]
    have v2 : m1 122 (n : Int) = -1 := by rw [e, up_s]
    rw [hov hov1] at hy
    refine hy m1 (fun c i h => by rw [e, up_o (by omega), up_o (by omega)]) (fun b hb => absurd hb List.not_mem_nil) (by rw [v1]; omega) ?_ ?_
    · rw [v1]
      unfold wgh
      rw [cif_p hov1]
    · rw [v2]
      exact Or.inl ⟨rfl, fun j hj => absurd hj (Nat.not_lt_zero _)⟩
theorem k_flawOf {n : Nat} (H : CS μ) (hT : TbC m 2 N ov g mn nx) (hn : n < N) (hq : Q (.inl (some (.int (zI (dfS ov g mn n))))) (sA μ m l)) :
    Wp d 77 (0, [some (.ref 106), some (.int (zI (n : Int)))], [], sA μ m l) Q := by
  obtain ⟨⟨a1, a2, a3⟩, a4⟩ := id hT
  obtain ⟨b1, ⟨b2, b2'⟩, b3, b4, b5⟩ := a4 n hn
  obtain ⟨⟨c1, c1'⟩, ⟨c2, c2'⟩, ⟨c3, c3'⟩, c4, c4'⟩ := b5 rfl
  unfold dfS at hq
  by_cases y : ov n
  · rw [cif_p y] at hq
    refine K77_0 H ⟨⟨by omega, by omega⟩, by rw [b1]; exact bP_R _, fun z => ⟨by rw [c3]; exact ⟨by omega, by omega⟩, fun w => ?_, fun w => ⟨by rw [c4]; exact ⟨by omega, by omega⟩, fun w2 => ⟨by rw [c3, c4]; exact ⟨by omega, by omega⟩, fun v1 ev1 => ?_⟩, fun w2 => ?_⟩⟩, fun z => absurd (b1.trans (bP_1 y)) (fun h => z (by rw [h]; decide))⟩
    · rw [c3] at w
      rw [if_pos (Or.inl w)] at hq
      exact hq
    · rw [c3] at w
      rw [c4] at w2
      rw [c3, c4] at ev1
      rw [if_neg (show ¬ (g n 0 < 0 ∨ g n 1 < 0) by omega)] at hq
      by_cases w3 : g n 0 + g n 1 = 100
      · rw [if_pos w3] at hq
        rw [if_neg (fun h => h w3)] at ev1
        rw [ev1]
        exact hq
      · rw [if_neg w3] at hq
        rw [if_pos w3] at ev1
        rw [ev1]
        exact hq
    · rw [c4] at w2
      rw [if_pos (Or.inr (show g n 1 < 0 by omega))] at hq
      exact hq
  · rw [cif_n y] at hq
    refine K77_0 H ⟨⟨by omega, by omega⟩, by rw [b1]; exact bP_R _, fun z => absurd (b1.trans (bP_0 y)) z, fun _ => ⟨by rw [c1]; exact ⟨by omega, by omega⟩, fun w => ?_, fun w => ⟨by rw [c2]; exact ⟨by omega, by omega⟩, fun w2 v2 ev2 => ?_, fun w2 => ?_⟩⟩⟩
    · rw [c1] at w
      rw [if_pos (Or.inl (show mn n 0 = 0 by omega))] at hq
      exact hq
    · rw [c1] at w
      rw [c2] at w2
      rw [c1, c2] at ev2
      rw [if_neg (show ¬ (mn n 0 = 0 ∨ mn n 1 = 0) by omega)] at hq
      by_cases w3 : 1 < mn n 0 ∧ 1 < mn n 1
      · rw [if_pos w3] at hq
        rw [if_neg (show ¬ ((mn n 0 : Nat) : Int) ≤ 1 by omega), if_neg (show ¬ ((mn n 1 : Nat) : Int) ≤ 1 by omega)] at ev2
        rw [ev2]
        exact hq
      · rw [if_neg w3] at hq
        have : v2 = 0 := by
          by_cases w4 : ((mn n 0 : Nat) : Int) ≤ 1
          · rw [ev2, if_pos w4]
          · rw [ev2, if_neg w4, if_pos (by omega)]
        rw [this]
        exact hq
    · rw [c2] at w2
      rw [if_pos (Or.inr (show mn n 1 = 0 by omega))] at hq
      exact hq
theorem k_findReturn (H : CS μ) (hT : TbC m k N ov g mn nx)
    (hy : ∀ (m' : PM) (n : Nat), n < N → Rea nx n n → (∀ i, i < n → ¬ Rea nx i i) → (∀ c j, ¬ (c = 123 ∨ c = 124) → m' c j = m c j) → Q (.inl (some (.int (zI (n : Int))))) (sA μ m' l))
    (hno : ∀ m' : PM, (∀ i, i < N → ¬ Rea nx i i) → (∀ c j, ¬ (c = 123 ∨ c = 124) → m' c j = m c j) → Q (.inl (some (.int (zI (-1))))) (sA μ m' l)) :
    Wp (d + 1) 80 (0, [some (.ref 106), none], [], sA μ m l) Q := by
  have go : ∀ (r i : Nat) (m1 : PM), i + r = N → (∀ c j, ¬ (c = 123 ∨ c = 124) → m1 c j = m c j) → (∀ j, j < i → ¬ Rea nx j j) → Wp (d + 1) 80 (2, [some (.ref 106), some (.int (zI (i : Int)))], [], sA μ m1 l) Q := by
    intro r
    induction r with
    | zero =>
      intro i m1 hi hm h1
      have hT1 : TbC m1 k N ov g mn nx := TbC_cg (fun c j hc => hm c j (by omega)) hT
      obtain ⟨⟨a1, a2, a3⟩, a4⟩ := id hT1
      exact K80_2 H ⟨⟨by omega, by omega⟩, by rw [a2]; exact ⟨by omega, by omega⟩, fun _ => hno m1 (fun j hj => h1 j (by omega)) hm, fun z => absurd (by rw [a2]; omega) z⟩
    | succ r ih =>
      intro i m1 hi hm h1
      have hT1 : TbC m1 k N ov g mn nx := TbC_cg (fun c j hc => hm c j (by omega)) hT
      obtain ⟨⟨a1, a2, a3⟩, a4⟩ := id hT1
      refine K80_2 H ⟨⟨by omega, by omega⟩, by rw [a2]; exact ⟨by omega, by omega⟩, fun z => absurd z (by rw [a2]; omega), fun _ => ?_⟩
      refine ⟨fun x μ' => Wp (d + 1) 80 (15, [some (.ref 106), some (.int (zI (i : Int)))], [.int x], μ') Q, fun x μ' => Q (.inr x) μ', k_returns H hT1 (by omega) (fun m2 hR hf => ?_) (fun m2 hR hf => ?_), fun _ _ h => h, fun _ _ h => h⟩
      · exact K80_15 H ⟨iR_1, fun z => absurd z (by decide), fun _ => hy m2 i (by omega) hR h1 (fun c j h => (hf c j h).trans (hm c j h))⟩
      · refine K80_15 H ⟨iR_0, fun _ => ?_, fun z => absurd rfl z⟩
        have w := ih (i + 1) m2 (by omega) (fun c j h => (hf c j h).trans (hm c j h)) (fun j hj => by
          by_cases y : j = i
          · rw [y]; exact hR
          · exact h1 j (by omega))
        rw [show ((i + 1 : Nat) : Int) = (i : Int) + 1 by omega] at w
        exact w
  exact K80_0 H (go N 0 m (by omega) (fun _ _ _ => rfl) (fun j hj => absurd hj (Nat.not_lt_zero _)))
end CJD
