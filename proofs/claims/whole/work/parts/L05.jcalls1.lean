/-! ===== with a sheet: start, moves, terminal, goal, play, sign ===== -/
section LCA
variable {L i : Nat} {xs : Nat → Int32} {μ : am_Mem} {m l : PM} {s q e N0 : Nat} {rs : List Rul} {X : Int → List Int → Prop} {W W' : Int → Nat} {st : Option (List (List Cd))} {xp : Option (List (List (List Cd)) × List (List Nat))}
theorem jc_sheet (hL : L ≤ 2048) (hi : 4 * i + 4 ≤ L) (hb : JsB L xs i μ m l s q e rs X W W' N0 st xp) : lawC L xs 45 i 4 (JtP (i + 1)) (sA μ m l) := by
  have hF := hb.1
  obtain ⟨⟨hs, hS, ⟨hF4, _⟩, _, _, _, _, _, ⟨hz, hrg⟩, _⟩, hgo, hI, hX, h6, hRf, _⟩ := id hb.2.2.2
  obtain ⟨x, hx, hxr⟩ : ∃ x, xs (4 * i + 1) = zI x ∧ iR x := ⟨_, (zI_rev _).symm, iR_x _⟩
  have ea : ∀ ν, lawF L xs ν → ar i 1 ν = zI x := fun ν h => (ar_eq (j := 1) h (by omega)).trans hx
  show Wp 45 271 (0, [some (.ref 16), some (.int (ar i 1 (sA μ m l))), some (.ref 185), none], [], sA μ m l) _
  rw [ea _ hF]
  obtain ⟨k1, k2, k3, k4, _⟩ := jr_mid hb (ClR_0 hb)
  refine w271 (P := fun y μ' => (0 ≤ x ∧ x ≤ 1) ∧ y = zI (if x = 0 then (rs.length : Int) else ((rlS rs).length : Int)) ∧ μ' = sA μ m l) (X := fun k μ' => k = 0 ∧ ¬ (0 ≤ x ∧ x ≤ 1) ∧ μ' = sA (am_nX μ) m l) hF.2.2.1 (kl_sheet (d := 43) (Q := pI _ _) hS hs hF4 hI h6 hxr (fun z => ⟨rfl, z, rfl⟩) (fun z => ⟨z, rfl, rfl⟩)) (fun y μ' h => ?_) (fun k μ' h => ?_)
  · obtain ⟨z, rfl, rfl⟩ := h
    exact jr_ok (F := Int32.toInt64) (B := 80000 + 20 * i) (R := fun ν => [some (.ref 125), some (.int (ar i 1 ν))]) (A := [some (.ref 125), some (.int (zI x))]) hb (fun ν h => by rw [ea ν h]) (ClR_0 hb) (by omega) (fun l0 Q hq => r_sheet (d := 43) k2 hxr k1 (fun _ nz _ _ _ => absurd z nz) (fun m' _ rf k fr => hq m' l0 rf k fr (fun _ _ _ => rfl)))
  · obtain ⟨rfl, z, rfl⟩ := h
    exact Or.inr ⟨rfl, jr_thr (F := Int32.toInt64) (kk := 2) (B := 80000 + 20 * i) (R := fun ν => [some (.ref 125), some (.int (ar i 1 ν))]) (A := [some (.ref 125), some (.int (zI x))]) (by decide) hb (fun ν h => by rw [ea ν h]) (ClR_0 hb) (by omega) (fun l0 Q hq => r_sheet (d := 43) k3 hxr k1 (fun m' _ rf k fr => hq m' l0 0 rf k fr) (fun _ nz _ _ _ => absurd nz z))⟩
theorem jc_start (hL : L ≤ 2048) (hi : 4 * i + 4 ≤ L) (hb : JsB L xs i μ m l s q e rs X W W' N0 st xp) : lawC L xs 45 i 5 (JtP (i + 1)) (sA μ m l) := by
  have hF := hb.1
  obtain ⟨⟨hs, hS, ⟨hF4, _⟩, _, _, _, _, _, ⟨hz, hrg⟩, _⟩, hgo, hI, hX, h6, hRf, _⟩ := id hb.2.2.2
  show Wp 45 272 (0, [some (.ref 16), some (.ref 185), none], [], sA μ m l) _
  refine w272 (P := fun y μ' => ∃ (μ1 : am_Mem) (m1 l1 : PM) (q1 : Nat), ok0 rs (rlS rs) ∧ y = zI ((s0O rs (rlS rs)).length : Int) ∧ μ' = sA μ1 m1 l1 ∧ ClR i μ m s q e rs X W N0 (some (s0O rs (rlS rs))) xp μ1 m1 q1 e) (X := fun k μ' => k = 3 ∧ ∃ (μ1 : am_Mem) (m1 l1 : PM) (q1 : Nat), ¬ ok0 rs (rlS rs) ∧ μ' = sA (am_nX μ1) m1 l1 ∧ ClR i μ m s q e rs X W N0 st xp μ1 m1 q1 e) hF.2.2.1 (kl_start (d := 28) (Q := pI _ _) hS hs hgo hI h6 (fun μ1 m1 l1 q1 ok G S I f _ => ⟨μ1, m1, l1, q1, ok, rfl, rfl, ClR_s hb G S I f⟩) (fun μ1 m1 l1 q1 ok G S I f _ => ⟨rfl, μ1, m1, l1, q1, ok, rfl, ClR_s hb G S I f⟩)) (fun y μ' h => ?_) (fun k μ' h => ?_)
  · obtain ⟨μ1, m1, l1, q1, ok, rfl, rfl, hc⟩ := h
    obtain ⟨k1, k2, k3, k4, _⟩ := jr_mid hb hc
    exact jr_ok (F := Int32.toInt64) (B := 80000 + 20 * i) (R := fun _ => [some (.ref 125), none]) (A := [some (.ref 125), none]) hb (fun _ _ => rfl) hc (by omega) (fun l0 Q hq => r_start (d := 34) k2 k4 k1 (fun m' l' _ rf k fr frl => hq m' l' rf k fr frl) (fun _ _ nok _ _ _ _ => absurd ok nok))
  · obtain ⟨rfl, μ1, m1, l1, q1, ok, rfl, hc⟩ := h
    obtain ⟨k1, k2, k3, k4, _⟩ := jr_mid hb hc
    exact Or.inr ⟨rfl, jr_thr (F := Int32.toInt64) (kk := 2) (B := 80000 + 20 * i) (R := fun _ => [some (.ref 125), none]) (A := [some (.ref 125), none]) (by decide) hb (fun _ _ => rfl) hc (by omega) (fun l0 Q hq => r_start (d := 34) k3 k4 k1 (fun _ _ ok' _ _ _ _ => absurd ok' ok) (fun m' l' _ rf k fr _ => hq m' l' 0 rf k fr))⟩
theorem jc_moves (hL : L ≤ 2048) (hi : 4 * i + 4 ≤ L) (hb : JsB L xs i μ m l s q e rs X W W' N0 st xp) : lawC L xs 45 i 6 (JtP (i + 1)) (sA μ m l) := by
  have hF := hb.1
  obtain ⟨⟨hs, hS, ⟨hF4, _⟩, _, _, _, _, _, ⟨hz, hrg⟩, _⟩, hgo, hI, hX, h6, hRf, _⟩ := id hb.2.2.2
  obtain ⟨x, hx, hxr⟩ : ∃ x, xs (4 * i + 1) = zI x ∧ iR x := ⟨_, (zI_rev _).symm, iR_x _⟩
  have ea : ∀ ν, lawF L xs ν → ar i 1 ν = zI x := fun ν h => (ar_eq (j := 1) h (by omega)).trans hx
  show Wp 45 273 (0, [some (.ref 16), some (.int (ar i 1 (sA μ m l))), some (.ref 185), none], [], sA μ m l) _
  rw [ea _ hF]
  have hR : ∀ B, Evb rs B → ∀ r, r < (rlS rs).length → tlC ((rlS rs).getD r []) ≤ 48 := fun B hE r hr => rl_48 hgo hE hr
  cases st with
  | none =>
    obtain ⟨k1, k2, k3, k4, _⟩ := jr_mid hb (ClR_0 hb)
    refine w273 (P := fun _ _ => False) (X := fun k μ' => k = 1 ∧ μ' = sA (am_nX μ) m l) hF.2.2.1 (kl_moves (d := 28) (Q := pI _ _) hS hs hgo hI hxr (fun _ => ⟨rfl, rfl⟩) (fun _ z => nomatch z) (fun _ _ _ _ _ z => nomatch z) (fun _ _ _ _ _ z => nomatch z)) (fun _ _ h => h.elim) (fun k μ' h => ?_)
    obtain ⟨rfl, rfl⟩ := h
    exact Or.inl ⟨rfl, jr_thr (F := Int32.toInt64) (kk := 1) (B := 80000 + 20 * i) (R := fun ν => [some (.ref 125), some (.int (ar i 1 ν)), none, none]) (A := [some (.ref 125), some (.int (zI x)), none, none]) (by decide) hb (fun ν h => by rw [ea ν h]) (ClR_0 hb) (by omega) (fun l0 Q hq => r_moves (d := 33) k3 k4 (by omega) hxr k1 (fun m' _ rf k fr => hq m' l0 0 rf k fr) (fun _ _ z => nomatch z) (fun _ _ _ z => nomatch z) (fun _ _ _ z => nomatch z))⟩
  | some S =>
    refine w273 (P := fun y μ' => ∃ (μ1 : am_Mem) (m1 l1 : PM) (q1 : Nat), ((0 ≤ x ∧ x < ((rlS rs).length : Int)) ∧ Evb rs (baA 0 S (rlS rs) [])) ∧ y = zI ((mvO rs (rlS rs) S x.toNat).length : Int) ∧ μ' = sA μ1 m1 l1 ∧ ClR i μ m s q e rs X W N0 (some S) xp μ1 m1 q1 e) (X := fun k μ' => (k = 2 ∧ ¬ (0 ≤ x ∧ x < ((rlS rs).length : Int)) ∧ μ' = sA (am_nX μ) m l) ∨ (k = 3 ∧ ∃ (μ1 : am_Mem) (m1 l1 : PM) (q1 : Nat), ((0 ≤ x ∧ x < ((rlS rs).length : Int)) ∧ ¬ Evb rs (baA 0 S (rlS rs) [])) ∧ μ' = sA (am_nX μ1) m1 l1 ∧ ClR i μ m s q e rs X W N0 (some S) xp μ1 m1 q1 e)) hF.2.2.1 (kl_moves (d := 28) (Q := pI _ _) hS hs hgo hI hxr (fun z => nomatch z) (fun _ _ nr => Or.inl ⟨rfl, nr, rfl⟩) (fun T μ1 m1 l1 q1 hT hr ev G S' I f _ => by cases hT; exact ⟨μ1, m1, l1, q1, ⟨hr, ev⟩, rfl, rfl, ClR_s hb G S' I f⟩) (fun T μ1 m1 l1 q1 hT hr ev G S' I f _ => by cases hT; exact Or.inr ⟨rfl, μ1, m1, l1, q1, ⟨hr, ev⟩, rfl, ClR_s hb G S' I f⟩)) (fun y μ' h => ?_) (fun k μ' h => ?_)
    · obtain ⟨μ1, m1, l1, q1, ⟨hr, ev⟩, rfl, rfl, hc⟩ := h
      obtain ⟨k1, k2, k3, k4, _⟩ := jr_mid hb hc
      exact jr_ok (F := Int32.toInt64) (B := 80000 + 20 * i) (R := fun ν => [some (.ref 125), some (.int (ar i 1 ν)), none, none]) (A := [some (.ref 125), some (.int (zI x)), none, none]) hb (fun ν h => by rw [ea ν h]) hc (by omega) (fun l0 Q hq => r_moves (d := 33) k2 k4 (by omega) hxr k1 (fun _ z => nomatch z) (fun _ _ _ nr _ _ _ => absurd hr nr) (fun _ _ T hT _ nev _ _ _ _ => by cases hT; exact absurd ev nev) (fun m' l' T hT _ _ rf k fr frl => by cases hT; exact hq m' l' rf k fr frl))
    · rcases h with ⟨rfl, nr, rfl⟩ | ⟨rfl, μ1, m1, l1, q1, ⟨hr, ev⟩, rfl, hc⟩
      · obtain ⟨k1, k2, k3, k4, _⟩ := jr_mid hb (ClR_0 hb)
        exact Or.inr (Or.inl ⟨rfl, jr_thr (F := Int32.toInt64) (kk := 2) (B := 80000 + 20 * i) (R := fun ν => [some (.ref 125), some (.int (ar i 1 ν)), none, none]) (A := [some (.ref 125), some (.int (zI x)), none, none]) (by decide) hb (fun ν h => by rw [ea ν h]) (ClR_0 hb) (by omega) (fun l0 Q hq => r_moves (d := 33) k3 k4 (by omega) hxr k1 (fun _ z => nomatch z) (fun m' _ _ _ rf k fr => hq m' l0 0 rf k fr) (fun _ _ _ _ hr _ _ _ _ _ => absurd hr nr) (fun _ _ _ _ hr _ _ _ _ _ => absurd hr nr))⟩)
      · obtain ⟨k1, k2, k3, k4, _⟩ := jr_mid hb hc
        exact Or.inr (Or.inr ⟨rfl, jr_thr (F := Int32.toInt64) (kk := 3) (B := 80000 + 20 * i) (R := fun ν => [some (.ref 125), some (.int (ar i 1 ν)), none, none]) (A := [some (.ref 125), some (.int (zI x)), none, none]) (by decide) hb (fun ν h => by rw [ea ν h]) hc (by omega) (fun l0 Q hq => r_moves (d := 33) k3 k4 (by omega) hxr k1 (fun _ z => nomatch z) (fun _ _ _ nr _ _ _ => absurd hr nr) (fun m' l' _ _ _ _ rf k fr _ => hq m' l' 0 rf k fr) (fun _ _ T hT _ ev' _ _ _ _ => by cases hT; exact absurd ev' ev))⟩)
theorem jc_goal (hL : L ≤ 2048) (hi : 4 * i + 4 ≤ L) (hb : JsB L xs i μ m l s q e rs X W W' N0 st xp) : lawC L xs 45 i 8 (JtP (i + 1)) (sA μ m l) := by
  have hF := hb.1
  obtain ⟨⟨hs, hS, ⟨hF4, _⟩, _, _, _, _, _, ⟨hz, hrg⟩, _⟩, hgo, hI, hX, h6, hRf, _⟩ := id hb.2.2.2
  obtain ⟨x, hx, hxr⟩ : ∃ x, xs (4 * i + 1) = zI x ∧ iR x := ⟨_, (zI_rev _).symm, iR_x _⟩
  have ea : ∀ ν, lawF L xs ν → ar i 1 ν = zI x := fun ν h => (ar_eq (j := 1) h (by omega)).trans hx
  show Wp 45 275 (0, [some (.ref 16), some (.int (ar i 1 (sA μ m l))), some (.ref 185), none], [], sA μ m l) _
  rw [ea _ hF]
  have hR : ∀ B, Evb rs B → ∀ r, r < (rlS rs).length → tlC ((rlS rs).getD r []) ≤ 48 := fun B hE r hr => rl_48 hgo hE hr
  cases st with
  | none =>
    obtain ⟨k1, k2, k3, k4, _⟩ := jr_mid hb (ClR_0 hb)
    refine w275 (P := fun _ _ => False) (X := fun k μ' => k = 1 ∧ μ' = sA (am_nX μ) m l) hF.2.2.1 (kl_goal (d := 28) (Q := pI _ _) hS hs hgo hI hxr (fun _ => ⟨rfl, rfl⟩) (fun _ z => nomatch z) (fun _ _ _ _ _ z => nomatch z) (fun _ _ _ _ _ z => nomatch z)) (fun _ _ h => h.elim) (fun k μ' h => ?_)
    obtain ⟨rfl, rfl⟩ := h
    exact Or.inl ⟨rfl, jr_thr (F := Int32.toInt64) (kk := 1) (B := 80000 + 20 * i + 20) (R := fun ν => [some (.ref 125), some (.int (ar i 1 ν)), none, none]) (A := [some (.ref 125), some (.int (zI x)), none, none]) (by decide) hb (fun ν h => by rw [ea ν h]) (ClR_0 hb) (by omega) (fun l0 Q hq => r_goal (d := 33) k3 k4 hR (by omega) (by omega) hxr k1 (fun m' _ rf k fr => hq m' l0 0 rf k fr) (fun _ _ z => nomatch z) (fun _ _ _ z => nomatch z) (fun _ _ _ z => nomatch z))⟩
  | some S =>
    refine w275 (P := fun y μ' => ∃ (μ1 : am_Mem) (m1 l1 : PM) (q1 : Nat), ((0 ≤ x ∧ x < ((rlS rs).length : Int)) ∧ Evb rs (baA 0 S (rlS rs) [])) ∧ y = zI (glO rs (rlS rs) S x.toNat) ∧ μ' = sA μ1 m1 l1 ∧ ClR i μ m s q e rs X W N0 (some S) xp μ1 m1 q1 e) (X := fun k μ' => (k = 2 ∧ ¬ (0 ≤ x ∧ x < ((rlS rs).length : Int)) ∧ μ' = sA (am_nX μ) m l) ∨ (k = 3 ∧ ∃ (μ1 : am_Mem) (m1 l1 : PM) (q1 : Nat), ((0 ≤ x ∧ x < ((rlS rs).length : Int)) ∧ ¬ Evb rs (baA 0 S (rlS rs) [])) ∧ μ' = sA (am_nX μ1) m1 l1 ∧ ClR i μ m s q e rs X W N0 (some S) xp μ1 m1 q1 e)) hF.2.2.1 (kl_goal (d := 28) (Q := pI _ _) hS hs hgo hI hxr (fun z => nomatch z) (fun _ _ nr => Or.inl ⟨rfl, nr, rfl⟩) (fun T μ1 m1 l1 q1 hT hr ev G S' I f _ => by cases hT; exact ⟨μ1, m1, l1, q1, ⟨hr, ev⟩, rfl, rfl, ClR_s hb G S' I f⟩) (fun T μ1 m1 l1 q1 hT hr ev G S' I f _ => by cases hT; exact Or.inr ⟨rfl, μ1, m1, l1, q1, ⟨hr, ev⟩, rfl, ClR_s hb G S' I f⟩)) (fun y μ' h => ?_) (fun k μ' h => ?_)
    · obtain ⟨μ1, m1, l1, q1, ⟨hr, ev⟩, rfl, rfl, hc⟩ := h
      obtain ⟨k1, k2, k3, k4, _⟩ := jr_mid hb hc
      exact jr_ok (F := Int32.toInt64) (B := 80000 + 20 * i + 20) (R := fun ν => [some (.ref 125), some (.int (ar i 1 ν)), none, none]) (A := [some (.ref 125), some (.int (zI x)), none, none]) hb (fun ν h => by rw [ea ν h]) hc (by omega) (fun l0 Q hq => r_goal (d := 33) k2 k4 hR (by omega) (by omega) hxr k1 (fun _ z => nomatch z) (fun _ _ _ nr _ _ _ => absurd hr nr) (fun _ _ T hT _ nev _ _ _ _ => by cases hT; exact absurd ev nev) (fun m' l' T hT _ _ rf k fr frl => by cases hT; exact hq m' l' rf k fr frl))
    · rcases h with ⟨rfl, nr, rfl⟩ | ⟨rfl, μ1, m1, l1, q1, ⟨hr, ev⟩, rfl, hc⟩
      · obtain ⟨k1, k2, k3, k4, _⟩ := jr_mid hb (ClR_0 hb)
        exact Or.inr (Or.inl ⟨rfl, jr_thr (F := Int32.toInt64) (kk := 2) (B := 80000 + 20 * i + 20) (R := fun ν => [some (.ref 125), some (.int (ar i 1 ν)), none, none]) (A := [some (.ref 125), some (.int (zI x)), none, none]) (by decide) hb (fun ν h => by rw [ea ν h]) (ClR_0 hb) (by omega) (fun l0 Q hq => r_goal (d := 33) k3 k4 hR (by omega) (by omega) hxr k1 (fun _ z => nomatch z) (fun m' _ _ _ rf k fr => hq m' l0 0 rf k fr) (fun _ _ _ _ hr _ _ _ _ _ => absurd hr nr) (fun _ _ _ _ hr _ _ _ _ _ => absurd hr nr))⟩)
      · obtain ⟨k1, k2, k3, k4, _⟩ := jr_mid hb hc
        exact Or.inr (Or.inr ⟨rfl, jr_thr (F := Int32.toInt64) (kk := 3) (B := 80000 + 20 * i + 20) (R := fun ν => [some (.ref 125), some (.int (ar i 1 ν)), none, none]) (A := [some (.ref 125), some (.int (zI x)), none, none]) (by decide) hb (fun ν h => by rw [ea ν h]) hc (by omega) (fun l0 Q hq => r_goal (d := 33) k3 k4 hR (by omega) (by omega) hxr k1 (fun _ z => nomatch z) (fun _ _ _ nr _ _ _ => absurd hr nr) (fun m' l' _ _ _ _ rf k fr _ => hq m' l' 0 rf k fr) (fun _ _ T hT _ ev' _ _ _ _ => by cases hT; exact absurd ev' ev))⟩)
theorem jc_terminal (hL : L ≤ 2048) (hi : 4 * i + 4 ≤ L) (hb : JsB L xs i μ m l s q e rs X W W' N0 st xp) : lawC L xs 45 i 7 (JtP (i + 1)) (sA μ m l) := by
  have hF := hb.1
  obtain ⟨⟨hs, hS, ⟨hF4, _⟩, _, _, _, _, _, ⟨hz, hrg⟩, _⟩, hgo, hI, hX, h6, hRf, _⟩ := id hb.2.2.2
  show Wp 45 274 (0, [some (.ref 16), some (.ref 185), none], [], sA μ m l) _
  cases st with
  | none =>
    obtain ⟨k1, k2, k3, k4, _⟩ := jr_mid hb (ClR_0 hb)
    refine w274 (P := fun _ _ => False) (X := fun k μ' => k = 1 ∧ μ' = sA (am_nX μ) m l) hF.2.2.1 (kl_terminal (d := 28) (Q := pI _ _) hS hs hgo hI (fun _ => ⟨rfl, rfl⟩) (fun _ _ _ _ _ z => nomatch z) (fun _ _ _ _ _ z => nomatch z)) (fun _ _ h => h.elim) (fun k μ' h => ?_)
    obtain ⟨rfl, rfl⟩ := h
    exact Or.inl ⟨rfl, jr_thr (F := fun y => if y = 0 then Int64.ofNat 0 else Int64.ofNat 1) (kk := 1) (B := 80000 + 20 * i) (R := fun _ => [some (.ref 125), none]) (A := [some (.ref 125), none]) (by decide) hb (fun _ _ => rfl) (ClR_0 hb) (by omega) (fun l0 Q hq => r_terminal (d := 33) k3 k4 (by omega) k1 (fun m' _ rf k fr => hq m' l0 0 rf k fr) (fun _ _ _ z => nomatch z) (fun _ _ _ z => nomatch z))⟩
  | some S =>
    refine w274 (P := fun y μ' => ∃ (μ1 : am_Mem) (m1 l1 : PM) (q1 : Nat), Evb rs (baA 0 S (rlS rs) []) ∧ y = zI (bP (ovO rs (rlS rs) S)) ∧ μ' = sA μ1 m1 l1 ∧ ClR i μ m s q e rs X W N0 (some S) xp μ1 m1 q1 e) (X := fun k μ' => k = 3 ∧ ∃ (μ1 : am_Mem) (m1 l1 : PM) (q1 : Nat), ¬ Evb rs (baA 0 S (rlS rs) []) ∧ μ' = sA (am_nX μ1) m1 l1 ∧ ClR i μ m s q e rs X W N0 (some S) xp μ1 m1 q1 e) hF.2.2.1 (kl_terminal (d := 28) (Q := pI _ _) hS hs hgo hI (fun z => nomatch z) (fun T μ1 m1 l1 q1 hT ev G S' I f _ => by cases hT; exact ⟨μ1, m1, l1, q1, ev, rfl, rfl, ClR_s hb G S' I f⟩) (fun T μ1 m1 l1 q1 hT ev G S' I f _ => by cases hT; exact ⟨rfl, μ1, m1, l1, q1, ev, rfl, ClR_s hb G S' I f⟩)) (fun y μ' h => ?_) (fun k μ' h => ?_)
    · obtain ⟨μ1, m1, l1, q1, ev, rfl, rfl, hc⟩ := h
      obtain ⟨k1, k2, k3, k4, _⟩ := jr_mid hb hc
      exact jr_ok (F := fun y => if y = 0 then Int64.ofNat 0 else Int64.ofNat 1) (B := 80000 + 20 * i) (R := fun _ => [some (.ref 125), none]) (A := [some (.ref 125), none]) hb (fun _ _ => rfl) hc (by omega) (fun l0 Q hq => r_terminal (d := 33) k2 k4 (by omega) k1 (fun _ z => nomatch z) (fun _ _ T hT nev _ _ _ _ => by cases hT; exact absurd ev nev) (fun m' l' T hT _ rf k fr frl => by cases hT; exact hq m' l' rf k fr frl))
    · obtain ⟨rfl, μ1, m1, l1, q1, ev, rfl, hc⟩ := h
      obtain ⟨k1, k2, k3, k4, _⟩ := jr_mid hb hc
      exact Or.inr ⟨rfl, jr_thr (F := fun y => if y = 0 then Int64.ofNat 0 else Int64.ofNat 1) (kk := 2) (B := 80000 + 20 * i) (R := fun _ => [some (.ref 125), none]) (A := [some (.ref 125), none]) (by decide) hb (fun _ _ => rfl) hc (by omega) (fun l0 Q hq => r_terminal (d := 33) k3 k4 (by omega) k1 (fun _ z => nomatch z) (fun m' l' T hT _ rf k fr _ => hq m' l' 0 rf k fr) (fun _ _ T hT ev' _ _ _ _ => by cases hT; exact absurd ev' ev))⟩
theorem jc_play (hL : L ≤ 2048) (hi : 4 * i + 4 ≤ L) (hb : JsB L xs i μ m l s q e rs X W W' N0 st xp) : lawC L xs 45 i 9 (JtP (i + 1)) (sA μ m l) := by
  have hF := hb.1
  obtain ⟨⟨hs, hS, ⟨hF4, _⟩, _, _, _, _, _, ⟨hz, hrg⟩, _⟩, hgo, hI, hX, h6, hRf, _⟩ := id hb.2.2.2
  obtain ⟨x, hx, hxr⟩ : ∃ x, xs (4 * i + 1) = zI x ∧ iR x := ⟨_, (zI_rev _).symm, iR_x _⟩
  have ea : ∀ ν, lawF L xs ν → ar i 1 ν = zI x := fun ν h => (ar_eq (j := 1) h (by omega)).trans hx
  show Wp 45 276 (0, [some (.ref 16), some (.int (ar i 1 (sA μ m l))), some (.ref 185), none], [], sA μ m l) _
  rw [ea _ hF]
  have hR : ∀ B, Evb rs B → ∀ r, r < (rlS rs).length → tlC ((rlS rs).getD r []) ≤ 48 := fun B hE r hr => rl_48 hgo hE hr
  cases st with
  | none =>
    obtain ⟨k1, k2, k3, k4, _⟩ := jr_mid hb (ClR_0 hb)
    refine w276 (P := fun _ _ => False) (X := fun k μ' => k = 1 ∧ μ' = sA (am_nX μ) m l) hF.2.2.1 (kl_play (d := 28) (Q := pI _ _) hS hs hgo hI hxr (fun _ => ⟨rfl, rfl⟩) (fun _ _ _ _ _ z => nomatch z) (fun _ _ _ _ _ z => nomatch z) (fun _ _ _ _ _ z => nomatch z)) (fun _ _ h => h.elim) (fun k μ' h => ?_)
    obtain ⟨rfl, rfl⟩ := h
    exact Or.inl ⟨rfl, jr_thr (F := Int32.toInt64) (kk := 1) (B := 80000 + 20 * i) (R := fun ν => [some (.ref 125), some (.int (ar i 1 ν)), none, none, none]) (A := [some (.ref 125), some (.int (zI x)), none, none, none]) (by decide) hb (fun ν h => by rw [ea ν h]) (ClR_0 hb) (by omega) (fun l0 Q hq => r_play (d := 33) k3 k4 hR (by omega) hxr k1 (fun m' _ rf k fr => hq m' l0 0 rf k fr) (fun _ _ _ z => nomatch z) (fun _ _ _ z => nomatch z) (fun _ _ _ z => nomatch z))⟩
  | some S =>
    refine w276 (P := fun y μ' => ∃ (μ1 : am_Mem) (m1 l1 : PM) (q1 : Nat), (¬ (rlS rs).length = 0 ∧ 0 ≤ x ∧ Evb rs (baA 0 S (rlS rs) []) ∧ x < (jmN (rlS rs).length (mvO rs (rlS rs) S) : Int) ∧ okN rs (rlS rs) S (chO rs (rlS rs) S x.toNat)) ∧ y = zI ((nsO rs (rlS rs) S (chO rs (rlS rs) S x.toNat)).length : Int) ∧ μ' = sA μ1 m1 l1 ∧ ClR i μ m s q e rs X W N0 (some (nsO rs (rlS rs) S (chO rs (rlS rs) S x.toNat))) xp μ1 m1 q1 e) (X := fun k μ' => (k = 2 ∧ ∃ (μ1 : am_Mem) (m1 l1 : PM) (q1 : Nat), (((rlS rs).length = 0 ∨ x < 0) ∨ (Evb rs (baA 0 S (rlS rs) []) ∧ (jmN (rlS rs).length (mvO rs (rlS rs) S) : Int) ≤ x)) ∧ μ' = sA (am_nX μ1) m1 l1 ∧ ClR i μ m s q e rs X W N0 (some S) xp μ1 m1 q1 e) ∨ (k = 3 ∧ ∃ (μ1 : am_Mem) (m1 l1 : PM) (q1 : Nat), (¬ (rlS rs).length = 0 ∧ 0 ≤ x ∧ (¬ Evb rs (baA 0 S (rlS rs) []) ∨ (Evb rs (baA 0 S (rlS rs) []) ∧ x < (jmN (rlS rs).length (mvO rs (rlS rs) S) : Int) ∧ ¬ okN rs (rlS rs) S (chO rs (rlS rs) S x.toNat)))) ∧ μ' = sA (am_nX μ1) m1 l1 ∧ ClR i μ m s q e rs X W N0 (some S) xp μ1 m1 q1 e)) hF.2.2.1 (kl_play (d := 28) (Q := pI _ _) hS hs hgo hI hxr (fun z => nomatch z) (fun T μ1 m1 l1 q1 hT h G S' I f _ => by cases hT; exact Or.inl ⟨rfl, μ1, m1, l1, q1, h, rfl, ClR_s hb G S' I f⟩) (fun T μ1 m1 l1 q1 hT a b h G S' I f _ => by cases hT; exact Or.inr ⟨rfl, μ1, m1, l1, q1, ⟨a, b, h⟩, rfl, ClR_s hb G S' I f⟩) (fun T μ1 m1 l1 q1 hT a b ev h ok G S' I f _ => by cases hT; exact ⟨μ1, m1, l1, q1, ⟨a, b, ev, h, ok⟩, rfl, rfl, ClR_s hb G S' I f⟩)) (fun y μ' h => ?_) (fun k μ' h => ?_)
    · obtain ⟨μ1, m1, l1, q1, ⟨a, b, ev, h, ok⟩, rfl, rfl, hc⟩ := h
      obtain ⟨k1, k2, k3, k4, _⟩ := jr_mid hb hc
      refine jr_ok (F := Int32.toInt64) (B := 80000 + 20 * i) (R := fun ν => [some (.ref 125), some (.int (ar i 1 ν)), none, none, none]) (A := [some (.ref 125), some (.int (zI x)), none, none, none]) hb (fun ν h => by rw [ea ν h]) hc (by omega) (fun l0 Q hq => r_play (d := 33) k2 k4 hR (by omega) hxr k1 (fun _ z => nomatch z) (fun _ _ T hT h' _ _ _ _ => ?_) (fun _ _ T hT _ _ h' _ _ _ _ => ?_) (fun m' l' T hT _ _ _ _ _ rf k fr frl => by cases hT; exact hq m' l' rf k fr frl))
      · cases hT
        rcases h' with (y | y) | ⟨_, y⟩
        · exact absurd y a
        · exact absurd b (by omega)
        · exact absurd h (by omega)
      · cases hT
        rcases h' with y | ⟨_, _, y⟩
        · exact absurd ev y
        · exact absurd ok y
    · rcases h with ⟨rfl, μ1, m1, l1, q1, h, rfl, hc⟩ | ⟨rfl, μ1, m1, l1, q1, ⟨a, b, h⟩, rfl, hc⟩
      · obtain ⟨k1, k2, k3, k4, _⟩ := jr_mid hb hc
        refine Or.inr (Or.inl ⟨rfl, jr_thr (F := Int32.toInt64) (kk := 2) (B := 80000 + 20 * i) (R := fun ν => [some (.ref 125), some (.int (ar i 1 ν)), none, none, none]) (A := [some (.ref 125), some (.int (zI x)), none, none, none]) (by decide) hb (fun ν h => by rw [ea ν h]) hc (by omega) (fun l0 Q hq => r_play (d := 33) k3 k4 hR (by omega) hxr k1 (fun _ z => nomatch z) (fun m' l' T hT _ rf k fr _ => hq m' l' 0 rf k fr) (fun _ _ T hT a' b' h' _ _ _ _ => ?_) (fun _ _ T hT a' b' ev' h' _ _ _ _ _ => ?_))⟩)
        · cases hT
          rcases h with (y | y) | ⟨ev, y⟩
          · exact absurd y a'
          · exact absurd b' (by omega)
          · rcases h' with z | ⟨_, z, _⟩
            · exact absurd ev z
            · exact absurd z (by omega)
        · cases hT
          rcases h with (y | y) | ⟨ev, y⟩
          · exact absurd y a'
          · exact absurd b' (by omega)
          · exact absurd h' (by omega)
      · obtain ⟨k1, k2, k3, k4, _⟩ := jr_mid hb hc
        refine Or.inr (Or.inr ⟨rfl, jr_thr (F := Int32.toInt64) (kk := 3) (B := 80000 + 20 * i) (R := fun ν => [some (.ref 125), some (.int (ar i 1 ν)), none, none, none]) (A := [some (.ref 125), some (.int (zI x)), none, none, none]) (by decide) hb (fun ν h => by rw [ea ν h]) hc (by omega) (fun l0 Q hq => r_play (d := 33) k3 k4 hR (by omega) hxr k1 (fun _ z => nomatch z) (fun _ _ T hT h' _ _ _ _ => ?_) (fun m' l' T hT _ _ _ rf k fr _ => hq m' l' 0 rf k fr) (fun _ _ T hT _ _ ev' h' ok' _ _ _ _ => ?_))⟩)
        · cases hT
          rcases h' with (y | y) | ⟨ev, y⟩
          · exact absurd y a
          · exact absurd b (by omega)
          · rcases h with z | ⟨_, z, _⟩
            · exact absurd ev z
            · exact absurd z (by omega)
        · cases hT
          rcases h with z | ⟨_, _, z⟩
          · exact absurd ev' z
          · exact absurd ok' z
theorem jc_sign (hL : L ≤ 2048) (hi : 4 * i + 4 ≤ L) (hb : JsB L xs i μ m l s q e rs X W W' N0 st xp) : lawC L xs 45 i 10 (JtP (i + 1)) (sA μ m l) := by
  have hF := hb.1
  obtain ⟨⟨hs, hS, ⟨hF4, _⟩, _, _, _, _, _, ⟨hz, hrg⟩, _⟩, hgo, hI, hX, h6, hRf, _⟩ := id hb.2.2.2
  obtain ⟨x1, hx1, hxr1⟩ : ∃ x, xs (4 * i + 1) = zI x ∧ iR x := ⟨_, (zI_rev _).symm, iR_x _⟩
  obtain ⟨x2, hx2, hxr2⟩ : ∃ x, xs (4 * i + 2) = zI x ∧ iR x := ⟨_, (zI_rev _).symm, iR_x _⟩
  obtain ⟨x3, hx3, hxr3⟩ : ∃ x, xs (4 * i + 3) = zI x ∧ iR x := ⟨_, (zI_rev _).symm, iR_x _⟩
  have ea1 : ∀ ν, lawF L xs ν → ar i 1 ν = zI x1 := fun ν h => (ar_eq (j := 1) h (by omega)).trans hx1
  have ea2 : ∀ ν, lawF L xs ν → ar i 2 ν = zI x2 := fun ν h => (ar_eq (j := 2) h (by omega)).trans hx2
  have ea3 : ∀ ν, lawF L xs ν → ar i 3 ν = zI x3 := fun ν h => (ar_eq (j := 3) h (by omega)).trans hx3
  show Wp 45 277 (0, [some (.ref 16), some (.int (ar i 1 (sA μ m l))), some (.int (ar i 2 (sA μ m l))), some (.int (ar i 3 (sA μ m l))), some (.ref 185), none], [], sA μ m l) _
  rw [ea1 _ hF, ea2 _ hF, ea3 _ hF]
  have hA : ∀ ν, lawF L xs ν → (fun ν => [some (Value.ref 125), some (.int (ar i 1 ν)), some (.int (ar i 2 ν)), some (.int (ar i 3 ν)), none, none, none]) ν = [some (.ref 125), some (.int (zI x1)), some (.int (zI x2)), some (.int (zI x3)), none, none, none] := fun ν h => by
    show [some (Value.ref 125), some (.int (ar i 1 ν)), some (.int (ar i 2 ν)), some (.int (ar i 3 ν)), none, none, none] = _
    rw [ea1 ν h, ea2 ν h, ea3 ν h]
  refine w277 (P := fun y μ' => ∃ (μ1 : am_Mem) (m1 l1 : PM) (q1 : Nat), (sgO rs (rlS rs) st x1 x2 x3).1 = 0 ∧ y = zI (sgO rs (rlS rs) st x1 x2 x3).2 ∧ μ' = sA μ1 m1 l1 ∧ ClR i μ m s q e rs X W N0 st xp μ1 m1 q1 e) (X := fun k μ' => ∃ (μ1 : am_Mem) (m1 l1 : PM) (q1 : Nat), SgX (sgO rs (rlS rs) st x1 x2 x3).1 k ∧ μ' = sA (am_nX μ1) m1 l1 ∧ ClR i μ m s q e rs X W N0 st xp μ1 m1 q1 e) hF.2.2.1 (kl_sign (d := 28) (Q := pI _ _) hS hs hgo hI h6 hxr1 hxr2 hxr3 (fun μ1 m1 l1 q1 h G S' I f _ => ⟨μ1, m1, l1, q1, h, rfl, rfl, ClR_s hb G S' I f⟩) (fun k μ1 m1 l1 q1 h G S' I f _ => ⟨μ1, m1, l1, q1, h, rfl, ClR_s hb G S' I f⟩)) (fun y μ' h => ?_) (fun k μ' h => ?_)
  · obtain ⟨μ1, m1, l1, q1, h, rfl, rfl, hc⟩ := h
    obtain ⟨k1, k2, k3, k4, _⟩ := jr_mid hb hc
    exact jr_ok (F := Int32.toInt64) (B := 80000 + 20 * i) (R := fun ν => [some (.ref 125), some (.int (ar i 1 ν)), some (.int (ar i 2 ν)), some (.int (ar i 3 ν)), none, none, none]) hb hA hc (by omega) (fun l0 Q hq => r_sign (d := 32) k2 k4 (by omega) hxr1 hxr2 hxr3 k1 (fun m' l' rf k fr frl => hq m' l' rf (k.trans h) fr frl))
  · obtain ⟨μ1, m1, l1, q1, h, rfl, hc⟩ := h
    obtain ⟨k1, k2, k3, k4, _⟩ := jr_mid hb hc
    have thr : ∀ kk : Int, ¬ Int32.ofInt kk = 0 → (sgO rs (rlS rs) st x1 x2 x3).1 = kk → lawF L xs (sA (am_nX μ1) m1 l1) ∧ Wp 45 252 (0, [some (.ref 125), some (.int (ar i 1 (sA (am_nX μ1) m1 l1))), some (.int (ar i 2 (sA (am_nX μ1) m1 l1))), some (.int (ar i 3 (sA (am_nX μ1) m1 l1))), none, none, none], [], sA (am_nX μ1) m1 l1) (pI (PoF L xs i Int32.toInt64 (Int32.ofInt kk)) noX) := fun kk hk0 hkk => jr_thr (F := Int32.toInt64) (B := 80000 + 20 * i) (R := fun ν => [some (.ref 125), some (.int (ar i 1 ν)), some (.int (ar i 2 ν)), some (.int (ar i 3 ν)), none, none, none]) hk0 hb hA hc (by omega) (fun l0 Q hq => r_sign (d := 32) k3 k4 (by omega) hxr1 hxr2 hxr3 k1 (fun m' l' rf k fr _ => hq m' l' _ rf (k.trans hkk) fr))
    rcases h with ⟨a, rfl⟩ | ⟨a, rfl⟩ | ⟨a, rfl⟩ | ⟨a, rfl⟩
    · exact Or.inr (Or.inl ⟨rfl, thr 2 (by decide) a⟩)
    · exact Or.inl ⟨rfl, thr 1 (by decide) a⟩
    · exact Or.inr (Or.inr (Or.inl ⟨rfl, thr 3 (by decide) a⟩))
    · exact Or.inr (Or.inr (Or.inr ⟨rfl, thr 4 (by decide) a⟩))
end LCA
