/-! ===== with a sheet: explore, defect, state, next, value, best ===== -/
theorem dd_eq {W' : Int → Nat} {B : Nat} {rs : List Rul} {m : PM} {st : Option (List (List Cd))} {sts : List (List (List Cd))} {nx : List (List Nat)} (hX : XkC rs m sts nx) (hR : RfP W' rs (rlS rs) B m st (some (sts, nx))) : m 106 13 = m 125 89 ∧ m 106 14 = m 125 90 := DfP_uni hX.2.2.2.1 hR.2.2.2.2.2.2.2.2.2.1
theorem dd_va {W' : Int → Nat} {B : Nat} {rs : List Rul} {m : PM} {st : Option (List (List Cd))} {sts : List (List (List Cd))} {nx : List (List Nat)} (hX : XkC rs m sts nx) (hR : RfP W' rs (rlS rs) B m st (some (sts, nx))) (h0 : m 106 13 = 0) : ∀ n : Nat, n < sts.length → m 121 (n : Int) = m 182 (n : Int) := by
  have e0 : m 125 89 = 0 := (dd_eq hX hR).1.symm.trans h0
  have hN : ∀ a, a < sts.length → ∀ b, b ∈ nx.getD a [] → b < sts.length := fun a ha b hb => (hX.2.1.2 a ha).2.2.2.1 b hb
  have hA : ∀ i, i < sts.length → ¬ Rea nx i i := by
    rcases hX.2.2.2.1 with ⟨_, e, _⟩ | ⟨_, n, _, n2, e, _⟩ | ⟨_, _, n, _, _, e, _⟩ | ⟨_, _, a, _⟩
    · rw [h0] at e
      exact absurd e (by decide)
    · exact absurd (e.symm.trans h0) n2
    · rw [h0] at e
      exact absurd e (by decide)
    · exact a
  exact VaP_uni hN hA (hX.2.2.2.2 h0).1 (hR.2.2.2.2.2.2.2.2.2.2 e0).1
theorem BsI_nx {v v' : Nat → Int} {x : Int} {ns : List Nat} {y : Int} (h : ∀ b, b ∈ ns → v b = v' b) (hb : BsI v x ns y) : BsI v' x ns y := by
  rcases hb with ⟨a, b⟩ | ⟨j, a, b, c, d⟩
  · exact Or.inl ⟨a, fun j hj => by rw [← h _ (gD_nl hj)]; exact b j hj⟩
  · exact Or.inr ⟨j, a, b, by rw [← h _ (gD_nl a)]; exact c, fun i hi => by rw [← h _ (gD_nl (Nat.lt_trans hi a))]; exact d i hi⟩
section LCB
variable {L i : Nat} {xs : Nat → Int32} {μ : am_Mem} {m l : PM} {s q e N0 : Nat} {rs : List Rul} {X : Int → List Int → Prop} {W W' : Int → Nat} {st : Option (List (List Cd))} {xp : Option (List (List (List Cd)) × List (List Nat))}
theorem jc_explore (hL : L ≤ 2048) (hi : 4 * i + 4 ≤ L) (hb : JsB L xs i μ m l s q e rs X W W' N0 st xp) : lawC L xs 45 i 11 (JtP (i + 1)) (sA μ m l) := by
  have hF := hb.1
  obtain ⟨⟨hs, hS, ⟨hF4, _⟩, _, _, _, _, _, ⟨hz, hrg⟩, _⟩, hgo, hI, hX, h6, hRf, _⟩ := id hb.2.2.2
  show Wp 45 278 (0, [some (.ref 16), some (.ref 185), none], [], sA μ m l) _
  have hR : ∀ B, Evb rs B → ∀ r, r < (rlS rs).length → tlC ((rlS rs).getD r []) ≤ 48 := fun B hE r hr => rl_48 hgo hE hr
  refine w278 (P := fun y μ' => ∃ (μ1 : am_Mem) (m1 l1 : PM) (q1 e1 : Nat) (sts : List (List (List Cd))) (nx : List (List Nat)), xO rs (rlS rs) = some (sts, nx) ∧ y = zI (sts.length : Int) ∧ μ' = sA μ1 m1 l1 ∧ ClR i μ m s q e rs X W N0 st (some (sts, nx)) μ1 m1 q1 e1) (X := fun k μ' => k = 3 ∧ ∃ (μ1 : am_Mem) (m1 l1 : PM) (q1 e1 : Nat), xO rs (rlS rs) = none ∧ μ' = sA (am_nX μ1) m1 l1 ∧ ClR i μ m s q e rs X W N0 st none μ1 m1 q1 e1) hF.2.2.1 (kl_explore (d := 27) (Q := pI _ _) hS hs hgo hI hX h6 hz hrg (fun sts nx hp => ?_) (fun hp hxn => ?_) (fun μ1 m1 l1 q1 e1 sts nx _ hxo G S' I hk z rg f _ => ⟨μ1, m1, l1, q1, e1, sts, nx, hxo, rfl, rfl, G, S', I, hk, ⟨z, rg⟩, fun c j hc z => f c j hc (wca_x z)⟩) (fun μ1 m1 l1 q1 e1 _ hxo G S' I e2 z rg f _ => ⟨rfl, μ1, m1, l1, q1, e1, hxo, rfl, G, S', I, Or.inr ⟨e2, hxo⟩, ⟨z, rg⟩, fun c j hc z => f c j hc (wca_x z)⟩)) (fun y μ' h => ?_) (fun k μ' h => ?_)
  · subst hp
    exact ⟨μ, m, l, q, e, sts, nx, hRf.2.2.2.2.2.1, rfl, rfl, ClR_0 hb⟩
  · subst hp
    exact ⟨rfl, μ, m, l, q, e, hxn, rfl, ClR_0 hb⟩
  · obtain ⟨μ1, m1, l1, q1, e1, sts, nx, hxo, rfl, rfl, hc⟩ := h
    obtain ⟨k1, k2, k3, k4, _⟩ := jr_mid hb hc
    exact jr_ok (F := Int32.toInt64) (B := 80000 + 20 * i) (R := fun _ => [some (.ref 125), none, none, none]) (A := [some (.ref 125), none, none, none]) hb (fun _ _ => rfl) hc (by omega) (fun l0 Q hq => r_explore (d := 33) k2 k4 hR k1 (fun _ _ _ hn _ _ _ _ => by rw [hxo] at hn; exact nomatch hn) (fun m' l' sts' nx' hxo' rf k fr frl => by
      rw [hxo] at hxo'
      cases hxo'
      exact hq m' l' rf k fr frl))
  · obtain ⟨rfl, μ1, m1, l1, q1, e1, hxo, rfl, hc⟩ := h
    obtain ⟨k1, k2, k3, k4, _⟩ := jr_mid hb hc
    exact Or.inr ⟨rfl, jr_thr (F := Int32.toInt64) (kk := 2) (B := 80000 + 20 * i) (R := fun _ => [some (.ref 125), none, none, none]) (A := [some (.ref 125), none, none, none]) (by decide) hb (fun _ _ => rfl) hc (by omega) (fun l0 Q hq => r_explore (d := 33) k3 k4 hR k1 (fun m' l' _ _ rf k fr _ => hq m' l' 0 rf k fr) (fun _ _ _ _ hxo' _ _ _ _ => by rw [hxo] at hxo'; exact nomatch hxo'))⟩
theorem jc_defect (hL : L ≤ 2048) (hi : 4 * i + 4 ≤ L) (hb : JsB L xs i μ m l s q e rs X W W' N0 st xp) : lawC L xs 45 i 12 (JtP (i + 1)) (sA μ m l) := by
  have hF := hb.1
  obtain ⟨⟨hs, hS, ⟨hF4, _⟩, _, _, _, _, _, ⟨hz, hrg⟩, _⟩, hgo, hI, hX, h6, hRf, _⟩ := id hb.2.2.2
  obtain ⟨x, hx, hxr⟩ : ∃ x, xs (4 * i + 1) = zI x ∧ iR x := ⟨_, (zI_rev _).symm, iR_x _⟩
  have ea : ∀ ν, lawF L xs ν → ar i 1 ν = zI x := fun ν h => (ar_eq (j := 1) h (by omega)).trans hx
  show Wp 45 279 (0, [some (.ref 16), some (.int (ar i 1 (sA μ m l))), some (.ref 185), none], [], sA μ m l) _
  rw [ea _ hF]
  obtain ⟨k1, k2, k3, k4, _⟩ := jr_mid hb (ClR_0 hb)
  have H := hS.1.1
  refine w279 (P := fun y μ' => ∃ (sts : List (List (List Cd))) (nx : List (List Nat)), (xp = some (sts, nx) ∧ (0 ≤ x ∧ x ≤ 1)) ∧ y = zI (if x = 0 then m 106 13 else m 106 14) ∧ μ' = sA μ m l) (X := fun k μ' => (k = 1 ∧ xp = none ∧ μ' = sA (am_nX μ) m l) ∨ (k = 0 ∧ (∃ (sts : List (List (List Cd))) (nx : List (List Nat)), xp = some (sts, nx)) ∧ ¬ (0 ≤ x ∧ x ≤ 1) ∧ μ' = sA (am_nX μ) m l)) hF.2.2.1 (kl_defect (d := 43) (Q := pI _ _) H hxr hX (fun z => Or.inl ⟨rfl, z, rfl⟩) (fun sts nx z w => Or.inr ⟨rfl, ⟨sts, nx, z⟩, w, rfl⟩) (fun sts nx z w => ⟨sts, nx, ⟨z, w⟩, rfl, rfl⟩)) (fun y μ' h => ?_) (fun k μ' h => ?_)
  · obtain ⟨sts, nx, ⟨hp, hr⟩, rfl, rfl⟩ := h
    subst hp
    obtain ⟨d1, d2⟩ := dd_eq hX k1
    rw [d1, d2]
    exact jr_ok (F := Int32.toInt64) (B := 80000 + 20 * i) (R := fun ν => [some (.ref 125), some (.int (ar i 1 ν))]) (A := [some (.ref 125), some (.int (zI x))]) hb (fun ν h => by rw [ea ν h]) (ClR_0 hb) (by omega) (fun l0 Q hq => r_defect (d := 43) k2 hxr k1 (fun _ z => nomatch z) (fun _ _ _ _ nr _ _ _ => absurd hr nr) (fun m' _ _ _ _ rf k fr => hq m' l0 rf k fr (fun _ _ _ => rfl)))
  · rcases h with ⟨rfl, hp, rfl⟩ | ⟨rfl, ⟨sts, nx, hp⟩, nr, rfl⟩
    · subst hp
      exact Or.inl ⟨rfl, jr_thr (F := Int32.toInt64) (kk := 1) (B := 80000 + 20 * i) (R := fun ν => [some (.ref 125), some (.int (ar i 1 ν))]) (A := [some (.ref 125), some (.int (zI x))]) (by decide) hb (fun ν h => by rw [ea ν h]) (ClR_0 hb) (by omega) (fun l0 Q hq => r_defect (d := 43) k3 hxr k1 (fun m' _ rf k fr => hq m' l0 0 rf k fr) (fun _ _ _ z => nomatch z) (fun _ _ _ z => nomatch z))⟩
    · subst hp
      exact Or.inr ⟨rfl, jr_thr (F := Int32.toInt64) (kk := 2) (B := 80000 + 20 * i) (R := fun ν => [some (.ref 125), some (.int (ar i 1 ν))]) (A := [some (.ref 125), some (.int (zI x))]) (by decide) hb (fun ν h => by rw [ea ν h]) (ClR_0 hb) (by omega) (fun l0 Q hq => r_defect (d := 43) k3 hxr k1 (fun _ z => nomatch z) (fun m' _ _ _ _ rf k fr => hq m' l0 0 rf k fr) (fun _ _ _ _ hr _ _ _ => absurd hr nr))⟩
theorem jc_state (hL : L ≤ 2048) (hi : 4 * i + 4 ≤ L) (hb : JsB L xs i μ m l s q e rs X W W' N0 st xp) : lawC L xs 45 i 13 (JtP (i + 1)) (sA μ m l) := by
  have hF := hb.1
  obtain ⟨⟨hs, hS, ⟨hF4, _⟩, _, _, _, _, _, ⟨hz, hrg⟩, _⟩, hgo, hI, hX, h6, hRf, _⟩ := id hb.2.2.2
  obtain ⟨x, hx, hxr⟩ : ∃ x, xs (4 * i + 1) = zI x ∧ iR x := ⟨_, (zI_rev _).symm, iR_x _⟩
  have ea : ∀ ν, lawF L xs ν → ar i 1 ν = zI x := fun ν h => (ar_eq (j := 1) h (by omega)).trans hx
  obtain ⟨y, hy, hyr⟩ : ∃ y, xs (4 * i + 2) = zI y ∧ iR y := ⟨_, (zI_rev _).symm, iR_x _⟩
  have ea2 : ∀ ν, lawF L xs ν → ar i 2 ν = zI y := fun ν h => (ar_eq (j := 2) h (by omega)).trans hy
  show Wp 45 280 (0, [some (.ref 16), some (.int (ar i 1 (sA μ m l))), some (.int (ar i 2 (sA μ m l))), some (.ref 185), none], [], sA μ m l) _
  rw [ea _ hF, ea2 _ hF]
  have hA : ∀ ν, lawF L xs ν → (fun ν => [some (Value.ref 125), some (.int (ar i 1 ν)), some (.int (ar i 2 ν)), none]) ν = [some (.ref 125), some (.int (zI x)), some (.int (zI y)), none] := fun ν h => by
    show [some (Value.ref 125), some (.int (ar i 1 ν)), some (.int (ar i 2 ν)), none] = _
    rw [ea ν h, ea2 ν h]
  obtain ⟨k1, k2, k3, k4, _⟩ := jr_mid hb (ClR_0 hb)
  have H := hS.1.1
  refine w280 (P := fun v μ' => ∃ (sts : List (List (List Cd))) (nx : List (List Nat)), (xp = some (sts, nx) ∧ (0 ≤ x ∧ x < (sts.length : Int)) ∧ (0 ≤ y ∧ y ≤ 2)) ∧ v = zI (if y = 0 then ((sts.getD x.toNat []).length : Int) else if y = 1 then bP (ovO rs (rlS rs) (sts.getD x.toNat [])) else ((nx.getD x.toNat []).length : Int)) ∧ μ' = sA μ m l) (X := fun k μ' => (k = 1 ∧ xp = none ∧ μ' = sA (am_nX μ) m l) ∨ (k = 2 ∧ (∃ (sts : List (List (List Cd))) (nx : List (List Nat)), xp = some (sts, nx) ∧ ¬ (0 ≤ x ∧ x < (sts.length : Int))) ∧ μ' = sA (am_nX μ) m l) ∨ (k = 0 ∧ (∃ (sts : List (List (List Cd))) (nx : List (List Nat)), xp = some (sts, nx) ∧ (0 ≤ x ∧ x < (sts.length : Int)) ∧ ¬ (0 ≤ y ∧ y ≤ 2)) ∧ μ' = sA (am_nX μ) m l)) hF.2.2.1 (kl_state (d := 43) (Q := pI _ _) H hxr hyr hX (fun z => Or.inl ⟨rfl, z, rfl⟩) (fun sts nx z w => Or.inr (Or.inl ⟨rfl, ⟨sts, nx, z, w⟩, rfl⟩)) (fun sts nx z w w' => Or.inr (Or.inr ⟨rfl, ⟨sts, nx, z, w, w'⟩, rfl⟩)) (fun sts nx z w w' => ⟨sts, nx, ⟨z, w, w'⟩, rfl, rfl⟩)) (fun v μ' h => ?_) (fun k μ' h => ?_)
  · obtain ⟨sts, nx, ⟨hp, hr, hr2⟩, rfl, rfl⟩ := h
    subst hp
    exact jr_ok (F := Int32.toInt64) (B := 80000 + 20 * i) (R := fun ν => [some (.ref 125), some (.int (ar i 1 ν)), some (.int (ar i 2 ν)), none]) hb hA (ClR_0 hb) (by omega) (fun l0 Q hq => r_state (d := 43) k2 hxr hyr k1 (fun _ z => nomatch z) (fun _ _ _ hp' nr _ _ _ => by cases hp'; exact absurd hr nr) (fun _ _ _ hp' _ nr _ _ _ => by cases hp'; exact absurd hr2 nr) (fun m' _ _ hp' _ _ rf k fr => by cases hp'; exact hq m' l0 rf k fr (fun _ _ _ => rfl)))
  · rcases h with ⟨rfl, hp, rfl⟩ | ⟨rfl, ⟨sts, nx, hp, nr⟩, rfl⟩ | ⟨rfl, ⟨sts, nx, hp, hr, nr⟩, rfl⟩
    · subst hp
      exact Or.inl ⟨rfl, jr_thr (F := Int32.toInt64) (kk := 1) (B := 80000 + 20 * i) (R := fun ν => [some (.ref 125), some (.int (ar i 1 ν)), some (.int (ar i 2 ν)), none]) (by decide) hb hA (ClR_0 hb) (by omega) (fun l0 Q hq => r_state (d := 43) k3 hxr hyr k1 (fun m' _ rf k fr => hq m' l0 0 rf k fr) (fun _ _ _ z => nomatch z) (fun _ _ _ z => nomatch z) (fun _ _ _ z => nomatch z))⟩
    · subst hp
      exact Or.inr (Or.inl ⟨rfl, jr_thr (F := Int32.toInt64) (kk := 2) (B := 80000 + 20 * i) (R := fun ν => [some (.ref 125), some (.int (ar i 1 ν)), some (.int (ar i 2 ν)), none]) (by decide) hb hA (ClR_0 hb) (by omega) (fun l0 Q hq => r_state (d := 43) k3 hxr hyr k1 (fun _ z => nomatch z) (fun m' _ _ _ _ rf k fr => hq m' l0 0 rf k fr) (fun _ _ _ hp' hr _ _ _ _ => by cases hp'; exact absurd hr nr) (fun _ _ _ hp' hr _ _ _ _ => by cases hp'; exact absurd hr nr))⟩)
    · subst hp
      exact Or.inr (Or.inr ⟨rfl, jr_thr (F := Int32.toInt64) (kk := 3) (B := 80000 + 20 * i) (R := fun ν => [some (.ref 125), some (.int (ar i 1 ν)), some (.int (ar i 2 ν)), none]) (by decide) hb hA (ClR_0 hb) (by omega) (fun l0 Q hq => r_state (d := 43) k3 hxr hyr k1 (fun _ z => nomatch z) (fun _ _ _ hp' nr' _ _ _ => by cases hp'; exact absurd hr nr') (fun m' _ _ _ _ _ rf k fr => hq m' l0 0 rf k fr) (fun _ _ _ hp' _ hr2 _ _ _ => by cases hp'; exact absurd hr2 nr))⟩)
theorem jc_next (hL : L ≤ 2048) (hi : 4 * i + 4 ≤ L) (hb : JsB L xs i μ m l s q e rs X W W' N0 st xp) : lawC L xs 45 i 14 (JtP (i + 1)) (sA μ m l) := by
  have hF := hb.1
  obtain ⟨⟨hs, hS, ⟨hF4, _⟩, _, _, _, _, _, ⟨hz, hrg⟩, _⟩, hgo, hI, hX, h6, hRf, _⟩ := id hb.2.2.2
  obtain ⟨x, hx, hxr⟩ : ∃ x, xs (4 * i + 1) = zI x ∧ iR x := ⟨_, (zI_rev _).symm, iR_x _⟩
  have ea : ∀ ν, lawF L xs ν → ar i 1 ν = zI x := fun ν h => (ar_eq (j := 1) h (by omega)).trans hx
  obtain ⟨y, hy, hyr⟩ : ∃ y, xs (4 * i + 2) = zI y ∧ iR y := ⟨_, (zI_rev _).symm, iR_x _⟩
  have ea2 : ∀ ν, lawF L xs ν → ar i 2 ν = zI y := fun ν h => (ar_eq (j := 2) h (by omega)).trans hy
  show Wp 45 281 (0, [some (.ref 16), some (.int (ar i 1 (sA μ m l))), some (.int (ar i 2 (sA μ m l))), some (.ref 185), none], [], sA μ m l) _
  rw [ea _ hF, ea2 _ hF]
  have hA : ∀ ν, lawF L xs ν → (fun ν => [some (Value.ref 125), some (.int (ar i 1 ν)), some (.int (ar i 2 ν)), none]) ν = [some (.ref 125), some (.int (zI x)), some (.int (zI y)), none] := fun ν h => by
    show [some (Value.ref 125), some (.int (ar i 1 ν)), some (.int (ar i 2 ν)), none] = _
    rw [ea ν h, ea2 ν h]
  obtain ⟨k1, k2, k3, k4, _⟩ := jr_mid hb (ClR_0 hb)
  have H := hS.1.1
  refine w281 (P := fun v μ' => ∃ (sts : List (List (List Cd))) (nx : List (List Nat)), (xp = some (sts, nx) ∧ ((0 ≤ x ∧ x < (sts.length : Int)) ∧ 0 ≤ y ∧ y < ((nx.getD x.toNat []).length : Int))) ∧ v = zI ((nx.getD x.toNat []).getD y.toNat 0 : Int) ∧ μ' = sA μ m l) (X := fun k μ' => (k = 1 ∧ xp = none ∧ μ' = sA (am_nX μ) m l) ∨ (k = 2 ∧ (∃ (sts : List (List (List Cd))) (nx : List (List Nat)), xp = some (sts, nx) ∧ ¬ ((0 ≤ x ∧ x < (sts.length : Int)) ∧ 0 ≤ y ∧ y < ((nx.getD x.toNat []).length : Int))) ∧ μ' = sA (am_nX μ) m l)) hF.2.2.1 (kl_next (d := 43) (Q := pI _ _) H hxr hyr hX (fun z => Or.inl ⟨rfl, z, rfl⟩) (fun sts nx z w => Or.inr ⟨rfl, ⟨sts, nx, z, w⟩, rfl⟩) (fun sts nx z w => ⟨sts, nx, ⟨z, w⟩, rfl, rfl⟩)) (fun v μ' h => ?_) (fun k μ' h => ?_)
  · obtain ⟨sts, nx, ⟨hp, hr⟩, rfl, rfl⟩ := h
    subst hp
    exact jr_ok (F := Int32.toInt64) (B := 80000 + 20 * i) (R := fun ν => [some (.ref 125), some (.int (ar i 1 ν)), some (.int (ar i 2 ν)), none]) hb hA (ClR_0 hb) (by omega) (fun l0 Q hq => r_next (d := 43) k2 hxr hyr k1 (fun _ z => nomatch z) (fun _ _ _ hp' nr _ _ _ => by cases hp'; exact absurd hr nr) (fun m' _ _ hp' _ rf k fr => by cases hp'; exact hq m' l0 rf k fr (fun _ _ _ => rfl)))
  · rcases h with ⟨rfl, hp, rfl⟩ | ⟨rfl, ⟨sts, nx, hp, nr⟩, rfl⟩
    · subst hp
      exact Or.inl ⟨rfl, jr_thr (F := Int32.toInt64) (kk := 1) (B := 80000 + 20 * i) (R := fun ν => [some (.ref 125), some (.int (ar i 1 ν)), some (.int (ar i 2 ν)), none]) (by decide) hb hA (ClR_0 hb) (by omega) (fun l0 Q hq => r_next (d := 43) k3 hxr hyr k1 (fun m' _ rf k fr => hq m' l0 0 rf k fr) (fun _ _ _ z => nomatch z) (fun _ _ _ z => nomatch z))⟩
    · subst hp
      exact Or.inr ⟨rfl, jr_thr (F := Int32.toInt64) (kk := 2) (B := 80000 + 20 * i) (R := fun ν => [some (.ref 125), some (.int (ar i 1 ν)), some (.int (ar i 2 ν)), none]) (by decide) hb hA (ClR_0 hb) (by omega) (fun l0 Q hq => r_next (d := 43) k3 hxr hyr k1 (fun _ z => nomatch z) (fun m' _ _ _ _ rf k fr => hq m' l0 0 rf k fr) (fun _ _ _ hp' hr _ _ _ => by cases hp'; exact absurd hr nr))⟩
theorem jc_value (hL : L ≤ 2048) (hi : 4 * i + 4 ≤ L) (hb : JsB L xs i μ m l s q e rs X W W' N0 st xp) : lawC L xs 45 i 15 (JtP (i + 1)) (sA μ m l) := by
  have hF := hb.1
  obtain ⟨⟨hs, hS, ⟨hF4, _⟩, _, _, _, _, _, ⟨hz, hrg⟩, _⟩, hgo, hI, hX, h6, hRf, _⟩ := id hb.2.2.2
  obtain ⟨x, hx, hxr⟩ : ∃ x, xs (4 * i + 1) = zI x ∧ iR x := ⟨_, (zI_rev _).symm, iR_x _⟩
  have ea : ∀ ν, lawF L xs ν → ar i 1 ν = zI x := fun ν h => (ar_eq (j := 1) h (by omega)).trans hx
  show Wp 45 282 (0, [some (.ref 16), some (.int (ar i 1 (sA μ m l))), some (.ref 185), none], [], sA μ m l) _
  rw [ea _ hF]
  obtain ⟨k1, k2, k3, k4, _⟩ := jr_mid hb (ClR_0 hb)
  have H := hS.1.1
  have e89 : ∀ sts nx, xp = some (sts, nx) → m 106 13 = m 125 89 := fun sts nx hp => by
    subst hp
    exact (dd_eq hX k1).1
  refine w282 (P := fun v μ' => ∃ (sts : List (List (List Cd))) (nx : List (List Nat)), (xp = some (sts, nx) ∧ m 106 13 = 0 ∧ (0 ≤ x ∧ x < (sts.length : Int))) ∧ v = zI (m 121 x) ∧ μ' = sA μ m l) (X := fun k μ' => (k = 1 ∧ (∀ sts nx, xp = some (sts, nx) → ¬ m 106 13 = 0) ∧ μ' = sA (am_nX μ) m l) ∨ (k = 2 ∧ (∃ (sts : List (List (List Cd))) (nx : List (List Nat)), xp = some (sts, nx) ∧ m 106 13 = 0 ∧ ¬ (0 ≤ x ∧ x < (sts.length : Int))) ∧ μ' = sA (am_nX μ) m l)) hF.2.2.1 (kl_value (d := 43) (Q := pI _ _) H hxr hX (fun z => Or.inl ⟨rfl, z, rfl⟩) (fun sts nx z w w' => Or.inr ⟨rfl, ⟨sts, nx, z, w, w'⟩, rfl⟩) (fun sts nx z w w' => ⟨sts, nx, ⟨z, w, w'⟩, rfl, rfl⟩)) (fun v μ' h => ?_) (fun k μ' h => ?_)
  · obtain ⟨sts, nx, ⟨hp, h0, hr⟩, rfl, rfl⟩ := h
    have e0 := (e89 sts nx hp).symm.trans h0
    subst hp
    have hX2 : XkC rs m sts nx := hX
    have hv := dd_va hX2 k1 h0 x.toNat (by omega)
    rw [Int.toNat_of_nonneg hr.1] at hv
    rw [hv]
    exact jr_ok (F := Int32.toInt64) (B := 80000 + 20 * i) (R := fun ν => [some (.ref 125), some (.int (ar i 1 ν)), none]) (A := [some (.ref 125), some (.int (zI x)), none]) hb (fun ν h => by rw [ea ν h]) (ClR_0 hb) (by omega) (fun l0 Q hq => r_value (d := 43) k2 hxr k1 (fun _ z _ _ _ => absurd e0 (z sts nx rfl)) (fun _ _ _ hp' _ nr _ _ _ => by cases hp'; exact absurd hr nr) (fun m' _ _ _ _ _ rf k fr => hq m' l0 rf k fr (fun _ _ _ => rfl)))
  · rcases h with ⟨rfl, hn, rfl⟩ | ⟨rfl, ⟨sts, nx, hp, h0, nr⟩, rfl⟩
    · exact Or.inl ⟨rfl, jr_thr (F := Int32.toInt64) (kk := 1) (B := 80000 + 20 * i) (R := fun ν => [some (.ref 125), some (.int (ar i 1 ν)), none]) (A := [some (.ref 125), some (.int (zI x)), none]) (by decide) hb (fun ν h => by rw [ea ν h]) (ClR_0 hb) (by omega) (fun l0 Q hq => r_value (d := 43) k3 hxr k1 (fun m' _ rf k fr => hq m' l0 0 rf k fr) (fun _ sts nx hp z _ _ _ _ => absurd ((e89 sts nx hp).trans z) (hn sts nx hp)) (fun _ sts nx hp z _ _ _ _ => absurd ((e89 sts nx hp).trans z) (hn sts nx hp)))⟩
    · have e0 := (e89 sts nx hp).symm.trans h0
      subst hp
      exact Or.inr ⟨rfl, jr_thr (F := Int32.toInt64) (kk := 2) (B := 80000 + 20 * i) (R := fun ν => [some (.ref 125), some (.int (ar i 1 ν)), none]) (A := [some (.ref 125), some (.int (zI x)), none]) (by decide) hb (fun ν h => by rw [ea ν h]) (ClR_0 hb) (by omega) (fun l0 Q hq => r_value (d := 43) k3 hxr k1 (fun _ z _ _ _ => absurd e0 (z sts nx rfl)) (fun m' _ _ _ _ _ rf k fr => hq m' l0 0 rf k fr) (fun _ _ _ hp' _ hr _ _ _ => by cases hp'; exact absurd hr nr))⟩
theorem jc_best (hL : L ≤ 2048) (hi : 4 * i + 4 ≤ L) (hb : JsB L xs i μ m l s q e rs X W W' N0 st xp) : lawC L xs 45 i 16 (JtP (i + 1)) (sA μ m l) := by
  have hF := hb.1
  obtain ⟨⟨hs, hS, ⟨hF4, _⟩, _, _, _, _, _, ⟨hz, hrg⟩, _⟩, hgo, hI, hX, h6, hRf, _⟩ := id hb.2.2.2
  obtain ⟨x, hx, hxr⟩ : ∃ x, xs (4 * i + 1) = zI x ∧ iR x := ⟨_, (zI_rev _).symm, iR_x _⟩
  have ea : ∀ ν, lawF L xs ν → ar i 1 ν = zI x := fun ν h => (ar_eq (j := 1) h (by omega)).trans hx
  show Wp 45 283 (0, [some (.ref 16), some (.int (ar i 1 (sA μ m l))), some (.ref 185), none], [], sA μ m l) _
  rw [ea _ hF]
  obtain ⟨k1, k2, k3, k4, _⟩ := jr_mid hb (ClR_0 hb)
  have H := hS.1.1
  have e89 : ∀ sts nx, xp = some (sts, nx) → m 106 13 = m 125 89 := fun sts nx hp => by
    subst hp
    exact (dd_eq hX k1).1
  refine w283 (P := fun v μ' => ∃ (sts : List (List (List Cd))) (nx : List (List Nat)), (xp = some (sts, nx) ∧ m 106 13 = 0 ∧ (0 ≤ x ∧ x < (sts.length : Int)) ∧ BsI (fun b => m 121 (b : Int)) (m 121 x) (nx.getD x.toNat []) (m 122 x)) ∧ v = zI (m 122 x) ∧ μ' = sA μ m l) (X := fun k μ' => (k = 1 ∧ (∀ sts nx, xp = some (sts, nx) → ¬ m 106 13 = 0) ∧ μ' = sA (am_nX μ) m l) ∨ (k = 2 ∧ (∃ (sts : List (List (List Cd))) (nx : List (List Nat)), xp = some (sts, nx) ∧ m 106 13 = 0 ∧ ¬ (0 ≤ x ∧ x < (sts.length : Int))) ∧ μ' = sA (am_nX μ) m l)) hF.2.2.1 (kl_best (d := 43) (Q := pI _ _) H hxr hX (fun z => Or.inl ⟨rfl, z, rfl⟩) (fun sts nx z w w' => Or.inr ⟨rfl, ⟨sts, nx, z, w, w'⟩, rfl⟩) (fun sts nx z w w' b => ⟨sts, nx, ⟨z, w, w', b⟩, rfl, rfl⟩)) (fun v μ' h => ?_) (fun k μ' h => ?_)
  · obtain ⟨sts, nx, ⟨hp, h0, hr, hbs⟩, rfl, rfl⟩ := h
    have e0 := (e89 sts nx hp).symm.trans h0
    subst hp
    have hX2 : XkC rs m sts nx := hX
    have hva := dd_va hX2 k1 h0
    have hv := hva x.toNat (by omega)
    rw [Int.toNat_of_nonneg hr.1] at hv
    have hN := (hX2.2.1.2 x.toNat (by omega)).2.2.2.1
    have hbs' := BsI_nx (v' := fun b : Nat => m 182 (b : Int)) (fun b hb => hva b (hN b hb)) hbs
    rw [hv] at hbs'
    exact jr_ok (F := Int32.toInt64) (B := 80000 + 20 * i) (R := fun ν => [some (.ref 125), some (.int (ar i 1 ν)), none, none, none]) (A := [some (.ref 125), some (.int (zI x)), none, none, none]) hb (fun ν h => by rw [ea ν h]) (ClR_0 hb) (by omega) (fun l0 Q hq => r_best (d := 43) k2 hxr k1 (fun _ z _ _ _ => absurd e0 (z sts nx rfl)) (fun _ _ _ hp' _ nr _ _ _ => by cases hp'; exact absurd hr nr) (fun m' _ _ y hp' _ _ hb' rf k fr => by
      cases hp'
      rw [BsI_uni hb' hbs']
      exact hq m' l0 rf k fr (fun _ _ _ => rfl)))
  · rcases h with ⟨rfl, hn, rfl⟩ | ⟨rfl, ⟨sts, nx, hp, h0, nr⟩, rfl⟩
    · exact Or.inl ⟨rfl, jr_thr (F := Int32.toInt64) (kk := 1) (B := 80000 + 20 * i) (R := fun ν => [some (.ref 125), some (.int (ar i 1 ν)), none, none, none]) (A := [some (.ref 125), some (.int (zI x)), none, none, none]) (by decide) hb (fun ν h => by rw [ea ν h]) (ClR_0 hb) (by omega) (fun l0 Q hq => r_best (d := 43) k3 hxr k1 (fun m' _ rf k fr => hq m' l0 0 rf k fr) (fun _ sts nx hp z _ _ _ _ => absurd ((e89 sts nx hp).trans z) (hn sts nx hp)) (fun _ sts nx _ hp z _ _ _ _ _ => absurd ((e89 sts nx hp).trans z) (hn sts nx hp)))⟩
    · have e0 := (e89 sts nx hp).symm.trans h0
      subst hp
      exact Or.inr ⟨rfl, jr_thr (F := Int32.toInt64) (kk := 2) (B := 80000 + 20 * i) (R := fun ν => [some (.ref 125), some (.int (ar i 1 ν)), none, none, none]) (A := [some (.ref 125), some (.int (zI x)), none, none, none]) (by decide) hb (fun ν h => by rw [ea ν h]) (ClR_0 hb) (by omega) (fun l0 Q hq => r_best (d := 43) k3 hxr k1 (fun _ z _ _ _ => absurd e0 (z sts nx rfl)) (fun m' _ _ _ _ _ rf k fr => hq m' l0 0 rf k fr) (fun _ _ _ _ hp' _ hr _ _ _ _ => by cases hp'; exact absurd hr nr))⟩
end LCB
