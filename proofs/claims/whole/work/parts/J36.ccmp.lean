/-! ===== the class's names and terms against each other ===== -/
/-- the signs of the names -/
def NmS (X : Int → List Int → Prop) (a : Nat) (m : PM) : Prop := ∀ x w, X x w → (0 ≤ x ∧ x < 1024) ∧ m (a + 3) (x + 1) - m (a + 3) x = (w.length : Int) ∧ (0 ≤ m (a + 3) x ∧ m (a + 3) x + (w.length : Int) ≤ 2058) ∧ ∀ i : Nat, i < w.length → m (a + 2) (m (a + 3) x + (i : Int)) = w.getD i 0
section CNC
variable {d : Nat} {Q : Option Value ⊕ Nat → am_Mem → Prop} {X : Int → List Int → Prop} {μ : am_Mem} {m l : PM} {a : Nat} {x y : Int} {w w' : List Int}
theorem k_ncmp (H : CS μ) (ha : a = 23 ∨ a = 43) (hN : NmS X a m) (hx : X x w) (hy : X y w') (hw : ∀ s, s ∈ w → ¬ nmV s = 0) (hw' : ∀ s, s ∈ w' → ¬ nmV s = 0)
    (k : ∀ v : Int, iR v → ((v < 0 ∧ nlt w w') ∨ (v = 0 ∧ w = w') ∨ (0 < v ∧ nlt w' w)) → Q (.inl (some (.int (zI v)))) (sA μ m l)) :
    Wp (d + 1) 52 (0, [some (.ref a), some (.int (zI x)), some (.int (zI y)), none, none], [], sA μ m l) Q := by
  obtain ⟨a1, a2, a3, a4⟩ := hN x w hx
  obtain ⟨b1, b2, b3, b4⟩ := hN y w' hy
  have sg : ∀ {w : List Int}, (∀ s, s ∈ w → ¬ nmV s = 0) → ∀ i, i < w.length → 48 ≤ w.getD i 0 ∧ w.getD i 0 ≤ 122 := fun {w} h i hi => nm48 (h _ (gDi_in hi))
  have loop : ∀ (f i : Nat) (x3 : Int), x3 = (if (w'.length : Int) < (w.length : Int) then (w'.length : Int) else (w.length : Int)) → (i : Int) + (f : Int) = x3 → (∀ j, j < i → w.getD j 0 = w'.getD j 0) → Wp (d + 1) 52 (17, [some (.ref a), some (.int (zI x)), some (.int (zI y)), some (.int (zI x3)), some (.int (zI (i : Int)))], [], sA μ m l) Q := by
    intro f
    induction f with
    | zero =>
      intro i x3 e3 hi he
      have h3 : x3 ≤ 2058 := by
        rw [e3]
        split <;> omega
      refine K52_17 H ha ⟨⟨by omega, by omega⟩, ⟨by omega, by omega⟩, fun _ => ⟨⟨by omega, by omega⟩, ⟨by omega, by omega⟩, fun v1 e1 => ⟨⟨by omega, by omega⟩, ⟨by omega, by omega⟩, fun v2 e2 => ?_⟩⟩, fun z => absurd (by omega) z⟩
      rw [a2] at e1
      rw [b2] at e2
      rw [e1, e2]
      refine k _ ⟨by omega, by omega⟩ ?_
      by_cases q : (w'.length : Int) < (w.length : Int)
      · rw [if_pos q] at e3
        have ei : i = w'.length := by omega
        exact Or.inr (Or.inr ⟨by omega, w'.length, Nat.le_refl _, by omega, fun j hj => (he j (by omega)).symm, Or.inl rfl⟩)
      · rw [if_neg q] at e3
        have ei : i = w.length := by omega
        by_cases q2 : w.length = w'.length
        · refine Or.inr (Or.inl ⟨by omega, List.ext_getElem q2 (fun j j1 j2 => ?_)⟩)
          have z := he j (by omega)
          rw [List.getD_eq_getElem?_getD, List.getD_eq_getElem?_getD, List.getElem?_eq_getElem j1, List.getElem?_eq_getElem j2] at z
          exact z
        · exact Or.inl ⟨by omega, w.length, Nat.le_refl _, by omega, fun j hj => he j (by omega), Or.inl rfl⟩
    | succ f ih =>
      intro i x3 e3 hi he
      have h3 : x3 ≤ (w.length : Int) ∧ x3 ≤ (w'.length : Int) := by
        rw [e3]
        split <;> omega
      have s1 := sg hw i (by omega)
      have s2 := sg hw' i (by omega)
      refine K52_17 H ha ⟨⟨by omega, by omega⟩, ⟨by omega, by omega⟩, fun z => absurd z (by omega), fun _ => ⟨⟨by omega, by omega⟩, ⟨by omega, by omega⟩, fun v3 ev3 => ⟨⟨by omega, by omega⟩, ⟨by omega, by omega⟩, fun v4 ev4 => ?_⟩⟩⟩
      rw [a4 i (by omega)] at ev3
      rw [b4 i (by omega)] at ev4
      refine ⟨⟨by omega, by omega⟩, ⟨by omega, by omega⟩, fun z => ?_, fun z v5 ev5 v6 ev6 => ?_⟩
      · have go := ih (i + 1) x3 e3 (by omega) (fun j hj => by
          by_cases y : j = i
          · rw [y]; omega
          · exact he j (by omega))
        rw [show ((i + 1 : Nat) : Int) = (i : Int) + 1 by omega] at go
        exact go
      · rw [a4 i (by omega)] at ev5
        rw [b4 i (by omega)] at ev6
        rw [ev5, ev6]
        refine k _ ⟨by omega, by omega⟩ ?_
        by_cases q : w.getD i 0 < w'.getD i 0
        · exact Or.inl ⟨by omega, i, by omega, by omega, he, Or.inr ⟨by omega, q⟩⟩
        · exact Or.inr (Or.inr ⟨by omega, i, by omega, by omega, fun j hj => (he j hj).symm, Or.inr ⟨by omega, by omega⟩⟩)
  refine K52_0 H ha ⟨⟨by omega, by omega⟩, ⟨by omega, by omega⟩, fun v1 e1 => ⟨⟨by omega, by omega⟩, ⟨by omega, by omega⟩, fun v2 e2 => ⟨⟨by omega, by omega⟩, ⟨by omega, by omega⟩, fun v3 e3 => ?_⟩⟩⟩
  rw [a2] at e1
  rw [b2] at e2
  rw [e1, e2] at e3
  have h3 : 0 ≤ v3 := by
    rw [e3]
    split <;> omega
  exact loop v3.toNat 0 v3 e3 (by omega) (fun j hj => absurd hj (Nat.not_lt_zero j))
end CNC
section CCM
variable {d : Nat} {Q : Option Value ⊕ Nat → am_Mem → Prop} {X : Int → List Int → Prop} {μ : am_Mem} {m l : PM} {T q N P S a : Nat}
theorem Cmp_sy {p p' : List Cd} {v : Int} (h : iR v) (z : (v < 0 ∧ TLt p p') ∨ (v = 0 ∧ p = p') ∨ (0 < v ∧ TLt p' p)) : Cmp p p' v := ⟨h, z⟩
theorem k_compare0 {x1 x2 : Int} (H : CS μ) (TS_ : TS μ q N P S) (hq : TQ q N P S) (ha : a = 23 ∨ a = 43) (h0 : am_F μ 84 0 = a) (hX : XP X) (hN : NmS X a m) (hI : CtT X q N S m T) : ∀ (n : Nat) (Q : Option Value ⊕ Nat → am_Mem → Prop) (u v : Nat) (p p' : List Cd) (x5 : Int) (o6 o7 o8 : Option Value), p.length ≤ n → u < T → v < T → Cg X q m u p → Cg X q m v p' → GdC p → GdC p' → 0 ≤ x5 → x5 + (n : Int) ≤ 2000 → (∀ y : Int, Cmp p p' y → Q (.inl (some (.int (zI y)))) (sA μ m l)) → Wp (d + 2) 98 (8, [some (.ref 84), some (.int (zI x1)), some (.int (zI x2)), some (.int (zI (u : Int))), some (.int (zI (v : Int))), some (.int (zI x5)), o6, o7, o8], [], sA μ m l) Q := by
  intro n
  induction n with
  | zero =>
    intro Q u v p p' x5 o6 o7 o8 hn _ _ _ _ hp
    obtain ⟨⟨f, hf⟩, _⟩ := hp
    have e : p = [] := List.eq_nil_of_length_eq_zero (by omega)
    rw [e] at hf
    cases f <;> exact absurd hf (fun z => z)
  | succ n ih =>
    intro Q u v p p' x5 o6 o7 o8 hn hu hv cu cv hp hp' hx0 hx5 hk
    have hTN := hI.1.2.1
    have h58 : N ≤ 58192 := by omega
    by_cases huv : u = v
    · rw [huv] at cu
      have e := CgR_fun hX _ _ _ _ _ cu cv
      refine K98_8 H TS_ hq ha h0 ⟨⟨by omega, by omega⟩, fun z => absurd z (by omega), fun _ => ⟨⟨by omega, by omega⟩, ⟨by omega, by omega⟩, fun _ => hk 0 ⟨⟨by decide, by decide⟩, Or.inr (Or.inl ⟨rfl, e⟩)⟩, fun z => absurd (by rw [huv]) z⟩⟩
    · have hne : ¬ p = p' := fun e => huv (by rw [e] at cu; exact Cg_in hX hI.2.1 hu hv cu cv)
      match p, p', hp, hp', cu, cv, hn, hne, hk with
      | [], _, hp, _, _, _, _, _, _ =>
        obtain ⟨⟨f, hf⟩, _⟩ := hp
        cases f <;> exact absurd hf (fun z => z)
      | _ :: _, [], _, hp', _, _, _, _, _ =>
        obtain ⟨⟨f, hf⟩, _⟩ := hp'
        cases f <;> exact absurd hf (fun z => z)
      | (b, w) :: rest, (b', w') :: rest', hp, hp', cu, cv, hn, hne, hk =>
      obtain ⟨hw, ps, p1, p4, p2, p3⟩ := GdC_u hp
      obtain ⟨hw', ps', p1', p4', p2', p3'⟩ := GdC_u hp'
      obtain ⟨f, hf⟩ := GdC_f p3
      obtain ⟨f', hf'⟩ := GdC_f p3'
      rw [← p1, ← p2] at cu hne hk hn
      rw [← p1', ← p2'] at cv hne hk
      rw [← p1] at p4
      rw [← p1'] at p4'
      obtain ⟨c1, c2, c3⟩ := Cg_un (fun p hp => (hf p hp).1) cu
      obtain ⟨c1', c2', c3'⟩ := Cg_un (fun p hp => (hf' p hp).1) cv
      have r1 := (hN _ _ c1).1
      have r1' := (hN _ _ c1').1
      -- names that differ
      have nm57 : (ps.length = 0 ∨ ps'.length = 0 ∨ ¬ w = w') → ∀ o6 o7 o8 : Option Value, Wp (d + 2) 98 (57, [some (.ref 84), some (.int (zI x1)), some (.int (zI x2)), some (.int (zI (u : Int))), some (.int (zI (v : Int))), some (.int (zI x5)), o6, o7, o8], [], sA μ m l) Q := by
        intro hcase o6 o7 o8
        refine K98_57 H TS_ hq ha h0 ⟨⟨by omega, by omega⟩, by rw [c2]; exact ⟨by omega, by omega⟩, fun v1 e1 => ⟨⟨by omega, by omega⟩, by rw [c2']; exact ⟨by omega, by omega⟩, fun v2 e2 => ?_⟩⟩
        rw [c2] at e1
        rw [c2'] at e2
        have b1 : v1 = 0 ∨ v1 = 1 := by rw [e1]; split <;> omega
        have b2 : v2 = 0 ∨ v2 = 1 := by rw [e2]; split <;> omega
        have f1 : v1 = 1 ↔ ps.length = 0 := by
          rw [e1]
          split <;> omega
        have f2 : v2 = 1 ↔ ps'.length = 0 := by
          rw [e2]
          split <;> omega
        refine ⟨⟨by omega, by omega⟩, fun z => ?_, fun z => hk _ ⟨⟨by omega, by omega⟩, ?_⟩⟩
        · refine ⟨fun y μ' => Wp (d + 2) 98 (119, [some (.ref 84), some (.int (zI x1)), some (.int (zI x2)), some (.int (zI (u : Int))), some (.int (zI (v : Int))), some (.int (zI x5)), some (.int (zI (v1 - v2))), o7, o8], [.int y], μ') Q, noX, ?_, fun _ _ z => z, fun _ _ z => z.elim⟩
          refine k_ncmp (Q := pI _ noX) H ha hN c1 c1' hw.2 hw'.2 (fun y hy hcmp => ?_)
          show Wp (d + 2) 98 (119, _, [.int (zI y)], _) Q
          refine K98_119 H TS_ hq ha h0 (hk y ⟨hy, ?_⟩)
          by_cases z0 : ps.length = 0
          · have z0' : ps'.length = 0 := by omega
            have e0 : ps = [] := List.eq_nil_of_length_eq_zero z0
            have e0' : ps' = [] := List.eq_nil_of_length_eq_zero z0'
            rw [e0, e0'] at hne ⊢
            have hnw : ¬ w = w' := fun e => hne (by rw [e])
            rcases hcmp with ⟨h1, h2⟩ | ⟨_, h2⟩ | ⟨h1, h2⟩
            · exact Or.inl ⟨h1, cmp_00 hw'.2 h2⟩
            · exact absurd h2 hnw
            · exact Or.inr (Or.inr ⟨h1, cmp_00 hw.2 h2⟩)
          · have z0' : ¬ ps'.length = 0 := by omega
            have hnw : ¬ w = w' := by
              rcases hcase with h | h | h
              · exact absurd h z0
              · exact absurd h z0'
              · exact h
            rcases hcmp with ⟨h1, h2⟩ | ⟨_, h2⟩ | ⟨h1, h2⟩
            · exact Or.inl ⟨h1, cmp_11 hw'.2 (by omega) p3 (by omega) p3' h2⟩
            · exact absurd h2 hnw
            · exact Or.inr (Or.inr ⟨h1, cmp_11 hw.2 (by omega) p3' (by omega) p3 h2⟩)
        · by_cases z0 : ps.length = 0
          · have z0' : ¬ ps'.length = 0 := by omega
            have e0 : ps = [] := List.eq_nil_of_length_eq_zero z0
            rw [e0]
            exact Or.inr (Or.inr ⟨by omega, cmp_10 hw (by omega) p3'⟩)
          · have z0' : ps'.length = 0 := by omega
            have e0' : ps' = [] := List.eq_nil_of_length_eq_zero z0'
            rw [e0']
            exact Or.inl ⟨by omega, cmp_10 hw' (by omega) p3⟩
      refine K98_8 H TS_ hq ha h0 ⟨⟨by omega, by omega⟩, fun z => absurd z (by omega), fun _ => ⟨⟨by omega, by omega⟩, ⟨by omega, by omega⟩, fun z => absurd (by omega) huv, fun _ => ⟨⟨by omega, by omega⟩, by rw [c2]; exact ⟨by omega, by omega⟩, fun z => nm57 (Or.inl (by omega)) _ _ _, fun z0 => ⟨⟨by omega, by omega⟩, by rw [c2']; exact ⟨by omega, by omega⟩, fun z => nm57 (Or.inr (Or.inl (by omega))) _ _ _, fun z0' => ⟨⟨by omega, by omega⟩, ⟨by omega, by omega⟩, fun z v1 e1 => ?_, fun z => nm57 (Or.inr (Or.inr fun e => z ?_)) _ _ _⟩⟩⟩⟩⟩
      · -- the same name: the parts
        rw [c2] at z0
        rw [c2'] at z0'
        rw [c2, c2'] at e1
        have ew : w = w' := hX.2.1 _ _ _ c1 (by rw [z]; exact c1')
        rw [← ew] at hk hne
        have hv1 : v1 ≤ (ps.length : Int) ∧ v1 ≤ (ps'.length : Int) ∧ (v1 = (ps.length : Int) ∨ v1 = (ps'.length : Int)) := by
          rw [e1]
          split <;> omega
        have loop : ∀ (g k : Nat) (o8 : Option Value), (k : Int) + (g : Int) = v1 → (∀ j, j < k → ps.getD j [] = ps'.getD j []) → Wp (d + 2) 98 (141, [some (.ref 84), some (.int (zI x1)), some (.int (zI x2)), some (.int (zI (u : Int))), some (.int (zI (v : Int))), some (.int (zI x5)), some (.int (zI v1)), some (.int (zI (k : Int))), o8], [], sA μ m l) Q := by
          intro g
          induction g with
          | zero =>
            intro k o8 hk' he
            refine K98_141 H TS_ hq ha h0 ⟨⟨by omega, by omega⟩, ⟨by omega, by omega⟩, fun _ => ?_, fun z => absurd (by omega) z⟩
            refine K98_180 H TS_ hq ha h0 ⟨⟨by omega, by omega⟩, ⟨by omega, by omega⟩, fun z => absurd (by omega) z, fun _ => ⟨⟨by omega, by omega⟩, ⟨by omega, by omega⟩, ?_⟩⟩
            rw [c2, c2']
            refine hk _ ⟨⟨by omega, by omega⟩, ?_⟩
            rcases Nat.lt_trichotomy ps.length ps'.length with y | y | y
            · have ek : k = ps.length := by omega
              have e := take_eqL (L := ps) (M := ps') (k := k) (by omega) (by omega) he
              rw [ek, List.take_length] at e
              have e2 : ps' = ps ++ ps'.drop ps.length := by
                conv => lhs; rw [← List.take_append_drop ps.length ps']
                rw [← e]
              have hq1 : 1 ≤ (ps'.drop ps.length).length := by rw [List.length_drop]; omega
              rw [e2] at p3' ⊢
              exact Or.inr (Or.inr ⟨by rw [List.length_append]; omega, cmp_ar (by omega) p3' hq1⟩)
            · exact absurd (by
                have e := take_eqL (L := ps) (M := ps') (k := k) (by omega) (by omega) he
                rw [show k = ps.length by omega, List.take_length, y, List.take_length] at e
                rw [e]) hne
            · have ek : k = ps'.length := by omega
              have e := take_eqL (L := ps') (M := ps) (k := k) (by omega) (by omega) (fun j hj => (he j hj).symm)
              rw [ek, List.take_length] at e
              have e2 : ps = ps' ++ ps.drop ps'.length := by
                conv => lhs; rw [← List.take_append_drop ps'.length ps]
                rw [← e]
              have hq1 : 1 ≤ (ps.drop ps'.length).length := by rw [List.length_drop]; omega
              rw [e2] at p3 ⊢
              exact Or.inl ⟨by rw [List.length_append]; omega, cmp_ar (by omega) p3 hq1⟩
          | succ g ihg =>
            intro k o8 hk' he
            obtain ⟨a, a1, a2, a3⟩ := c3 k (by omega)
            obtain ⟨b, b1, b2, b3⟩ := c3' k (by omega)
            refine K98_141 H TS_ hq ha h0 ⟨⟨by omega, by omega⟩, ⟨by omega, by omega⟩, fun z => absurd z (by omega), fun _ => ⟨⟨by omega, by omega⟩, ⟨by omega, by omega⟩, by rw [a1]; exact ⟨by omega, by omega⟩, by rw [b1]; exact ⟨by omega, by omega⟩, fun z => ?_, fun z => ?_⟩⟩
            · refine K98_180 H TS_ hq ha h0 ⟨⟨by omega, by omega⟩, ⟨by omega, by omega⟩, fun _ => ⟨⟨by omega, by omega⟩, ⟨by omega, by omega⟩, fun v1' e1' v2' e2' => ?_⟩, fun y => absurd (show ¬ (k : Int) = v1 by omega) y⟩
              rw [e1', e2', a1, b1]
              have m1 : ps.getD k [] ∈ ps := gD_in (by omega)
              have m2 : ps'.getD k [] ∈ ps' := gD_in (by omega)
              have hlen : (ps.getD k []).length ≤ n := by
                have := List.Sublist.length_le (List.sublist_flatten_of_mem m1)
                rw [List.length_cons] at hn
                omega
              refine ih Q a b (ps.getD k []) (ps'.getD k []) (x5 + 1) _ _ _ hlen (by omega) (by omega) a3 b3 (p3 _ m1) (p3' _ m2) (by omega) (by omega) (fun y hy => hk y ⟨hy.1, ?_⟩)
              have s1 := split_at (L := ps) (k := k) (by omega)
              have s2 := split_at (L := ps') (k := k) (by omega)
              have et := take_eqL (L := ps) (M := ps') (k := k) (by omega) (by omega) he
              rw [et] at s1
              rcases hy.2 with ⟨h1, h2⟩ | ⟨h1, h2⟩ | ⟨h1, h2⟩
              · refine Or.inl ⟨h1, ?_⟩
                rw [s1] at p3 ⊢
                rw [s2] at p3'
                conv => rhs; rw [s2]
                exact cmp_pt p3 p3' h2
              · exact absurd (by
                  rw [h2] at a3
                  have := Cg_in hX hI.2.1 (by omega) (by omega) a3 b3
                  rw [a1, b1, this]) z
              · refine Or.inr (Or.inr ⟨h1, ?_⟩)
                rw [s1] at p3 ⊢
                rw [s2] at p3'
                conv => lhs; rw [s2]
                exact cmp_pt p3' p3 h2
            · have ee : m (q + 2) (4 * (u : Int) + (k : Int)) = m (q + 2) (4 * (v : Int) + (k : Int)) := Classical.byContradiction z
              have eab : a = b := by rw [a1, b1] at ee; omega
              have go := ihg (k + 1) o8 (by omega) (fun j hj => by
                by_cases y : j = k
                · rw [y]
                  rw [eab] at a3
                  exact CgR_fun hX _ _ _ _ _ a3 b3
                · exact he j (by omega))
              rw [show ((k + 1 : Nat) : Int) = (k : Int) + 1 by omega] at go
              exact go
        exact loop v1.toNat 0 _ (by omega) (fun j hj => absurd hj (Nat.not_lt_zero j))
      · rw [e] at c1
        exact hX.2.2.1 _ _ _ c1 c1'
/-- two terms against each other -/
theorem k_compare {u v : Nat} {p p' : List Cd} (H : CS μ) (TS_ : TS μ q N P S) (hq : TQ q N P S) (ha : a = 23 ∨ a = 43) (h0 : am_F μ 84 0 = a) (hX : XP X) (hN : NmS X a m) (hI : CtT X q N S m T) (hu : u < T) (hv : v < T) (cu : Cg X q m u p) (cv : Cg X q m v p') (hp : GdC p) (hp' : GdC p') (hl : p.length ≤ 2000) (hk : ∀ y : Int, Cmp p p' y → Q (.inl (some (.int (zI y)))) (sA μ m l)) : Wp (d + 2) 98 (0, [some (.ref 84), some (.int (zI (u : Int))), some (.int (zI (v : Int))), none, none, none, none, none, none], [], sA μ m l) Q :=
  K98_0 H TS_ hq ha h0 (k_compare0 H TS_ hq ha h0 hX hN hI 2000 Q u v p p' 0 _ _ _ hl hu hv cu cv hp hp' (by decide) (by decide) hk)
end CCM
