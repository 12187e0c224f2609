/-! ===== the class's terms: signAt, numberOf ===== -/
section CSA
variable {d : Nat} {Q : Option Value ⊕ Nat → am_Mem → Prop} {X : Int → List Int → Prop} {μ : am_Mem} {m l : PM} {T q N P S a : Nat}
theorem Cg_tl (hX : XP X) (hI : CtT X q N S m T) {u : Nat} {p : List Cd} (hu : u < T) (cu : Cg X q m u p) (hp : GdC p) : m (q + 3) (u : Int) = ((tx p).length : Int) := by
  obtain ⟨cs, d1, d2⟩ := hI.2.2 u hu
  rw [CgR_fun hX _ _ _ _ _ d1 cu] at d2
  obtain ⟨⟨f, hf⟩, hg, _⟩ := hp
  rw [d2, tl_tx f p hf hg]
theorem gDc_0 {s : Int} {r : List Int} : (s :: r).getD 0 0 = s := rfl
theorem gDc_s {s : Int} {r : List Int} {i : Nat} : (s :: r).getD (i + 1) 0 = r.getD i 0 := by
  rw [List.getD_eq_getElem?_getD, List.getD_eq_getElem?_getD, List.getElem?_cons_succ]
theorem dropP {ps : List (List Cd)} {k : Nat} (h : k < ps.length) : txP (ps.drop k) = 32 :: (tx (ps.getD k []) ++ txP (ps.drop (k + 1))) := by
  have e : ps.drop k = ps.getD k [] :: ps.drop (k + 1) := by
    rw [List.drop_eq_getElem_cons h, List.getD_eq_getElem?_getD, List.getElem?_eq_getElem h]
    rfl
  rw [e, txP_c]
theorem k_signAt0 {x1 x2 : Int} (H : CS μ) (TS_ : TS μ q N P S) (hq : TQ q N P S) (ha : a = 23 ∨ a = 43) (h0 : am_F μ 84 0 = a) (hX : XP X) (hN : NmS X a m) (hI : CtT X q N S m T) : ∀ (n : Nat) (Q : Option Value ⊕ Nat → am_Mem → Prop) (u : Nat) (p : List Cd) (x5 : Int) (i : Nat) (o6 o7 : Option Value), p.length ≤ n → u < T → Cg X q m u p → GdC p → (tx p).length ≤ 5000 → 0 ≤ x5 → x5 + (n : Int) ≤ 2000 → i < (tx p).length → Q (.inl (some (.int (zI ((tx p).getD i 0))))) (sA μ m l) → Wp (d + 1) 100 (20, [some (.ref 84), some (.int (zI x1)), some (.int (zI x2)), some (.int (zI (u : Int))), some (.int (zI (i : Int))), some (.int (zI x5)), o6, o7], [], sA μ m l) Q := by
  intro n
  induction n with
  | zero =>
    intro Q u p x5 i o6 o7 hn _ _ hp
    obtain ⟨⟨f, hf⟩, _⟩ := hp
    have e : p = [] := List.eq_nil_of_length_eq_zero (by omega)
    rw [e] at hf
    cases f <;> exact absurd hf (fun z => z)
  | succ n ih =>
    intro Q u p x5 i o6 o7 hn hu cu hp hl hx0 hx5 hi hk
    have hTN := hI.1.2.1
    have h58 : N ≤ 58192 := by omega
    match p, hp, cu, hn, hl, hi, hk with
    | [], hp, _, _, _, _, _ =>
      obtain ⟨⟨f, hf⟩, _⟩ := hp
      cases f <;> exact absurd hf (fun z => z)
    | (b, w) :: rest, hp, cu, hn, hl, hi, hk =>
    obtain ⟨hw, ps, p1, p4, p2, p3⟩ := GdC_u hp
    obtain ⟨f, hf⟩ := GdC_f p3
    rw [← p1, ← p2] at cu hk hn hl hi
    rw [← p1] at p4
    obtain ⟨c1, c2, c3⟩ := Cg_un (fun p hp => (hf p hp).1) cu
    obtain ⟨r1, r2, r3, r4⟩ := hN _ _ c1
    by_cases z0 : ps.length = 0
    · have e0 : ps = [] := List.eq_nil_of_length_eq_zero z0
      rw [e0] at hk hi
      have e1 : tx ((([] : List (List Cd)).length, w) :: ([] : List (List Cd)).flatten) = w := tx_0 w
      rw [e1] at hk hi
      have := r4 i hi
      refine K100_20 H TS_ hq ha h0 ⟨⟨by omega, by omega⟩, fun z => absurd z (by omega), fun _ => ⟨⟨by omega, by omega⟩, by rw [c2]; exact ⟨by omega, by omega⟩, fun _ => ⟨⟨by omega, by omega⟩, ⟨by omega, by omega⟩, fun v2 ev2 => ?_⟩, fun z => absurd (by rw [c2]; omega) z⟩⟩
      rw [ev2, r4 i hi]
      exact hk
    · have h1 : 1 ≤ ps.length := by omega
      have eT := tx_N (w := w) h1 p3
      rw [eT] at hk hi hl
      have hlT : (txP ps).length ≤ 5000 := by
        rw [List.length_cons, List.length_append, List.length_append] at hl
        omega
      refine K100_20 H TS_ hq ha h0 ⟨⟨by omega, by omega⟩, fun z => absurd z (by omega), fun _ => ⟨⟨by omega, by omega⟩, by rw [c2]; exact ⟨by omega, by omega⟩, fun z => absurd (by rw [c2] at z; omega) z0, fun _ => ⟨⟨by omega, by omega⟩, fun zi => ?_, fun zi => ?_⟩⟩⟩
      · obtain ⟨j, rfl⟩ : ∃ j, i = j + 1 := ⟨i - 1, by omega⟩
        rw [gDc_s] at hk
        have ej : ((j + 1 : Nat) : Int) - 1 = (j : Int) := by omega
        rw [ej]
        refine ⟨⟨by omega, by omega⟩, ⟨by omega, by omega⟩, fun v3 ev3 => ⟨⟨by omega, by omega⟩, ⟨by omega, by omega⟩, fun y v4 ev4 => ?_, fun y => ?_⟩⟩
        · -- behind the name: the parts
          rw [r2] at ev3 ev4
          rw [ev4]
          obtain ⟨g, rfl⟩ : ∃ g, j = w.length + g := ⟨j - w.length, by omega⟩
          rw [List.append_assoc, gDi_r] at hk
          rw [show ((w.length + g : Nat) : Int) - (w.length : Int) = (g : Int) by omega]
          rw [List.length_cons, List.length_append, List.length_append] at hi
          have loop : ∀ (h k g : Nat), k + h = ps.length → g < (txP (ps.drop k) ++ [41]).length → (txP (ps.drop k)).length ≤ 5000 → Q (.inl (some (.int (zI ((txP (ps.drop k) ++ [41]).getD g 0))))) (sA μ m l) → Wp (d + 1) 100 (99, [some (.ref 84), some (.int (zI x1)), some (.int (zI x2)), some (.int (zI (u : Int))), some (.int (zI (g : Int))), some (.int (zI x5)), some (.int (zI (m q (u : Int)))), some (.int (zI (k : Int)))], [], sA μ m l) Q := by
            intro h
            induction h with
            | zero =>
              intro k g hk2 hg hlk hk'
              have ek : k = ps.length := by omega
              rw [ek, List.drop_length] at hg hk'
              have e0 : g = 0 := by
                have : g < 1 := hg
                omega
              rw [e0] at hk'
              refine K100_99 H TS_ hq ha h0 ⟨⟨by omega, by omega⟩, ⟨by omega, by omega⟩, by rw [c2]; exact ⟨by omega, by omega⟩, fun _ => ?_, fun z => absurd (by rw [c2]; omega) z⟩
              refine K100_160 H TS_ hq ha h0 ⟨⟨by omega, by omega⟩, ⟨by omega, by omega⟩, by rw [c2]; exact ⟨by omega, by omega⟩, fun z => absurd (by rw [c2]; omega) z, fun _ => hk'⟩
            | succ h ihh =>
              intro k g hk2 hg hlk hk'
              have hkl : k < ps.length := by omega
              obtain ⟨v, v1, v2, v3⟩ := c3 k hkl
              have hm : ps.getD k [] ∈ ps := gD_in hkl
              have htl := Cg_tl hX hI (by omega) v3 (p3 _ hm)
              rw [dropP hkl] at hg hk' hlk
              rw [List.length_cons, List.length_append] at hlk
              refine K100_99 H TS_ hq ha h0 ⟨⟨by omega, by omega⟩, ⟨by omega, by omega⟩, by rw [c2]; exact ⟨by omega, by omega⟩, fun z => absurd hkl (by rw [c2] at z; omega), fun _ => ?_⟩
              rw [v1, htl]
              rw [List.cons_append, List.append_assoc] at hk' hg
              refine ⟨⟨by omega, by omega⟩, ⟨by omega, by omega⟩, ⟨by rw [List.length_cons, List.length_append, List.length_append] at hg; omega, by rw [List.length_cons, List.length_append, List.length_append, List.length_singleton] at hg; omega⟩, ⟨by omega, by omega⟩, fun y => ?_, fun y w1 ew1 => ?_⟩
              · refine K100_160 H TS_ hq ha h0 ⟨⟨by omega, by omega⟩, ⟨by omega, by omega⟩, by rw [c2]; exact ⟨by omega, by omega⟩, fun _ => ⟨⟨by omega, by omega⟩, fun zg => ?_, fun zg => ?_⟩, fun z => absurd (by rw [c2]; omega) z⟩
                · obtain ⟨g', rfl⟩ : ∃ g', g = g' + 1 := ⟨g - 1, by omega⟩
                  rw [gDc_s, gDi_l (by omega)] at hk'
                  refine ⟨⟨by omega, by omega⟩, fun w1 ew1 => ?_⟩
                  rw [ew1, v1, show ((g' + 1 : Nat) : Int) - 1 = (g' : Int) by omega]
                  have hlen : (ps.getD k []).length ≤ n := by
                    have := List.Sublist.length_le (List.sublist_flatten_of_mem hm)
                    rw [List.length_cons] at hn
                    omega
                  exact ih Q v (ps.getD k []) (x5 + 1) g' _ _ hlen (by omega) v3 (p3 _ hm) (by omega) (by omega) (by omega) (by omega) hk'
                · have e0 : g = 0 := by omega
                  rw [e0] at hk'
                  exact hk'
              · obtain ⟨g', rfl⟩ : ∃ g', g = (tx (ps.getD k [])).length + g' + 1 := ⟨g - 1 - (tx (ps.getD k [])).length, by omega⟩
                rw [gDc_s, gDi_r] at hk'
                rw [List.length_cons, List.length_append] at hg
                rw [ew1, show (((tx (ps.getD k [])).length + g' + 1 : Nat) : Int) - (1 + ((tx (ps.getD k [])).length : Int)) = (g' : Int) by omega]
                have go := ihh (k + 1) g' (by omega) (by omega) (by omega) hk'
                rw [show ((k + 1 : Nat) : Int) = (k : Int) + 1 by omega] at go
                exact go
          refine loop ps.length 0 g (by omega) ?_ (by rw [List.drop_zero]; exact hlT) (by rw [List.drop_zero]; exact hk)
          rw [List.drop_zero, List.length_append]
          omega
        · rw [r2] at ev3
          rw [List.append_assoc, gDi_l (by omega)] at hk
          refine ⟨⟨by omega, by omega⟩, fun v5 ev5 => ?_⟩
          rw [ev5, r4 j (by omega)]
          exact hk
      · have e0 : i = 0 := by omega
        rw [e0] at hk
        exact hk
/-- a sign of a term's text -/
theorem k_signAt {u : Nat} {p : List Cd} {k : Int} (H : CS μ) (TS_ : TS μ q N P S) (hq : TQ q N P S) (ha : a = 23 ∨ a = 43) (h0 : am_F μ 84 0 = a) (hX : XP X) (hN : NmS X a m) (hI : CtT X q N S m T) (hu : u < T) (cu : Cg X q m u p) (hp : GdC p) (hl : (tx p).length ≤ 5000) (hpl : p.length ≤ 2000) (hk : 0 ≤ k ∧ k ≤ 2147483647) (hQ : Q (.inl (some (.int (zI ((tx p).getD k.toNat 0))))) (sA μ m l)) : Wp (d + 1) 100 (0, [some (.ref 84), some (.int (zI (u : Int))), some (.int (zI k)), none, none, none, none, none], [], sA μ m l) Q := by
  have e3 := Cg_tl hX hI hu cu hp
  have hTN := hI.1.2.1
  refine K100_0 H TS_ hq ha h0 ⟨⟨by omega, by omega⟩, ⟨by omega, by omega⟩, by rw [e3]; exact ⟨by omega, by omega⟩, fun z => ?_, fun z => ?_⟩
  · rw [e3] at z
    obtain ⟨i, rfl⟩ : ∃ i : Nat, k = (i : Int) := ⟨k.toNat, by omega⟩
    exact k_signAt0 H TS_ hq ha h0 hX hN hI 2000 Q u p 0 i _ _ hpl hu cu hp hl (by decide) (by decide) (by omega) hQ
  · rw [e3] at z
    rw [gD_out (by omega)] at hQ
    exact hQ
theorem glF_c {v c : Int} {cs : List Int} (h : 0 ≤ v) : glF v (c :: cs) = glF (gl1 v c) cs := by
  show (if v < 0 then v else glF (gl1 v c) cs) = _
  rw [if_neg (by omega)]
/-- a goal's number -/
theorem k_numberOf {u : Nat} {p : List Cd} (H : CS μ) (TS_ : TS μ q N P S) (hq : TQ q N P S) (ha : a = 23 ∨ a = 43) (h0 : am_F μ 84 0 = a) (hX : XP X) (hN : NmS X a m) (hI : CtT X q N S m T) (hu : u < T) (cu : Cg X q m u p) (hp : GdC p) (hl : (tx p).length ≤ 5000) (hQ : Q (.inl (some (.int (zI (glT p))))) (sA μ m l)) : Wp (d + 1) 99 (0, [some (.ref 84), some (.int (zI (u : Int))), none, none, none, none], [], sA μ m l) Q := by
  have e3 := Cg_tl hX hI hu cu hp
  have hTN := hI.1.2.1
  match p, hp, cu, hQ, e3, hl with
  | [], hp, _, _, _, _ =>
    obtain ⟨⟨f, hf⟩, _⟩ := hp
    cases f <;> exact absurd hf (fun z => z)
  | (b, w) :: rest, hp, cu, hQ, e3, hl =>
  obtain ⟨hw, ps, p1, p4, p2, p3⟩ := GdC_u hp
  obtain ⟨f, hf⟩ := GdC_f p3
  rw [← p1, ← p2] at cu hQ e3 hl
  rw [← p1] at p4
  obtain ⟨c1, c2, c3⟩ := Cg_un (fun p hp => (hf p hp).1) cu
  obtain ⟨r1, r2, r3, r4⟩ := hN _ _ c1
  by_cases z0 : ps.length = 0
  · have e0 : ps = [] := List.eq_nil_of_length_eq_zero z0
    rw [e0] at hQ e3 hl
    have e1 : tx ((([] : List (List Cd)).length, w) :: ([] : List (List Cd)).flatten) = w := tx_0 w
    rw [e1] at e3 hl
    have eg : glT ((([] : List (List Cd)).length, w) :: ([] : List (List Cd)).flatten) = if 4 ≤ w.length then -1 else if glF 0 w ≤ 100 then glF 0 w else -1 := rfl
    rw [eg] at hQ
    refine K99_0 H TS_ hq ha h0 ⟨⟨by omega, by omega⟩, by rw [c2]; exact ⟨by omega, by omega⟩, fun z => absurd (by rw [c2]; omega) z, fun _ => ⟨by rw [e3]; exact ⟨by omega, by omega⟩, fun z => ?_, fun z => ?_⟩⟩
    · rw [e3] at z ⊢
      rw [if_neg (by omega)] at hQ
      have loop : ∀ (g i : Nat) (v : Int) (o5 : Option Value), i + g = w.length → 0 ≤ v → v ≤ 999 → (i = 0 → v = 0) → (i = 1 → v ≤ 9) → (i = 2 → v ≤ 99) → glF 0 w = glF v (w.drop i) → Wp (d + 1) 99 (28, [some (.ref 84), some (.int (zI (u : Int))), some (.int (zI (w.length : Int))), some (.int (zI v)), some (.int (zI (i : Int))), o5], [], sA μ m l) Q := by
        intro g
        induction g with
        | zero =>
          intro i v o5 hi hv0 hv _ _ _ he
          rw [show i = w.length by omega, List.drop_length] at he
          have he' : glF 0 w = v := he
          rw [he'] at hQ
          refine K99_28 H TS_ hq ha h0 ⟨⟨by omega, by omega⟩, ⟨by omega, by omega⟩, fun _ => ⟨⟨by omega, by omega⟩, fun v1 ev1 => ?_⟩, fun y => absurd (by omega) y⟩
          rw [ev1]
          by_cases y : v ≤ 100
          · rw [if_pos y] at hQ
            rw [if_neg (by omega)]
            exact hQ
          · rw [if_neg y] at hQ
            rw [if_pos (by omega)]
            exact hQ
        | succ g ih =>
          intro i v o5 hi hv0 hv q0 q1 q2 he
          have hil : i < w.length := by omega
          have ed : w.drop i = w.getD i 0 :: w.drop (i + 1) := by
            rw [List.drop_eq_getElem_cons hil, List.getD_eq_getElem?_getD, List.getElem?_eq_getElem hil]
            rfl
          rw [ed, glF_c hv0] at he
          have sg := nm48 (hw.2 _ (gDi_in hil))
          have bad : ¬ (48 ≤ w.getD i 0 ∧ w.getD i 0 ≤ 57) → Q (.inl (some (.int (zI (-1))))) (sA μ m l) := fun y => by
            have e : gl1 v (w.getD i 0) = -1 := if_neg y
            rw [e, glF_n (show (-1 : Int) < 0 by decide)] at he
            rw [he, if_pos (by decide)] at hQ
            exact hQ
          refine K99_28 H TS_ hq ha h0 ⟨⟨by omega, by omega⟩, ⟨by omega, by omega⟩, fun y => absurd y (by omega), fun _ => ⟨⟨by omega, by omega⟩, ⟨by omega, by omega⟩, ⟨by omega, by omega⟩, fun v2 ev2 => ?_⟩⟩
          rw [r4 i hil] at ev2
          rw [ev2]
          refine ⟨⟨by omega, by omega⟩, fun y => bad (by omega), fun y => ⟨fun y2 v3 ev3 => ?_, fun y2 => bad (by omega)⟩⟩
          have e : gl1 v (w.getD i 0) = 10 * v + w.getD i 0 - 48 := if_pos ⟨by omega, by omega⟩
          rw [e] at he
          have go := ih (i + 1) v3 (some (.int (zI (w.getD i 0 - 48)))) (by omega) (by omega) (by omega) (fun h => absurd h (by omega)) (fun h => by have := q0 (by omega); omega) (fun h => by have := q1 (by omega); omega) (by rw [he, ev3]; congr 1; omega)
          rw [show ((i + 1 : Nat) : Int) = (i : Int) + 1 by omega] at go
          exact go
      exact loop w.length 0 0 none (by omega) (by decide) (by decide) (fun _ => rfl) (fun _ => by decide) (fun _ => by decide) rfl
    · rw [e3] at z
      rw [if_pos (by omega)] at hQ
      exact hQ
  · have eg : glT ((ps.length, w) :: ps.flatten) = -1 := by
      match ps, z0 with
      | p :: ps, _ =>
        show glT ((ps.length + 1, w) :: _) = -1
        rfl
    rw [eg] at hQ
    exact K99_0 H TS_ hq ha h0 ⟨⟨by omega, by omega⟩, by rw [c2]; exact ⟨by omega, by omega⟩, fun _ => hQ, fun z => absurd (by rw [c2]; omega) z⟩
end CSA
