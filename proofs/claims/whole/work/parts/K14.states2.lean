/-! ===== the class's states: clear, look; a state that can come again ===== -/
/-- the table of the class's states -/
def TbC (m : PM) (k N : Nat) (ov : Nat → Prop) (g : Nat → Nat → Int) (mn : Nat → Nat → Nat) (nx : List (List Nat)) : Prop := (m 106 0 = (k : Int) ∧ m 106 1 = (N : Int) ∧ N ≤ 300) ∧ ∀ i : Nat, i < N → m 114 (i : Int) = bP (ov i) ∧ (m 115 (i : Int) = ((nx.getD i []).length : Int) ∧ (nx.getD i []).length ≤ 40) ∧ (∀ j : Nat, j < (nx.getD i []).length → m 116 (40 * (i : Int) + (j : Int)) = ((nx.getD i []).getD j 0 : Int)) ∧ (∀ y, y ∈ nx.getD i [] → y < N) ∧ (k = 2 → (m 117 (i : Int) = (mn i 0 : Int) ∧ mn i 0 ≤ 1000) ∧ (m 118 (i : Int) = (mn i 1 : Int) ∧ mn i 1 ≤ 1000) ∧ (m 119 (i : Int) = g i 0 ∧ -2 ≤ g i 0 ∧ g i 0 ≤ 100) ∧ m 120 (i : Int) = g i 1 ∧ -2 ≤ g i 1 ∧ g i 1 ≤ 100)
theorem TbC_cg {m m' : PM} {k N : Nat} {ov : Nat → Prop} {g : Nat → Nat → Int} {mn : Nat → Nat → Nat} {nx : List (List Nat)} (e : ∀ c j, (114 ≤ c ∧ c ≤ 120) ∨ (c = 106 ∧ (j = 0 ∨ j = 1)) → m' c j = m c j) (h : TbC m k N ov g mn nx) : TbC m' k N ov g mn nx := by
  obtain ⟨⟨a1, a2, a3⟩, h2⟩ := h
  refine ⟨⟨by rw [e _ _ (by omega)]; exact a1, by rw [e _ _ (by omega)]; exact a2, a3⟩, fun i hi => ?_⟩
  obtain ⟨b1, b2, b3, b4, b5⟩ := h2 i hi
  refine ⟨by rw [e _ _ (by omega)]; exact b1, by rw [e _ _ (by omega)]; exact b2, fun j hj => by rw [e _ _ (by omega)]; exact b3 j hj, b4, fun h => ?_⟩
  obtain ⟨c1, c2, c3, c4⟩ := b5 h
  exact ⟨by rw [e _ _ (by omega)]; exact c1, by rw [e _ _ (by omega)]; exact c2, by rw [e _ _ (by omega)]; exact c3, by rw [e _ _ (by omega)]; exact c4⟩
section CRT
variable {d : Nat} {Q : Option Value ⊕ Nat → am_Mem → Prop} {μ : am_Mem} {l : PM} {k N : Nat} {ov : Nat → Prop} {g : Nat → Nat → Int} {mn : Nat → Nat → Nat} {nx : List (List Nat)}
theorem gD_nl {L : List Nat} {j : Nat} (h : j < L.length) : L.getD j 0 ∈ L := (mem_gD L 0 _).mpr ⟨j, h, rfl⟩
theorem nd_bd {L : List Nat} {N : Nat} (h : L.Nodup) (hb : ∀ x, x ∈ L → x < N) : L.length ≤ N := by
  have := List.Nodup.length_le_of_subset h (l₂ := List.range N) (fun x hx => List.mem_range.mpr (hb x hx))
  rwa [List.length_range] at this
/-- from a state on: what has been come to -/
def QuI (m0 : PM) (N : Nat) (nx : List (List Nat)) (n : Nat) (R : List Nat) (m : PM) : Prop := (∀ c j, ¬ (c = 123 ∨ c = 124) → m c j = m0 c j) ∧ m 123 0 = (n : Int) ∧ (∀ i : Nat, i < R.length → m 123 ((i : Int) + 1) = (R.getD i 0 : Int)) ∧ (n :: R).Nodup ∧ (∀ a, a ∈ R → a < N ∧ Rea nx n a) ∧ ∀ i : Nat, i < N → (m 124 (i : Int) = 0 ∨ m 124 (i : Int) = 1) ∧ (m 124 (i : Int) = 1 ↔ i ∈ R)
theorem k_returns {m0 : PM} {n : Nat} (H : CS μ) (hT : TbC m0 k N ov g mn nx) (hn : n < N)
    (hy : ∀ m' : PM, Rea nx n n → (∀ c j, ¬ (c = 123 ∨ c = 124) → m' c j = m0 c j) → Q (.inl (some (.int (zI 1)))) (sA μ m' l)) (hno : ∀ m' : PM, ¬ Rea nx n n → (∀ c j, ¬ (c = 123 ∨ c = 124) → m' c j = m0 c j) → Q (.inl (some (.int (zI 0)))) (sA μ m' l)) :
    Wp d 81 (0, [some (.ref 106), some (.int (zI (n : Int))), none, none, none, none, none], [], sA μ m0 l) Q := by
  obtain ⟨⟨a1, a2, a3⟩, a4⟩ := id hT
  -- going on
  have go : ∀ (r : Nat) (p : Nat) (m : PM) (R : List Nat) (o4 o5 o6 : Option Value), N - p ≤ r → QuI m0 N nx n R m → p ≤ R.length + 1 → (∀ i, i < p → ∀ b, b ∈ nx.getD ((n :: R).getD i 0) [] → ¬ b = n ∧ b ∈ R) → Wp d 81 (34, [some (.ref 106), some (.int (zI (n : Int))), some (.int (zI ((R.length : Int) + 1))), some (.int (zI (p : Int))), o4, o5, o6], [], sA μ m l) Q := by
    intro r
    induction r with
    | zero =>
      intro p m R o4 o5 o6 hr hQ hp hd
      obtain ⟨q1, q2, q3, q4, q5, q6⟩ := id hQ
      have hl := nd_bd q4 (fun x hx => by
        rcases List.mem_cons.mp hx with e | hx
        · rw [e]; exact hn
        · exact (q5 x hx).1)
      rw [List.length_cons] at hl
      refine K81_34 H ⟨⟨by omega, by omega⟩, ⟨by omega, by omega⟩, fun z => hno m (fun hR => ?_) q1, fun z => absurd (by omega) z⟩
      have all : ∀ b, Rea nx n b → b ∈ R := fun b hb => by
        have hb : Relation.TransGen (StX nx) n b := hb
        induction hb with
        | single h => exact (hd 0 (by omega) _ h).2
        | tail h1 h ih =>
          obtain ⟨i, hi, ei⟩ := (mem_gD R 0 _).mp (ih h1)
          refine (hd (i + 1) (by omega) _ ?_).2
          have e : (n :: R).getD (i + 1) 0 = R.getD i 0 := by
            rw [List.getD_eq_getElem?_getD, List.getD_eq_getElem?_getD, List.getElem?_cons_succ]
          rw [e, ei]
          exact h
      exact absurd (all n hR) (List.nodup_cons.mp q4).1
    | succ r ih =>
      intro p m R o4 o5 o6 hr hQ hp hd
      obtain ⟨q1, q2, q3, q4, q5, q6⟩ := id hQ
      have hl := nd_bd q4 (fun x hx => by
        rcases List.mem_cons.mp hx with e | hx
        · rw [e]; exact hn
        · exact (q5 x hx).1)
      rw [List.length_cons] at hl
      refine K81_34 H ⟨⟨by omega, by omega⟩, ⟨by omega, by omega⟩, fun z => hno m (fun hR => ?_) q1, fun z => ⟨fun y => absurd y (by omega), fun _ => ⟨⟨by omega, by omega⟩, ?_⟩⟩⟩
      · have all : ∀ b, Rea nx n b → b ∈ R := fun b hb => by
          have hb : Relation.TransGen (StX nx) n b := hb
          induction hb with
          | single h => exact (hd 0 (by omega) _ h).2
          | tail h1 h ih =>
            obtain ⟨i, hi, ei⟩ := (mem_gD R 0 _).mp (ih h1)
            refine (hd (i + 1) (by omega) _ ?_).2
            have e : (n :: R).getD (i + 1) 0 = R.getD i 0 := by
              rw [List.getD_eq_getElem?_getD, List.getD_eq_getElem?_getD, List.getElem?_cons_succ]
            rw [e, ei]
            exact h
        exact absurd (all n hR) (List.nodup_cons.mp q4).1
      · -- state p of the queue
        obtain ⟨f, ef, fN, fe⟩ : ∃ f : Nat, (n :: R).getD p 0 = f ∧ f < N ∧ m 123 (p : Int) = (f : Int) := by
          by_cases y : p = 0
          · exact ⟨n, by rw [y]; rfl, hn, by rw [y]; exact q2⟩
          · obtain ⟨i, rfl⟩ : ∃ i, p = i + 1 := ⟨p - 1, by omega⟩
            have e : (n :: R).getD (i + 1) 0 = R.getD i 0 := by
              rw [List.getD_eq_getElem?_getD, List.getD_eq_getElem?_getD, List.getElem?_cons_succ]
            refine ⟨R.getD i 0, e, (q5 _ (gD_nl (by omega))).1, ?_⟩
            rw [← q3 i (by omega)]
            rfl
        have hreach : f = n ∨ Rea nx n f := by
          have hm : f ∈ n :: R := (mem_gD (n :: R) 0 f).mpr ⟨p, by rw [List.length_cons]; omega, ef⟩
          rcases List.mem_cons.mp hm with e | hx
          · exact Or.inl e
          · exact Or.inr (q5 f hx).2
        have stp : ∀ b, b ∈ nx.getD f [] → Rea nx n b := fun b hb => by
          rcases hreach with e | e
          · rw [e] at hb
            exact Relation.TransGen.single hb
          · exact Relation.TransGen.tail e hb
        obtain ⟨_, ⟨b2, b2'⟩, b3, b4, _⟩ := a4 f fN
        rw [fe]
        have inner : ∀ (h j : Nat) (m1 : PM) (R1 : List Nat) (o6 : Option Value), j + h = (nx.getD f []).length → QuI m0 N nx n R1 m1 → (∃ L, R1 = R ++ L) → (∀ b, b ∈ (nx.getD f []).take j → ¬ b = n ∧ b ∈ R1) → Wp d 81 (57, [some (.ref 106), some (.int (zI (n : Int))), some (.int (zI ((R1.length : Int) + 1))), some (.int (zI (p : Int))), some (.int (zI (f : Int))), some (.int (zI (j : Int))), o6], [], sA μ m1 l) Q := by
          intro h
          induction h with
          | zero =>
            intro j m1 R1 o6 hj hQ1 hL hdj
            obtain ⟨p1, p2, p3, p4, p5, p6⟩ := id hQ1
            have e115 : m1 115 (f : Int) = ((nx.getD f []).length : Int) := (p1 _ _ (by omega)).trans b2
            obtain ⟨L, eL⟩ := hL
            have hRl : R.length ≤ R1.length := by rw [eL, List.length_append]; omega
            refine K81_57 H ⟨⟨by omega, by omega⟩, ⟨by omega, by omega⟩, by rw [e115]; exact ⟨by omega, by omega⟩, fun _ => ?_, fun z => absurd (by rw [e115]; omega) z⟩
            have z := ih (p + 1) m1 R1 (some (.int (zI (f : Int)))) (some (.int (zI (j : Int)))) o6 (by omega) hQ1 (by omega) (fun i hi b hb => ?_)
            · rw [show ((p + 1 : Nat) : Int) = (p : Int) + 1 by omega] at z
              exact z
            · have e1 : (n :: R1).getD i 0 = (n :: R).getD i 0 := by
                rw [eL, show n :: (R ++ L) = (n :: R) ++ L from rfl, List.getD_eq_getElem?_getD, List.getElem?_append_left (by rw [List.length_cons]; omega), ← List.getD_eq_getElem?_getD]
              rw [e1] at hb
              by_cases y : i = p
              · rw [y, ef] at hb
                refine hdj b ?_
                rw [show j = (nx.getD f []).length by omega, List.take_length]
                exact hb
              · obtain ⟨c1, c2⟩ := hd i (by omega) b hb
                exact ⟨c1, by rw [eL]; exact List.mem_append_left _ c2⟩
          | succ h ihh =>
            intro j m1 R1 o6 hj hQ1 hL hdj
            obtain ⟨p1, p2, p3, p4, p5, p6⟩ := id hQ1
            have hjl : j < (nx.getD f []).length := by omega
            have hmem : (nx.getD f []).getD j 0 ∈ nx.getD f [] := gD_nl hjl
            generalize hb0 : (nx.getD f []).getD j 0 = b at hmem
            have hbN := b4 b hmem
            have e115 : m1 115 (f : Int) = ((nx.getD f []).length : Int) := (p1 _ _ (by omega)).trans b2
            have e116 : m1 116 (40 * (f : Int) + (j : Int)) = (b : Int) := (p1 _ _ (by omega)).trans ((b3 j hjl).trans (by rw [hb0]))
            have htk : (nx.getD f []).take (j + 1) = (nx.getD f []).take j ++ [b] := by
              have z : (nx.getD f []).take (j + 1) = (nx.getD f []).take j ++ [(nx.getD f []).getD j 0] := by
                rw [List.take_succ_eq_append_getElem hjl]
                congr 2
                rw [List.getD_eq_getElem?_getD (l := nx.getD f []), List.getElem?_eq_getElem hjl]
                rfl
              rw [z, hb0]
            have hl1 := nd_bd p4 (fun x hx => by
              rcases List.mem_cons.mp hx with e | hx
              · rw [e]; exact hn
              · exact (p5 x hx).1)
            rw [List.length_cons] at hl1
            refine K81_57 H ?_
            rw [e115, e116]
            refine ⟨⟨by omega, by omega⟩, ⟨by omega, by omega⟩, ⟨by omega, by omega⟩, fun z => absurd z (by omega), fun _ => ⟨⟨by omega, by omega⟩, ⟨by omega, by omega⟩, ⟨by omega, by omega⟩, fun hbn v1 ev1 => ?_, fun z v3 ev3 => hy m1 ?_ p1⟩⟩
            · rw [ev1]
              have hbn' : ¬ b = n := fun e => hbn (by rw [e])
              obtain ⟨r1, r2⟩ := p6 b hbN
              refine ⟨⟨by omega, by omega⟩, by rcases r1 with e | e <;> rw [e] <;> exact ⟨by decide, by decide⟩, fun z => ?_, fun z => ?_⟩
              · have z1 : m1 124 (b : Int) = 1 := by
                  rcases r1 with e | e
                  · exact absurd e z
                  · exact e
                have w := ihh (j + 1) m1 R1 (some (.int (zI (b : Int)))) (by omega) hQ1 hL (fun x hx => by
                  rw [htk] at hx
                  rcases List.mem_append.mp hx with hx | hx
                  · exact hdj x hx
                  · rw [List.mem_singleton.mp hx]
                    exact ⟨hbn', r2.mp z1⟩)
                rw [show ((j + 1 : Nat) : Int) = (j : Int) + 1 by omega] at w
                exact w
              · have z0 : m1 124 (b : Int) = 0 := Classical.byContradiction z
                have hbR : ¬ b ∈ R1 := fun h => by rw [r2.mpr h] at z0; exact absurd z0 (by decide)
                have hnd2 : (n :: (R1 ++ [b])).Nodup := by
                  refine List.nodup_cons.mpr ⟨fun h => ?_, List.nodup_append.mpr ⟨(List.nodup_cons.mp p4).2, by simp, fun x hx y hy e => ?_⟩⟩
                  · rcases List.mem_append.mp h with h | h
                    · exact (List.nodup_cons.mp p4).1 h
                    · exact hbn' (List.mem_singleton.mp h).symm
                  · rw [List.mem_singleton.mp hy] at e
                    exact hbR (e ▸ hx)
                have hl2 := nd_bd hnd2 (fun x hx => by
                  rcases List.mem_cons.mp hx with e | hx
                  · rw [e]; exact hn
                  · rcases List.mem_append.mp hx with hx | hx
                    · exact (p5 x hx).1
                    · rw [List.mem_singleton.mp hx]; exact hbN)
                rw [List.length_cons, List.length_append, List.length_singleton] at hl2
                refine ⟨⟨by omega, by omega⟩, fun m2 e2 => ?_⟩
                have w := ihh (j + 1) m2 (R1 ++ [b]) (some (.int (zI (b : Int)))) (by omega) ?_ ?_ (fun x hx => ?_)
                · rw [show ((j + 1 : Nat) : Int) = (j : Int) + 1 by omega, show (((R1 ++ [b]).length : Nat) : Int) = (R1.length : Int) + 1 by rw [List.length_append, List.length_singleton]; omega] at w
                  exact w
                · refine ⟨fun c i hc => ?_, ?_, fun i hi => ?_, hnd2, fun x hx => ?_, fun i hi => ?_⟩
                  · rw [e2, up_c (by omega), up_c (by omega)]
                    exact p1 c i hc
                  · rw [e2, up_i (by omega), up_c (by omega)]
                    exact p2
                  · rw [List.length_append, List.length_singleton] at hi
                    by_cases y : i = R1.length
                    · rw [e2, y, up_s, List.getD_eq_getElem?_getD, List.getElem?_append_right (Nat.le_refl _), Nat.sub_self]
                      rfl
                    · rw [e2, up_i (by omega), up_c (by omega), p3 i (by omega), List.getD_eq_getElem?_getD, List.getD_eq_getElem?_getD, List.getElem?_append_left (by omega)]
                  · rcases List.mem_append.mp hx with hx | hx
                    · exact p5 x hx
                    · rw [List.mem_singleton.mp hx]
                      exact ⟨hbN, stp b hmem⟩
                  · rw [e2, up_c (by omega)]
                    by_cases y : i = b
                    · rw [y, up_s]
                      exact ⟨Or.inr rfl, fun _ => List.mem_append_right _ (List.mem_singleton.mpr rfl), fun _ => rfl⟩
                    · rw [up_i (by omega)]
                      obtain ⟨t1, t2⟩ := p6 i hi
                      exact ⟨t1, t2.trans ⟨fun h => List.mem_append_left _ h, fun h => by
                        rcases List.mem_append.mp h with h | h
                        · exact h
                        · exact absurd (List.mem_singleton.mp h) y⟩⟩
                · obtain ⟨L, eL⟩ := hL
                  exact ⟨L ++ [b], by rw [eL, List.append_assoc]⟩
                · rw [htk] at hx
                  rcases List.mem_append.mp hx with hx | hx
                  · exact ⟨(hdj x hx).1, List.mem_append_left _ (hdj x hx).2⟩
                  · rw [List.mem_singleton.mp hx]
                    exact ⟨hbn', List.mem_append_right _ (List.mem_singleton.mpr rfl)⟩
            · have e : b = n := by
                have := Classical.byContradiction z
                omega
              rw [e] at hmem
              exact stp n hmem
        exact inner (nx.getD f []).length 0 m R o6 (by omega) hQ ⟨[], by rw [List.append_nil]⟩ (fun b hb => absurd hb (by rw [List.take_zero]; exact List.not_mem_nil))
  -- first all marks are taken away
  have clr : ∀ (r i : Nat) (m : PM), i + r = N → (∀ c j, ¬ (c = 123 ∨ c = 124) → m c j = m0 c j) → (∀ j : Nat, j < i → m 124 (j : Int) = 0) → Wp d 81 (2, [some (.ref 106), some (.int (zI (n : Int))), some (.int (zI (i : Int))), none, none, none, none], [], sA μ m l) Q := by
    intro r
    induction r with
    | zero =>
      intro i m hi hm hc
      have e1 : m 106 1 = (N : Int) := (hm _ _ (by omega)).trans a2
      refine K81_2 H ⟨⟨by omega, by omega⟩, by rw [e1]; exact ⟨by omega, by omega⟩, fun _ m1 e => ?_, fun z => absurd (by rw [e1]; omega) z⟩
      have z := go N 0 m1 [] none none none (by omega) ?_ (by omega) (fun i hi => absurd hi (Nat.not_lt_zero _))
      · exact z
      · refine ⟨fun c j h => ?_, ?_, fun i hi => absurd hi (Nat.not_lt_zero _), by simp, fun a ha => absurd ha List.not_mem_nil, fun j hj => ?_⟩
        · rw [e, up_c (by omega)]
          exact hm c j h
        · rw [e, up_s]
        · rw [e, up_c (by omega), hc j (by omega)]
          exact ⟨Or.inl rfl, fun h => absurd h (by decide), fun h => absurd h List.not_mem_nil⟩
    | succ r ih =>
      intro i m hi hm hc
      have e1 : m 106 1 = (N : Int) := (hm _ _ (by omega)).trans a2
      refine K81_2 H ⟨⟨by omega, by omega⟩, by rw [e1]; exact ⟨by omega, by omega⟩, fun z => absurd z (by rw [e1]; omega), fun _ => ⟨⟨by omega, by omega⟩, fun m1 e => ?_⟩⟩
      have z := ih (i + 1) m1 (by omega) (fun c j h => by rw [e, up_c (by omega)]; exact hm c j h) (fun j hj => ?_)
      · rw [show ((i + 1 : Nat) : Int) = (i : Int) + 1 by omega] at z
        exact z
      · by_cases y : j = i
        · rw [e, y, up_s]
        · rw [e, up_i (by omega)]
          exact hc j (by omega)
  exact K81_0 H (clr N 0 m0 (by omega) (fun _ _ _ => rfl) (fun j hj => absurd hj (Nat.not_lt_zero _)))
end CRT
