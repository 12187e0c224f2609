/-! ===== the reference's calls: sign ===== -/
section RC3
variable {d : Nat} {μ : am_Mem} {Q : Option Value ⊕ Nat → am_Mem → Prop} {W : Int → Nat} {rs : List Rul} {L : List (List Cd)} {B : Nat} {m0 l0 : PM} {st : Option (List (List Cd))} {xp : Option (List (List (List Cd)) × List (List Nat))}
theorem sg_2 {x1 x2 x3 : Int} (h : ¬ (0 ≤ x1 ∧ x1 ≤ 5)) : sgO rs L st x1 x2 x3 = (2, 0) := by
  unfold sgO
  rw [if_pos h]
theorem sg_5 {x2 x3 : Int} : sgO rs L st 5 x2 x3 = if (0 ≤ x2 ∧ x2 < (L.length : Int)) ∧ 0 ≤ x3 then (0, (tx (L.getD x2.toNat [])).getD x3.toNat 0) else (3, 0) := by
  unfold sgO
  rw [if_neg (by decide), if_pos rfl]
theorem sg_n {x1 x2 x3 : Int} (h : 0 ≤ x1 ∧ x1 ≤ 5) (h5 : ¬ x1 = 5) : sgO rs L none x1 x2 x3 = (1, 0) := by
  unfold sgO
  rw [if_neg (fun z => z h), if_neg h5]
theorem sg_0 {s : List (List Cd)} {x2 x3 : Int} : sgO rs L (some s) 0 x2 x3 = if (0 ≤ x2 ∧ x2 < (s.length : Int)) ∧ 0 ≤ x3 then (0, (tx (s.getD x2.toNat [])).getD x3.toNat 0) else (3, 0) := by
  unfold sgO
  rw [if_neg (by decide), if_neg (by decide)]
  show (if (0 : Int) = 0 then _ else _) = _
  rw [if_pos rfl]
theorem sg_m {s : List (List Cd)} {x1 x2 x3 : Int} (h : 0 ≤ x1 ∧ x1 ≤ 5) (h5 : ¬ x1 = 5) (h0 : ¬ x1 = 0) : sgO rs L (some s) x1 x2 x3 = if ¬ (x1 - 1 < (L.length : Int)) ∨ x2 < 0 ∨ x3 < 0 then (3, 0) else cif (Evb rs (baA 0 s L [])) (if x2 < ((mvO rs L s (x1 - 1).toNat).length : Int) then (0, (tx ((mvO rs L s (x1 - 1).toNat).getD x2.toNat [])).getD x3.toNat 0) else (3, 0)) (4, 0) := by
  unfold sgO
  rw [if_neg (fun z => z h), if_neg h5]
  show (if x1 = 0 then _ else _) = _
  rw [if_neg h0]
theorem r_sign {x1 x2 x3 : Int} (H : RS μ) (hg : GoS rs) (hB80 : 80000 ≤ B) (hx1 : iR x1) (hx2 : iR x2) (hx3 : iR x3) (hI : RfP W rs L B m0 st xp)
    (hk : ∀ m' l' : PM, RfP W rs L B m' st xp → m' 125 0 = (sgO rs L st x1 x2 x3).1 → (∀ c j, ¬ WPb c j → m' c j = m0 c j) → (∀ c j, ¬ (c = 125 ∧ j = 57) → l' c j = l0 c j) → Q (.inl (some (.int (zI (sgO rs L st x1 x2 x3).2)))) (sA μ m' l')) :
    Wp (d + 13) 252 (0, [some (.ref 125), some (.int (zI x1)), some (.int (zI x2)), some (.int (zI x3)), none, none, none], [], sA μ m0 l0) Q := by
  obtain ⟨h1, h2, h3, h4, h5⟩ := id hI
  have hL := h1.2.2.2.2
  have hL4 := hL.2.1
  have h72 : iR (m0 125 72) := by
    cases st with
    | none => rw [show m0 125 72 = 0 from h3]; exact iR_0
    | some s => rw [h3.1]; exact iR_1
  have h41 : ¬ m0 125 4 = 0 := by rw [h2]; decide
  have fin : ∀ (m' : PM) (k v : Int), (∀ c j, ¬ (c = 125 ∧ j = 0) → m' c j = m0 c j) → m' 125 0 = k → sgO rs L st x1 x2 x3 = (k, v) → Q (.inl (some (.int (zI v)))) (sA μ m' l0) := by
    intro m' k v f e es
    have := hk m' l0 (RfP_0 f hI) (by rw [es]; exact e) (fun c j z => f c j (f1_0 (wp_f z))) (fun _ _ _ => rfl)
    rw [es] at this
    exact this
  refine R252_0 H ⟨by rw [h2]; exact iR_1, ⟨fun z => absurd z h41, fun _ => ⟨hx1, trivial⟩⟩, fun v1 ev1 => ⟨hx1, ⟨fun _ => trivial, fun _ => ⟨h72, trivial⟩⟩, fun v2 ev2 v3 ev3 => ?_⟩⟩
  rw [if_neg h41] at ev1
  rw [if_pos h41] at ev3
  by_cases hin : 0 ≤ x1 ∧ x1 ≤ 5
  · rw [if_pos hin, if_neg (by decide)] at ev1
    rw [ev1, if_pos (by decide)] at ev3
    by_cases h5' : x1 = 5
    · rw [if_pos h5'] at ev2
      rw [ev2, if_pos (by decide)] at ev3
      rw [ev1, ev2, ev3]
      refine ⟨fun _ m4 e4 => ⟨fun z => absurd h5' z, fun _ => ?_⟩, fun z => absurd (by decide) z⟩
      have f4 : ∀ c j, ¬ (c = 125 ∧ j = 0) → m4 c j = m0 c j := fun c j z => by rw [e4]; exact up_o z
      have hL5 : RlR m4 L := (RfP_0 f4 hI).1.2.2.2.2
      have f10 : ∀ {k : Int} {m10 : PM}, m10 = up m4 125 0 k → ∀ c j, ¬ (c = 125 ∧ j = 0) → m10 c j = m0 c j := fun {k m10} e c j z => by rw [e, up_o z]; exact f4 c j z
      subst h5'
      rcases isRl hL5 x2 with ⟨ev, hr⟩ | ⟨ev, hr⟩
      · refine ⟨hx2, by rw [hL5.1]; exact ⟨by omega, by omega⟩, by rw [ev]; exact iR_1, ⟨fun _ => trivial, fun _ => ⟨hx3, trivial⟩⟩, fun v9 ev9 => ?_⟩
        rw [if_neg (by rw [ev]; decide)] at ev9
        by_cases q3 : x3 < 0
        · rw [if_pos q3] at ev9
          rw [ev9]
          refine ⟨⟨fun _ => trivial, fun z => absurd (by decide) z⟩, fun m10 e10 v11 ev11 => ?_⟩
          rw [if_pos (by decide)] at ev11
          rw [ev11]
          exact fin m10 3 0 (f10 e10) (by rw [e10, up_s]) (by rw [sg_5, if_neg (fun z => by omega)])
        · rw [if_neg q3] at ev9
          rw [ev9]
          refine ⟨⟨fun _ => trivial, fun _ => ⟨hx3, fun _ => ⟨⟨by omega, by omega⟩, trivial⟩, fun _ => trivial⟩⟩, fun m10 e10 v11 ev11 => ?_⟩
          rw [if_neg (by decide)] at ev11
          obtain ⟨l1, l2, l3, l4⟩ := hL.2.2.2 x2.toNat (by omega)
          have ev : v11 = (tx (L.getD x2.toNat [])).getD x3.toNat 0 := by
            rw [ev11]
            by_cases q : x3 < 3000
            · rw [if_pos q, ← l1 x3.toNat (by omega)]
              congr 1
              omega
            · rw [if_neg q, gD_out (by omega)]
          rw [ev]
          exact fin m10 0 _ (f10 e10) (by rw [e10, up_s]) (by rw [sg_5, if_pos ⟨hr, by omega⟩])
      · refine ⟨hx2, by rw [hL5.1]; exact ⟨by omega, by omega⟩, by rw [ev]; exact iR_0, ⟨fun _ => trivial, fun _ => ⟨hx3, trivial⟩⟩, fun v9 ev9 => ?_⟩
        rw [if_pos ev] at ev9
        rw [ev9]
        refine ⟨⟨fun _ => trivial, fun z => absurd (by decide) z⟩, fun m10 e10 v11 ev11 => ?_⟩
        rw [if_pos (by decide)] at ev11
        rw [ev11]
        exact fin m10 3 0 (f10 e10) (by rw [e10, up_s]) (by rw [sg_5, if_neg (fun z => hr z.1)])
    · rw [if_neg h5'] at ev2
      cases st with
      | none =>
        have e72 : m0 125 72 = 0 := h3
        rw [if_pos e72] at ev2
        rw [ev2, if_neg (fun z => z rfl)] at ev3
        rw [ev1, ev2, ev3]
        refine ⟨fun z => absurd z (by decide), fun _ m12 e12 => ?_⟩
        exact fin m12 1 0 (fun c j z => by rw [e12, up_o z]) (by rw [e12, up_s]) (sg_n hin h5')
      | some s =>
        have e72 : m0 125 72 = 1 := h3.1
        rw [if_neg (by rw [e72]; decide)] at ev2
        rw [ev2, if_pos (by decide)] at ev3
        rw [ev1, ev2, ev3]
        refine ⟨fun _ m4 e4 => ⟨fun _ => ⟨fun h0 => ?_, fun h0 => ?_⟩, fun z => absurd h5' z⟩, fun z => absurd (by decide) z⟩
        · /- a move -/
          have f4 : ∀ c j, ¬ (c = 125 ∧ j = 0) → m4 c j = m0 c j := fun c j z => by rw [e4]; exact up_o z
          have hI4 := RfP_0 f4 hI
          have hL5 : RlR m4 L := hI4.1.2.2.2.2
          have f3' : ∀ c j, ¬ (c = 125 ∧ j = 0) → up m4 125 0 3 c j = m0 c j := fun c j z => by rw [up_o z]; exact f4 c j z
          have bad : (¬ (x1 - 1 < (L.length : Int)) ∨ x2 < 0 ∨ x3 < 0) → Q (.inl (some (.int (zI 0)))) (sA μ (up m4 125 0 3) l0) := fun q => fin _ 3 0 f3' (up_s _ _ _ _) (by rw [sg_m hin h5' h0, if_pos q])
          rcases isRl hL5 (x1 - 1) with ⟨ev, hr⟩ | ⟨ev, hr⟩
          · refine ⟨⟨by omega, by omega⟩, by rw [hL5.1]; exact ⟨by omega, by omega⟩, by rw [ev]; exact iR_1, fun z => absurd (ev.symm.trans z) (by decide), fun _ => ⟨hx2, fun q => bad (Or.inr (Or.inl q)), fun q2 => ⟨hx3, fun q3 => ?_, fun q3 => bad (Or.inr (Or.inr (by omega)))⟩⟩⟩
            refine ⟨fun y μ' => Wp (d + 13) 252 (248, [some (.ref 125), some (.int (zI x1)), some (.int (zI x2)), some (.int (zI x3)), some (.int (zI 1)), some (.int (zI 1)), some (.int (zI (x1 - 1)))], [.int y], μ') Q, noX, ?_, fun _ _ z => z, fun _ _ z => z.elim⟩
            refine c_works (d := d + 2) (Q := pI _ noX) H hg hB80 hI4 (fun m5 l5 hE hI5 e75 hw5 f5 fl5 => ?_) (fun m5 l5 hno hI5 f5 fl5 => ?_)
            · obtain ⟨r, hr1⟩ : ∃ r : Nat, x1 - 1 = (r : Int) := ⟨(x1 - 1).toNat, by omega⟩
              have hrL : r < L.length := by omega
              have er : (x1 - 1).toNat = r := by omega
              obtain ⟨T, S, _, _, _, _, hmv⟩ := id hw5
              obtain ⟨v1', v2', v3'⟩ := hmv r hrL
              have esg : sgO rs L (some s) x1 x2 x3 = if x2 < ((mvO rs L s r).length : Int) then (0, (tx ((mvO rs L s r).getD x2.toNat [])).getD x3.toNat 0) else (3, 0) := by
                rw [sg_m hin h5' h0, if_neg (by omega), cif_p hE, er]
              have fin5 : ∀ (m' : PM) (k v : Int), (∀ c j, ¬ (c = 125 ∧ j = 0) → m' c j = m5 c j) → m' 125 0 = k → sgO rs L (some s) x1 x2 x3 = (k, v) → Q (.inl (some (.int (zI v)))) (sA μ m' l5) := by
                intro m' k v f e es
                have := hk m' l5 (RfP_0 f hI5) (by rw [es]; exact e) (fun c j z => (f c j (f1_0 (wp_f z))).trans ((f5 c j (wp_k z)).trans (f4 c j (f1_0 (wp_f z))))) fl5
                rw [es] at this
                exact this
              refine R252_248 H ⟨iR_1, fun _ => ⟨hx2, ⟨by omega, by omega⟩, ?_⟩, fun z => absurd (by decide) z⟩
              rw [hr1, v1']
              refine ⟨⟨by omega, by omega⟩, fun w1 ew1 => ⟨⟨fun _ => trivial, fun _ => ⟨hx3, trivial⟩⟩, fun w2 ew2 => ?_⟩⟩
              by_cases q : x2 < ((mvO rs L s r).length : Int)
              · rw [if_pos ⟨by omega, by omega⟩] at ew1
                rw [ew1, if_neg (by decide), if_neg (by omega)] at ew2
                rw [ew2]
                refine ⟨⟨fun _ => trivial, fun _ => ⟨hx3, fun _ => ⟨⟨by omega, by omega⟩, trivial⟩, fun _ => trivial⟩⟩, fun m6 e6 w4 ew4 => ?_⟩
                rw [if_neg (by decide)] at ew4
                obtain ⟨t1, t2, t3⟩ := v3' x2.toNat (by omega)
                have h48 := (GdT_48 t2 t3).1
                have ew : w4 = (tx ((mvO rs L s r).getD x2.toNat [])).getD x3.toNat 0 := by
                  rw [ew4]
                  by_cases q9 : x3 < 49
                  · rw [if_pos q9, ← t1 x3.toNat (by omega)]
                    congr 1
                    omega
                  · rw [if_neg q9, gD_out (by omega)]
                rw [ew]
                exact fin5 m6 0 _ (fun c j z => by rw [e6, up_o z]) (by rw [e6, up_s]) (by rw [esg, if_pos q])
              · rw [if_neg (fun z => q (by omega))] at ew1
                rw [ew1, if_pos rfl] at ew2
                rw [ew2]
                refine ⟨⟨fun _ => trivial, fun z => absurd (by decide) z⟩, fun m6 e6 w4 ew4 => ?_⟩
                rw [if_pos (by decide)] at ew4
                rw [ew4]
                exact fin5 m6 3 0 (fun c j z => by rw [e6, up_o z]) (by rw [e6, up_s]) (by rw [esg, if_neg q])
            · refine R252_248 H ⟨iR_0, fun z => absurd rfl z, fun _ => ?_⟩
              have esg : sgO rs L (some s) x1 x2 x3 = (4, 0) := by rw [sg_m hin h5' h0, if_neg (by omega), cif_n hno]
              have f6 : ∀ c j, ¬ (c = 125 ∧ j = 0) → up m5 125 0 4 c j = m5 c j := fun c j z => up_o z
              have := hk (up m5 125 0 4) l5 (RfP_0 f6 hI5) (by rw [esg]; exact up_s _ _ _ _) (fun c j z => (f6 c j (f1_0 (wp_f z))).trans ((f5 c j (k1_e (wp_k z))).trans (f4 c j (f1_0 (wp_f z))))) fl5
              rw [esg] at this
              exact this
          · refine ⟨⟨by omega, by omega⟩, by rw [hL5.1]; exact ⟨by omega, by omega⟩, by rw [ev]; exact iR_0, fun _ => bad (Or.inl (by omega)), fun z => absurd ev z⟩
        · /- a term of the state -/
          have h0 : x1 = 0 := Classical.byContradiction h0
          subst h0
          obtain ⟨s1, s2, s3, s4⟩ := h3.2.1
          rw [s1]
          refine ⟨hx2, ⟨by omega, by omega⟩, fun v5 ev5 => ⟨⟨fun _ => trivial, fun _ => ⟨hx3, trivial⟩⟩, fun v6 ev6 => ?_⟩⟩
          have f7 : ∀ {k : Int} {m7 : PM}, m7 = up m4 125 0 k → ∀ c j, ¬ (c = 125 ∧ j = 0) → m7 c j = m0 c j := fun {k m7} e c j z => by rw [e, up_o z, e4, up_o z]
          by_cases q : (0 ≤ x2 ∧ x2 < (s.length : Int)) ∧ 0 ≤ x3
          · rw [if_pos ⟨q.1.1, by omega⟩] at ev5
            rw [ev5, if_neg (by decide), if_neg (by omega)] at ev6
            rw [ev6]
            refine ⟨⟨fun _ => trivial, fun _ => ⟨hx3, fun _ => ⟨⟨by omega, by omega⟩, trivial⟩, fun _ => trivial⟩⟩, fun m7 e7 v8 ev8 => ?_⟩
            rw [if_neg (by decide)] at ev8
            obtain ⟨t1, t2, t3⟩ := s4 x2.toNat (by omega)
            have h48 := (GdT_48 t2 t3).1
            have ev : v8 = (tx (s.getD x2.toNat [])).getD x3.toNat 0 := by
              rw [ev8]
              by_cases q9 : x3 < 49
              · rw [if_pos q9, ← t1 x3.toNat (by omega)]
                congr 1
                omega
              · rw [if_neg q9, gD_out (by omega)]
            rw [ev]
            exact fin m7 0 _ (f7 e7) (by rw [e7, up_s]) (by rw [sg_0, if_pos q])
          · have e6 : v6 = 3 := by
              by_cases q5 : 0 ≤ x2 ∧ x2 ≤ (s.length : Int) - 1
              · rw [if_pos q5] at ev5
                rw [ev6, ev5, if_neg (by decide), if_pos (by omega)]
              · rw [if_neg q5] at ev5
                rw [ev6, ev5, if_pos rfl]
            rw [e6]
            refine ⟨⟨fun _ => trivial, fun z => absurd (by decide) z⟩, fun m7 e7 v8 ev8 => ?_⟩
            rw [if_pos (by decide)] at ev8
            rw [ev8]
            exact fin m7 3 0 (f7 e7) (by rw [e7, up_s]) (by rw [sg_0, if_neg q])
  · rw [if_neg hin, if_pos rfl] at ev1
    rw [ev1, if_neg (fun z => z rfl)] at ev3
    rw [ev1, ev3]
    refine ⟨fun z => absurd z (by decide), fun _ m12 e12 => ?_⟩
    exact fin m12 2 0 (fun c j z => by rw [e12, up_o z]) (by rw [e12, up_s]) (sg_2 hin)
end RC3
