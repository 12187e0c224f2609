/-! ===== the reference's calls: play, sign ===== -/
/-- what a sign is: what was refused, the sign -/
noncomputable def sgO (rs : List Rul) (L : List (List Cd)) (st : Option (List (List Cd))) (x1 x2 x3 : Int) : Int × Int :=
  if ¬ (0 ≤ x1 ∧ x1 ≤ 5) then (2, 0) else if x1 = 5 then (if (0 ≤ x2 ∧ x2 < (L.length : Int)) ∧ 0 ≤ x3 then (0, (tx (L.getD x2.toNat [])).getD x3.toNat 0) else (3, 0)) else match st with
    | none => (1, 0)
    | some s => if x1 = 0 then (if (0 ≤ x2 ∧ x2 < (s.length : Int)) ∧ 0 ≤ x3 then (0, (tx (s.getD x2.toNat [])).getD x3.toNat 0) else (3, 0)) else if ¬ (x1 - 1 < (L.length : Int)) ∨ x2 < 0 ∨ x3 < 0 then (3, 0) else cif (Evb rs (baA 0 s L [])) (if x2 < ((mvO rs L s (x1 - 1).toNat).length : Int) then (0, (tx ((mvO rs L s (x1 - 1).toNat).getD x2.toNat [])).getD x3.toNat 0) else (3, 0)) (4, 0)
theorem j8_b {c : Nat} {i : Int} (z : B2 c i) : ¬ c = 175 := b2_5 z
theorem x72_g : ¬ WGa 301 125 72 := by omega
theorem s3_5 {c : Nat} {j : Int} (z : (c = 172 ∧ j = 300) ∨ (c = 171 ∧ 2940 * 300 ≤ j ∧ j < 2940 * 300 + 2940) ∨ c = 129 ∨ c = 130 ∨ (c = 125 ∧ j = 9)) : ¬ c = 175 := by omega
section RC2
variable {d : Nat} {μ : am_Mem} {Q : Option Value ⊕ Nat → am_Mem → Prop} {W : Int → Nat} {rs : List Rul} {L : List (List Cd)} {B : Nat} {m0 l0 : PM} {st : Option (List (List Cd))} {xp : Option (List (List (List Cd)) × List (List Nat))}
theorem r_play {x : Int} (H : RS μ) (hg : GoS rs) (hR : ∀ B, Evb rs B → ∀ r, r < L.length → tlC (L.getD r []) ≤ 48) (hB80 : 80000 ≤ B) (hx : iR x) (hI : RfP W rs L B m0 st xp)
    (h1' : ∀ m' : PM, st = none → RfP W rs L B m' st xp → m' 125 0 = 1 → (∀ c j, ¬ WPb c j → m' c j = m0 c j) → Q (.inl (some (.int (zI 0)))) (sA μ m' l0))
    (h2' : ∀ (m' l' : PM) (s : List (List Cd)), st = some s → ((L.length = 0 ∨ x < 0) ∨ (Evb rs (baA 0 s L []) ∧ (jmN L.length (mvO rs L s) : Int) ≤ x)) → RfP W rs L B m' st xp → m' 125 0 = 2 → (∀ c j, ¬ WPb c j → m' c j = m0 c j) → (∀ c j, ¬ (c = 125 ∧ j = 57) → l' c j = l0 c j) → Q (.inl (some (.int (zI 0)))) (sA μ m' l'))
    (h3' : ∀ (m' l' : PM) (s : List (List Cd)), st = some s → ¬ L.length = 0 → 0 ≤ x → (¬ Evb rs (baA 0 s L []) ∨ (Evb rs (baA 0 s L []) ∧ x < (jmN L.length (mvO rs L s) : Int) ∧ ¬ okN rs L s (chO rs L s x.toNat))) → RfP W rs L B m' st xp → m' 125 0 = 3 → (∀ c j, ¬ WPb c j → m' c j = m0 c j) → (∀ c j, ¬ (c = 125 ∧ j = 57) → l' c j = l0 c j) → Q (.inl (some (.int (zI 0)))) (sA μ m' l'))
    (hok : ∀ (m' l' : PM) (s : List (List Cd)), st = some s → ¬ L.length = 0 → 0 ≤ x → Evb rs (baA 0 s L []) → x < (jmN L.length (mvO rs L s) : Int) → okN rs L s (chO rs L s x.toNat) → RfP W rs L B m' (some (nsO rs L s (chO rs L s x.toNat))) xp → m' 125 0 = 0 → (∀ c j, ¬ WPb c j → m' c j = m0 c j) → (∀ c j, ¬ (c = 125 ∧ j = 57) → l' c j = l0 c j) → Q (.inl (some (.int (zI ((nsO rs L s (chO rs L s x.toNat)).length : Int))))) (sA μ m' l')) :
    Wp (d + 12) 249 (0, [some (.ref 125), some (.int (zI x)), none, none, none], [], sA μ m0 l0) Q := by
  obtain ⟨h1, h2, h3, h4, h5⟩ := id hI
  have hL := h1.2.2.2.2
  have hL4 := hL.2.1
  have e70 := hL.1
  cases st with
  | none =>
    have e72 : m0 125 72 = 0 := h3
    refine R249_0 H ⟨by rw [e72]; exact iR_0, ⟨fun _ => trivial, fun z => absurd e72 z⟩, fun v1 ev1 => ?_⟩
    rw [if_pos e72] at ev1
    rw [ev1]
    refine ⟨fun _ => ⟨fun _ => ⟨fun _ v2 ev2 v3 ev3 v4 ev4 => ?_, fun z => absurd rfl z⟩, fun z => absurd rfl z⟩, fun z => absurd rfl z⟩
    rw [e72, if_neg (fun z => z rfl)] at ev2
    rw [e72, if_pos rfl] at ev3
    rw [if_neg (fun z => z rfl)] at ev4
    rw [ev2, ev3, ev4]
    refine ⟨iR_1, rg_1, fun m5 em5 => ⟨by rw [rf_1]; exact iR_1, fun z => absurd (rf_1.symm.trans z) (by decide), fun _ => ?_⟩⟩
    rw [rm_1] at em5
    have f5 : ∀ c j, ¬ (c = 125 ∧ j = 0) → m5 c j = m0 c j := fun c j z => by rw [em5]; exact up_o z
    exact h1' m5 rfl (RfP_0 f5 hI) (by rw [em5, up_s]) (fun c j z => f5 c j (f1_0 (wp_f z)))
  | some s =>
    have e72 : m0 125 72 = 1 := h3.1
    by_cases hbad : L.length = 0 ∨ x < 0
    · refine R249_0 H ⟨by rw [e72]; exact iR_1, ⟨fun _ => trivial, fun _ => ⟨by rw [e70]; exact ⟨by omega, by omega⟩, fun _ => trivial, fun _ => ⟨hx, trivial⟩⟩⟩, fun v1 ev1 => ?_⟩
      have e1 : v1 = 0 := by
        rw [ev1, if_neg (by rw [e72]; decide)]
        rcases hbad with q | q
        · rw [if_pos (by rw [e70]; omega)]
        · by_cases y : m0 125 70 ≤ 0
          · rw [if_pos y]
          · rw [if_neg y, if_pos q]
      rw [e1]
      refine ⟨fun _ => ⟨fun _ => ⟨fun _ v2 ev2 v3 ev3 v4 ev4 => ?_, fun z => absurd rfl z⟩, fun z => absurd rfl z⟩, fun z => absurd rfl z⟩
      rw [e72, if_pos (by decide)] at ev2
      rw [e72, if_neg (by decide), if_pos rfl] at ev3
      rw [if_neg (fun z => z rfl)] at ev4
      rw [ev2, ev3, ev4]
      refine ⟨iR_0, rg_0 iR_1 iR_1, fun m5 em5 => ⟨by rw [rf_2]; exact iR_1, fun z => absurd (rf_2.symm.trans z) (by decide), fun _ => ?_⟩⟩
      rw [rm_2] at em5
      have f5 : ∀ c j, ¬ (c = 125 ∧ j = 0) → m5 c j = m0 c j := fun c j z => by rw [em5]; exact up_o z
      exact h2' m5 l0 s rfl (Or.inl hbad) (RfP_0 f5 hI) (by rw [em5, up_s]) (fun c j z => f5 c j (f1_0 (wp_f z))) (fun _ _ _ => rfl)
    · have hL0 : ¬ L.length = 0 := fun z => hbad (Or.inl z)
      have hx0 : 0 ≤ x := by omega
      refine R249_0 H ⟨by rw [e72]; exact iR_1, ⟨fun _ => trivial, fun _ => ⟨by rw [e70]; exact ⟨by omega, by omega⟩, fun _ => trivial, fun _ => ⟨hx, trivial⟩⟩⟩, fun v1 ev1 => ?_⟩
      rw [if_neg (by rw [e72]; decide), if_neg (by rw [e70]; omega), if_neg (by omega)] at ev1
      rw [ev1]
      refine ⟨fun z => absurd z (by decide), fun _ => ⟨fun y μ' => Wp (d + 12) 249 (32, [some (.ref 125), some (.int (zI x)), some (.int (zI 1)), none, none], [.int y], μ') Q, noX, ?_, fun _ _ z => z, fun _ _ z => z.elim⟩⟩
      refine c_works (d := d + 1) (Q := pI _ noX) H hg hB80 hI (fun m1 l1 hE hI1 e75 hw1 f1 fl1 => ?_) (fun m1 l1 hno hI1 f1 fl1 => ?_)
      · have e721 : m1 125 72 = 1 := by rw [f1 _ _ (k1x72)]; exact e72
        obtain ⟨i1, i2, i3, i4, i5⟩ := id hI1
        have hL1 := i1.2.2.2.2
        obtain ⟨T, S, hE', hw1', hTB, h48', hmv⟩ := hw1
        have hjle := jmN_le (mv := mvO rs L s) hL4 (fun r hr => (hmv r hr).2.1)
        refine R249_32 H ⟨iR_1, fun w1 ew1 => ?_⟩
        rw [if_neg (by decide)] at ew1
        rw [ew1]
        refine ⟨fun z => absurd z (by decide), fun _ => ⟨hx, ?_⟩⟩
        refine ⟨_, _, c_jointMoves (d := d + 11) (l := l1) (n := L.length) (mv := mvO rs L s) H hL1.1 hL4 (fun r hr => ⟨(hmv r hr).1, (hmv r hr).2.1⟩), fun y μ' hp => ?_, fun _ _ z => z.elim⟩
        obtain ⟨rfl, rfl⟩ := hp
        refine R249_52 H ⟨⟨by omega, by omega⟩, ⟨by decide, by decide⟩, ⟨by omega, by omega⟩, fun w2 ew2 w3 ew3 => ?_⟩
        by_cases hlt : x < (jmN L.length (mvO rs L s) : Int)
        · rw [if_pos ⟨hx0, by omega⟩] at ew2
          rw [ew2, if_neg (by decide)] at ew3
          rw [ew3]
          refine ⟨fun z => absurd z (by decide), fun _ => ⟨hx, ?_⟩⟩
          obtain ⟨j, rfl⟩ : ∃ j : Nat, x = (j : Int) := ⟨x.toNat, by omega⟩
          have ej : ((j : Int)).toNat = j := by omega
          rw [ej] at h3' hok
          have hpos := jmN_pos (mv := mvO rs L s) (n := L.length) (by omega)
          refine ⟨_, _, c_choose (d := d + 11) (l := l1) (n := L.length) (j := j) (mv := mvO rs L s) H hL1.1 hL4 (fun r hr => ⟨(hmv r hr).1, (hmv r hr).2.1, hpos r hr⟩) (by omega), fun μ' hp => ?_, fun _ _ z => z.elim⟩
          obtain ⟨m2, rfl, c2, f2⟩ := hp
          have f2' : ∀ c i, ¬ c = 175 → m2 c i = m1 c i := fun c i z => f2 c i (fun y => z y.1)
          have hB2 : BsR W rs L m2 := BsR_cg i1 (fun c i z => f2' c i (b2_5 z))
          have hch : ChR m2 L (chO rs L s j) := fun r hr => by
            obtain ⟨q1, q2, q3⟩ := MvR_cg (m' := m2) (by omega) (fun c i z => f2' c i (m1_5 z)) (hmv r hr)
            have hlt := chI_lt hpos j r hr
            rw [c2 r hr, chO_g hr]
            obtain ⟨p1, p2, p3⟩ := q3 _ hlt
            exact ⟨⟨by omega, by omega⟩, p1, p2, p3, hR _ hE r hr⟩
          refine R249_78 H ⟨fun y μ' => Wp (d + 12) 249 (86, [some (.ref 125), some (.int (zI (j : Int))), some (.int (zI 1)), some (.int (zI 1)), some (.int (zI 1))], [.int y], μ') Q, noX, ?_, fun _ _ z => z, fun _ _ z => z.elim⟩
          refine c_evaluate (d := d + 2) (Q := pI _ noX) (W := W) (rs := rs) (x1 := 300) (x2 := 1) (st := s) (L := L) (ch := chO rs L s j) H hg hB2.1 hB2.2.1 hB2.2.2.1 hB2.2.2.2.1 (Or.inr ⟨by decide, by decide, StR_cg (fun c i z => f2' c i (s3_5 z)) i3.2.1⟩) hB2.2.2.2.2 (Or.inr ⟨rfl, hch⟩) (fun m3 l3 T3 S3 hE3 hw3 h483 hT3 e56 e753 e57 f3 fl3 => ?_) (fun m3 l3 T3 S3 hno hw3 e753 f3 fl3 => ?_)
          · have hB3 : BsR W rs L m3 := BsR_of hB2 (hw3.2.1.2.2.1) hw3.2.2.2.2.2.2 (fun c i z => f3 c i (k1_e (k1_b z)))
            have hx7 : nX m3 7 (wdL.getD 7 []) := nX_wdR hw3.1 (by decide)
            have hW7 : W 7 = 1 := by
              rw [hB3.2.1 7 _ hx7, wdt_own hg (by decide)]
              decide
            have hcn : cnO rs (baA 1 s L (chO rs L s j)) (wdL.getD 7 []) = cntA S3 (wdL.getD 7 []) := Ev_cn hg hE3 _
            have e723 : ∀ {m4 : PM}, (∀ c i, ¬ WGa 301 c i → m4 c i = m3 c i) → m4 125 72 = 1 := fun {m4} f4 => by rw [f4 _ _ x72_g, f3 _ _ (k1_e k1x72), f2' _ _ (by decide)]; exact e721
            refine R249_86 H ⟨iR_1, fun z => absurd z (by decide), fun _ => ⟨fun y μ' => Wp (d + 12) 249 (98, [some (.ref 125), some (.int (zI (j : Int))), some (.int (zI 1)), some (.int (zI 1)), some (.int (zI 1))], [.int y], μ') Q, noX, ?_, fun _ _ z => z, fun _ _ z => z.elim⟩⟩
            refine c_gather (d := d + 9) (Q := pI _ noX) (W := W) (rs := rs) (S := S3) (x := 7) (i := 301) (w := wdL.getD 7 []) H hw3 hE3.2.2.2.1 h483 hx7 hW7 ⟨by decide, by decide⟩ (fun m4 s' hsr hsl hs60 hsm hs4 f4 => ?_) (fun m4 hgt f4 => ?_)
            · have es : s' = nsO rs L s (chO rs L s j) := lsO_eq hsr (fun t => (hsm t).trans (Ev_hld hg hE3 _).symm)
              have e724 := e723 f4
              refine R249_98 H ⟨iR_1, fun u1 eu1 => ⟨by rw [e724]; exact iR_1, fun u2 eu2 => ⟨⟨fun _ => trivial, fun _ => ⟨iR_1, fun _ => trivial, fun _ => ⟨fun _ => trivial, fun _ => ⟨iR_1, trivial⟩⟩⟩⟩, fun u3 eu3 u4 eu4 => ?_⟩⟩⟩
              rw [if_neg (by decide)] at eu1
              rw [e724, if_pos (by decide)] at eu2
              rw [e724, if_neg (by decide), if_neg (by decide), if_neg (by rw [eu1]; decide), if_pos (by decide)] at eu3
              rw [eu1, if_pos (by decide)] at eu4
              rw [eu1, eu2, eu3, eu4]
              refine ⟨iR_0, rg_0 iR_0 iR_0, fun m5 em5 => ⟨by rw [rf_0]; exact iR_0, fun _ => ?_, fun z => absurd rf_0 z⟩⟩
              rw [rm_0] at em5
              have f5 : ∀ c j, ¬ (c = 125 ∧ j = 0) → m5 c j = m4 c j := fun c j z => by rw [em5]; exact up_o z
              refine ⟨_, _, c_copyState (d := d + 11) (l := l3) H (i := 301) (k := 300) ⟨by decide, by decide⟩ ⟨by decide, by decide⟩ (by decide) (StR_cg (fun c j z => f5 c j (f1_0 (g3_0 z))) hs4), fun μ' hp => ?_, fun _ _ z => z.elim⟩
              obtain ⟨m6, rfl, s6, f6⟩ := hp
              refine R249_172 H ?_
              have e172 : m6 172 300 = (s'.length : Int) := s6.1
              rw [e172, es]
              generalize hm7 : up m6 125 75 0 = m7
              have f7 : ∀ c j, ¬ (c = 125 ∧ j = 75) → m7 c j = m6 c j := fun c j z => by rw [← hm7, up_o z]
              have f74 : ∀ c j, ¬ F1 c j → ¬ R3 c j → m7 c j = m4 c j := fun c j z1 z2 => (f7 c j (f1_5 z1)).trans ((f6 c j (r3_c z2)).trans (f5 c j (f1_0 z1)))
              have fr1 : ∀ c j, ¬ K1 c j → ¬ c = 175 → ¬ WGa 301 c j → ¬ R3 c j → ¬ F1 c j → m7 c j = m1 c j := fun c j z1 z2 z3 z4 z5 => (f74 c j z5 z4).trans ((f4 c j z3).trans ((f3 c j (k1_e z1)).trans (f2' c j z2)))
              refine hok m7 l3 s rfl hL0 hx0 hE hlt ⟨⟨S3, hE3⟩, by rw [hcn]; omega⟩ ⟨BsR_cg hB3 (fun c j z => (f74 c j (b2_f z) (b2_r z)).trans (f4 c j (b2_g z))), by rw [fr1 _ _ k1x4 (by decide) (by omega) (by omega) (by omega)]; exact i2, ⟨by rw [fr1 _ _ k1x72 (by decide) x72_g (by omega) (by omega)]; exact e721, by rw [← es]; exact StR_cg (fun c j z => f7 c j (fun y => g3_2 z ⟨y.1, Or.inr (Or.inr y.2)⟩)) s6, by rw [← es]; exact hsr⟩, Or.inl (by rw [← hm7, up_s]), XpP_cg (fun c j z => fr1 c j (p2_k z) (p2_5 z) (p2_g z) (p2_r z) (p2_f z)) i5⟩ ?_ (fun c j z => (fr1 c j (wp_k z) (wp_5 z) (wp_g z) (wp_r z) (wp_f z)).trans (f1 c j (wp_k z))) (fun c j z => by rw [fl3 c j z]; exact fl1 c j z)
              rw [f7 _ _ (by decide), f6 _ _ (by omega), em5, up_s]
            · have e724 := e723 f4
              refine R249_98 H ⟨iR_0, fun u1 eu1 => ⟨by rw [e724]; exact iR_1, fun u2 eu2 => ⟨⟨fun _ => trivial, fun _ => ⟨iR_1, fun _ => trivial, fun _ => ⟨fun _ => trivial, fun _ => ⟨iR_1, trivial⟩⟩⟩⟩, fun u3 eu3 u4 eu4 => ?_⟩⟩⟩
              rw [if_pos rfl] at eu1
              rw [e724, if_pos (by decide)] at eu2
              rw [e724, if_neg (by decide), if_neg (by decide), if_pos eu1] at eu3
              rw [eu1, if_neg (fun z => z rfl)] at eu4
              rw [eu1, eu2, eu3, eu4]
              refine ⟨iR_0, rg_0 iR_0 iR_1, fun m5 em5 => ⟨by rw [rf_3]; exact iR_1, fun z => absurd (rf_3.symm.trans z) (by decide), fun _ => ?_⟩⟩
              rw [rm_3] at em5
              have f5 : ∀ c j, ¬ (c = 125 ∧ j = 0) → m5 c j = m4 c j := fun c j z => by rw [em5]; exact up_o z
              have fr1 : ∀ c j, ¬ K1 c j → ¬ c = 175 → ¬ WGa 301 c j → ¬ F1 c j → m5 c j = m1 c j := fun c j z1 z2 z3 z5 => (f5 c j (f1_0 z5)).trans ((f4 c j z3).trans ((f3 c j (k1_e z1)).trans (f2' c j z2)))
              refine h3' m5 l3 s rfl hL0 hx0 (Or.inr ⟨hE, hlt, fun z => ?_⟩) ⟨BsR_cg hB3 (fun c j z => (f5 c j (f1_0 (b2_f z))).trans (f4 c j (b2_g z))), by rw [fr1 _ _ k1x4 (by decide) (by omega) (by omega)]; exact i2, StP_cg (fun c j z => fr1 c j (p1_k z) (p1_5 z) (p1_g z) (p1_f z)) i3, Or.inl (by rw [f5 _ _ (by decide), f4 _ _ (by omega)]; exact e753), XpP_cg (fun c j z => fr1 c j (p2_k z) (p2_5 z) (p2_g z) (p2_f z)) i5⟩ (by rw [em5, up_s]) (fun c j z => (fr1 c j (wp_k z) (wp_5 z) (wp_g z) (wp_f z)).trans (f1 c j (wp_k z))) (fun c j z => by rw [fl3 c j z]; exact fl1 c j z)
              have := z.2
              omega
          · have e723 : m3 125 72 = 1 := by rw [f3 _ _ (k1_e k1x72), f2' _ _ (by decide)]; exact e721
            refine R249_86 H ⟨iR_0, fun _ => ⟨by rw [e723]; exact iR_1, fun u1 eu1 => ⟨⟨fun _ => trivial, fun _ => ⟨iR_1, fun _ => trivial, fun _ => ⟨fun _ => trivial, fun _ => ⟨iR_1, trivial⟩⟩⟩⟩, fun u2 eu2 u3 eu3 => ?_⟩⟩, fun z => absurd rfl z⟩
            rw [e723, if_pos (by decide)] at eu1
            rw [e723, if_neg (by decide), if_neg (by decide), if_pos rfl] at eu2
            rw [if_neg (fun z => z rfl)] at eu3
            rw [eu1, eu2, eu3]
            refine ⟨iR_0, rg_0 iR_0 iR_1, fun m5 em5 => ⟨by rw [rf_3]; exact iR_1, fun z => absurd (rf_3.symm.trans z) (by decide), fun _ => ?_⟩⟩
            rw [rm_3] at em5
            have f5 : ∀ c j, ¬ (c = 125 ∧ j = 0) → m5 c j = m3 c j := fun c j z => by rw [em5]; exact up_o z
            have fr1 : ∀ c j, ¬ K1 c j → ¬ c = 175 → ¬ F1 c j → m5 c j = m1 c j := fun c j z1 z2 z5 => (f5 c j (f1_0 z5)).trans ((f3 c j (k1_e z1)).trans (f2' c j z2))
            exact h3' m5 l3 s rfl hL0 hx0 (Or.inr ⟨hE, hlt, fun z => hno z.1⟩) ⟨BsR_cg (BsR_of hB2 (hw3.2.1.2.2.1) hw3.2.2.2.2.2.2 (fun c i z => f3 c i (k1_e (k1_b z)))) (fun c j z => f5 c j (f1_0 (b2_f z))), by rw [fr1 _ _ k1x4 (by decide) (by omega)]; exact i2, StP_cg (fun c j z => fr1 c j (p1_k z) (p1_5 z) (p1_f z)) i3, Or.inl (by rw [f5 _ _ (by decide)]; exact e753), XpP_cg (fun c j z => fr1 c j (p2_k z) (p2_5 z) (p2_f z)) i5⟩ (by rw [em5, up_s]) (fun c j z => (fr1 c j (wp_k z) (wp_5 z) (wp_f z)).trans (f1 c j (wp_k z))) (fun c j z => by rw [fl3 c j z]; exact fl1 c j z)
        · rw [if_neg (fun z => hlt (by omega))] at ew2
          rw [ew2, if_pos rfl] at ew3
          rw [ew3]
          refine ⟨fun _ => ⟨by rw [e721]; exact iR_1, fun u3 eu3 => ⟨⟨fun _ => trivial, fun _ => ⟨iR_1, fun _ => trivial, fun _ => ⟨iR_1, trivial⟩⟩⟩, fun u4 eu4 => ⟨iR_1, fun u5 eu5 => ?_⟩⟩⟩, fun z => absurd rfl z⟩
          rw [e721, if_pos (by decide)] at eu3
          rw [e721, if_neg (by decide), if_neg (by decide), if_neg (by decide), if_neg (fun z => z rfl)] at eu4
          rw [if_pos (by decide)] at eu5
          rw [eu3, eu4, eu5]
          refine ⟨iR_0, rg_0 iR_1 iR_0, fun m5 em5 => ⟨by rw [rf_2]; exact iR_1, fun z => absurd (rf_2.symm.trans z) (by decide), fun _ => ?_⟩⟩
          rw [rm_2] at em5
          have f5 : ∀ c j, ¬ (c = 125 ∧ j = 0) → m5 c j = m1 c j := fun c j z => by rw [em5]; exact up_o z
          exact h2' m5 l1 s rfl (Or.inr ⟨hE, by omega⟩) (RfP_0 f5 hI1) (by rw [em5, up_s]) (fun c j z => (f5 c j (f1_0 (wp_f z))).trans (f1 c j (wp_k z))) fl1
      · have e721 : m1 125 72 = 1 := by rw [f1 _ _ (k1_e k1x72)]; exact e72
        refine R249_32 H ⟨iR_0, fun w1 ew1 => ?_⟩
        rw [if_pos rfl] at ew1
        rw [ew1]
        refine ⟨fun _ => ⟨fun _ => ⟨by rw [e721]; exact iR_1, fun w2 ew2 => ⟨⟨fun _ => trivial, fun _ => ⟨iR_1, trivial⟩⟩, fun w3 ew3 w4 ew4 => ?_⟩⟩, fun z => absurd rfl z⟩, fun z => absurd rfl z⟩
        rw [e721, if_pos (by decide)] at ew2
        rw [e721, if_neg (by decide), if_neg (by decide), if_pos rfl] at ew3
        rw [if_neg (fun z => z rfl)] at ew4
        rw [ew2, ew3, ew4]
        refine ⟨iR_0, rg_0 iR_0 iR_1, fun m5 em5 => ⟨by rw [rf_3]; exact iR_1, fun z => absurd (rf_3.symm.trans z) (by decide), fun _ => ?_⟩⟩
        rw [rm_3] at em5
        have f5 : ∀ c j, ¬ (c = 125 ∧ j = 0) → m5 c j = m1 c j := fun c j z => by rw [em5]; exact up_o z
        exact h3' m5 l1 s rfl hL0 hx0 (Or.inl hno) (RfP_0 f5 hI1) (by rw [em5, up_s]) (fun c j z => (f5 c j (f1_0 (wp_f z))).trans (f1 c j (k1_e (wp_k z)))) fl1
end RC2
