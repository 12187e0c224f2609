/-! ===== the reference: isLike, othersDo ===== -/
/-- the conditions but the positive ones -/
def Oth (β : Nat → List Cd) (S : List Atm) (c : Nat × Atm) : Prop := (c.1 = 2 → ¬ sbA β c.2 ∈ S) ∧ (c.1 = 3 → ¬ sbC β (c.2.2.getD 0 []) = sbC β (c.2.2.getD 1 []))
section RC3
variable {d : Nat} {μ : am_Mem} {l : PM} {Q : Option Value ⊕ Nat → am_Mem → Prop} {T : Nat} {β : Nat → List Cd} {V : Nat → Prop} {W : Int → Nat} {rs : List Rul} {S : List Atm}
theorem c_isLike {m : PM} {k1 k2 : Int} {c1 c2 : List Cd} (H : RS μ) (hw : WkR W rs m T S) (hT : T + 1000 ≤ 130000) (hβ : Gb β) (h1 : TmR 11 m k1 c1) (h2 : TmR 11 m k2 c2) (hk0 : 0 ≤ k1) (hk12 : k1 + (c1.length : Int) ≤ k2) (hk2 : k2 + (c2.length : Int) ≤ 1000) (v1 : VrI V c1) (v2 : VrI V c2) (hb : VbO β m T V)
    (hk : ∀ (m' : PM) (v : Int), v = bP (sbC β c1 = sbC β c2) → WkR W rs m' T S → (∀ c j, ¬ WHl T c j → m' c j = m c j) → Q (.inl (some (.int (zI v)))) (sA μ m' l)) :
    Wp (d + 3) 230 (0, [some (.ref 125), some (.int (zI k1)), some (.int (zI k2)), none, none, none, none], [], sA μ m l) Q := by
  have l1 := (TmR_top h1).1
  have l2 := (TmR_top h2).1
  refine R230_0 H ⟨fun y μ' => ∃ m1 : PM, y = zI (m1 165 k1) ∧ μ' = sA μ m1 l ∧ WkR W rs m1 T S ∧ (∀ c i, ¬ (WMd T c i ∨ c = 165) → m1 c i = m c i) ∧ ∀ i : Nat, i < c1.length → ∀ q, TmR 11 m (k1 + i) q → OkM β 0 m1 T (k1 + i) q, noX, ?_, ?_, fun _ _ z => z.elim⟩
  · refine c_made (β := β) (T := T) H hw.2.1 hw.2.2.1 hw.2.2.2.1 hw.1.2.2.1 (RV_n hw.1).2.2.2.1 (by omega) (Or.inl rfl) hw.2.2.2.2.2.2 h1 ⟨by omega, by omega⟩ (BdM_of h1 v1 hb) (fun m1 T1 y1 y2 y3 y4 y5 y6 _ y8 y9 _ y11 => ?_)
    have eT : T1 = T := y3 rfl
    rw [eT] at y4 y5 y6 y11
    exact ⟨m1, rfl, rfl, WkR_md hw (Nat.le_refl _) y4 y5 y6 (fun c i z => y8 c i (by omega)) y9, fun c i z => y8 c i (by omega), y11⟩
  rintro y μ' ⟨m1, rfl, rfl, w1, f1, ok1⟩
  have f1t : ∀ c j, SRr c j → m1 c j = m c j := fun c j z => f1 c j (by omega)
  have tt : ∀ {m' : PM}, (∀ c j, SRr c j → m' c j = m c j) → ∀ {f : Nat} {x : Int} {q : List Cd}, TmR f m x q → TmR f m' x q := fun {m'} k {f x q} h => TmR_cg (fun x w z => nX_cg (k _ _ (by omega)) (fun i => k _ _ (by omega)) (fun i => k _ _ (by omega)) z) f x q (fun i _ _ => ⟨k _ _ (by omega), k _ _ (by omega), k _ _ (by omega), k _ _ (by omega)⟩) (fun i _ _ => k _ _ (by omega)) h
  have tb : ∀ {m' : PM}, (∀ c j, SRr c j → m' c j = m c j) → ∀ {f : Nat} {x : Int} {q : List Cd}, TmR f m' x q → TmR f m x q := fun {m'} k {f x q} h => TmR_cg (fun x w z => nX_cg (k _ _ (by omega)).symm (fun i => (k _ _ (by omega)).symm) (fun i => (k _ _ (by omega)).symm) z) f x q (fun i _ _ => ⟨(k _ _ (by omega)).symm, (k _ _ (by omega)).symm, (k _ _ (by omega)).symm, (k _ _ (by omega)).symm⟩) (fun i _ _ => (k _ _ (by omega)).symm) h
  have h21 := tt f1t h2
  have hb1 : VbO β m1 T V := VbO_cg (Nat.le_refl _) (fun v => f1 _ _ (by omega)) (fun u q hu h => Tg_fr f1 hu h) hb
  refine R230_6 H ⟨fun y μ' => ∃ m2 : PM, y = zI (m2 165 k2) ∧ μ' = sA μ m2 l ∧ WkR W rs m2 T S ∧ (∀ c i, ¬ (WMd T c i ∨ (c = 165 ∧ k2 ≤ i ∧ i < k2 + (c2.length : Int))) → m2 c i = m1 c i) ∧ ∀ i : Nat, i < c2.length → ∀ q, TmR 11 m1 (k2 + i) q → OkM β 0 m2 T (k2 + i) q, noX, ?_, ?_, fun _ _ z => z.elim⟩
  · refine c_made (β := β) (T := T) H w1.2.1 w1.2.2.1 w1.2.2.2.1 w1.1.2.2.1 (RV_n w1.1).2.2.2.1 (by omega) (Or.inl rfl) w1.2.2.2.2.2.2 h21 ⟨by omega, by omega⟩ (BdM_of h21 v2 hb1) (fun m2 T2 y1 y2 y3 y4 y5 y6 _ y8 y9 _ y11 => ?_)
    have eT : T2 = T := y3 rfl
    rw [eT] at y4 y5 y6 y11
    exact ⟨m2, rfl, rfl, WkR_md w1 (Nat.le_refl _) y4 y5 y6 (fun c i z => y8 c i (by omega)) y9, y8, y11⟩
  rintro y μ' ⟨m2, rfl, rfl, w2, f2, ok2⟩
  have f2w : ∀ c i, ¬ (WMd T c i ∨ c = 165) → m2 c i = m1 c i := fun c i z => f2 c i (by omega)
  have f20 : ∀ c i, ¬ (WMd T c i ∨ c = 165) → m2 c i = m c i := fun c i z => by rw [f2w c i z]; exact f1 c i z
  have f2t : ∀ c j, SRr c j → m2 c j = m c j := fun c j z => f20 c j (by omega)
  refine R230_13 H ?_
  rintro m3 e3
  have f3 : ∀ c i, ¬ WLk c i → m3 c i = m2 c i := fun c i z => by rw [e3, up_c (by omega), up_c (by omega)]
  have hv2 : ∀ v : Nat, v < 8 → V v → ∃ u : Nat, u < T ∧ Tg m2 u (β v) := fun v hv hV => by
    obtain ⟨u, _, b2, b3⟩ := hb v hv hV
    exact ⟨u, b2, Tg_fr f20 b2 b3⟩
  have one : ∀ {P : List Cd × List Cd → Prop}, (∀ p, p ∈ [(c1, c2)] → P p) ↔ P (c1, c2) := fun {P} => ⟨fun h => h _ (List.mem_singleton.mpr rfl), fun h p hp => by rw [List.mem_singleton.mp hp]; exact h⟩
  have g1 : GdO β m2 T k1 c1 := by
    refine ⟨tt f2t h1, ⟨hk0, by omega⟩, fun i hi q' hq' => ?_⟩
    exact OkM_fr (Nat.le_refl _) (fun _ => rfl) f2w (f2 _ _ (by omega)) (ok1 i hi q' (tb f2t hq'))
  have g2 : GdO β m2 T k2 c2 := ⟨tt f2t h2, ⟨by omega, by omega⟩, fun i hi q' hq' => ok2 i hi q' (tt f1t (tb f2t hq'))⟩
  have z := il_30 (d := d) (l := l) (x1 := k1) (x2 := k2) (m0 := m2) (T := T) (β := β) (V := V) H hβ w2.2.2.1 w2.2.1 w2.1.2.2.1 (RV_n w2.1).2.2.2.1 w2.2.2.2.2.2.2 hv2 c1.length m3 [(c1, c2)] Q none none none (by show c1.length + 0 ≤ _; omega) (by omega) f3 (by
    have z := PlK_snoc (β := β) (T := T) (m := m3) (L := []) (p := (c1, c2)) (fun i hi => absurd hi (Nat.not_lt_zero i)) (by show GdO β m3 T (m3 166 0) c1; rw [show m3 166 0 = k1 by rw [e3, up_c (by decide), up_s]]; exact GdO_cg f3 g1) (by show GdO β m3 T (m3 167 0) c2; rw [show m3 167 0 = k2 by rw [e3, up_s]]; exact GdO_cg f3 g2)
    exact z) (one.mpr ⟨v1, v2⟩) (fun m' v ev fr => hk m' v (by rw [ev]; exact bP_cg one) (WkR_cg (fun c i z => fr c i (by omega)) (fun i => by rw [fr _ _ (by omega)]; exact w2.2.1.2.2.1 i) (fun i => by rw [fr _ _ (by omega)]; exact w2.2.2.2.2.2.2 i) w2) (fun c i z => by rw [fr c i (by omega)]; exact f20 c i (by omega)))
  exact z
/-- the negative conditions and those of distinctness -/
theorem c_othersDo {m : PM} {r : Nat} (H : RS μ) (hw : WkR W rs m T S) (hT : T + 1000 ≤ 130000) (hβ : Gb β) (hr : r < rs.length) (hWd : ∀ c, c ∈ (rs.getD r ruD).2 → c.1 < 3 → ∀ x, nX m x c.2.1 → W x = c.2.2.length) (hvr : ∀ c, c ∈ (rs.getD r ruD).2 → ¬ c.1 = 1 → ∀ p, p ∈ c.2.2 → VrI V p) (hb : VbO β m T V)
    (hk : ∀ (m' : PM) (v : Int), v = bP (∀ c, c ∈ (rs.getD r ruD).2 → Oth β S c) → WkR W rs m' T S → (∀ c j, ¬ WHl T c j → m' c j = m c j) → Q (.inl (some (.int (zI v)))) (sA μ m' l)) :
    Wp (d + 4) 228 (0, [some (.ref 125), some (.int (zI (r : Int))), none, none, none], [], sA μ m l) Q := by
  have n60 := (RV_n hw.1).2.1
  obtain ⟨_, ⟨b1, b2, b3⟩, _⟩ := RV_rule hw.1 hr
  generalize hcs : (rs.getD r ruD).2 = cs at *
  have gm : ∀ {j : Nat}, j < cs.length → cs.getD j cnD ∈ cs := fun {j} hj => by
    rw [List.getD_eq_getElem?_getD, List.getElem?_eq_getElem hj]
    exact List.getElem_mem hj
  have loop : ∀ (f j : Nat) (m1 : PM) (o4 : Option Value), j + f = cs.length → WkR W rs m1 T S → (∀ c j, ¬ WHl T c j → m1 c j = m c j) → (∀ i, i < j → Oth β S (cs.getD i cnD)) → Wp (d + 4) 228 (9, [some (.ref 125), some (.int (zI (r : Int))), some (.int (zI 1)), some (.int (zI (m 132 (r : Int) + (j : Int)))), o4], [], sA μ m1 l) Q := by
    intro f
    induction f with
    | zero =>
      intro j m1 o4 hj w1 fr hd
      have ej : j = cs.length := by omega
      have e132 : m1 132 ((r : Int) + 1) = m 132 ((r : Int) + 1) := fr _ _ (by omega)
      refine R228_9 H ⟨⟨by omega, by omega⟩, ⟨by omega, by omega⟩, by rw [e132]; exact ⟨by omega, by omega⟩, fun _ => ⟨Or.inr rfl, hk m1 1 (bP_1 (fun c hc => ?_)).symm w1 fr⟩, fun z => by rw [e132] at z; omega⟩
      obtain ⟨i, hi, e⟩ := (mem_gD cs cnD c).mp hc
      rw [← e]
      exact hd i (by omega)
    | succ f ih =>
      intro j m1 o4 hj w1 fr hd
      have hjl : j < cs.length := by omega
      have e132 : m1 132 ((r : Int) + 1) = m 132 ((r : Int) + 1) := fr _ _ (by omega)
      have e132r : m1 132 (r : Int) = m 132 (r : Int) := fr _ _ (by omega)
      have rc := RV_cond w1.1 (r := r) (j := j) hr (by rw [hcs]; exact hjl)
      rw [hcs, e132r] at rc
      obtain ⟨c1, c2, c3, _, _, c6, _, _, c9⟩ := rc
      have hcm := gm hjl
      have hoc := hcs
      generalize hc : cs.getD j cnD = c at *
      have nd1000 : m1 125 22 ≤ 1000 := (RV_n w1.1).2.2.2.2
      have hb1 : VbO β m1 T V := VbO_cg (Nat.le_refl _) (fun v => fr _ _ (by omega)) (fun u q hu h => TgR_cg (T := T) (fr _ _ (by omega)) (fun i => fr _ _ (by omega)) (fun i => fr _ _ (by omega)) (fun t ht => ⟨fr _ _ (by omega), fr _ _ (by omega), fun k _ => fr _ _ (by omega)⟩) _ u q hu h) hb
      have next : Oth β S c → ∀ (m2 : PM) (o4 : Option Value), WkR W rs m2 T S → (∀ c j, ¬ WHl T c j → m2 c j = m c j) → Wp (d + 4) 228 (9, [some (.ref 125), some (.int (zI (r : Int))), some (.int (zI 1)), some (.int (zI (m 132 (r : Int) + (j : Int) + 1))), o4], [], sA μ m2 l) Q := fun ho m2 o4 w2 f2 => by
        have z := ih (j + 1) m2 o4 (by omega) w2 f2 (fun i hi => by
          by_cases y : i = j
          · rw [y, hc]; exact ho
          · exact hd i (by omega))
        rw [show m 132 (r : Int) + ((j + 1 : Nat) : Int) = m 132 (r : Int) + (j : Int) + 1 by omega] at z
        exact z
      have stop : ¬ Oth β S c → ∀ (m2 : PM) (o4 : Option Value), WkR W rs m2 T S → (∀ c j, ¬ WHl T c j → m2 c j = m c j) → Wp (d + 4) 228 (9, [some (.ref 125), some (.int (zI (r : Int))), some (.int (zI 0)), some (.int (zI (m 132 (r : Int) + (j : Int) + 1))), o4], [], sA μ m2 l) Q := fun hno m2 o4 w2 f2 => by
        have e : m2 132 ((r : Int) + 1) = m 132 ((r : Int) + 1) := f2 _ _ (by omega)
        have go := hk m2 0 (bP_0 (fun z => hno (z c hcm))).symm w2 f2
        exact R228_9 H ⟨⟨by omega, by omega⟩, ⟨by omega, by omega⟩, by rw [e]; exact ⟨by omega, by omega⟩, fun _ => ⟨Or.inl rfl, go⟩, fun _ => ⟨⟨by decide, by decide⟩, fun _ => ⟨Or.inl rfl, go⟩, fun z => absurd rfl z⟩⟩
      refine R228_9 H ⟨⟨by omega, by omega⟩, ⟨by omega, by omega⟩, by rw [e132]; exact ⟨by omega, by omega⟩, fun z => by rw [e132] at z; omega, fun _ => ⟨⟨by decide, by decide⟩, fun z => absurd z (by decide), fun _ => ⟨⟨by omega, by omega⟩, by rw [c2]; have := c1.2; exact ⟨by omega, by omega⟩, fun z => ⟨fun z3 => ?_, fun z3 => ?_⟩, fun z => ?_⟩⟩⟩
      · refine next ⟨fun e => absurd (by rw [c2, e]; rfl) z, fun e => absurd (by rw [c2, e]; rfl) z3⟩ m1 _ w1 fr
      · have ec3 : c.1 = 3 := by
          have y : m1 133 (m 132 (r : Int) + (j : Int)) = 3 := Classical.byContradiction z3
          omega
        have hl2 : c.2.2.length = 2 := by
          rcases c1.2 with y | y | y
          · omega
          · omega
          · exact y.2.2
        obtain ⟨p, q, epq⟩ : ∃ p q, c.2.2 = [p, q] := by
          match hcc : c.2.2, hl2 with
          | [p, q], _ => exact ⟨p, q, rfl⟩
        obtain ⟨_, _, _, k0, k1, k2, k3⟩ := c9
        rw [epq] at k2 k3
        obtain ⟨s1, s2, s3, s4, _⟩ := k3
        have hfl : ([p, q] : List (List Cd)).flatten.length = p.length + q.length := by simp
        rw [hfl] at k2
        have s1 : m1 136 (4 * m1 134 (m 132 (r : Int) + (j : Int))) = k0 := by
          rw [← s1]
          congr 1
          omega
        have s3 : m1 136 (4 * m1 134 (m 132 (r : Int) + (j : Int)) + 1) = k0 + (p.length : Int) := by
          rw [← s3]
          congr 1
        have hvp := hvr c hcm (by omega)
        refine ⟨⟨by omega, by omega⟩, ⟨by omega, by omega⟩, fun y μ' => ∃ (m2 : PM) (v : Int), y = zI v ∧ μ' = sA μ m2 l ∧ v = bP (sbC β p = sbC β q) ∧ WkR W rs m2 T S ∧ ∀ c j, ¬ WHl T c j → m2 c j = m1 c j, noX, ?_, ?_, fun _ _ z => z.elim⟩
        · rw [s1, s3]
          exact c_isLike H w1 hT hβ s2 s4 (by omega) (Int.le_refl _) (by omega) (hvp p (by rw [epq]; exact List.mem_cons_self)) (hvp q (by rw [epq]; exact List.mem_cons_of_mem _ (List.mem_singleton.mpr rfl))) hb1 (fun m' v ev w2 f2 => ⟨m', v, rfl, rfl, ev, w2, f2⟩)
        · rintro y μ' ⟨m2, v, rfl, rfl, ev, w2, f2⟩
          have f20 : ∀ c j, ¬ WHl T c j → m2 c j = m c j := fun c j y => by rw [f2 c j y]; exact fr c j y
          have e0 : c.2.2.getD 0 [] = p := by rw [epq]; rfl
          have e1 : c.2.2.getD 1 [] = q := by rw [epq]; rfl
          refine R228_95 H ⟨by rw [ev]; exact bP_R _, ?_⟩
          rintro v1 e1'
          by_cases h : sbC β p = sbC β q
          · rw [ev, bP_1 h, if_pos (by decide)] at e1'
            rw [e1']
            exact stop (fun z => z.2 ec3 (by rw [e0, e1]; exact h)) m2 _ w2 f20
          · rw [ev, bP_0 h, if_neg (by decide)] at e1'
            rw [e1']
            exact next ⟨fun e => absurd e (by omega), fun _ => by rw [e0, e1]; exact h⟩ m2 _ w2 f20
      · have ec2 : c.1 = 2 := by
          have y : m1 133 (m 132 (r : Int) + (j : Int)) = 2 := Classical.byContradiction z
          omega
        have hx := c6 (by omega)
        have hx0 : nX m (m1 135 (m1 134 (m 132 (r : Int) + (j : Int)))) c.2.1 := nX_cg (fr _ _ (by omega)).symm (fun i => (fr _ _ (by omega)).symm) (fun i => (fr _ _ (by omega)).symm) hx
        refine ⟨fun y μ' => ∃ m2 : PM, y = zI (bP (sbA β c.2 ∈ S)) ∧ μ' = sA μ m2 l ∧ WkR W rs m2 T S ∧ ∀ c j, ¬ WHl T c j → m2 c j = m1 c j, noX, ?_, ?_, fun _ _ z => z.elim⟩
        · exact c_isHeld (ps := c.2.2) (w := c.2.1) H w1 hT (AtR_N ⟨by omega, by omega⟩ nd1000 c9) hx (hWd c hcm (by omega) _ hx0) (fun k hk' => hvr c hcm (by omega) _ (by rw [List.getD_eq_getElem?_getD, List.getElem?_eq_getElem hk']; exact List.getElem_mem hk')) hb1 (fun m' w2 f2 => ⟨m', rfl, rfl, w2, f2⟩)
        · rintro y μ' ⟨m2, rfl, rfl, w2, f2⟩
          have f20 : ∀ c j, ¬ WHl T c j → m2 c j = m c j := fun c j y => by rw [f2 c j y]; exact fr c j y
          refine R228_49 H ⟨bP_R _, ?_⟩
          rintro v1 e1'
          by_cases h : sbA β c.2 ∈ S
          · rw [bP_1 h, if_pos (by decide)] at e1'
            rw [e1']
            exact stop (fun z => z.1 ec2 h) m2 _ w2 f20
          · rw [bP_0 h, if_neg (by decide)] at e1'
            rw [e1']
            exact next ⟨fun _ => h, fun e => absurd e (by omega)⟩ m2 _ w2 f20
  refine R228_0 H ⟨⟨by omega, by omega⟩, ?_⟩
  have z := loop cs.length 0 m none (by omega) hw (fun _ _ _ => rfl) (fun i hi => absurd hi (Nat.not_lt_zero i))
  rw [show m 132 (r : Int) + ((0 : Nat) : Int) = m 132 (r : Int) by omega] at z
  exact z
end RC3
