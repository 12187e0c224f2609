/-! ===== the reference: fire ===== -/
/-- what firing a rule may write -/
abbrev WFi (c : Nat) (j : Int) : Prop := (149 ≤ c ∧ c ≤ 160) ∨ (165 ≤ c ∧ c ≤ 168) ∨ (c = 125 ∧ (j = 42 ∨ j = 48 ∨ j = 56))
section RFI
variable {d : Nat} {μ : am_Mem} {l : PM} {Q : Option Value ⊕ Nat → am_Mem → Prop} {T : Nat} {β : Nat → List Cd} {V : Nat → Prop} {W : Int → Nat} {rs : List Rul} {S : List Atm}
theorem gA_l {S : List Atm} {a : Atm} {i : Nat} (h : i < S.length) : (S ++ [a]).getD i ([], []) = S.getD i ([], []) := by
  rw [List.getD_eq_getElem?_getD, List.getD_eq_getElem?_getD, List.getElem?_append_left h]
theorem gA_r {S : List Atm} {a : Atm} : (S ++ [a]).getD S.length ([], []) = a := by
  rw [List.getD_eq_getElem?_getD, List.getElem?_append_right (Nat.le_refl _), Nat.sub_self]
  rfl
theorem c_fire {m : PM} {r : Nat} (H : RS μ) (hw : WkR W rs m T S) (h56 : m 125 56 = 0) (hT : T + 5000 ≤ 130000) (hβ : Gb β) (hr : r < rs.length) (hWd : ∀ c, c ∈ (rs.getD r ruD).2 → c.1 < 3 → ∀ x, nX m x c.2.1 → W x = c.2.2.length) (hWh : ∀ x, nX m x (rs.getD r ruD).1.1 → W x = (rs.getD r ruD).1.2.length) (hvr : ∀ c, c ∈ (rs.getD r ruD).2 → ¬ c.1 = 1 → ∀ p, p ∈ c.2.2 → VrI V p) (hvh : ∀ p, p ∈ (rs.getD r ruD).1.2 → VrI V p) (hb : VbO β m T V) (hln : ∀ p, p ∈ (rs.getD r ruD).1.2 → iR (tlC (sbC β p)))
    (h0 : ∀ m' : PM, (¬ ∀ c, c ∈ (rs.getD r ruD).2 → Oth β S c) → WkR W rs m' T S → m' 125 56 = 0 → (∀ (u : Nat) (q : List Cd), u < T → Tg m u q → Tg m' u q) → (∀ c j, ¬ WFi c j → m' c j = m c j) → Q (.inl (some (.int (zI 0)))) (sA μ m' l))
    (hL : ∀ m' : PM, (∀ c, c ∈ (rs.getD r ruD).2 → Oth β S c) → (∃ p, p ∈ (sbA β (rs.getD r ruD).1).2 ∧ 48 < tlC p) → WkR W rs m' T S → m' 125 56 = 1 → (∀ c j, ¬ WFi c j → m' c j = m c j) → Q (.inl (some (.int (zI 0)))) (sA μ m' l))
    (hF : ∀ m' : PM, (∀ c, c ∈ (rs.getD r ruD).2 → Oth β S c) → sbA β (rs.getD r ruD).1 ∈ S → WkR W rs m' T S → m' 125 56 = 0 → (∀ (u : Nat) (q : List Cd), u < T → Tg m u q → Tg m' u q) → (∀ c j, ¬ WFi c j → m' c j = m c j) → Q (.inl (some (.int (zI 0)))) (sA μ m' l))
    (hM : ∀ (m' : PM) (T' : Nat), (∀ c, c ∈ (rs.getD r ruD).2 → Oth β S c) → ¬ sbA β (rs.getD r ruD).1 ∈ S → S.length = 1000 → T ≤ T' → WkR W rs m' T' S → m' 125 56 = 1 → (∀ c j, ¬ WFi c j → m' c j = m c j) → Q (.inl (some (.int (zI 0)))) (sA μ m' l))
    (hN : ∀ (m' : PM) (T' : Nat), (∀ c, c ∈ (rs.getD r ruD).2 → Oth β S c) → (∀ p, p ∈ (sbA β (rs.getD r ruD).1).2 → tlC p ≤ 48) → ¬ sbA β (rs.getD r ruD).1 ∈ S → S.length < 1000 → T ≤ T' → T' ≤ T + (rs.getD r ruD).1.2.flatten.length → WkR W rs m' T' (S ++ [sbA β (rs.getD r ruD).1]) → m' 125 56 = 0 → (∀ (u : Nat) (q : List Cd), u < T → Tg m u q → Tg m' u q) → (∀ c j, ¬ WFi c j → m' c j = m c j) → Q (.inl (some (.int (zI 1)))) (sA μ m' l)) :
    Wp (d + 5) 227 (0, [some (.ref 125), some (.int (zI (r : Int))), none, none, none], [], sA μ m l) Q := by
  have n60 := (RV_n hw.1).2.1
  refine R227_0 H ⟨fun y μ' => ∃ (m1 : PM) (v : Int), y = zI v ∧ μ' = sA μ m1 l ∧ v = bP (∀ c, c ∈ (rs.getD r ruD).2 → Oth β S c) ∧ WkR W rs m1 T S ∧ ∀ c j, ¬ WHl T c j → m1 c j = m c j, noX, c_othersDo H hw (by omega) hβ hr hWd hvr hb (fun m' v ev w1 f1 => ⟨m', v, rfl, rfl, ev, w1, f1⟩), ?_, fun _ _ z => z.elim⟩
  rintro y μ' ⟨m1, v, rfl, rfl, ev, w1, f1⟩
  have f1i : ∀ c j, ¬ WFi c j → m1 c j = m c j := fun c j z => f1 c j (by omega)
  have e56 : m1 125 56 = 0 := by rw [f1 _ _ (by omega)]; exact h56
  have tg1 : ∀ (u : Nat) (q : List Cd), u < T → Tg m u q → Tg m1 u q := fun u q hu h => TgR_cg (T := T) (f1 _ _ (by omega)) (fun i => f1 _ _ (by omega)) (fun i => f1 _ _ (by omega)) (fun t ht => ⟨f1 _ _ (by omega), f1 _ _ (by omega), fun k _ => f1 _ _ (by omega)⟩) _ u q hu h
  refine R227_5 H ⟨by rw [ev]; exact bP_R _, fun z => ⟨⟨by omega, by omega⟩, ?_⟩, fun z => ?_⟩
  rotate_left
  · have hno : ¬ ∀ c, c ∈ (rs.getD r ruD).2 → Oth β S c := fun y => z (by rw [ev, bP_1 y]; decide)
    exact h0 m1 hno w1 e56 tg1 f1i
  have ho : ∀ c, c ∈ (rs.getD r ruD).2 → Oth β S c := Classical.byContradiction fun y => z (by rw [ev]; exact bP_0 y)
  obtain ⟨hOk, hd1, hd3, hd4, hd5, _, _, hA⟩ := RV_head w1.1 hr
  have h9 := (RV_n w1.1).2.2.2.1
  have nd1000 : m1 125 22 ≤ 1000 := (RV_n w1.1).2.2.2.2
  have hN1 : AtN m1 (m1 131 (r : Int)) (rs.getD r ruD).1.2 := AtR_N ⟨by omega, by omega⟩ nd1000 hA
  have hWx : W (m1 135 (m1 131 (r : Int))) = (rs.getD r ruD).1.2.length := hWh _ (nX_cg (f1 _ _ (by omega)).symm (fun i => (f1 _ _ (by omega)).symm) (fun i => (f1 _ _ (by omega)).symm) hd3)
  have hb1 : VbO β m1 T V := VbO_cg (Nat.le_refl _) (fun v => f1 _ _ (by omega)) tg1 hb
  obtain ⟨ha1, ha2, ha3, ha4⟩ := id hN1
  generalize hhd : (rs.getD r ruD).1 = hd at *
  generalize hax : m1 131 (r : Int) = a at *
  obtain ⟨w, ps⟩ := hd
  have ha2 : m1 137 a = (ps.length : Int) := ha2
  have ha3 : ps.length ≤ 4 := ha3
  have hWx : W (m1 135 a) = ps.length := hWx
  have hvp : ∀ k, k < ps.length → VrI V (ps.getD k []) := fun k hk => hvh _ (by show ps.getD k [] ∈ ps; rw [List.getD_eq_getElem?_getD, List.getElem?_eq_getElem hk]; exact List.getElem_mem hk)
  have gpm : ∀ k, k < ps.length → ps.getD k [] ∈ ps := fun k hk => by rw [List.getD_eq_getElem?_getD, List.getElem?_eq_getElem hk]; exact List.getElem_mem hk
  have hT1 := w1.2.1.2.1
  /- the terms are made -/
  have mk : ∀ (f j T1 : Nat) (m2 : PM) (o4 : Option Value), j + f = ps.length → T ≤ T1 → T1 ≤ T + (ps.take j).flatten.length → (sbA β (w, ps) ∈ S → T1 = T) → WkR W rs m2 T1 S → (∀ c i, ¬ WFi c i → m2 c i = m1 c i) → m2 125 56 = 0 → (∀ (u : Nat) (q : List Cd), u < T → Tg m1 u q → Tg m2 u q) → (∀ k : Nat, k < j → ∃ u : Nat, m2 168 k = (u : Int) ∧ u < T1 ∧ Tg m2 u (sbC β (ps.getD k []))) → (∀ p, p ∈ ps → tlC (sbC β p) ≤ 48) → Wp (d + 5) 227 (67, [some (.ref 125), some (.int (zI (r : Int))), some (.int (zI a)), some (.int (zI (j : Int))), o4], [], sA μ m2 l) Q := by
    intro f
    induction f with
    | zero =>
      intro j T1 m2 o4 hj t1 t2 t3 w2 f2 g56 tg2 row hlen
      have ej : j = ps.length := by omega
      rw [ej, List.take_length] at t2
      rw [ej] at row
      have e137 : m2 137 a = (ps.length : Int) := by rw [f2 _ _ (by omega)]; exact ha2
      have e135 : m2 135 a = m1 135 a := f2 _ _ (by omega)
      have hx2 : nX m2 (m2 135 a) w := by rw [e135]; exact nX_cg (f2 _ _ (by omega)) (fun i => f2 _ _ (by omega)) (fun i => f2 _ _ (by omega)) hd3
      have hx20 := hx2.1
      have hx21 := hx2.2.1
      have h92 := (RV_n w2.1).2.2.2.1
      have hTn := w2.2.1.2.1
      have hW2 := w2.1.2.1
      have hrow : ∀ k : Nat, k < (ps.map (sbC β)).length → ∃ u : Nat, m2 168 k = (u : Int) ∧ u < T1 ∧ Tg m2 u ((ps.map (sbC β)).getD k []) := fun k hk' => by
        rw [List.length_map] at hk'
        rw [map_gD hk']
        exact row k hk'
      have hlm : (ps.map (sbC β)).length = ps.length := List.length_map _
      have hWm : W (m2 135 a) = (ps.map (sbC β)).length := by rw [e135, hlm]; exact hWx
      have hl152 : ∀ k : Nat, k < ps.length → m2 152 (m2 168 k) = tlC (sbC β (ps.getD k [])) := fun k hk' => by
        obtain ⟨u, u1, u2, u3⟩ := row k hk'
        rw [u1]
        exact Tg_len hW2 w2.2.1 w2.2.2.2.1 _ u _ u2 u3
      have f20 : ∀ c i, ¬ WFi c i → m2 c i = m c i := fun c i z => by rw [f2 c i z]; exact f1i c i z
      have isS : ∀ {i : Nat}, i < S.length → (isA m2 i (m2 135 a) (sl (m2 168) 0 ps.length) ↔ S.getD i ([], []) = sbA β (w, ps)) := fun {i} hi => by
        have z := isA_S w2 hx2 hWm hrow hi
        rw [hlm] at z
        exact z
      refine R227_67 H ⟨ha1, ⟨by omega, by omega⟩, by rw [e137]; exact ⟨by omega, by omega⟩, fun _ => ⟨fun y μ' => ∃ m3 : PM, μ' = sA μ m3 l ∧ (y = zI 0 ∨ y = zI 1) ∧ Q (.inl (some (.int y))) μ', noX, ?_, ?_, fun _ _ z => z.elim⟩, fun z => by omega⟩
      · rw [e137]
        refine c_hold (d := d + 2) (W := W) (F := S.length) H w2.2.2.2.2.1 ⟨by omega, by omega⟩ (by omega) ha3 (by rw [e135]; exact hWx) (fun k hk' => ?_) (fun k hk' => ?_) (Or.inl g56) (fun i hi hA => ⟨_, rfl, Or.inl rfl, ?_⟩) (fun hF' hno => ⟨_, rfl, Or.inl rfl, ?_⟩) (fun hF' hno m3 n1 n2 n3 n4 n5 n6 => ⟨_, rfl, Or.inr rfl, ?_⟩)
        · obtain ⟨u, u1, u2, _⟩ := row k hk'
          rw [u1]
          exact ⟨by omega, by omega⟩
        · rw [hl152 k hk']
          exact hln _ (gpm k hk')
        · have hm : sbA β (w, ps) ∈ S := by rw [← (isS hi).mp hA]; exact gA_mem hi
          have eT := t3 hm
          rw [eT] at w2
          exact hF m2 ho hm w2 g56 (fun u q hu h => tg2 u q hu (tg1 u q hu h)) f20
        · have hno' : ¬ sbA β (w, ps) ∈ S := fun hm => by
            obtain ⟨i, hi, e⟩ := gA_ex hm
            exact hno i hi ((isS hi).mpr e)
          refine hM _ T1 ho hno' hF' t1 (WkR_cg (fun c i z => up_o (by omega)) (fun i => by rw [up_c (by decide)]; exact w2.2.1.2.2.1 i) (fun i => by rw [up_c (by decide)]; exact w2.2.2.2.2.2.2 i) w2) (up_s _ _ _ _) (fun c i z => by rw [up_o (by omega)]; exact f20 c i z)
        · have hno' : ¬ sbA β (w, ps) ∈ S := fun hm => by
            obtain ⟨i, hi, e⟩ := gA_ex hm
            exact hno i hi ((isS hi).mpr e)
          have f32 : ∀ c i, ¬ WHd c i → m3 c i = m2 c i := n6
          have tg3 : ∀ (u : Nat) (q : List Cd), Tg m2 u q → Tg m3 u q := fun u q h => TgR_cg (T := u + 1) (f32 _ _ (by omega)) (fun i => f32 _ _ (by omega)) (fun i => f32 _ _ (by omega)) (fun t _ => ⟨f32 _ _ (by omega), f32 _ _ (by omega), fun k _ => f32 _ _ (by omega)⟩) _ u q (by omega) h
          have nx3 : ∀ {x : Int} {u : List Int}, nX m2 x u → nX m3 x u := fun {x u} h => nX_cg (f32 _ _ (by omega)) (fun i => f32 _ _ (by omega)) (fun i => f32 _ _ (by omega)) h
          have w3 : WkR W rs m3 T1 (S ++ [sbA β (w, ps)]) := by
            obtain ⟨q1, q2, q3, q4, q5, q6, q7⟩ := w2
            have hlen1 : (S ++ [sbA β (w, ps)]).length = S.length + 1 := by rw [List.length_append, List.length_singleton]
            refine ⟨RV_cg2 (fun c j z => f32 c j (by omega)) q1, TtI_cg (f32 _ _ (by omega)) (fun t _ => f32 _ _ (by omega)) (fun t _ => f32 _ _ (by omega)) (fun i _ _ => f32 _ _ (by omega)) (fun i => by rw [f32 _ _ (by omega)]; exact q2.2.2.1 i) (fun i _ => f32 _ _ (by omega)) q2, TtU_cg q2 (fun t _ => f32 _ _ (by omega)) (fun t _ => f32 _ _ (by omega)) (fun i _ _ => f32 _ _ (by omega)) q3, TtL_cg q2 (f32 _ _ (by omega)) (fun i => f32 _ _ (by omega)) (fun t _ => f32 _ _ (by omega)) (fun t _ => f32 _ _ (by omega)) (fun i _ _ => f32 _ _ (by omega)) (fun t _ => f32 _ _ (by omega)) q4, by rw [hlen1]; exact n1, fun i hi => ?_, fun i => by rw [f32 _ _ (by omega)]; exact q7 i⟩
            rw [hlen1] at hi
            by_cases e : i = S.length
            · rw [e, gA_r, n2.1]
              refine ⟨nx3 hx2, by show (ps.map (sbC β)).length = _; rw [hWm], fun k hk' => ?_⟩
              have hk' : k < (ps.map (sbC β)).length := hk'
              obtain ⟨u, u1, u2, u3⟩ := hrow k hk'
              refine ⟨u, ?_, u2, tg3 u _ u3⟩
              have z := n2.2
              rw [sl_len] at z
              rw [(sl_eq.mp z).2 k (by omega), ← u1]
              congr 1
              omega
            · rw [gA_l (by omega), n3 i (by omega)]
              obtain ⟨b1, b2, b3⟩ := q6 i (by omega)
              refine ⟨nx3 b1, b2, fun k hk' => ?_⟩
              obtain ⟨u, u1, u2, u3⟩ := b3 k hk'
              have hw4 := (q5.2.2.1 i (by omega)).2.1
              exact ⟨u, by rw [n4 _ (by omega)]; exact u1, u2, tg3 u _ u3⟩
          refine hN m3 T1 ho (fun p hp => ?_) hno' hF' t1 t2 w3 ?_ (fun u q hu h => tg3 u q (tg2 u q hu (tg1 u q hu h))) (fun c i z => by rw [f32 c i (by omega)]; exact f20 c i z)
          · obtain ⟨p', hp1, hp2⟩ := List.mem_map.mp (show p ∈ ps.map (sbC β) from hp)
            rw [← hp2]
            exact hlen p' hp1
          · rw [n5]
            refine bP_0 ?_
            rintro (y | ⟨k, k1, k2⟩)
            · omega
            · rw [hl152 k k1] at k2
              have := hlen _ (gpm k k1)
              omega
      · rintro y μ' ⟨m3, rfl, rfl | rfl, hq⟩
        · exact R227_124 H ⟨Or.inl rfl, hq⟩
        · exact R227_124 H ⟨Or.inr rfl, hq⟩
    | succ f ih =>
      intro j T1 m2 o4 hj t1 t2 t3 w2 f2 g56 tg2 row hlen
      have hjl : j < ps.length := by omega
      have e137 : m2 137 a = (ps.length : Int) := by rw [f2 _ _ (by omega)]; exact ha2
      have hN2 : AtN m2 a ps := AtN_cg (fun c j z => f2 c j (by omega)) hN1
      obtain ⟨n1, n2⟩ := hN2.2.2.2 j hjl
      have hb2 : VbO β m2 T1 V := VbO_cg t1 (fun v => f2 _ _ (by omega)) (fun u q hu h => tg2 u q hu h) hb1
      have hfl : (ps.take (j + 1)).flatten.length = (ps.take j).flatten.length + (ps.getD j []).length := by
        rw [take_p hjl, List.flatten_append, List.length_append]
        simp
      have hlj : (ps.take j).flatten.length ≤ 4000 := by
        have key : ∀ i, i ≤ ps.length → (ps.take i).flatten.length ≤ 1000 * i := by
          intro i
          induction i with
          | zero => intro _; exact Nat.le_refl _
          | succ i ihi =>
            intro hi
            have e : (ps.take (i + 1)).flatten.length = (ps.take i).flatten.length + (ps.getD i []).length := by
              rw [take_p (by omega), List.flatten_append, List.length_append]
              simp
            have := ihi (by omega)
            have hb := (ha4 i (by show i < ps.length; omega)).1
            have hb1' : 0 ≤ m1 136 (4 * a + (i : Int)) := hb.1
            have hb2' : m1 136 (4 * a + (i : Int)) + ((ps.getD i []).length : Int) ≤ 1000 := hb.2
            omega
        have := key j (by omega)
        omega
      refine R227_67 H ⟨ha1, ⟨by omega, by omega⟩, by rw [e137]; exact ⟨by omega, by omega⟩, fun z => by omega, fun _ => ⟨⟨by omega, by omega⟩, fun y μ' => ∃ (m3 : PM) (T3 : Nat), y = zI (m3 165 (m2 136 (4 * a + (j : Int)))) ∧ μ' = sA μ m3 l ∧ T1 ≤ T3 ∧ T3 ≤ T1 + (ps.getD j []).length ∧ (sbA β (w, ps) ∈ S → T3 = T1) ∧ WkR W rs m3 T3 S ∧ (∀ c i, ¬ (WMd T1 c i ∨ c = 165) → m3 c i = m2 c i) ∧ OkM β 1 m3 T3 (m2 136 (4 * a + (j : Int))) (ps.getD j []), noX, ?_, ?_, fun _ _ z => z.elim⟩⟩
      · refine c_made (d := d + 2) (β := β) (T := T1) H w2.2.1 w2.2.2.1 w2.2.2.2.1 w2.1.2.2.1 (RV_n w2.1).2.2.2.1 (by omega) (Or.inr rfl) w2.2.2.2.2.2.2 n2 ⟨by omega, by omega⟩ (BdM_of n2 (hvp j hjl) hb2) (fun m3 T3 y1 y2 _ y4 y5 y6 y7 y8 y9 y10 _ => ⟨m3, T3, rfl, rfl, y1, y2, fun hm => y7 ?_, WkR_md w2 y1 y4 y5 y6 (fun c i z => y8 c i (by omega)) y9, fun c i z => y8 c i (by omega), y10⟩)
        obtain ⟨i, hi, e⟩ := gA_ex hm
        obtain ⟨_, _, b3⟩ := w2.2.2.2.2.2.1 i hi
        rw [e] at b3
        obtain ⟨u, _, c2, c3⟩ := b3 j (by show j < (ps.map (sbC β)).length; rw [List.length_map]; omega)
        have c3 : Tg m2 u ((ps.map (sbC β)).getD j []) := c3
        rw [map_gD hjl] at c3
        exact ⟨u, c2, c3⟩
      · rintro y μ' ⟨m3, T3, rfl, rfl, y1, y2, y3, w3, f3, ok⟩
        obtain ⟨u, u1, u2, u3⟩ : ∃ u : Nat, m3 165 (m2 136 (4 * a + (j : Int))) = (u : Int) ∧ u < T3 ∧ Tg m3 u (sbC β (ps.getD j [])) := by
          rcases ok with z | z
          · exact z
          · exact absurd z.1 (by decide)
        rw [u1]
        refine R227_92 H ⟨⟨by omega, by omega⟩, ?_⟩
        rintro m4 e4
        have f4 : ∀ c i, ¬ (c = 168 ∧ i = (j : Int)) → m4 c i = m3 c i := fun c i z => by rw [e4]; exact up_o z
        have tg4 : ∀ (u : Nat) (q : List Cd), Tg m3 u q → Tg m4 u q := fun u q h => TgR_cg (T := u + 1) (f4 _ _ (by omega)) (fun i => f4 _ _ (by omega)) (fun i => f4 _ _ (by omega)) (fun t _ => ⟨f4 _ _ (by omega), f4 _ _ (by omega), fun k _ => f4 _ _ (by omega)⟩) _ u q (by omega) h
        refine ih (j + 1) T3 m4 _ (by omega) (by omega) (by omega) (fun hm => by rw [y3 hm]; exact t3 hm) (WkR_cg (fun c i z => f4 c i (by omega)) (fun i => by rw [f4 _ _ (by omega)]; exact w3.2.1.2.2.1 i) (fun i => by rw [f4 _ _ (by omega)]; exact w3.2.2.2.2.2.2 i) w3) (fun c i z => by rw [f4 c i (by omega), f3 c i (by omega)]; exact f2 c i z) (by rw [f4 _ _ (by omega), f3 _ _ (by omega)]; exact g56) (fun u q hu h => tg4 u q (Tg_fr f3 (by omega) (tg2 u q hu h))) (fun k hk' => ?_) hlen
        by_cases z : k = j
        · rw [z]
          exact ⟨u, by rw [e4, up_s], u2, tg4 u _ u3⟩
        · obtain ⟨u', v1, v2, v3⟩ := row k (by omega)
          exact ⟨u', by rw [f4 _ _ (by omega), f3 _ _ (by omega)]; exact v1, by omega, tg4 u' _ (Tg_fr f3 v2 v3)⟩
  /- the lengths -/
  have ln : ∀ (f j : Nat) (o4 : Option Value), j + f = ps.length → (∀ k, k < j → tlC (sbC β (ps.getD k [])) ≤ 48) → Wp (d + 5) 227 (19, [some (.ref 125), some (.int (zI (r : Int))), some (.int (zI a)), some (.int (zI (j : Int))), o4], [], sA μ m1 l) Q := by
    intro f
    induction f with
    | zero =>
      intro j o4 hj hd'
      refine R227_19 H ⟨ha1, ⟨by omega, by omega⟩, by rw [ha2]; exact ⟨by omega, by omega⟩, fun _ => ?_, fun z => by omega⟩
      refine mk ps.length 0 T m1 o4 (by omega) (Nat.le_refl _) (by omega) (fun _ => rfl) w1 (fun _ _ _ => rfl) e56 (fun _ _ _ h => h) (fun k hk' => absurd hk' (Nat.not_lt_zero k)) (fun p hp => ?_)
      obtain ⟨k, hk', e⟩ := mem_gD2 hp
      rw [← e]
      exact hd' k (by omega)
    | succ f ih =>
      intro j o4 hj hd'
      have hjl : j < ps.length := by omega
      obtain ⟨n1, n2⟩ := ha4 j hjl
      have n1 : 0 ≤ m1 136 (4 * a + (j : Int)) ∧ m1 136 (4 * a + (j : Int)) + ((ps.getD j []).length : Int) ≤ 1000 := n1
      have n2 : TmR 11 m1 (m1 136 (4 * a + (j : Int))) (ps.getD j []) := n2
      refine R227_19 H ⟨ha1, ⟨by omega, by omega⟩, by rw [ha2]; exact ⟨by omega, by omega⟩, fun z => by omega, fun _ => ⟨⟨by omega, by omega⟩, _, _, c_lenOf (β := β) H w1.1.2.1 h9 w1.2.1 w1.2.2.2.1 n2 ⟨by omega, by omega⟩ (BdM_of n2 (hvp j hjl) hb1), ?_, fun _ _ z => z.elim⟩⟩
      rintro y μ' ⟨rfl, rfl⟩
      refine R227_47 H ⟨hln _ (gpm j hjl), fun z => ?_, fun z => ?_⟩
      · refine ih (j + 1) _ (by omega) (fun k hk' => ?_)
        by_cases y : k = j
        · rw [y]; exact z
        · exact hd' k (by omega)
      · refine hL _ ho ⟨sbC β (ps.getD j []), List.mem_map.mpr ⟨_, gpm j hjl, rfl⟩, by omega⟩ (WkR_cg (fun c i z => up_o (by omega)) (fun i => by rw [up_c (by decide)]; exact w1.2.1.2.2.1 i) (fun i => by rw [up_c (by decide)]; exact w1.2.2.2.2.2.2 i) w1) (up_s _ _ _ _) (fun c i z => by rw [up_o (by omega)]; exact f1i c i z)
  exact ln ps.length 0 none (by omega) (fun k hk' => absurd hk' (Nat.not_lt_zero k))
end RFI
