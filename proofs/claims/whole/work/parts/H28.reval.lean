/-! ===== the reference: evaluate ===== -/
/-- a state in the reference's rows -/
def StR (m : PM) (i : Int) (st : List (List Cd)) : Prop := m 172 i = (st.length : Int) ∧ st.length ≤ 60 ∧ st.Nodup ∧ ∀ k : Nat, k < st.length → TxR m 171 (2940 * i + 49 * (k : Int)) (st.getD k []) ∧ GdT m (st.getD k []) ∧ tlC (st.getD k []) ≤ 48
/-- the roles -/
def RlR (m : PM) (L : List (List Cd)) : Prop := m 125 70 = (L.length : Int) ∧ L.length ≤ 4 ∧ L.Nodup ∧ ∀ r : Nat, r < L.length → RlX m r (L.getD r []) ∧ GdT m (L.getD r []) ∧ (tx (L.getD r [])).length ≤ 2999 ∧ (L.getD r []).length ≤ 1000
/-- the moves that are chosen -/
def ChR (m : PM) (L ch : List (List Cd)) : Prop := ∀ r : Nat, r < L.length → (0 ≤ m 175 r ∧ m 175 r ≤ 1000) ∧ TxR m 174 (49049 * (r : Int) + 49 * m 175 r) (ch.getD r []) ∧ GdT m (ch.getD r []) ∧ tlC (ch.getD r []) ≤ 48 ∧ tlC (L.getD r []) ≤ 48
/-- what is given: the state, the moves -/
def baS (st : List (List Cd)) : List Atm := st.map fun t => (wdL.getD 4 [], [t])
def baM (L ch : List (List Cd)) (n : Nat) : List Atm := (List.range n).map fun r => (wdL.getD 5 [], [L.getD r [], ch.getD r []])
def baA (x2 : Int) (st L ch : List (List Cd)) : List Atm := baS st ++ (if x2 = 0 then [] else baM L ch L.length)
theorem baS_t {st : List (List Cd)} {i : Nat} (h : i < st.length) : baS (st.take (i + 1)) = baS (st.take i) ++ [(wdL.getD 4 [], [st.getD i []])] := by
  unfold baS
  rw [take_p h, List.map_append]
  rfl
theorem baM_s (L ch : List (List Cd)) (n : Nat) : baM L ch (n + 1) = baM L ch n ++ [(wdL.getD 5 [], [L.getD n [], ch.getD n []])] := by
  unfold baM
  rw [List.range_succ, List.map_append]
  rfl
theorem baS_l (st : List (List Cd)) : (baS st).length = st.length := List.length_map _
theorem baM_l (L ch : List (List Cd)) (n : Nat) : (baM L ch n).length = n := by unfold baM; rw [List.length_map, List.length_range]
theorem gD_inj {L : List (List Cd)} (h : L.Nodup) {i j : Nat} (hi : i < L.length) (hj : j < L.length) (e : L.getD i [] = L.getD j []) : i = j := by
  rw [List.getD_eq_getElem?_getD, List.getD_eq_getElem?_getD, List.getElem?_eq_getElem hi, List.getElem?_eq_getElem hj] at e
  have e : L[i] = L[j] := e
  have hp := List.pairwise_iff_getElem.mp h
  by_cases a : i < j
  · exact absurd e (hp i j hi hj a)
  · by_cases b : j < i
    · exact absurd e.symm (hp j i hj hi b)
    · omega
theorem baS_no {st : List (List Cd)} (h : st.Nodup) {i : Nat} (hi : i < st.length) : ¬ ((wdL.getD 4 [], [st.getD i []]) : Atm) ∈ baS (st.take i) := by
  intro z
  obtain ⟨t, t1, t2⟩ := List.mem_map.mp z
  have e : t = st.getD i [] := (List.cons.inj (congrArg Prod.snd t2)).1
  obtain ⟨j, hj, ej⟩ := mem_gD2 t1
  rw [List.length_take] at hj
  rw [List.getD_eq_getElem?_getD, List.getElem?_take_of_lt (by omega), ← List.getD_eq_getElem?_getD] at ej
  have := gD_inj h (by omega) hi (ej.trans e)
  omega
theorem baS_1 {st : List (List Cd)} {a : Atm} (h : a ∈ baS st) : a.1 = wdL.getD 4 [] := by
  obtain ⟨t, _, t2⟩ := List.mem_map.mp h
  rw [← t2]
theorem baM_no {st L ch : List (List Cd)} (h : L.Nodup) {n : Nat} (hn : n < L.length) : ¬ ((wdL.getD 5 [], [L.getD n [], ch.getD n []]) : Atm) ∈ baS st ++ baM L ch n := by
  intro z
  rcases List.mem_append.mp z with z | z
  · have := baS_1 z
    exact absurd (show wdL.getD 5 [] = wdL.getD 4 [] from this) (by decide)
  · obtain ⟨r, r1, r2⟩ := List.mem_map.mp z
    have e : L.getD r [] = L.getD n [] := (List.cons.inj (congrArg Prod.snd r2)).1
    have hr := List.mem_range.mp r1
    have := gD_inj h (by omega) hn e
    omega
/-- what evaluate writes -/
abbrev WEv (c : Nat) (j : Int) : Prop := (148 ≤ c ∧ c ≤ 169) ∨ c = 176 ∨ (c = 125 ∧ (j = 42 ∨ j = 48 ∨ j = 56 ∨ j = 58 ∨ j = 68 ∨ j = 69 ∨ j = 75 ∨ j = 80))
section REV
variable {d : Nat} {μ : am_Mem} {l0 : PM} {T : Nat} {W : Int → Nat} {rs : List Rul} {S : List Atm} {Q : Option Value ⊕ Nat → am_Mem → Prop}
theorem WkR_tb {m : PM} (h : WkR W rs m T S) : TbR m T := ⟨h.2.1, h.2.2.1, h.2.2.2.1, h.1.2.1, h.1.2.2.1, h.1.2.2.2.1.1⟩
theorem WkR_up {m m' : PM} {T' : Nat} (h : WkR W rs m T S) (hT : T ≤ T') (b : TbR m' T') (fr : ∀ c i, ¬ (WMd T c i ∨ (166 ≤ c ∧ c ≤ 168) ∨ c = 176 ∨ (c = 125 ∧ (i = 56 ∨ i = 75 ∨ i = 80))) → m' c i = m c i) : WkR W rs m' T' S := by
  obtain ⟨h1, h2, h3, h4, h5, h6, h7⟩ := h
  refine ⟨RV_cg2 (fun c j z => fr c j (by omega)) h1, b.1, b.2.1, b.2.2.1, HdI_cg (fr _ _ (by omega)) (fr _ _ (by omega)) (fun c j y1 y2 => fr c j (by omega)) h5, fun i hi => ?_, fun i => by rw [fr _ _ (by omega)]; exact h7 i⟩
  obtain ⟨a1, a2, a3⟩ := h6 i hi
  rw [fr 154 _ (by omega)]
  refine ⟨nX_cg (fr _ _ (by omega)) (fun i => fr _ _ (by omega)) (fun i => fr _ _ (by omega)) a1, a2, fun q hq => ?_⟩
  obtain ⟨u, b1, b2, b3⟩ := a3 q hq
  refine ⟨u, by rw [fr _ _ (by omega)]; exact b1, by omega, ?_⟩
  exact TgR_cg (T := T) (fr _ _ (by omega)) (fun i => fr _ _ (by omega)) (fun i => fr _ _ (by omega)) (fun t ht => ⟨fr _ _ (by omega), fr _ _ (by omega), fun i _ => fr _ _ (by omega)⟩) _ u _ b2 b3
theorem GdT_48 {m : PM} {cs : List Cd} (h : GdT m cs) (h48 : tlC cs ≤ 48) : (tx cs).length ≤ 48 ∧ cs.length ≤ 19 := by
  obtain ⟨⟨f, hf⟩, h2, h3, _⟩ := h
  have a := tl_tx f cs hf h2
  exact ⟨by omega, cd_19 hf h2 h3 h48⟩
/-- the reading of a text of 48 signs -/
theorem c_evaluate {m0 : PM} {x1 x2 : Int} {st L ch : List (List Cd)} (H : RS μ) (hg : GoS rs) (hv : RV m0 rs) (hW : ∀ x w, nX m0 x w → W x = wdt rs w) (r1 : ∀ j, iR (m0 151 j)) (r5 : ∀ j, iR (m0 165 j)) (hst : (x1 = -1 ∧ st = []) ∨ (0 ≤ x1 ∧ x1 < 302 ∧ StR m0 x1 st)) (hL : RlR m0 L) (hm : x2 = 0 ∨ (x2 = 1 ∧ ChR m0 L ch))
    (hok : ∀ (m' l' : PM) (T' : Nat) (S : List Atm), EvG rs (baA x2 st L ch) S → WkR W rs m' T' S → (∀ a, a ∈ S → ∀ p, p ∈ a.2 → tlC p ≤ 48 ∧ NeC p) → T' ≤ 76 * S.length → m' 125 56 = 0 → m' 125 75 = 0 → l' 125 57 = (smR S rs : Int) → (∀ c j, ¬ WEv c j → m' c j = m0 c j) → (∀ c j, ¬ (c = 125 ∧ j = 57) → l' c j = l0 c j) → Q (.inl (some (.int (zI 1)))) (sA μ m' l'))
    (hX : ∀ (m' l' : PM) (T' : Nat) (S : List Atm), (¬ ∃ S', EvG rs (baA x2 st L ch) S') → WkR W rs m' T' S → m' 125 75 = 0 → (∀ c j, ¬ WEv c j → m' c j = m0 c j) → (∀ c j, ¬ (c = 125 ∧ j = 57) → l' c j = l0 c j) → Q (.inl (some (.int (zI 0)))) (sA μ m' l')) :
    Wp (d + 9) 212 (0, [some (.ref 125), some (.int (zI x1)), some (.int (zI x2)), none, none, none, none], [], sA μ m0 l0) Q := by
  have hn0 := RV_n hv
  have n60 : st.length ≤ 60 := by
    rcases hst with ⟨_, e⟩ | ⟨_, _, h⟩
    · rw [e]; exact Nat.zero_le _
    · exact h.2.1
  have hx2 : iR x2 := by
    rcases hm with e | e
    · rw [e]; exact ⟨by decide, by decide⟩
    · rw [e.1]; exact ⟨by decide, by decide⟩
  have hL4 := hL.2.1
  have own4 : wdt rs (wdL.getD 4 []) = 1 := by rw [wdt_own hg (show 0 ≤ ownC (wdL.getD 4 []) by decide)]; decide
  have own5 : wdt rs (wdL.getD 5 []) = 2 := by rw [wdt_own hg (show 0 ≤ ownC (wdL.getD 5 []) by decide)]; decide
  have nxW : ∀ {m : PM}, (∀ c j, ¬ WEv c j → m c j = m0 c j) → ∀ j : Nat, j < 10 → nX m (j : Int) (wdL.getD j []) := fun {m} fr j hj => by
    refine nX_cg (m := m0) (fr _ _ (by omega)) (fun i => fr _ _ (by omega)) (fun i => fr _ _ (by omega)) ⟨by omega, by have := hv.2.2.1.2.1; omega, ?_⟩
    rw [show (((j : Nat) : Int)).toNat = j from rfl]
    exact hv.2.2.1.2.2 j hj
  have gdt : ∀ {m : PM}, (∀ c j, ¬ WEv c j → m c j = m0 c j) → ∀ {cs : List Cd}, GdT m0 cs → GdT m cs := fun {m} fr {cs} h => GdT_cg (fr _ _ (by omega)) (fun i => fr _ _ (by omega)) (fun i => fr _ _ (by omega)) h
  /- the rest: working out -/
  have last : ∀ (m : PM) (T : Nat) (o4 o5 o6 : Option Value) (o3 : Int), WkR W rs m T (baA x2 st L ch) → T ≤ 76 * (baA x2 st L ch).length → m 125 56 = 0 → m 125 75 = 0 → (∀ c j, ¬ WEv c j → m c j = m0 c j) → (baA x2 st L ch).Nodup → (∀ a, a ∈ baA x2 st L ch → ∀ p, p ∈ a.2 → tlC p ≤ 48 ∧ NeC p) → ∀ x4 : Int, Wp (d + 9) 212 (172, [some (.ref 125), some (.int (zI x1)), some (.int (zI x2)), some (.int (zI o3)), some (.int (zI x4)), o5, o6], [], sA μ m l0) Q := by
    intro m T o4 o5 o6 o3 hw hT h56 h75 fr hnd hB x4
    refine R212_172 H ⟨fun μ' => Wp (d + 9) 212 (176, [some (.ref 125), some (.int (zI x1)), some (.int (zI x2)), some (.int (zI o3)), some (.int (zI x4)), o5, o6], [], μ') Q, noX, ?_, fun _ z => z, fun _ _ z => z.elim⟩
    refine c_workOut (d := d) (Q := pV _ noX) (C0 := 0) H hg hw (fun x w h => hW x w (nX_cg (fr _ _ (by omega)).symm (fun i => (fr _ _ (by omega)).symm) (fun i => (fr _ _ (by omega)).symm) h)) hnd hB (by omega) (by decide) h56 (fun m' l' T' S y1 y2 y3 y4 y5 y6 y7 y8 => ?_) (fun m' l' T' S y1 y2 y3 y7 y8 => ?_)
    · refine R212_176 H ⟨by rw [y5]; exact ⟨by decide, by decide⟩, ?_⟩
      rintro v1 e1
      rw [y5, if_neg (fun z => z rfl)] at e1
      rw [e1]
      exact hok m' l' T' S y1 y2 y3 (by omega) y5 (by rw [y7 _ _ (by omega)]; exact h75) y6 (fun c j z => by rw [y7 c j (by omega)]; exact fr c j z) y8
    · refine R212_176 H ⟨by rw [y3]; exact ⟨by decide, by decide⟩, ?_⟩
      rintro v1 e1
      rw [y3, if_pos (by decide)] at e1
      rw [e1]
      exact hX m' l' T' S y1 y2 (by rw [y7 _ _ (by omega)]; exact h75) (fun c j z => by rw [y7 c j (by omega)]; exact fr c j z) y8
  /- the moves -/
  have moves : x2 = 1 → ChR m0 L ch → (∀ a, a ∈ baS st → ∀ p, p ∈ a.2 → tlC p ≤ 48 ∧ NeC p) → (baS st).Nodup → ∀ (f r : Nat) (m : PM) (T : Nat) (o5 o6 : Option Value) (o3 : Int), r + f = L.length → WkR W rs m T (baS st ++ baM L ch r) → T ≤ 76 * (baS st ++ baM L ch r).length → m 125 56 = 0 → m 125 75 = 0 → (∀ c j, ¬ WEv c j → m c j = m0 c j) → (baS st ++ baM L ch r).Nodup → (∀ a, a ∈ baS st ++ baM L ch r → ∀ p, p ∈ a.2 → tlC p ≤ 48 ∧ NeC p) → Wp (d + 9) 212 (91, [some (.ref 125), some (.int (zI x1)), some (.int (zI x2)), some (.int (zI o3)), some (.int (zI (r : Int))), o5, o6], [], sA μ m l0) Q := by
    intro e2 hch hBs hnds f
    have eB : baA x2 st L ch = baS st ++ baM L ch L.length := by unfold baA; rw [if_neg (by omega)]
    induction f with
    | zero =>
      intro r m T o5 o6 o3 hr hw hT h56 h75 fr hnd hB
      have er : r = L.length := by omega
      have e70 : m 125 70 = (L.length : Int) := by rw [fr _ _ (by omega)]; exact hL.1
      rw [er, ← eB] at hw hT hnd hB
      exact R212_91 H ⟨⟨by omega, by omega⟩, by rw [e70]; exact ⟨by omega, by omega⟩, fun _ => last m T none _ _ _ hw hT h56 h75 fr hnd hB _, fun z => by omega⟩
    | succ f ih =>
      intro r m T o5 o6 o3 hr hw hT h56 h75 fr hnd hB
      have hlt : r < L.length := by omega
      have e70 : m 125 70 = (L.length : Int) := by rw [fr _ _ (by omega)]; exact hL.1
      obtain ⟨l1, l2, l3, l4⟩ := hL.2.2.2 r hlt
      obtain ⟨c1, c2, c3, c4, c5⟩ := hch r hlt
      have hTl : (baS st ++ baM L ch r).length ≤ 64 := by rw [List.length_append, baS_l, baM_l]; omega
      have g1 := GdT_48 l2 c5
      have g2 := GdT_48 c3 c4
      refine R212_91 H ⟨⟨by omega, by omega⟩, by rw [e70]; exact ⟨by omega, by omega⟩, fun z => by omega, fun _ => ⟨hx2, fun z => by omega, fun _ => ⟨fun y μ' => Wp (d + 9) 212 (110, [some (.ref 125), some (.int (zI x1)), some (.int (zI x2)), some (.int (zI o3)), some (.int (zI (r : Int))), o5, o6], [.int y], μ') Q, noX, ?_, fun _ _ z => z, fun _ _ z => z.elim⟩⟩⟩
      refine c_roleTerm (d := d + 5) (Q := pI _ noX) (T := T) (cs := L.getD r []) H (WkR_tb hw) (by omega) (gdt fr l2) l3 (fun i hi => by rw [fr _ _ (by omega)]; exact l1 i hi) (by omega) (by omega) (fun m1 T1 u t1 t2 b1 u1 u2 f1 => ?_)
      have w1 : WkR W rs m1 T1 (baS st ++ baM L ch r) := WkR_up hw t1 b1 (fun c i z => f1 c i (by omega))
      have fr1 : ∀ c j, ¬ WEv c j → m1 c j = m0 c j := fun c j z => by rw [f1 c j (by omega)]; exact fr c j z
      have e175 : m1 175 (r : Int) = m0 175 (r : Int) := fr1 _ _ (by omega)
      have hT1 := w1.2.1.2.1
      have k2 := c_rowFromBytes (d := d + 8) (l := l0) (m := m1) (p := 49049 * (r : Int) + 49 * m1 175 (r : Int)) (cs := ch.getD r []) (Or.inr rfl) (rK_174 H) (by decide) H (gdt fr1 c3) g2.1 ⟨by omega, by omega⟩ (fun j hj => by rw [fr1 174 _ (by omega), e175]; exact c2 j hj)
      refine R212_110 H ⟨⟨by omega, by omega⟩, _, _, k2, fun μ' hp => ?_, fun _ _ z => z.elim⟩
      obtain ⟨m2, rfl, h80, hrw, f2⟩ := hp
      have fr2 : ∀ c j, ¬ WEv c j → m2 c j = m0 c j := fun c j z => by rw [f2 c j (by omega)]; exact fr1 c j z
      have b2 : TbR m2 T1 := TbR_cg (fun c j z => f2 c j (by omega)) (fun i => by rw [f2 _ _ (by omega)]; exact b1.1.2.2.1 i) b1
      have u22 : Tg m2 u (L.getD r []) := TgR_cg (T := T1) (f2 _ _ (by omega)) (fun i => f2 _ _ (by omega)) (fun i => f2 _ _ (by omega)) (fun t ht => ⟨f2 _ _ (by omega), f2 _ _ (by omega), fun i _ => f2 _ _ (by omega)⟩) _ u _ u1 u2
      have w2 : WkR W rs m2 T1 (baS st ++ baM L ch r) := WkR_up w1 (Nat.le_refl _) b2 (fun c i z => f2 c i (by omega))
      obtain ⟨⟨f', hf'⟩, q2, q3, q4⟩ := gdt fr2 c3
      refine R212_137 H ⟨fun y μ' => Wp (d + 9) 212 (141, [some (.ref 125), some (.int (zI x1)), some (.int (zI x2)), some (.int (zI o3)), some (.int (zI (r : Int))), some (.int (zI (u : Int))), o6], [.int y], μ') Q, noX, ?_, fun _ _ z => z, fun _ _ z => z.elim⟩
      refine c_readRow (d := d + 6) (Q := pI _ noX) (T := T1) (cs := ch.getD r []) H b2 hf' q2 q3 q4 h80 (by omega) hrw (by omega) (by omega) (fun m3 T3 v t3 t4 b3 v1 v2 f3 => ?_)
      have w3 : WkR W rs m3 T3 (baS st ++ baM L ch r) := WkR_up w2 t3 b3 (fun c i z => f3 c i (by omega))
      have fr3 : ∀ c j, ¬ WEv c j → m3 c j = m0 c j := fun c j z => by rw [f3 c j (by omega)]; exact fr2 c j z
      have u23 : Tg m3 u (L.getD r []) := Tg_w (fun c i z => f3 c i (by omega)) u1 u22
      refine R212_141 H ?_
      rintro m4 e4
      have f4 : ∀ c j, ¬ c = 168 → m4 c j = m3 c j := fun c j z => by rw [e4, up_c z, up_c z]
      have b4 : TbR m4 T3 := TbR_cg (fun c j z => f4 c j (by omega)) (fun i => by rw [f4 _ _ (by omega)]; exact b3.1.2.2.1 i) b3
      have w4 : WkR W rs m4 T3 (baS st ++ baM L ch r) := WkR_up w3 (Nat.le_refl _) b4 (fun c i z => f4 c i (by omega))
      have fr4 : ∀ c j, ¬ WEv c j → m4 c j = m0 c j := fun c j z => by rw [f4 c j (by omega)]; exact fr3 c j z
      have tg4 : ∀ (u : Nat) (q : List Cd), u < T3 → Tg m3 u q → Tg m4 u q := fun u q hu h => TgR_cg (T := T3) (f4 _ _ (by omega)) (fun i => f4 _ _ (by omega)) (fun i => f4 _ _ (by omega)) (fun t ht => ⟨f4 _ _ (by omega), f4 _ _ (by omega), fun i _ => f4 _ _ (by omega)⟩) _ u q hu h
      refine ⟨fun y μ' => Wp (d + 9) 212 (165, [some (.ref 125), some (.int (zI x1)), some (.int (zI x2)), some (.int (zI o3)), some (.int (zI (r : Int))), some (.int (zI (u : Int))), some (.int (zI (v : Int)))], [.int y], μ') Q, noX, ?_, fun _ _ z => z, fun _ _ z => z.elim⟩
      have e56 : m4 125 56 = 0 := by rw [f4 _ _ (by omega), f3 _ _ (by omega), f2 _ _ (by omega), f1 _ _ (by omega)]; exact h56
      have e75 : m4 125 75 = 0 := by rw [f4 _ _ (by omega), f3 _ _ (by omega), f2 _ _ (by omega), f1 _ _ (by omega)]; exact h75
      have n5 := nxW fr4 5 (by decide)
      have n50 : nX m0 5 (wdL.getD 5 []) := nxW (fun _ _ _ => rfl) 5 (by decide)
      refine c_holdS (d := d + 6) (Q := pI _ noX) (x := 5) (w := wdL.getD 5 []) (ps := [L.getD r [], ch.getD r []]) H w4 e56 n5 (by rw [hW 5 _ n50, own5]; rfl) (by show 2 ≤ 4; decide) (fun k hk => ?_) (fun p hp => ?_) (baM_no hL.2.2.1 hlt) (by omega) (fun m5 w5 g56 f5 => ?_)
      · have hk : k < 2 := hk
        by_cases k0 : k = 0
        · rw [k0]
          refine ⟨u, ?_, by omega, tg4 u _ (by omega) u23⟩
          rw [e4]
          show up (up m3 168 0 (u : Int)) 168 1 (v : Int) 168 0 = (u : Int)
          rw [up_i (by decide), up_s]
        · have k1 : k = 1 := by omega
          rw [k1]
          refine ⟨v, ?_, v1, tg4 v _ v1 v2⟩
          rw [e4]
          show up (up m3 168 0 (u : Int)) 168 1 (v : Int) 168 1 = (v : Int)
          rw [up_s]
      · rcases List.mem_cons.mp hp with e | hp
        · rw [e]; exact c5
        · rw [List.mem_singleton.mp hp]; exact c4
      · have fr5 : ∀ c j, ¬ WEv c j → m5 c j = m0 c j := fun c j z => by rw [f5 c j (by omega)]; exact fr4 c j z
        have g75 : m5 125 75 = 0 := by rw [f5 _ _ (by omega)]; exact e75
        have eM : baS st ++ baM L ch (r + 1) = (baS st ++ baM L ch r) ++ [(wdL.getD 5 [], [L.getD r [], ch.getD r []])] := by rw [baM_s, List.append_assoc]
        have go := ih (r + 1) m5 T3 (some (.int (zI (u : Int)))) (some (.int (zI (v : Int)))) o3 (by omega) (by rw [eM]; exact w5) (by rw [eM, List.length_append, List.length_singleton]; omega) g56 g75 fr5 (by
          rw [eM]
          refine List.nodup_append.mpr ⟨hnd, by simp, fun x hx y hy => ?_⟩
          rw [List.mem_singleton.mp hy]
          intro e
          rw [e] at hx
          exact baM_no hL.2.2.1 hlt hx) (fun a ha p hp => by
          rw [eM] at ha
          rcases List.mem_append.mp ha with ha | ha
          · exact hB a ha p hp
          · rw [List.mem_singleton.mp ha] at hp
            rcases List.mem_cons.mp hp with e | hp
            · rw [e]; exact ⟨c5, l2.2.2.1⟩
            · rw [List.mem_singleton.mp hp]; exact ⟨c4, c3.2.2.1⟩)
        rw [show ((r + 1 : Nat) : Int) = (r : Int) + 1 by omega] at go
        exact R212_165 H go
  /- the state -/
  have state : ∀ (f i : Nat) (m : PM) (T : Nat) (o5 : Option Value), i + f = st.length → WkR W rs m T (baS (st.take i)) → T ≤ 76 * i → m 125 56 = 0 → m 125 75 = 0 → (∀ c j, ¬ WEv c j → m c j = m0 c j) → (baS (st.take i)).Nodup → (∀ a, a ∈ baS (st.take i) → ∀ p, p ∈ a.2 → tlC p ≤ 48 ∧ NeC p) → Wp (d + 9) 212 (36, [some (.ref 125), some (.int (zI x1)), some (.int (zI x2)), some (.int (zI (st.length : Int))), some (.int (zI (i : Int))), o5, none], [], sA μ m l0) Q := by
    intro f
    induction f with
    | zero =>
      intro i m T o5 hi hw hT h56 h75 fr hnd hB
      have ei : i = st.length := by omega
      rw [ei, List.take_length] at hw hnd hB
      refine R212_36 H ⟨⟨by omega, by omega⟩, ⟨by omega, by omega⟩, fun _ => ?_, fun z => by omega⟩
      have e0 : baS st ++ baM L ch 0 = baS st := List.append_nil _
      rcases hm with e2 | ⟨e2, hch⟩
      · have eB : baA x2 st L ch = baS st := by unfold baA; rw [if_pos e2, List.append_nil]
        have e70 : m 125 70 = (L.length : Int) := by rw [fr _ _ (by omega)]; exact hL.1
        have go : ∀ x4 : Int, Wp (d + 9) 212 (172, [some (.ref 125), some (.int (zI x1)), some (.int (zI x2)), some (.int (zI (st.length : Int))), some (.int (zI x4)), o5, none], [], sA μ m l0) Q := last m T none _ _ _ (by rw [eB]; exact hw) (by rw [eB, baS_l]; omega) h56 h75 fr (by rw [eB]; exact hnd) (by rw [eB]; exact hB)
        exact R212_91 H ⟨⟨by decide, by decide⟩, by rw [e70]; exact ⟨by omega, by omega⟩, fun _ => go _, fun _ => ⟨hx2, fun _ => go _, fun z => absurd e2 z⟩⟩
      · exact moves e2 hch hB hnd L.length 0 m T _ _ _ (by omega) (by rw [e0]; exact hw) (by rw [e0, baS_l]; omega) h56 h75 fr (by rw [e0]; exact hnd) (by rw [e0]; exact hB)
    | succ f ih =>
      intro i m T o5 hi hw hT h56 h75 fr hnd hB
      have hlt : i < st.length := by omega
      have hl0 : st.length ≠ 0 := by omega
      obtain ⟨y1, y2, hs⟩ : 0 ≤ x1 ∧ x1 < 302 ∧ StR m0 x1 st := by
        rcases hst with ⟨_, e⟩ | h
        · rw [e] at hlt; exact absurd hlt (Nat.not_lt_zero _)
        · exact h
      obtain ⟨s1, s2, s3⟩ := hs.2.2.2 i hlt
      have g1 := GdT_48 s2 s3
      have k2 := c_rowFromBytes (d := d + 8) (l := l0) (m := m) (p := 2940 * x1 + 49 * (i : Int)) (cs := st.getD i []) (Or.inl rfl) (rK_171 H) (by decide) H (gdt fr s2) g1.1 ⟨by omega, by omega⟩ (fun j hj => by rw [fr 171 _ (by omega)]; exact s1 j hj)
      refine R212_36 H ⟨⟨by omega, by omega⟩, ⟨by omega, by omega⟩, fun z => by omega, fun _ => ⟨_, _, k2, fun μ' hp => ?_, fun _ _ z => z.elim⟩⟩
      obtain ⟨m2, rfl, h80, hrw, f2⟩ := hp
      have fr2 : ∀ c j, ¬ WEv c j → m2 c j = m0 c j := fun c j z => by rw [f2 c j (by omega)]; exact fr c j z
      have b2 : TbR m2 T := TbR_cg (fun c j z => f2 c j (by omega)) (fun i => by rw [f2 _ _ (by omega)]; exact (WkR_tb hw).1.2.2.1 i) (WkR_tb hw)
      have w2 : WkR W rs m2 T (baS (st.take i)) := WkR_up hw (Nat.le_refl _) b2 (fun c i z => f2 c i (by omega))
      obtain ⟨⟨f', hf'⟩, q2, q3, q4⟩ := gdt fr2 s2
      refine R212_61 H ⟨fun y μ' => Wp (d + 9) 212 (65, [some (.ref 125), some (.int (zI x1)), some (.int (zI x2)), some (.int (zI (st.length : Int))), some (.int (zI (i : Int))), o5, none], [.int y], μ') Q, noX, ?_, fun _ _ z => z, fun _ _ z => z.elim⟩
      refine c_readRow (d := d + 6) (Q := pI _ noX) (T := T) (cs := st.getD i []) H b2 hf' q2 q3 q4 h80 (by omega) hrw (by omega) (by omega) (fun m3 T3 v t3 t4 b3 v1 v2 f3 => ?_)
      have w3 : WkR W rs m3 T3 (baS (st.take i)) := WkR_up w2 t3 b3 (fun c i z => f3 c i (by omega))
      have fr3 : ∀ c j, ¬ WEv c j → m3 c j = m0 c j := fun c j z => by rw [f3 c j (by omega)]; exact fr2 c j z
      refine R212_65 H ?_
      rintro m4 e4
      have f4 : ∀ c j, ¬ c = 168 → m4 c j = m3 c j := fun c j z => by rw [e4, up_c z]
      have b4 : TbR m4 T3 := TbR_cg (fun c j z => f4 c j (by omega)) (fun i => by rw [f4 _ _ (by omega)]; exact b3.1.2.2.1 i) b3
      have w4 : WkR W rs m4 T3 (baS (st.take i)) := WkR_up w3 (Nat.le_refl _) b4 (fun c i z => f4 c i (by omega))
      have fr4 : ∀ c j, ¬ WEv c j → m4 c j = m0 c j := fun c j z => by rw [f4 c j (by omega)]; exact fr3 c j z
      have tg4 : ∀ (u : Nat) (q : List Cd), u < T3 → Tg m3 u q → Tg m4 u q := fun u q hu h => TgR_cg (T := T3) (f4 _ _ (by omega)) (fun i => f4 _ _ (by omega)) (fun i => f4 _ _ (by omega)) (fun t ht => ⟨f4 _ _ (by omega), f4 _ _ (by omega), fun i _ => f4 _ _ (by omega)⟩) _ u q hu h
      refine ⟨fun y μ' => Wp (d + 9) 212 (81, [some (.ref 125), some (.int (zI x1)), some (.int (zI x2)), some (.int (zI (st.length : Int))), some (.int (zI (i : Int))), some (.int (zI (v : Int))), none], [.int y], μ') Q, noX, ?_, fun _ _ z => z, fun _ _ z => z.elim⟩
      have e56 : m4 125 56 = 0 := by rw [f4 _ _ (by omega), f3 _ _ (by omega), f2 _ _ (by omega)]; exact h56
      have e75 : m4 125 75 = 0 := by rw [f4 _ _ (by omega), f3 _ _ (by omega), f2 _ _ (by omega)]; exact h75
      have n4 := nxW fr4 4 (by decide)
      have n40 : nX m0 4 (wdL.getD 4 []) := nxW (fun _ _ _ => rfl) 4 (by decide)
      have eS := baS_t (st := st) hlt
      refine c_holdS (d := d + 6) (Q := pI _ noX) (x := 4) (w := wdL.getD 4 []) (ps := [st.getD i []]) H w4 e56 n4 (by rw [hW 4 _ n40, own4]; rfl) (by show 1 ≤ 4; decide) (fun k hk => ?_) (fun p hp => ?_) (baS_no hs.2.2.1 hlt) (by rw [baS_l, List.length_take]; omega) (fun m5 w5 g56 f5 => ?_)
      · have hk : k < 1 := hk
        have k0 : k = 0 := by omega
        rw [k0]
        refine ⟨v, ?_, v1, tg4 v _ v1 v2⟩
        rw [e4]
        show up m3 168 0 (v : Int) 168 0 = (v : Int)
        rw [up_s]
      · rw [List.mem_singleton.mp hp]; exact s3
      · have fr5 : ∀ c j, ¬ WEv c j → m5 c j = m0 c j := fun c j z => by rw [f5 c j (by omega)]; exact fr4 c j z
        have g75 : m5 125 75 = 0 := by rw [f5 _ _ (by omega)]; exact e75
        have go := ih (i + 1) m5 T3 (some (.int (zI (v : Int)))) (by omega) (by rw [eS]; exact w5) (by omega) g56 g75 fr5 (by
          rw [eS]
          refine List.nodup_append.mpr ⟨hnd, by simp, fun x hx y hy => ?_⟩
          rw [List.mem_singleton.mp hy]
          intro e
          rw [e] at hx
          exact baS_no hs.2.2.1 hlt hx) (fun a ha p hp => by
          rw [eS] at ha
          rcases List.mem_append.mp ha with ha | ha
          · exact hB a ha p hp
          · rw [List.mem_singleton.mp ha] at hp
            rw [List.mem_singleton.mp hp]
            exact ⟨s3, s2.2.2.1⟩)
        rw [show ((i + 1 : Nat) : Int) = (i : Int) + 1 by omega] at go
        exact R212_81 H go
  /- the beginning -/
  refine R212_0 H ⟨_, _, c_noTerms (d := d + 8) H r1, fun μ' hp => ?_, fun _ _ z => z.elim⟩
  obtain ⟨m1, rfl, i1, i2, f1⟩ := hp
  have e19 : m1 125 9 = m0 125 9 := f1 _ _ (by omega)
  refine R212_4 H ⟨_, _, c_noAtoms (d := d + 8) (W := W) H (by rw [e19]; exact ⟨by omega, by omega⟩), fun μ' hp => ?_, fun _ _ z => z.elim⟩
  obtain ⟨m2, rfl, i3, f2⟩ := hp
  have e172 : m2 172 x1 = m0 172 x1 := by rw [f2 _ _ (by omega), f1 _ _ (by omega)]
  have hx1 : iR x1 := by
    rcases hst with ⟨e, _⟩ | ⟨e1, e2, _⟩
    · rw [e]; exact ⟨by decide, by decide⟩
    · exact ⟨by omega, by omega⟩
  refine R212_8 H ⟨hx1, ⟨fun z => ⟨?_, trivial⟩, fun _ => trivial⟩, ?_⟩
  · rcases hst with ⟨e, _⟩ | ⟨e1, e2, _⟩
    · omega
    · exact ⟨e1, e2⟩
  rintro m3 e3 v2 e4
  have ev : v2 = (st.length : Int) := by
    rcases hst with ⟨e, es⟩ | ⟨e1, e2, h⟩
    · rw [e4, if_neg (by omega), es]; rfl
    · rw [e4, if_pos e1, e172]; exact h.1
  rw [ev]
  have f3 : ∀ c j, ¬ (c = 125 ∧ (j = 56 ∨ j = 75)) → m3 c j = m2 c j := fun c j z => by rw [e3, up_o (by omega), up_o (by omega)]
  have fr3 : ∀ c j, ¬ WEv c j → m3 c j = m0 c j := fun c j z => by rw [f3 c j (by omega), f2 c j (by omega), f1 c j (by omega)]
  have i31 : TtI m3 0 := TtI_cg (T := 0) (by rw [f3 _ _ (by omega), f2 _ _ (by omega)]) (fun t ht => absurd ht (Nat.not_lt_zero t)) (fun t ht => absurd ht (Nat.not_lt_zero t)) (fun i h1 h2 => by omega) (fun i => by rw [f3 _ _ (by omega), f2 _ _ (by omega), f1 _ _ (by omega)]; exact r1 i) (fun i _ => by rw [f3 _ _ (by omega), f2 _ _ (by omega)]) i1
  have w3 : WkR W rs m3 0 (baS (st.take 0)) := ⟨RV_cg2 (fun c j z => fr3 c j (by omega)) hv, i31, fun t t' x ps ht => absurd ht (Nat.not_lt_zero t), fun t ht => absurd ht (Nat.not_lt_zero t), HdI_cg (by rw [f3 _ _ (by omega)]) (by rw [f3 _ _ (by omega)]) (fun c j y1 y2 => f3 c j (by omega)) i3, fun i hi => absurd hi (Nat.not_lt_zero i), fun i => by rw [f3 _ _ (by omega), f2 _ _ (by omega), f1 _ _ (by omega)]; exact r5 i⟩
  have go := state st.length 0 m3 0 none (by omega) w3 (Nat.zero_le _) (by rw [e3, up_i (by decide), up_s]) (by rw [e3, up_s]) fr3 List.nodup_nil (fun a ha => absurd ha List.not_mem_nil)
  exact go
end REV
