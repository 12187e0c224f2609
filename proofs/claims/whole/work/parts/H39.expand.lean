/-! ===== the reference: expand ===== -/
/-- what exploring writes -/
abbrev WXp (c : Nat) (j : Int) : Prop := (148 ≤ c ∧ c ≤ 169) ∨ (c = 171 ∧ ¬ (882000 ≤ j ∧ j < 884940)) ∨ (c = 172 ∧ ¬ j = 300) ∨ (173 ≤ c ∧ c ≤ 181) ∨ (c = 125 ∧ (j = 42 ∨ j = 48 ∨ j = 56 ∨ j = 58 ∨ j = 68 ∨ j = 69 ∨ j = 75 ∨ j = 80 ∨ j = 83))
theorem XpR_done {rs : List Rul} {L : List (List Cd)} {m : PM} {sts : List (List (List Cd))} {nx : List (List Nat)} {ns : List Nat} (h : XpR rs L m sts nx) (hn : nx.length < sts.length) (hI : InR rs L m nx.length (sts.getD nx.length [])) (h8 : m 178 (nx.length : Int) = (ns.length : Int)) (h40 : ns.length ≤ 40) (hj : ns.length = jmO rs L (sts.getD nx.length [])) (hN : NxR m nx.length ns) (hb : ∀ x, x ∈ ns → x < sts.length) : XpR rs L m sts (nx ++ [ns]) := by
  obtain ⟨⟨a1, a2, a3⟩, h2, h3⟩ := h
  have hlen : (nx ++ [ns]).length = nx.length + 1 := by simp
  refine ⟨⟨a1, a2, by omega⟩, h2, fun i hi => ?_⟩
  by_cases q : i = nx.length
  · rw [q, gD_snX]
    exact ⟨hI, ⟨h8, h40, hj⟩, hN, hb⟩
  · rw [gD_app (by omega)]
    exact h3 i (by omega)
/-- what one joint move writes -/
abbrev J1 (c : Nat) (i : Int) : Prop := WEv c i ∨ c = 175
abbrev J2 (c : Nat) (i : Int) : Prop := WEv c i ∨ c = 175 ∨ WGa 301 c i
abbrev Jn (n : Nat) (c : Nat) (i : Int) : Prop := (c = 125 ∧ i = 83) ∨ (c = 172 ∧ i = (n : Int)) ∨ (c = 171 ∧ 2940 * (n : Int) ≤ i ∧ i < 2940 * (n : Int) + 2940)
abbrev J3 (n : Nat) (c : Nat) (i : Int) : Prop := J2 c i ∨ (n < 300 ∧ Jn n c i)
theorem j1_e {c : Nat} {i : Int} (z : ¬ J1 c i) : ¬ WEv c i := fun y => z (Or.inl y)
theorem j1_c {c : Nat} {i : Int} (z : ¬ J1 c i) : ¬ c = 175 := fun y => z (Or.inr y)
theorem j2_1 {c : Nat} {i : Int} (z : ¬ J2 c i) : ¬ J1 c i := fun y => z (y.elim Or.inl (fun y => Or.inr (Or.inl y)))
theorem j2_g {c : Nat} {i : Int} (z : ¬ J2 c i) : ¬ WGa 301 c i := fun y => z (Or.inr (Or.inr y))
theorem j3_2 {n c : Nat} {i : Int} (z : ¬ J3 n c i) : ¬ J2 c i := fun y => z (Or.inl y)
theorem j3_n {n c : Nat} {i : Int} (hn : n < 300) (z : ¬ J3 n c i) : ¬ Jn n c i := fun y => z (Or.inr ⟨hn, y⟩)
theorem j3_w {n c : Nat} {i : Int} (z : ¬ WXp c i) : ¬ J3 n c i := by omega
theorem j1_w {c : Nat} {i : Int} (z : ¬ WXp c i) : ¬ J1 c i := by omega
theorem j2_w {c : Nat} {i : Int} (z : ¬ WXp c i) : ¬ J2 c i := by omega
theorem j1_b {c : Nat} {i : Int} (z : SRr c i ∨ c = 170 ∨ (c = 125 ∧ i = 70) ∨ (c = 125 ∧ i = 71)) : ¬ J1 c i := by omega
theorem j2_f {n c : Nat} {i : Int} (z : XFr n c i) : ¬ J2 c i := by omega
theorem jg_b {c : Nat} {i : Int} (z : SRr c i ∨ c = 170 ∨ c = 151 ∨ c = 165 ∨ (c = 125 ∧ i = 70) ∨ (c = 125 ∧ i = 71)) : ¬ WGa 301 c i := by omega
theorem jn_b {n c : Nat} {i : Int} (z : SRr c i ∨ c = 170 ∨ c = 151 ∨ c = 165 ∨ (c = 125 ∧ i = 70) ∨ (c = 125 ∧ i = 71)) : ¬ Jn n c i := by omega
theorem j9_b {c : Nat} {i : Int} (z : SRr c i ∨ c = 170 ∨ c = 151 ∨ c = 165 ∨ (c = 125 ∧ i = 70) ∨ (c = 125 ∧ i = 71)) : ¬ c = 179 := by omega
theorem j5_b {c : Nat} {i : Int} (z : SRr c i ∨ c = 170 ∨ c = 151 ∨ c = 165 ∨ (c = 125 ∧ i = 70) ∨ (c = 125 ∧ i = 71)) : ¬ c = 175 := by omega
theorem j9_w {c : Nat} {i : Int} (z : ¬ WXp c i) : ¬ c = 179 := by omega
theorem j3_k {n c : Nat} {i : Int} (z : 177 ≤ c ∧ c ≤ 181) : ¬ J3 n c i := by omega
theorem j3_m {n c : Nat} {i : Int} (z : c = 173 ∨ c = 174 ∨ c = 129 ∨ c = 130 ∨ (c = 125 ∧ i = 9)) : ¬ J3 n c i := by omega
theorem jm_r {r c : Nat} {j : Int} (z : (c = 173 ∧ j = (r : Int)) ∨ (c = 174 ∧ 49049 * (r : Int) ≤ j ∧ j < 49049 * (r : Int) + 49049) ∨ c = 129 ∨ c = 130 ∨ (c = 125 ∧ j = 9)) : c = 173 ∨ c = 174 ∨ c = 129 ∨ c = 130 ∨ (c = 125 ∧ j = 9) := by omega
theorem jm_5 {c : Nat} {j : Int} (z : c = 173 ∨ c = 174 ∨ c = 129 ∨ c = 130 ∨ (c = 125 ∧ j = 9)) : ¬ c = 175 ∧ ¬ c = 179 := by omega
theorem js_5 {n : Int} {c : Nat} {j : Int} (z : (c = 172 ∧ j = n) ∨ (c = 171 ∧ 2940 * n ≤ j ∧ j < 2940 * n + 2940) ∨ c = 129 ∨ c = 130 ∨ (c = 125 ∧ j = 9)) : ¬ c = 175 := by omega
theorem jx_9 {n c : Nat} {j : Int} {k : Int} (hk : 40 * (n : Int) ≤ k) (z : XFr n c j) : ¬ (c = 179 ∧ j = k) := by omega
section REX
variable {d : Nat} {μ : am_Mem} {Q : Option Value ⊕ Nat → am_Mem → Prop} {W : Int → Nat} {rs : List Rul} {L : List (List Cd)}
theorem nX_wdR {m : PM} (hv : RV m rs) {j : Nat} (hj : j < 10) : nX m (j : Int) (wdL.getD j []) := nX_word hv.2.2.1 hj
theorem ex_loop {n : Nat} {st : List (List Cd)} {y2 : Int} {m0 l0 : PM} {nx : List (List Nat)} {res : Option (List (List (List Cd)) × Nat × List Nat)} (H : RS μ) (hg : GoS rs) (h48 : ∀ r, r < L.length → tlC (L.getD r []) ≤ 48) (hn : nx.length = n) (h40 : jmO rs L st ≤ 40)
    (hok : ∀ (m' l' : PM) (sts' : List (List (List Cd))) (tot' : Nat) (ns : List Nat), res = some (sts', tot', ns) → BsR W rs L m' → XpR rs L m' sts' (nx ++ [ns]) → tot' ≤ 30000000 → l' 125 57 = (tot' : Int) → (∀ c j, ¬ WXp c j → m' c j = m0 c j) → (∀ c j, ¬ (c = 125 ∧ j = 57) → l' c j = l0 c j) → Q (.inl (some (.int (zI 1)))) (sA μ m' l'))
    (hX : ∀ m' l' : PM, res = none → BsR W rs L m' → (∀ c j, ¬ WXp c j → m' c j = m0 c j) → (∀ c j, ¬ (c = 125 ∧ j = 57) → l' c j = l0 c j) → Q (.inl (some (.int (zI 0)))) (sA μ m' l')) :
    ∀ (k j : Nat) (m l : PM) (sts : List (List (List Cd))) (tot : Nat) (ns : List Nat) (y6 : Int), j + k = jmO rs L st → ns.length = j → BsR W rs L m → XpR rs L m sts nx → n < sts.length → sts.getD n [] = st → InR rs L m n st → m 178 (n : Int) = (jmO rs L st : Int) → NxR m n ns → (∀ x, x ∈ ns → x < sts.length) → (∀ r, r < L.length → MvR m r (mvO rs L st r)) → tot ≤ 30000000 → xJ rs L st k j sts tot ns = res → (∀ c j, ¬ WXp c j → m c j = m0 c j) → (∀ c j, ¬ (c = 125 ∧ j = 57) → l c j = l0 c j) →
      Wp (d + 10) 257 (160, [some (.ref 125), some (.int (zI (n : Int))), some (.long (zL y2)), none, some (.long (zL (tot : Int))), none, some (.long (zL y6)), none, some (.int (zI (j : Int)))], [], sA μ m l) Q := by
  intro k
  induction k with
  | zero =>
    intro j m l sts tot ns y6 hj hl hB hXp hns hst hI h178 hN hb hmv ht hres fr frl
    have h300 := hXp.1.2.1
    refine R257_160 H ⟨⟨by omega, by omega⟩, ⟨by omega, by omega⟩, by rw [h178]; exact ⟨by omega, by omega⟩, fun _ => ?_, fun z => absurd (by omega) z⟩
    refine hok m _ sts tot ns hres.symm hB ?_ ht (up_s _ _ _ _) fr (fun c j z => by rw [up_o z]; exact frl c j z)
    subst hn
    exact XpR_done hXp hns (by rw [hst]; exact hI) (by rw [h178]; omega) (by omega) (by rw [hst]; omega) hN hb
  | succ k ih =>
    intro j m l sts tot ns y6 hj hl hB hXp hns hst hI h178 hN hb hmv ht hres fr frl
    have h300 := hXp.1.2.1
    have hL := hB.2.2.2.2
    have hL4 := hL.2.1
    have hov : ¬ ovO rs L st := fun z => by
      have e : jmO rs L st = 0 := if_pos z
      omega
    have ejm : jmO rs L st = jmN L.length (mvO rs L st) := if_neg hov
    have hpos := jmN_pos (mv := mvO rs L st) (n := L.length) (by omega)
    refine R257_160 H ⟨⟨by omega, by omega⟩, ⟨by omega, by omega⟩, by rw [h178]; exact ⟨by omega, by omega⟩, fun z => by omega, fun _ => ?_⟩
    refine ⟨_, _, c_choose (d := d + 9) (l := l) (n := L.length) (j := j) (mv := mvO rs L st) H hL.1 hL4 (fun r hr => ⟨(hmv r hr).1, (hmv r hr).2.1, hpos r hr⟩) (by omega), fun μ' hp => ?_, fun _ _ z => z.elim⟩
    obtain ⟨m1, rfl, c1, f1⟩ := hp
    have f1' : ∀ c i, ¬ c = 175 → m1 c i = m c i := fun c i z => f1 c i (fun y => z y.1)
    have hB1 : BsR W rs L m1 := BsR_cg hB (fun c i z => f1' c i (j5_b z))
    have hmv1 : ∀ r, r < L.length → MvR m1 r (mvO rs L st r) := fun r hr => MvR_cg (by omega) (fun c i z => f1' c i (jm_5 (jm_r z)).1) (hmv r hr)
    have hS1 : StR m1 (n : Int) st := by
      have := hXp.2.1 n hns
      rw [hst] at this
      exact StR_cg (fun c i z => f1' c i (js_5 z)) this
    have hch : ChR m1 L (chO rs L st j) := fun r hr => by
      obtain ⟨q1, q2, q3⟩ := hmv1 r hr
      have hlt := chI_lt hpos j r hr
      rw [c1 r hr, chO_g hr]
      obtain ⟨p1, p2, p3⟩ := q3 _ hlt
      exact ⟨⟨by omega, by omega⟩, p1, p2, p3, h48 r hr⟩
    refine R257_178 H ⟨fun y μ' => Wp (d + 10) 257 (184, [some (.ref 125), some (.int (zI (n : Int))), some (.long (zL y2)), none, some (.long (zL (tot : Int))), none, some (.long (zL y6)), none, some (.int (zI (j : Int)))], [.int y], μ') Q, noX, ?_, fun _ _ z => z, fun _ _ z => z.elim⟩
    refine c_evaluate (d := d) (Q := pI _ noX) (W := W) (rs := rs) (x1 := (n : Int)) (x2 := 1) (st := st) (L := L) (ch := chO rs L st j) H hg hB1.1 hB1.2.1 hB1.2.2.1 hB1.2.2.2.1 (Or.inr ⟨by omega, by omega, hS1⟩) hB1.2.2.2.2 (Or.inr ⟨rfl, hch⟩) (fun m2 l2 T S hE hw2 h48' hT e56 e75 e57 f2 fl2 => ?_) (fun m2 l2 T S hno hw2 e75 f2 fl2 => ?_)
    · /- it is not too great -/
      have f2' : ∀ c i, ¬ J1 c i → m2 c i = m c i := fun c i z => (f2 c i (j1_e z)).trans (f1' c i (j1_c z))
      have hB2 : BsR W rs L m2 := BsR_of hB (hw2.2.1.2.2.1) hw2.2.2.2.2.2.2 (fun c i z => f2' c i (j1_b z))
      have hx7 : nX m2 7 (wdL.getD 7 []) := nX_wdR hw2.1 (by decide)
      have hW7 : W 7 = 1 := by
        rw [hB2.2.1 7 _ hx7, wdt_own hg (by decide)]
        decide
      refine R257_184 H ⟨⟨by decide, by decide⟩, fun z => absurd z (by decide), fun _ => ⟨fun y μ' => Wp (d + 10) 257 (196, [some (.ref 125), some (.int (zI (n : Int))), some (.long (zL y2)), none, some (.long (zL (tot : Int))), none, some (.long (zL y6)), none, some (.int (zI (j : Int)))], [.int y], μ') Q, noX, ?_, fun _ _ z => z, fun _ _ z => z.elim⟩⟩
      have hcn : cnO rs (baA 1 st L (chO rs L st j)) (wdL.getD 7 []) = cntA S (wdL.getD 7 []) := Ev_cn hg hE _
      have hwk : wkO rs (baA 1 st L (chO rs L st j)) = smR S rs := Ev_wk hg hE
      have hwle := wkO_le (B := baA 1 st L (chO rs L st j)) hg
      refine c_gather (d := d + 7) (Q := pI _ noX) (W := W) (rs := rs) (S := S) (x := 7) (i := 301) (w := wdL.getD 7 []) H hw2 hE.2.2.2.1 h48' hx7 hW7 ⟨by decide, by decide⟩ (fun m3 s hsr hsl hs60 hsm hs3 f3 => ?_) (fun m3 hgt f3 => ?_)
      · have es : s = nsO rs L st (chO rs L st j) := lsO_eq hsr (fun t => (hsm t).trans (Ev_hld hg hE _).symm)
        have f3' : ∀ c i, ¬ J2 c i → m3 c i = m c i := fun c i z => (f3 c i (j2_g z)).trans (f2' c i (j2_1 z))
        have hB3 : BsR W rs L m3 := BsR_cg hB2 (fun c i z => f3 c i (jg_b z))
        have hX3 : XpR rs L m3 sts nx := XpR_cg (fun c i z => f3' c i (j2_f z)) hXp
        refine R257_196 H ⟨⟨by decide, by decide⟩, fun _ => ⟨fun y μ' => Wp (d + 10) 257 (225, [some (.ref 125), some (.int (zI (n : Int))), some (.long (zL y2)), none, some (.long (zL ((tot : Int) + (l2 125 57)))), none, some (.long (zL y6)), none, some (.int (zI (j : Int)))], [.int y, .int (zI (40 * (n : Int) + (j : Int))), .ref 179], μ') Q, noX, ?_, fun _ _ z => z, fun _ _ z => z.elim⟩, fun z => absurd (by decide) z⟩
        rw [e57, show (tot : Int) + (smR S rs : Int) = ((tot + wkO rs (baA 1 st L (chO rs L st j)) : Nat) : Int) by rw [hwk]; omega]
        have fin : ∀ m4 : PM, (s ∈ sts ∨ sts.length < 300) → XpR rs L m4 (adS sts s) nx → (∀ c i, ¬ J3 sts.length c i → m4 c i = m c i) → BsR W rs L m4 → Wp (d + 10) 257 (225, [some (.ref 125), some (.int (zI (n : Int))), some (.long (zL y2)), none, some (.long (zL ((tot + wkO rs (baA 1 st L (chO rs L st j)) : Nat) : Int))), none, some (.long (zL y6)), none, some (.int (zI (j : Int)))], [.int (zI (ixS s sts : Int)), .int (zI (40 * (n : Int) + (j : Int))), .ref 179], sA μ m4 l2) Q := by
          intro m4 hmem hX4 f4 hB4
          have had := adS_len (sts := sts) (s := s)
          have h300' := hX4.1.2.1
          refine R257_225 H ⟨⟨by omega, by omega⟩, ⟨by omega, by omega⟩, by rw [up_s]; exact ⟨by omega, by omega⟩, fun z => by rw [up_s] at z; omega, fun _ => ?_⟩
          rintro m5 e5
          have f5 : ∀ c i, ¬ (c = 179 ∧ i = 40 * (n : Int) + (j : Int)) → m5 c i = m4 c i := fun c i z => by rw [e5]; exact up_o z
          have f5' : ∀ c i, ¬ c = 179 → m5 c i = m4 c i := fun c i z => f5 c i (fun y => z y.1)
          have fr5 : ∀ c i, ¬ WXp c i → m5 c i = m0 c i := fun c i z => ((f5' c i (j9_w z)).trans (f4 c i (j3_w z))).trans (fr c i z)
          have frl2 : ∀ c i, ¬ (c = 125 ∧ i = 57) → l2 c i = l0 c i := fun c i z => by rw [fl2 c i z]; exact frl c i z
          have hB5 : BsR W rs L m5 := BsR_cg hB4 (fun c i z => f5' c i (j9_b z))
          refine ⟨⟨by omega, by omega⟩, fun hle => ?_, fun hle => ?_⟩
          · have hJ : okJ rs L st j sts tot := ⟨⟨⟨S, hE⟩, by rw [hcn]; omega⟩, by omega, by rw [← es]; exact hmem⟩
            have hr2 : xJ rs L st k (j + 1) (adS sts s) (tot + wkO rs (baA 1 st L (chO rs L st j))) (ns ++ [ixS s sts]) = res := by
              rw [← hres, es]
              exact (if_pos hJ).symm
            have e1 : (ns ++ [ixS s sts]).length = j + 1 := by simp; exact hl
            have eg : (adS sts s).getD n [] = st := by
              unfold adS
              split
              · exact hst
              · rw [gD_app hns]
                exact hst
            have go := ih (j + 1) m5 l2 (adS sts s) _ (ns ++ [ixS s sts]) y6 (by omega) e1 hB5 (XpR_cg (fun c i z => f5 c i (jx_9 (by omega) z)) hX4) (by omega) eg ?_ ?_ ?_ ?_ (fun r hr => MvR_cg (by omega) (fun c i z => (f5' c i (jm_5 (jm_r z)).2).trans (f4 c i (j3_m (jm_r z)))) (hmv r hr)) (by omega) hr2 fr5 frl2
            · rw [show ((j + 1 : Nat) : Int) = (j : Int) + 1 by omega] at go
              exact go
            · refine ⟨by rw [f5' _ _ (by decide), f4 _ _ (j3_k (by decide))]; exact hI.1, fun r hr => ?_⟩
              obtain ⟨p1, p2, p3⟩ := hI.2 r hr
              exact ⟨by rw [f5' _ _ (by decide), f4 _ _ (j3_k (by decide))]; exact p1, by rw [f5' _ _ (by decide), f4 _ _ (j3_k (by decide))]; exact p2, p3⟩
            · rw [f5' _ _ (by decide), f4 _ _ (j3_k (by decide))]
              exact h178
            · intro i hi
              by_cases q : i = j
              · rw [q, e5, up_s]
                have : (ns ++ [ixS s sts]).getD j 0 = ixS s sts := by rw [← hl]; exact gD_snX
                rw [this]
              · rw [f5 _ _ (fun y => q (by omega)), f4 _ _ (j3_k (by decide)), gD_app (by omega)]
                exact hN i (by omega)
            · intro x hx
              rcases List.mem_append.mp hx with y | y
              · have := hb x y
                omega
              · rw [List.mem_singleton.mp y]
                exact had.2
          · refine hX m5 l2 ?_ hB5 fr5 frl2
            rw [← hres]
            refine if_neg (fun z => hle ?_)
            have := z.2.1
            omega
        refine c_number (d := d + 8) (Q := pI _ noX) (sts := sts) (s := s) H hX3.1.1 h300 hX3.2.1 hs3 (fun hin => ?_) (fun hno he => ?_) (fun m4 hno hlt h83 hs4 f4 => ?_)
        · refine fin m3 (Or.inl hin) ?_ (fun c i z => f3' c i (j3_2 z)) hB3
          unfold adS
          rw [if_pos hin]
          exact hX3
        · refine R257_225 H ⟨⟨by omega, by omega⟩, ⟨by omega, by omega⟩, by rw [up_s]; exact ⟨by decide, by decide⟩, fun _ => ?_, fun z => by rw [up_s] at z; exact absurd (by decide) z⟩
          rintro m5 e5
          have f5 : ∀ c i, ¬ (c = 179 ∧ i = 40 * (n : Int) + (j : Int)) → m5 c i = m3 c i := fun c i z => by rw [e5]; exact up_o z
          refine hX m5 l2 ?_ (BsR_cg hB3 (fun c i z => f5 c i (fun y => j9_b z y.1))) (fun c i z => ((f5 c i (fun y => j9_w z y.1)).trans (f3' c i (j2_w z))).trans (fr c i z)) (fun c i z => by rw [fl2 c i z]; exact frl c i z)
          rw [← hres]
          refine if_neg (fun z => ?_)
          rcases z.2.2 with y | y
          · rw [← es] at y
            exact hno y
          · omega
        · have ixe := ixS_no hno
          have := fin m4 (Or.inr hlt) ?_ (fun c i z => (f4 c i (j3_n hlt z)).trans (f3' c i (j3_2 z))) (BsR_cg hB3 (fun c i z => f4 c i (jn_b z)))
          · rw [ixe] at this
            exact this
          · unfold adS
            rw [if_neg hno]
            exact XpR_add hX3 hlt h83 hs4 f4
      · refine R257_196 H ⟨⟨by decide, by decide⟩, fun z => absurd rfl z, fun _ => ?_⟩
        refine hX m3 l2 ?_ (BsR_cg hB2 (fun c i z => f3 c i (jg_b z))) (fun c i z => (f3 c i (j2_g (j2_w z))).trans ((f2' c i (j1_w z)).trans (fr c i z))) (fun c i z => by rw [fl2 c i z]; exact frl c i z)
        rw [← hres]
        refine if_neg (fun z => ?_)
        have := z.1.2
        omega
    · refine R257_184 H ⟨⟨by decide, by decide⟩, fun _ => ?_, fun z => absurd rfl z⟩
      have f2' : ∀ c i, ¬ J1 c i → m2 c i = m c i := fun c i z => (f2 c i (j1_e z)).trans (f1' c i (j1_c z))
      refine hX m2 l2 ?_ (BsR_of hB (hw2.2.1.2.2.1) hw2.2.2.2.2.2.2 (fun c i z => f2' c i (j1_b z))) (fun c i z => (f2' c i (j1_w z)).trans (fr c i z)) (fun c i z => by rw [fl2 c i z]; exact frl c i z)
      rw [← hres]
      exact if_neg (fun z => hno z.1.1)
end REX
