/-! ===== the reference: expand, whole ===== -/
/-- what telling of a state writes -/
abbrev K1 (c : Nat) (i : Int) : Prop := WEv c i ∨ c = 173 ∨ c = 174
abbrev K2 (n : Nat) (c : Nat) (i : Int) : Prop := K1 c i ∨ (c = 177 ∧ i = (n : Int)) ∨ ((c = 180 ∨ c = 181) ∧ 2 * (n : Int) ≤ i ∧ i < 2 * (n : Int) + 2)
abbrev B1 (c : Nat) (i : Int) : Prop := SRr c i ∨ c = 170 ∨ (c = 125 ∧ i = 70) ∨ (c = 125 ∧ i = 71)
abbrev B2 (c : Nat) (i : Int) : Prop := SRr c i ∨ c = 170 ∨ c = 151 ∨ c = 165 ∨ (c = 125 ∧ i = 70) ∨ (c = 125 ∧ i = 71)
abbrev M1 (r : Nat) (c : Nat) (j : Int) : Prop := (c = 173 ∧ j = (r : Int)) ∨ (c = 174 ∧ 49049 * (r : Int) ≤ j ∧ j < 49049 * (r : Int) + 49049) ∨ c = 129 ∨ c = 130 ∨ (c = 125 ∧ j = 9)
theorem k1_e {c : Nat} {i : Int} (z : ¬ K1 c i) : ¬ WEv c i := fun y => z (Or.inl y)
theorem k1_m {T c : Nat} {i : Int} (z : ¬ K1 c i) : ¬ WGm T c i := by omega
theorem k2_1 {n c : Nat} {i : Int} (z : ¬ K2 n c i) : ¬ K1 c i := fun y => z (Or.inl y)
theorem k2_7 {n c : Nat} {i : Int} (z : ¬ K2 n c i) : ¬ (c = 177 ∧ i = (n : Int)) := fun y => z (Or.inr (Or.inl y))
theorem k2_8 {n c : Nat} {i : Int} {x : Nat} (hx : x < 2) (z : ¬ K2 n c i) : ¬ ((c = 180 ∨ c = 181) ∧ i = 2 * (n : Int) + (x : Int)) := fun y => z (Or.inr (Or.inr ⟨y.1, by omega⟩))
theorem k1_n {T c : Nat} {i : Int} (z : ¬ K1 c i) : ¬ WGn T c i := by omega
theorem k2_w {n c : Nat} {i : Int} (z : ¬ WXp c i) : ¬ K2 n c i := by omega
theorem k2_f {n c : Nat} {i : Int} (z : XFr n c i) : ¬ K2 n c i := by omega
theorem k1_b {c : Nat} {i : Int} (z : B1 c i) : ¬ K1 c i := by omega
theorem kn_b {T c : Nat} {i : Int} (z : B1 c i) : ¬ WGn T c i := by omega
theorem kk_b {c : Nat} {i : Int} (z : B2 c i) : ¬ (177 ≤ c ∧ c ≤ 181) := by omega
theorem kk_m {r c : Nat} {i : Int} (z : M1 r c i) : ¬ (177 ≤ c ∧ c ≤ 181) := by omega
theorem kn_m {T r c : Nat} {i : Int} (z : M1 r c i) : ¬ WGn T c i := by omega
theorem kk_k {T c : Nat} {i : Int} (z : WkC T c i) : ¬ (177 ≤ c ∧ c ≤ 181) := by omega
theorem kn_k {T c : Nat} {i : Int} (z : 177 ≤ c ∧ c ≤ 181) : ¬ WGn T c i := by omega
theorem kk_7 {c : Nat} {i k : Int} (z : ¬ (177 ≤ c ∧ c ≤ 181)) : ¬ (c = 177 ∧ i = k) ∧ ¬ (c = 178 ∧ i = k) ∧ ¬ ((c = 180 ∨ c = 181) ∧ i = k) := by omega
theorem k8_w {c : Nat} {i k : Int} (z : ¬ WXp c i) : ¬ (c = 178 ∧ i = k) := by omega
theorem k8_f {n c : Nat} {i : Int} (z : XFr n c i) : ¬ (c = 178 ∧ i = (n : Int)) := by omega
section REY
variable {d : Nat} {μ : am_Mem} {Q : Option Value ⊕ Nat → am_Mem → Prop} {W : Int → Nat} {rs : List Rul} {L : List (List Cd)}
theorem c_expand {n tot : Nat} {m0 l0 : PM} {sts : List (List (List Cd))} {nx : List (List Nat)} (H : RS μ) (hg : GoS rs) (hR : ∀ B, Evb rs B → ∀ r, r < L.length → tlC (L.getD r []) ≤ 48) (hB : BsR W rs L m0) (hXp : XpR rs L m0 sts nx) (hn : nx.length = n) (hns : n < sts.length) (ht : tot ≤ 30000000)
    (hok : ∀ (m' l' : PM) (sts' : List (List (List Cd))) (tot' : Nat) (ns : List Nat), okS rs L (sts.getD n []) tot → xJ rs L (sts.getD n []) (jmO rs L (sts.getD n [])) 0 sts (tot + wkO rs (baA 0 (sts.getD n []) L [])) [] = some (sts', tot', ns) → BsR W rs L m' → XpR rs L m' sts' (nx ++ [ns]) → tot' ≤ 30000000 → l' 125 57 = (tot' : Int) → (∀ c j, ¬ WXp c j → m' c j = m0 c j) → (∀ c j, ¬ (c = 125 ∧ j = 57) → l' c j = l0 c j) → Q (.inl (some (.int (zI 1)))) (sA μ m' l'))
    (hX : ∀ m' l' : PM, (okS rs L (sts.getD n []) tot → xJ rs L (sts.getD n []) (jmO rs L (sts.getD n [])) 0 sts (tot + wkO rs (baA 0 (sts.getD n []) L [])) [] = none) → BsR W rs L m' → (∀ c j, ¬ WXp c j → m' c j = m0 c j) → (∀ c j, ¬ (c = 125 ∧ j = 57) → l' c j = l0 c j) → Q (.inl (some (.int (zI 0)))) (sA μ m' l')) :
    Wp (d + 10) 257 (0, [some (.ref 125), some (.int (zI (n : Int))), some (.long (zL (tot : Int))), none, none, none, none, none, none], [], sA μ m0 l0) Q := by
  have h300 := hXp.1.2.1
  have hL4 := hB.2.2.2.2.2.1
  generalize hst : sts.getD n [] = st at hok hX
  have hS0 : StR m0 (n : Int) st := by rw [← hst]; exact hXp.2.1 n hns
  refine R257_0 H ⟨fun y μ' => Wp (d + 10) 257 (6, [some (.ref 125), some (.int (zI (n : Int))), some (.long (zL (tot : Int))), none, none, none, none, none, none], [.int y], μ') Q, noX, ?_, fun _ _ z => z, fun _ _ z => z.elim⟩
  refine c_evaluate (d := d) (Q := pI _ noX) (W := W) (rs := rs) (x1 := (n : Int)) (x2 := 0) (st := st) (L := L) (ch := []) H hg hB.1 hB.2.1 hB.2.2.1 hB.2.2.2.1 (Or.inr ⟨by omega, by omega, hS0⟩) hB.2.2.2.2 (Or.inl rfl) (fun m1 l1 T S hE hw1 h48' hT e56 e75 e57 f1 fl1 => ?_) (fun m1 l1 T S hno hw1 e75 f1 fl1 => ?_)
  · have hwk : wkO rs (baA 0 st L []) = smR S rs := Ev_wk hg hE
    have hwle := wkO_le (B := baA 0 st L []) hg
    have hcn : cnO rs (baA 0 st L []) (wdL.getD 9 []) = cntA S (wdL.getD 9 []) := Ev_cn hg hE _
    have hB1 : BsR W rs L m1 := BsR_of hB (hw1.2.1.2.2.1) hw1.2.2.2.2.2.2 (fun c i z => f1 c i (k1_e (k1_b z)))
    have hS1000 := hw1.2.2.2.2.1.2.1
    have hW6 : W 6 = 2 := by
      rw [hB1.2.1 6 _ (nX_wdR hw1.1 (j := 6) (by decide)), wdt_own hg (by decide)]
      decide
    have hW8 : W 8 = 2 := by
      rw [hB1.2.1 8 _ (nX_wdR hw1.1 (j := 8) (by decide)), wdt_own hg (by decide)]
      decide
    refine R257_6 H ⟨⟨by decide, by decide⟩, fun _ => ⟨fun μ' => Wp (d + 10) 257 (23, [some (.ref 125), some (.int (zI (n : Int))), some (.long (zL (tot : Int))), none, some (.long (zL ((tot : Int) + l1 125 57))), none, none, none, none], [], μ') Q, noX, ?_, fun _ z => z, fun _ _ z => z.elim⟩, fun z => absurd (by decide) z⟩
    rw [e57, show (tot : Int) + (smR S rs : Int) = ((tot + wkO rs (baA 0 st L []) : Nat) : Int) by rw [hwk]; omega]
    refine c_gatherMoves (d := d + 5) (Q := pV _ noX) (W := W) (rs := rs) (S := S) (T := T) (L := L) H hw1 hE.2.2.2.1 h48' hW6 hB1.2.2.2.2 (by omega) (fun m2 T2 mv t1 t2 hw2 hmv f2 => ?_)
    have hmvO : ∀ r, r < L.length → MvR m2 r (mvO rs L st r) := fun r hr => by
      obtain ⟨a1, a2, a3⟩ := hmv r hr
      have e : mv r = mvO rs L st r := lsO_eq a1 (fun t => (a2 t).trans (Ev_hld hg hE _).symm)
      rw [← e]
      exact a3
    have f2' : ∀ c i, ¬ K1 c i → m2 c i = m0 c i := fun c i z => (f2 c i (k1_m z)).trans (f1 c i (k1_e z))
    have hB2 : BsR W rs L m2 := BsR_of hB1 (hw2.2.1.2.2.1) hw2.2.2.2.2.2.2 (fun c i z => f2 c i (k1_m (k1_b z)))
    refine R257_23 H ⟨_, _, c_isOver (d := d + 9) (l := l1) H hw2, fun y μ' hp => ?_, fun _ _ z => z.elim⟩
    obtain ⟨rfl, rfl⟩ := hp
    have eov : bP (0 < cntA S (wdL.getD 9 [])) = bP (ovO rs L st) := by
      show bP (0 < cntA S (wdL.getD 9 [])) = bP (0 < cnO rs (baA 0 st L []) (wdL.getD 9 []))
      rw [hcn]
    rw [eov]
    have hb01 : bP (ovO rs L st) = 0 ∨ bP (ovO rs L st) = 1 := by
      by_cases q : ovO rs L st
      · exact Or.inr (bP_1 q)
      · exact Or.inl (bP_0 q)
    refine R257_32 H ⟨⟨by omega, by omega⟩, hb01, ?_⟩
    rintro m3 e3
    have f3 : ∀ c i, ¬ (c = 177 ∧ i = (n : Int)) → m3 c i = m2 c i := fun c i z => by rw [e3]; exact up_o z
    have info : ∀ (f x : Nat) (m : PM) (T' : Nat), x + f = 2 → T' ≤ 80000 + 1000 * x → WkR W rs m T' S → BsR W rs L m → (∀ r, r < L.length → MvR m r (mvO rs L st r)) → m 177 (n : Int) = bP (ovO rs L st) → (∀ r : Nat, r < x → m 180 (2 * (n : Int) + (r : Int)) = glX rs L st r ∧ m 181 (2 * (n : Int) + (r : Int)) = (mnX rs L st r : Int) ∧ mnX rs L st r ≤ 1000) → (∀ c i, ¬ K2 n c i → m c i = m0 c i) → Wp (d + 10) 257 (36, [some (.ref 125), some (.int (zI (n : Int))), some (.long (zL (tot : Int))), none, some (.long (zL ((tot + wkO rs (baA 0 st L []) : Nat) : Int))), none, some (.int (zI (x : Int))), none, none], [], sA μ m l1) Q := by
      intro f
      induction f with
      | zero =>
        intro x m T' hx ht' hw hBm hmvm h177 hI fr
        have ex : x = 2 := by omega
        subst ex
        have hL := hBm.2.2.2.2
        have hE' : Evb rs (baA 0 st L []) := ⟨S, hE⟩
        have frX : ∀ c i, ¬ WXp c i → m c i = m0 c i := fun c i z => fr c i (k2_w z)
        have hXm : XpR rs L m sts nx := XpR_cg (fun c i z => fr c i (by rw [hn] at z; exact k2_f z)) hXp
        have key : ∀ (m4 : PM) (y6 : Int), m4 = up m 178 (n : Int) (jmO rs L st : Int) → tot + wkO rs (baA 0 st L []) ≤ 30000000 → jmO rs L st ≤ 40 → Wp (d + 10) 257 (160, [some (.ref 125), some (.int (zI (n : Int))), some (.long (zL (tot : Int))), none, some (.long (zL ((tot + wkO rs (baA 0 st L []) : Nat) : Int))), none, some (.long (zL y6)), none, some (.int (zI 0))], [], sA μ m4 l1) Q := by
          intro m4 y6 e4 hle h40
          have f4 : ∀ c i, ¬ (c = 178 ∧ i = (n : Int)) → m4 c i = m c i := fun c i z => by rw [e4]; exact up_o z
          have hS : okS rs L st tot := ⟨hE', hle, h40⟩
          have go := ex_loop (d := d) (Q := Q) (W := W) (rs := rs) (L := L) (n := n) (st := st) (y2 := (tot : Int)) (m0 := m0) (l0 := l0) (nx := nx) (res := xJ rs L st (jmO rs L st) 0 sts (tot + wkO rs (baA 0 st L [])) []) H hg (hR _ hE') hn h40 (fun m' l' sts' tot' ns hr => hok m' l' sts' tot' ns hS hr) (fun m' l' hr => hX m' l' (fun _ => hr)) (jmO rs L st) 0 m4 l1 sts (tot + wkO rs (baA 0 st L [])) [] y6 (by omega) rfl (BsR_cg hBm (fun c i z => f4 c i (kk_7 (kk_b z)).2.1)) (XpR_cg (fun c i z => f4 c i (by rw [hn] at z; exact k8_f z)) hXm) hns hst ⟨by rw [f4 _ _ (fun y => absurd y.1 (by decide))]; exact h177, fun r hr => ⟨by rw [f4 _ _ (fun y => absurd y.1 (by decide))]; exact (hI r hr).1, by rw [f4 _ _ (fun y => absurd y.1 (by decide))]; exact (hI r hr).2.1, (hI r hr).2.2⟩⟩ (by rw [e4, up_s]) (fun j hj => absurd hj (Nat.not_lt_zero j)) (fun x hx => absurd hx List.not_mem_nil) (fun r hr => MvR_cg (by omega) (fun c i z => f4 c i (kk_7 (kk_m z)).2.1) (hmvm r hr)) hle rfl (fun c i z => (f4 c i (k8_w z)).trans (frX c i z)) fl1
          exact go
        refine R257_36 H ⟨⟨by decide, by decide⟩, fun _ => ⟨⟨by omega, by omega⟩, by rw [h177]; rcases hb01 with y | y <;> rw [y] <;> exact ⟨by decide, by decide⟩, fun z => ?_, fun z => ?_⟩, fun z => absurd (by decide) z⟩
        · /- no end -/
          have hov : ¬ ovO rs L st := fun y => by
            rw [h177, bP_1 y] at z
            exact absurd z (by decide)
          have ejm : jmO rs L st = jmN L.length (mvO rs L st) := if_neg hov
          have hjle := jmN_le (mv := mvO rs L st) hL4 (fun r hr => (hmvm r hr).2.1)
          refine ⟨_, _, c_jointMoves (d := d + 9) (l := l1) (n := L.length) (mv := mvO rs L st) H hL.1 hL4 (fun r hr => ⟨(hmvm r hr).1, (hmvm r hr).2.1⟩), fun y μ' hp => ?_, fun _ _ z => z.elim⟩
          obtain ⟨rfl, rfl⟩ := hp
          rw [← ejm]
          refine R257_126 H ⟨⟨by omega, by omega⟩, fun y => ?_, fun y => ⟨⟨by omega, by omega⟩, fun q => ⟨⟨by omega, by omega⟩, fun m4 e4 => key m4 _ e4 (by omega) (by omega)⟩, fun q => ?_⟩⟩
          · refine hX m l1 (fun w => ?_) hBm frX fl1
            have := w.2.2
            omega
          · refine hX m l1 (fun w => ?_) hBm frX fl1
            have := w.2.1
            omega
        · have hov : ovO rs L st := Classical.byContradiction fun y => z (by rw [h177, bP_0 y])
          have ejm : jmO rs L st = 0 := if_pos hov
          refine ⟨fun y => absurd y (by decide), fun _ => ⟨⟨by omega, by omega⟩, fun q m4 e4 => key m4 _ (by rw [ejm]; exact e4) (by omega) (by omega), fun q => ?_⟩⟩
          refine hX m l1 (fun w => ?_) hBm frX fl1
          have := w.2.1
          omega
      | succ f ih =>
        intro x m T' hx ht' hw hBm hmvm h177 hI fr
        have hL := hBm.2.2.2.2
        have go : ∀ (m5 : PM) (T5 : Nat) (m6 : PM), T5 ≤ 80000 + 1000 * (x + 1) → WkR W rs m5 T5 S → (∀ c i, ¬ WGn T' c i → m5 c i = m c i) → m6 = up (up m5 180 (2 * (n : Int) + (x : Int)) (glX rs L st x)) 181 (2 * (n : Int) + (x : Int)) (mnX rs L st x : Int) → Wp (d + 10) 257 (36, [some (.ref 125), some (.int (zI (n : Int))), some (.long (zL (tot : Int))), none, some (.long (zL ((tot + wkO rs (baA 0 st L []) : Nat) : Int))), none, some (.int (zI ((x : Int) + 1))), none, none], [], sA μ m6 l1) Q := by
          intro m5 T5 m6 ht5 hw5 f5 e6
          have f6 : ∀ c i, ¬ ((c = 180 ∨ c = 181) ∧ i = 2 * (n : Int) + (x : Int)) → m6 c i = m5 c i := fun c i z => by rw [e6, up_o (fun y => z ⟨Or.inr y.1, y.2⟩), up_o (fun y => z ⟨Or.inl y.1, y.2⟩)]
          have f6' : ∀ c i, ¬ (c = 180 ∨ c = 181) → m6 c i = m5 c i := fun c i z => f6 c i (fun y => z y.1)
          have hB5 : BsR W rs L m5 := BsR_of hBm (hw5.2.1.2.2.1) hw5.2.2.2.2.2.2 (fun c i z => f5 c i (kn_b z))
          have z := ih (x + 1) m6 T5 (by omega) ht5 (WkR_cg (fun c i z => f6 c i (kk_7 (kk_k z)).2.2) (fun j => by rw [f6' _ _ (by decide)]; exact hB5.2.2.1 j) (fun j => by rw [f6' _ _ (by decide)]; exact hB5.2.2.2.1 j) hw5) (BsR_cg hB5 (fun c i z => f6 c i (kk_7 (kk_b z)).2.2)) (fun r hr => MvR_cg (by omega) (fun c i z => (f6 c i (kk_7 (kk_m z)).2.2).trans (f5 c i (kn_m z))) (hmvm r hr)) (by rw [f6' _ _ (by decide), f5 _ _ (kn_k (by decide))]; exact h177) (fun r hr => ?_) (fun c i z => (f6 c i (k2_8 (by omega) z)).trans ((f5 c i (k1_n (k2_1 z))).trans (fr c i z)))
          · rw [show ((x + 1 : Nat) : Int) = (x : Int) + 1 by omega] at z
            exact z
          · by_cases q : r = x
            · rw [q, e6, up_c (by decide), up_s, up_s]
              refine ⟨rfl, rfl, ?_⟩
              by_cases hlt : x < L.length
              · have e2 : mnX rs L st x = (mvO rs L st x).length := if_pos hlt
                rw [e2]
                exact (hmvm x hlt).2.1
              · have e2 : mnX rs L st x = 0 := if_neg hlt
                omega
            · rw [f6 _ _ (fun y => q (by omega)), f6 _ _ (fun y => q (by omega)), f5 _ _ (kn_k (by decide)), f5 _ _ (kn_k (by decide))]
              exact hI r (by omega)
        refine R257_36 H ⟨⟨by omega, by omega⟩, fun z => by omega, fun _ => ⟨by rw [hL.1]; exact ⟨by omega, by omega⟩, fun z => ?_, fun z => ?_⟩⟩
        · /- there is no such role -/
          have hno : ¬ x < L.length := by rw [hL.1] at z; omega
          refine ⟨⟨by omega, by omega⟩, ⟨fun _ => trivial, fun y => absurd z y⟩, ?_⟩
          rintro m5 e5 v3 ev m6 e6
          rw [if_pos z] at ev
          refine go m T' m6 (by omega) hw (fun _ _ _ => rfl) ?_
          have e1 : glX rs L st x = -1 := if_neg hno
          have e2 : mnX rs L st x = 0 := if_neg hno
          rw [e6, e5, ev, e1, e2]
          rfl
        · have hlt : x < L.length := by rw [hL.1] at z; omega
          refine ⟨fun y μ' => Wp (d + 10) 257 (67, [some (.ref 125), some (.int (zI (n : Int))), some (.long (zL (tot : Int))), none, some (.long (zL ((tot + wkO rs (baA 0 st L []) : Nat) : Int))), none, some (.int (zI (x : Int))), none, none], [.int y, .int (zI (2 * (n : Int) + (x : Int))), .ref 180], μ') Q, noX, ?_, fun _ _ z => z, fun _ _ z => z.elim⟩
          refine c_goalNow (d := d + 5) (Q := pI _ noX) (W := W) (rs := rs) (S := S) (L := L) (r := x) H hw hW8 hL hlt (by omega) (fun m5 T5 v t3 t4 hw5 hv f5 => ?_)
          have ev : v = glO rs L st x := glO_eq (GlI_cg (fun t => (Ev_hld hg hE _).symm) hv)
          have e70 : m5 125 70 = (L.length : Int) := by rw [f5 _ _ (kn_b (Or.inr (Or.inr (Or.inl ⟨rfl, rfl⟩))))]; exact hL.1
          have e173 : m5 173 (x : Int) = ((mvO rs L st x).length : Int) := by rw [f5 _ _ (kn_m (r := x) (Or.inl ⟨rfl, rfl⟩))]; exact (hmvm x hlt).1
          refine R257_67 H ⟨⟨by omega, by omega⟩, ⟨by omega, by omega⟩, by rw [e70]; exact ⟨by omega, by omega⟩, ⟨fun _ => trivial, fun _ => ⟨⟨by omega, by omega⟩, trivial⟩⟩, ?_⟩
          rintro m6 e6 v2 ev2
          rw [if_neg (by rw [e70]; omega), e173] at ev2
          have hl1000 := (hL.2.2.2 x hlt).2.2.2
          refine ⟨⟨by omega, by omega⟩, fun m7 e7 => go m5 T5 m7 (by omega) hw5 f5 ?_⟩
          have e1 : glX rs L st x = glO rs L st x := if_pos hlt
          have e2 : mnX rs L st x = (mvO rs L st x).length := if_pos hlt
          rw [e7, e6, ev2, e1, e2, ev]
    exact info 2 0 m3 T2 (by omega) (by omega) (WkR_cg (fun c i z => f3 c i (kk_7 (kk_k z)).1) (fun j => by rw [f3 _ _ (fun y => absurd y.1 (by decide))]; exact hB2.2.2.1 j) (fun j => by rw [f3 _ _ (fun y => absurd y.1 (by decide))]; exact hB2.2.2.2.1 j) hw2) (BsR_cg hB2 (fun c i z => f3 c i (kk_7 (kk_b z)).1)) (fun r hr => MvR_cg (by omega) (fun c i z => f3 c i (kk_7 (kk_m z)).1) (hmvO r hr)) (by rw [e3, up_s]) (fun r hr => absurd hr (Nat.not_lt_zero r)) (fun c i z => (f3 c i (k2_7 z)).trans (f2' c i (k2_1 z)))
  · refine R257_6 H ⟨⟨by decide, by decide⟩, fun z => absurd rfl z, fun _ => ?_⟩
    exact hX m1 l1 (fun z => absurd z.1 hno) (BsR_of hB (hw1.2.1.2.2.1) hw1.2.2.2.2.2.2 (fun c i z => f1 c i (k1_e (k1_b z)))) (fun c i z => f1 c i (k1_e (k2_1 (n := 0) (k2_w z)))) fl1
end REY
